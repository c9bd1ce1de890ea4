/-- a small value in the machine's world -/
def mo_tr (ad : Nat → Nat) : Value → Value
  | .ref a => if a = 0 then .null else .ref (ad a)
  | v => v
def mo_tc : ClassFile.FieldType → Nat
  | .int => 0
  | .long => 1
  | .boolean => 3
  | .object _ => 2
  | .array _ => 2
  | _ => 9
/-- the kind of a class's field -/
def mo_ft (ci k : Nat) : Nat := match mo_cls[ci]? with
  | some q => match ClassFile.parseFieldDescriptor (q.2.1 k).2.2.1 with
    | some ty => mo_tc ty
    | none => 9
  | none => 9
def mo_fn (ci : Nat) : Nat := match mo_cls[ci]? with
  | some q => q.2.2
  | none => 0
def mo_fv (ad : Nat → Nat) (t r : Nat) (i : Int32) (l : Int64) : Value := match t with
  | 1 => .long l
  | 2 => mo_tr ad (.ref r)
  | _ => .int i
def mo_fs (ad : Nat → Nat) (ci : Nat) (R : Nat → Nat) (I : Nat → Int32) (L : Nat → Int64) : List Value := (List.range (mo_fn ci)).map (fun k => mo_fv ad (mo_ft ci k) (R k) (I k) (L k))
def mo_en (cA : Nat → ClassId) (ad : Nat → Nat) (q : Nat × Nat) (R : Nat → Nat) (I : Nat → Int32) (L : Nat → Int64) : va_E :=
  if q.1 = 100 then .inl (cA 0, q.2, .inl I)
  else if q.1 = 101 then .inl (cA 1, q.2, .inr (.inl L))
  else if q.1 = 102 then .inl (cA 2, q.2, .inl I)
  else if q.1 = 103 then .inl (cA 3, q.2, .inl I)
  else if q.1 = 104 then .inl (cA 4, q.2, .inr (.inr (.inr (.inr (fun j => if R j = 0 then none else some (ad (R j)))))))
  else .inr (q.1, mo_fs ad q.1 R I L)
def mo_w (cA : Nat → ClassId) (ad : Nat → Nat) (σ : mo_S) : va_W := (List.range (σ.1.length - 1)).map (fun j => (ad (j + 1), mo_en cA ad (mo_kd σ.1 (j + 1), mo_ln σ.1 (j + 1)) (σ.2.1 (j + 1)) (σ.2.2.1 (j + 1)) (σ.2.2.2.1 (j + 1))))
def mo_tys (cA : Nat → ClassId) : List (ClassId × ClassFile.FieldType) := [(cA 0, .int), (cA 1, .long), (cA 2, .byte), (cA 3, .boolean), (cA 4, .object "GateNames$Town")]
def mo_Rel (D : va_G) (cA : Nat → ClassId) (ad : Nat → Nat) (A : Nat → Prop) (k0 z0 : Nat) (σ : mo_S) (H : Heap) : Prop :=
  va_P D mo_cls (mo_w cA ad σ) H ∧ va_D A (mo_w cA ad σ) ∧ 1 ≤ k0 ∧ k0 ≤ σ.1.length ∧ z0 ≤ mo_sz σ.1 ∧ mo_kd σ.1 0 = 99
def mo_LR (ad : Nat → Nat) (ls : Array Slot) (ml : mo_L) : Prop := ls.size = ml.length ∧ lv_wf ls ∧ ∀ (i : Nat) (v : Value), ml[i]? = some (some v) → ls[i]? = some (.val (mo_tr ad v))
theorem mo_w_at {cA : Nat → ClassId} {ad : Nat → Nat} {σ : mo_S} {a : Nat} (h0 : a ≠ 0) (h : a < σ.1.length) : (mo_w cA ad σ)[a - 1]? = some (ad a, mo_en cA ad (mo_kd σ.1 a, mo_ln σ.1 a) (σ.2.1 a) (σ.2.2.1 a) (σ.2.2.2.1 a)) := by
  unfold mo_w
  obtain ⟨j, rfl⟩ : ∃ j, a = j + 1 := ⟨a - 1, by omega⟩
  rw [List.getElem?_map, List.getElem?_range (by omega)]
  rfl
theorem mo_kd_lt {K : mo_K} {a t : Nat} (h : mo_kd K a = t) (ht : t ≠ 99) : a < K.length := by
  unfold mo_kd at h
  cases hq : K[a]? with
  | none => rw [hq] at h; exact absurd h.symm ht
  | some q => exact (List.getElem?_eq_some_iff.mp hq).1
theorem mo_kd_ne {K : mo_K} {a t : Nat} (h0 : mo_kd K 0 = 99) (h : mo_kd K a = t) (ht : t ≠ 99) : a ≠ 0 := fun e => ht (by rw [← h, e, h0])
/-- what the tables say of the classes -/
def mo_clsOk (q : vw_C) : Bool := (u_ws q.1 q.2.1 q.2.2).all (fun w => decide (w ∈ mo_ws)) && (List.range q.2.2).all (fun k => (match ClassFile.parseFieldDescriptor (q.2.1 k).2.2.1 with
    | some ty => mo_tc ty < 9
    | none => false) && decide ((q.2.1 k).1 = q.1) && (List.range q.2.2).all (fun j => decide (j = k) || decide ((q.2.1 j).2.1 ≠ (q.2.1 k).2.1))) && decide (Cond.instantiable q.1 q.2.2 ∈ mo_ws) && decide (Cond.initialized q.1 ∈ mo_ws)
set_option maxRecDepth 100000 in
theorem mo_cls_ok : mo_cls.all mo_clsOk = true := by decide +kernel
set_option maxRecDepth 100000 in
theorem mo_ws_good : GoodIn lw_tbl mo_ws := by
  intro w hw
  obtain ⟨h1, h2⟩ := List.mem_filter.mp hw
  exact ⟨h1, good_of_word h2⟩
theorem mo_ws_self : GoodIn mo_ws mo_ws := by
  intro w hw
  exact ⟨hw, good_of_word (List.mem_filter.mp hw).2⟩
