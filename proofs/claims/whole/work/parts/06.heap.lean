/-! The small heap and the kit's world. -/
theorem mo_cls_facts {a : Nat} {q : vw_C} (hc : mo_cls[a]? = some q) : (∀ w ∈ u_ws q.1 q.2.1 q.2.2, w ∈ mo_ws) ∧ (∀ k, k < q.2.2 → ∃ ty, ClassFile.parseFieldDescriptor (q.2.1 k).2.2.1 = some ty ∧ mo_tc ty < 9) ∧ (∀ k, k < q.2.2 → (q.2.1 k).1 = q.1) ∧ (∀ i, i < q.2.2 → ∀ j, j < q.2.2 → i ≠ j → (q.2.1 i).2.1 ≠ (q.2.1 j).2.1) ∧ Cond.instantiable q.1 q.2.2 ∈ mo_ws ∧ Cond.initialized q.1 ∈ mo_ws ∧ a < 12 := by
  have h := List.all_eq_true.mp mo_cls_ok q (List.mem_of_getElem? hc)
  unfold mo_clsOk at h
  simp only [Bool.and_eq_true, decide_eq_true_eq] at h
  obtain ⟨⟨⟨h1, h2⟩, h3⟩, h4⟩ := h
  have h2' := fun k (hk : k < q.2.2) => List.all_eq_true.mp h2 k (List.mem_range.mpr hk)
  refine ⟨fun w hw => of_decide_eq_true (List.all_eq_true.mp h1 w hw), fun k hk => ?_, fun k hk => ?_, fun i hi j hj hij => ?_, h3, h4, (List.getElem?_eq_some_iff.mp hc).1⟩
  · have h := h2' k hk
    simp only [Bool.and_eq_true, decide_eq_true_eq] at h
    have h5 := h.1.1
    split at h5
    · rename_i ty hty
      exact ⟨ty, hty, of_decide_eq_true h5⟩
    · cases h5
  · have h := h2' k hk
    simp only [Bool.and_eq_true, decide_eq_true_eq] at h
    exact h.1.2
  · have h := h2' j hj
    simp only [Bool.and_eq_true, decide_eq_true_eq] at h
    have h5 := List.all_eq_true.mp h.2 i (List.mem_range.mpr hi)
    rw [Bool.or_eq_true, decide_eq_true_eq, decide_eq_true_eq] at h5
    rcases h5 with h5 | h5
    · exact absurd h5 hij
    · exact h5
theorem mo_fn_eq {a : Nat} {q : vw_C} (hc : mo_cls[a]? = some q) : mo_fn a = q.2.2 := by unfold mo_fn; rw [hc]
theorem mo_ft_eq {a b : Nat} {q : vw_C} {ty : ClassFile.FieldType} (hc : mo_cls[a]? = some q) (hp : ClassFile.parseFieldDescriptor (q.2.1 b).2.2.1 = some ty) : mo_ft a b = mo_tc ty := by
  unfold mo_ft
  rw [hc]
  show (match ClassFile.parseFieldDescriptor (q.2.1 b).2.2.1 with
    | some ty => mo_tc ty
    | none => 9) = _
  rw [hp]
theorem mo_fs_len (ad : Nat → Nat) (a : Nat) (R : Nat → Nat) (I : Nat → Int32) (L : Nat → Int64) : (mo_fs ad a R I L).length = mo_fn a := by simp [mo_fs]
theorem mo_fs_get {ad : Nat → Nat} {a b : Nat} {R : Nat → Nat} {I : Nat → Int32} {L : Nat → Int64} (h : b < mo_fn a) : (mo_fs ad a R I L)[b]? = some (mo_fv ad (mo_ft a b) (R b) (I b) (L b)) := by
  unfold mo_fs
  rw [List.getElem?_map, List.getElem?_range h]
  rfl
theorem mo_fs_set {ad : Nat → Nat} {a b : Nat} {R R' : Nat → Nat} {I I' : Nat → Int32} {L L' : Nat → Int64} (h : b < mo_fn a) (ho : ∀ j, j ≠ b → R' j = R j ∧ I' j = I j ∧ L' j = L j) : mo_fs ad a R' I' L' = (mo_fs ad a R I L).set b (mo_fv ad (mo_ft a b) (R' b) (I' b) (L' b)) := by
  apply List.ext_getElem?
  intro j
  by_cases e : j = b
  · subst e
    rw [List.getElem?_set_self (by rw [mo_fs_len]; exact h)]
    exact mo_fs_get h
  · rw [List.getElem?_set_ne (fun z => e z.symm)]
    by_cases hj : j < mo_fn a
    · rw [mo_fs_get hj, mo_fs_get hj, (ho j e).1, (ho j e).2.1, (ho j e).2.2]
    · rw [List.getElem?_eq_none (by rw [mo_fs_len]; omega), List.getElem?_eq_none (by rw [mo_fs_len]; omega)]
theorem mo_w_upd {cA : Nat → ClassId} {ad : Nat → Nat} {K : mo_K} {R R' : Nat → Nat → Nat} {I I' : Nat → Nat → Int32} {L L' : Nat → Nat → Int64} {x x' q : Nat} (h0 : q ≠ 0) (hq : q < K.length) (ho : ∀ a, a ≠ q → R' a = R a ∧ I' a = I a ∧ L' a = L a) : mo_w cA ad (K, R', I', L', x') = (mo_w cA ad (K, R, I, L, x)).set (q - 1) (ad q, mo_en cA ad (mo_kd K q, mo_ln K q) (R' q) (I' q) (L' q)) := by
  apply List.ext_getElem?
  intro j
  by_cases e : j = q - 1
  · subst e
    rw [List.getElem?_set_self (by simp [mo_w]; omega)]
    exact mo_w_at (σ := (K, R', I', L', x')) h0 hq
  · rw [List.getElem?_set_ne (fun z => e z.symm)]
    by_cases hj : j < K.length - 1
    · have g1 := mo_w_at (cA := cA) (ad := ad) (σ := (K, R', I', L', x')) (a := j + 1) (by omega) (by show j + 1 < K.length; omega)
      have g2 := mo_w_at (cA := cA) (ad := ad) (σ := (K, R, I, L, x)) (a := j + 1) (by omega) (by show j + 1 < K.length; omega)
      rw [Nat.add_sub_cancel] at g1 g2
      rw [g1, g2]
      have hh := ho (j + 1) (by omega)
      show some (ad (j + 1), mo_en cA ad (mo_kd K (j + 1), mo_ln K (j + 1)) (R' (j + 1)) (I' (j + 1)) (L' (j + 1))) = some (ad (j + 1), mo_en cA ad (mo_kd K (j + 1), mo_ln K (j + 1)) (R (j + 1)) (I (j + 1)) (L (j + 1)))
      rw [hh.1, hh.2.1, hh.2.2]
    · rw [List.getElem?_eq_none (by simp [mo_w]; omega), List.getElem?_eq_none (by simp [mo_w]; omega)]
theorem mo_up_off {α : Type} {f : Nat → Nat → α} {a k : Nat} {v : α} {z : Nat} (h : z ≠ a) : mo_up f a k v z = f z := by funext y; simp [mo_up, h]
theorem mo_up_in {α : Type} {f : Nat → Nat → α} {a k : Nat} {v : α} {j : Nat} (h : j ≠ k) : mo_up f a k v a j = f a j := by simp [mo_up, h]
theorem mo_up_at {α : Type} {f : Nat → Nat → α} {a k : Nat} {v : α} : mo_up f a k v a k = v := by simp [mo_up]
theorem mo_up_i {f : Nat → Nat → Int32} {a k : Nat} {v : Int32} : mo_up f a k v a = upd (f a) k v := by funext y; simp [mo_up, upd]
theorem mo_up_l {f : Nat → Nat → Int64} {a k : Nat} {v : Int64} : mo_up f a k v a = vp_updL (f a) k v := by funext y; simp [mo_up, vp_updL]
theorem mo_up_r {f : Nat → Nat → Nat} {a k : Nat} {v : Nat} : mo_up f a k v a = va_up (f a) k v := by funext y; simp [mo_up, va_up]
section ENT
variable {cA : Nat → ClassId} {ad : Nat → Nat} {K : mo_K} {R : Nat → Nat → Nat} {I : Nat → Nat → Int32} {L : Nat → Nat → Int64} {x q : Nat}
theorem mo_e_obj {a : Nat} (h0 : mo_kd K 0 = 99) (h : mo_kd K q = a) (ha : a < 12) : q ≠ 0 ∧ q < K.length ∧ (mo_w cA ad (K, R, I, L, x))[q - 1]? = some (ad q, .inr (a, mo_fs ad a (R q) (I q) (L q))) := by
  have h1 := mo_kd_ne h0 h (by omega)
  have h2 := mo_kd_lt h (by omega)
  refine ⟨h1, h2, (mo_w_at (σ := (K, R, I, L, x)) h1 h2).trans ?_⟩
  show some (ad q, mo_en cA ad (mo_kd K q, mo_ln K q) (R q) (I q) (L q)) = _
  rw [h]
  unfold mo_en
  rw [if_neg (by show ¬ a = 100; omega), if_neg (by show ¬ a = 101; omega), if_neg (by show ¬ a = 102; omega), if_neg (by show ¬ a = 103; omega), if_neg (by show ¬ a = 104; omega)]
theorem mo_e_i (h0 : mo_kd K 0 = 99) (h : mo_kd K q = 100) : q ≠ 0 ∧ q < K.length ∧ (mo_w cA ad (K, R, I, L, x))[q - 1]? = some (ad q, .inl (cA 0, mo_ln K q, .inl (I q))) := by
  have h1 := mo_kd_ne h0 h (by omega)
  have h2 := mo_kd_lt h (by omega)
  refine ⟨h1, h2, (mo_w_at (σ := (K, R, I, L, x)) h1 h2).trans ?_⟩
  show some (ad q, mo_en cA ad (mo_kd K q, mo_ln K q) (R q) (I q) (L q)) = _
  rw [h]
  rfl
theorem mo_e_l (h0 : mo_kd K 0 = 99) (h : mo_kd K q = 101) : q ≠ 0 ∧ q < K.length ∧ (mo_w cA ad (K, R, I, L, x))[q - 1]? = some (ad q, .inl (cA 1, mo_ln K q, .inr (.inl (L q)))) := by
  have h1 := mo_kd_ne h0 h (by omega)
  have h2 := mo_kd_lt h (by omega)
  refine ⟨h1, h2, (mo_w_at (σ := (K, R, I, L, x)) h1 h2).trans ?_⟩
  show some (ad q, mo_en cA ad (mo_kd K q, mo_ln K q) (R q) (I q) (L q)) = _
  rw [h]
  rfl
theorem mo_e_b (h0 : mo_kd K 0 = 99) (h : mo_kd K q = 102) : q ≠ 0 ∧ q < K.length ∧ (mo_w cA ad (K, R, I, L, x))[q - 1]? = some (ad q, .inl (cA 2, mo_ln K q, .inl (I q))) := by
  have h1 := mo_kd_ne h0 h (by omega)
  have h2 := mo_kd_lt h (by omega)
  refine ⟨h1, h2, (mo_w_at (σ := (K, R, I, L, x)) h1 h2).trans ?_⟩
  show some (ad q, mo_en cA ad (mo_kd K q, mo_ln K q) (R q) (I q) (L q)) = _
  rw [h]
  rfl
theorem mo_e_z (h0 : mo_kd K 0 = 99) (h : mo_kd K q = 103) : q ≠ 0 ∧ q < K.length ∧ (mo_w cA ad (K, R, I, L, x))[q - 1]? = some (ad q, .inl (cA 3, mo_ln K q, .inl (I q))) := by
  have h1 := mo_kd_ne h0 h (by omega)
  have h2 := mo_kd_lt h (by omega)
  refine ⟨h1, h2, (mo_w_at (σ := (K, R, I, L, x)) h1 h2).trans ?_⟩
  show some (ad q, mo_en cA ad (mo_kd K q, mo_ln K q) (R q) (I q) (L q)) = _
  rw [h]
  rfl
theorem mo_e_t (h0 : mo_kd K 0 = 99) (h : mo_kd K q = 104) : q ≠ 0 ∧ q < K.length ∧ (mo_w cA ad (K, R, I, L, x))[q - 1]? = some (ad q, .inl (cA 4, mo_ln K q, .inr (.inr (.inr (.inr (fun j => if R q j = 0 then none else some (ad (R q j)))))))) := by
  have h1 := mo_kd_ne h0 h (by omega)
  have h2 := mo_kd_lt h (by omega)
  refine ⟨h1, h2, (mo_w_at (σ := (K, R, I, L, x)) h1 h2).trans ?_⟩
  show some (ad q, mo_en cA ad (mo_kd K q, mo_ln K q) (R q) (I q) (L q)) = _
  rw [h]
  rfl
theorem mo_tr_ref {a : Nat} (h : a ≠ 0) : mo_tr ad (.ref a) = .ref (ad a) := if_neg h
end ENT
section MO
variable {p : Program} {l : Launch} {e : Env} {R : Room} {s : State} {m : MethodId} {args : Array Value} {below : List Frame} {meth : Method} {c : Code} {Q : State → Prop} {D : va_G} {cA : Nat → ClassId} {ad : Nat → Nat} {A : Nat → Prop} {k0 z0 : Nat}
/-- the machine, at a small state -/
def mo_G (p : Program) (l : Launch) (e : Env) (R : Room) (s : State) (m : MethodId) (args : Array Value) (below : List Frame) (meth : Method) (c : Code) (Q : State → Prop) (D : va_G) (cA : Nat → ClassId) (ad : Nat → Nat) (A : Nat → Prop) (k0 z0 : Nat) (f : mo_F) : Prop :=
  ∀ (H : Heap) (locs : List Loc) (ls : Array Slot), mo_Rel D cA ad A k0 z0 f.2.2.2 H → va_S A s.heap H locs → mo_LR ad ls f.2.1 → W p l e R s m args below meth c H locs (f.2.2.2.1.length - k0 + f.2.2.2.2.2.2.2) (mo_sz f.2.2.2.1 - z0 + 6 * f.2.2.2.2.2.2.2) Q (F0 m f.1 ls (f.2.2.1.map (mo_tr ad)))
/-- a static field that nobody writes, with all that the tables say of its place -/
def mo_LZ (C n d : String) (v : Value) (A : Nat → Prop) (U : State) (H : Heap) : Prop := ∃ (c : ClassId) (k : Class) (i : Nat) (f : Field) (a : Nat) (cell : Cell), U.vm.findClass C = some c ∧ U.fieldFound? C n d = some (c, k, i, f) ∧ f.isStatic = true ∧ k.statics = some a ∧ H[a]? = some cell ∧ cell.vm.isStatics = true ∧ cell.cls = c ∧ f.slot < cell.slots.size ∧ k.staticTypes[f.slot]? = some f.type ∧ cell.slots[f.slot]? = some v ∧ ¬ A a
theorem mo_LZ.moved {C n d : String} {v : Value} {A : Nat → Prop} {u U : State} {H : Heap} (hvm : u.vm.Alike U.vm) (h : mo_LZ C n d v A u H) : mo_LZ C n d v A U H := by
  obtain ⟨c, k, i, f, a, cell, h0, h1, h2, h3, h4, h5, h6, h7, h8, h9⟩ := h
  obtain ⟨k', hi', he⟩ := State.fieldFound?_setVm hvm h1
  exact ⟨c, k', i, f, a, cell, by rw [hvm.findClass]; exact h0, hi', h2, by rw [he]; exact h3, h4, h5, h6, h7, by rw [he]; exact h8, h9⟩
theorem mo_LZ.kept {C n d : String} {v : Value} {A : Nat → Prop} {U : State} {H H1 : Heap} (h : mo_LZ C n d v A U H) (hq : ∀ a : Nat, a < H.size → ¬ A a → H1[a]? = H[a]?) : mo_LZ C n d v A U H1 := by
  obtain ⟨c, k, i, f, a, cell, h0, h1, h2, h3, h4, h5, h6, h7, h8, h9, h10⟩ := h
  exact ⟨c, k, i, f, a, cell, h0, h1, h2, h3, by rw [hq a (Array.getElem?_eq_some_iff.mp h4).1 h10]; exact h4, h5, h6, h7, h8, h9, h10⟩
theorem mo_LZ.narrow {C n d : String} {v : Value} {A B : Nat → Prop} {U : State} {H : Heap} (h : mo_LZ C n d v A U H) (hAB : ∀ q, B q → A q) : mo_LZ C n d v B U H := by
  obtain ⟨c, k, i, f, a, cell, h0, h1, h2, h3, h4, h5, h6, h7, h8, h9, h10⟩ := h
  exact ⟨c, k, i, f, a, cell, h0, h1, h2, h3, h4, h5, h6, h7, h8, h9, fun z => h10 (hAB a z)⟩
theorem mo_LZ.lays {C n d : String} {v : Value} {A : Nat → Prop} {U : State} {args : Array Value} (h : mo_LZ C n d v A U U.heap) : (Cond.laysStatic C n d).before args U = true := by
  obtain ⟨c, k, i, f, a, cell, h0, h1, h2, h3, h4, h5, h6, h7, h8, h9, h10⟩ := h
  unfold Cond.before Cond.holds
  simp [Cond.value, h0, h1, h2, h3, h4, h5, h6, h7, h8]
theorem mo_LZ.isRef {C n d : String} {v : Value} {A : Nat → Prop} {s : State} {args : Array Value} (h : mo_LZ C n d v A s s.heap) (hv : v = .null ∨ ∃ a, v = .ref a) : (Cond.isRef (.static C n d)).before args s = true := by
  obtain ⟨c, k, i, f, a, cell, h0, h1, h2, h3, h4, h5, h6, h7, h8, h9, h10⟩ := h
  have he : (Term.static C n d).eval args s none [] s = some v := by
    simp [Term.eval, State.fieldNamed?, h1, h2, h3, h4, h5, h9]
  unfold Cond.before Cond.holds
  simp only [Cond.value, he]
  rcases hv with rfl | ⟨a, rfl⟩ <;> rfl
/-- the statics that are read -/
def mo_St (ad : Nat → Nat) (A : Nat → Prop) (s : State) : Prop :=
  va_Z "GateNames" "OWN_WORDS" "[I" (.ref (ad 1000001)) A s s.heap ∧ va_T .int (ad 1000001) 9 (fun j => .int (mo_own j)) A s s.heap ∧ va_Z "GateNames$Guess" "WITHOUT" "[J" (.ref (ad 1000002)) A s s.heap ∧ va_T .long (ad 1000002) 6 (fun j => .long (mo_wit j)) A s s.heap ∧
  (∃ v : Value, (v = .null ∨ ∃ a, v = .ref a) ∧ mo_LZ "java/lang/Throwable" "UNASSIGNED_STACK" "[Ljava/lang/StackTraceElement;" v A s s.heap) ∧ (∃ v : Value, (v = .null ∨ ∃ a, v = .ref a) ∧ mo_LZ "java/lang/Throwable" "SUPPRESSED_SENTINEL" "Ljava/util/List;" v A s s.heap)
def mo_Cx (p : Program) (R : Room) (s : State) (m : MethodId) (args : Array Value) (c : Code) (D : va_G) (cA : Nat → ClassId) (ad : Nat → Nat) (A : Nat → Prop) (k0 z0 : Nat) (X : mo_X) (own : String) (cc : ByteArray) : Prop :=
  p.tables.exec = Jvm.exec ∧ c.code = cc ∧ s.vm.findClass own = some m.cls ∧ (∀ w ∈ mo_ws, w.before args s = true) ∧ va_K D mo_cls (mo_tys cA) s ∧ (∀ w ∈ mo_nest, va_Nw w s) ∧ (∀ q, s.heap.size ≤ q → A q) ∧ mo_St ad A s ∧
  (X.1 = 0 ∨ (va_X (ad 1000000) X.1 X.2.1 s s.heap ∧ ad 1000000 < s.heap.size ∧ ¬ A (ad 1000000))) ∧ (X.2.2.1 = 0 ∨ ((∀ j, k0 + j < 1000000 → ad (k0 + j) = s.heap.size + j) ∧ X.2.2.1 ≤ k0 + R.cells ∧ X.2.2.2 ≤ z0 + R.slots ∧ va_AO "GateNames$Town" s ∧ X.2.2.1 ≤ 1000000))
variable {own : String} {cc : ByteArray} {H : Heap} {locs : List Loc} {ls : Array Slot} {pc : Nat} {cells slots : Nat} {K : mo_K} {RR : Nat → Nat → Nat} {I : Nat → Nat → Int32} {L : Nat → Nat → Int64} {x q a b t idx : Nat} {rest : List Value} {X : mo_X}
/-- a link, of one sort or the other -/
theorem mo_fl_inv (h : mo_fl own idx a b t = true) : ∃ r : vw_C, mo_cls[a]? = some r ∧ b < r.2.2 ∧ mo_ft a b = t ∧ (Cond.fieldLink own idx r.1 (r.2.1 b).2.1 (r.2.1 b).2.2.1 ∈ mo_ws ∨ Cond.fieldLinkNest own idx r.1 (r.2.1 b).2.1 (r.2.1 b).2.2.1 "GateNames" ∈ mo_nest) := by
  unfold mo_fl at h
  split at h
  · rename_i r hr
    simp only [Bool.and_eq_true, decide_eq_true_eq, Bool.or_eq_true] at h
    obtain ⟨h1, h2, h3⟩ := h
    exact ⟨r, hr, h1, h2, h3.imp mo_in_ws id⟩
  · cases h
theorem mo_getf (hC : mo_Cx p R s m args c D cA ad A k0 z0 X own cc) (hR : mo_Rel D cA ad A k0 z0 (K, RR, I, L, x) H) (hkd : mo_kd K q = a) (hlk : mo_fl own idx a b t = true) (hdg : ClassFile.decode cc pc = .ok (.getfield idx, 3))
    (kk : W p l e R s m args below meth c H locs cells slots Q (F0 m (pc + 3) ls (mo_fv ad t (RR q b) (I q b) (L q b) :: rest))) : W p l e R s m args below meth c H locs cells slots Q (F0 m pc ls (mo_tr ad (.ref q) :: rest)) := by
  obtain ⟨hx, hb, hown, hts, hK, hN, -⟩ := hC
  obtain ⟨hP, hD, -, -, -, h00⟩ := hR
  obtain ⟨⟨C, T, N⟩, hc, hbN, hft, hl⟩ := mo_fl_inv hlk
  obtain ⟨f1, f2, f3, f4, f5, f6, f7⟩ := mo_cls_facts hc
  obtain ⟨g1, g2, g3⟩ := mo_e_obj (cA := cA) (ad := ad) (R := RR) (I := I) (L := L) (x := x) h00 hkd f7
  rw [mo_tr_ref g1]
  have hv := mo_fs_get (ad := ad) (R := RR q) (I := I q) (L := L q) (show b < mo_fn a by rw [mo_fn_eq hc]; exact hbN)
  rw [hft] at hv
  have hs : ∀ y, s.fieldFound? (T b).1 (T b).2.1 (T b).2.2.1 = some y → s.fieldFound? C (T b).2.1 (T b).2.2.1 = some y := fun y h => by
    have f8 : (T b).1 = C := f3 b hbN
    rw [← f8]; exact h
  rcases hl with hl | hl
  · exact va_get hx hb hts f1 hown hK hP (q - 1) g3 hc b hbN (hts _ hl) hs hv hdg kk
  · exact va_getN hx hb hts f1 hown hK hP (q - 1) g3 hc b hbN (va_Nw.use rfl (hN _ hl)) hs hv hdg kk
theorem mo_putf {ini : Bool} (hC : mo_Cx p R s m args c D cA ad A k0 z0 X own cc) (hini : ini = true → meth.name = "<init>") {R' : Nat → Nat → Nat} {I' : Nat → Nat → Int32} {L' : Nat → Nat → Int64} {w : Value}
    (hR : mo_Rel D cA ad A k0 z0 (K, RR, I, L, x) H) (hS : va_S A s.heap H locs) (hkd : mo_kd K q = a) (hlk : mo_fl own idx a b t = true) (hfw : mo_fw own ini idx a b = true) (hdg : ClassFile.decode cc pc = .ok (.putfield idx, 3))
    (ho : ∀ z, z ≠ q → R' z = RR z ∧ I' z = I z ∧ L' z = L z) (hi : ∀ j, j ≠ b → R' q j = RR q j ∧ I' q j = I q j ∧ L' q j = L q j) (hv : mo_fv ad t (R' q b) (I' q b) (L' q b) = w) (hfit : ∀ ty, mo_tc ty = t → narrow ty w = w ∧ fits ty w = true)
    (kk : ∀ (H1 : Heap) (locs1 : List Loc), mo_Rel D cA ad A k0 z0 (K, R', I', L', x) H1 → va_S A s.heap H1 locs1 → W p l e R s m args below meth c H1 locs1 cells slots Q (F0 m (pc + 3) ls rest)) : W p l e R s m args below meth c H locs cells slots Q (F0 m pc ls (w :: mo_tr ad (.ref q) :: rest)) := by
  obtain ⟨hx, hb, hown, hts, hK, hN, -⟩ := hC
  obtain ⟨hP, hD, r1, r2, r3, h00⟩ := hR
  obtain ⟨⟨C, T, N⟩, hc, hbN, hft, hl⟩ := mo_fl_inv hlk
  obtain ⟨f1, f2, f3, f4, f5, f6, f7⟩ := mo_cls_facts hc
  obtain ⟨g1, g2, g3⟩ := mo_e_obj (cA := cA) (ad := ad) (R := RR) (I := I) (L := L) (x := x) h00 hkd f7
  rw [mo_tr_ref g1]
  have hs : ∀ y, s.fieldFound? (T b).1 (T b).2.1 (T b).2.2.1 = some y → s.fieldFound? C (T b).2.1 (T b).2.2.1 = some y := fun y h => by
    have f8 : (T b).1 = C := f3 b hbN
    rw [← f8]; exact h
  have hbf : b < mo_fn a := by rw [mo_fn_eq hc]; exact hbN
  have ew : mo_w cA ad (K, R', I', L', x) = (mo_w cA ad (K, RR, I, L, x)).set (q - 1) (ad q, .inr (a, (mo_fs ad a (RR q) (I q) (L q)).set b w)) := by
    rw [mo_w_upd g1 g2 ho, hkd]
    unfold mo_en
    rw [if_neg (by show ¬ a = 100; omega), if_neg (by show ¬ a = 101; omega), if_neg (by show ¬ a = 102; omega), if_neg (by show ¬ a = 103; omega), if_neg (by show ¬ a = 104; omega)]
    show _ = (mo_w cA ad (K, RR, I, L, x)).set (q - 1) (ad q, .inr (a, _))
    rw [mo_fs_set (ad := ad) (R' := R' q) (I' := I' q) (L' := L' q) hbf hi, hft, hv]
  obtain ⟨ty, hty, htc⟩ := f2 b hbN
  have htt : mo_tc ty = t := by rw [← hft]; exact (mo_ft_eq hc hty).symm
  obtain ⟨n1, n2⟩ := hfit ty htt
  have k2 : ∀ (H1 : Heap) (locs1 : List Loc), va_P D mo_cls ((mo_w cA ad (K, RR, I, L, x)).set (q - 1) (ad q, .inr (a, (mo_fs ad a (RR q) (I q) (L q)).set b w))) H1 → va_D A ((mo_w cA ad (K, RR, I, L, x)).set (q - 1) (ad q, .inr (a, (mo_fs ad a (RR q) (I q) (L q)).set b w))) → va_S A s.heap H1 locs1 → W p l e R s m args below meth c H1 locs1 cells slots Q (F0 m (pc + 3) ls rest) := fun H1 locs1 p1 p2 p3 => kk H1 locs1 ⟨by rw [ew]; exact p1, by rw [ew]; exact p2, r1, r2, r3, h00⟩ p3
  have hty0 : ∀ k, k < N → ClassFile.parseFieldDescriptor (T k).2.2.1 = some ((ClassFile.parseFieldDescriptor (T k).2.2.1).getD .int) := fun k hk => by
    obtain ⟨ty1, h1, -⟩ := f2 k hk
    have h1 : ClassFile.parseFieldDescriptor (T k).2.2.1 = some ty1 := h1
    rw [h1]; rfl
  have hlen : b < (mo_fs ad a (RR q) (I q) (L q)).length := by rw [mo_fs_len]; exact hbf
  unfold mo_fw at hfw
  rw [hc] at hfw
  rw [Bool.or_eq_true] at hfw
  rcases hfw with hfw | hfw
  · have hfin : (T b).2.2.2 = false := of_decide_eq_true hfw
    rcases hl with hl | hl
    · exact va_put hx hb hts f1 _ hty0 f4 hown hK hP hD hS (q - 1) g3 hc b hbN (hts _ hl) hs hfin hty n1 n2 hlen hdg k2
    · exact va_putN hx hb hts f1 _ hty0 f4 hown hK hP hD hS (q - 1) g3 hc b hbN (va_Nw.use rfl (hN _ hl)) hs hfin hty n1 n2 hlen hdg k2
  · simp only [Bool.and_eq_true, decide_eq_true_eq] at hfw
    obtain ⟨i1, i2, i3⟩ := hfw
    cases hfl : (T b).2.2.2 with
    | false => exact va_put hx hb hts f1 _ hty0 f4 hown hK hP hD hS (q - 1) g3 hc b hbN (hts _ (mo_in_ws i3)) hs hfl hty n1 n2 hlen hdg k2
    | true => exact va_putF hx hb hts f1 _ hty0 f4 hown hK hP hD hS (q - 1) g3 hc b hbN (hts _ (mo_in_ws i3)) hs hfl (hini i1) ((f3 b hbN).trans i2) hty n1 n2 hlen hdg k2
end MO
theorem mo_kd_old {K : mo_K} {q : Nat × Nat} {a : Nat} (h : a < K.length) : mo_kd (K ++ [q]) a = mo_kd K a := by
  unfold mo_kd
  rw [List.getElem?_append_left h]
theorem mo_ln_old {K : mo_K} {q : Nat × Nat} {a : Nat} (h : a < K.length) : mo_ln (K ++ [q]) a = mo_ln K a := by
  unfold mo_ln
  rw [List.getElem?_append_left h]
theorem mo_kd_new {K : mo_K} {q : Nat × Nat} : mo_kd (K ++ [q]) K.length = q.1 := by
  unfold mo_kd
  rw [List.getElem?_append_right (Nat.le_refl _), Nat.sub_self]
  rfl
theorem mo_ln_new {K : mo_K} {q : Nat × Nat} : mo_ln (K ++ [q]) K.length = q.2 := by
  unfold mo_ln
  rw [List.getElem?_append_right (Nat.le_refl _), Nat.sub_self]
  rfl
theorem mo_sz_new {K : mo_K} {q : Nat × Nat} : mo_sz (K ++ [q]) = mo_sz K + q.2 := by simp [mo_sz]
theorem mo_zr_off {α : Type} {f : Nat → Nat → α} {a : Nat} {v : α} {z : Nat} (h : z ≠ a) : mo_zr f a v z = f z := by funext y; simp [mo_zr, h]
theorem mo_zr_at {α : Type} {f : Nat → Nat → α} {a : Nat} {v : α} : mo_zr f a v a = fun _ => v := by funext y; simp [mo_zr]
theorem mo_w_push {cA : Nat → ClassId} {ad : Nat → Nat} {K : mo_K} {R : Nat → Nat → Nat} {I : Nat → Nat → Int32} {L : Nat → Nat → Int64} {x x' : Nat} {q : Nat × Nat} (h0 : 1 ≤ K.length) : mo_w cA ad (K ++ [q], mo_zr R K.length 0, mo_zr I K.length 0, mo_zr L K.length 0, x') = mo_w cA ad (K, R, I, L, x) ++ [(ad K.length, mo_en cA ad q (fun _ => 0) (fun _ => 0) (fun _ => 0))] := by
  apply List.ext_getElem?
  intro j
  have hl : (mo_w cA ad (K, R, I, L, x)).length = K.length - 1 := by simp [mo_w]
  by_cases hj : j < K.length - 1
  · rw [List.getElem?_append_left (by rw [hl]; exact hj)]
    have g1 := mo_w_at (cA := cA) (ad := ad) (σ := (K ++ [q], mo_zr R K.length 0, mo_zr I K.length 0, mo_zr L K.length 0, x')) (a := j + 1) (by omega) (by show j + 1 < (K ++ [q]).length; rw [List.length_append]; omega)
    have g2 := mo_w_at (cA := cA) (ad := ad) (σ := (K, R, I, L, x)) (a := j + 1) (by omega) (by show j + 1 < K.length; omega)
    rw [Nat.add_sub_cancel] at g1 g2
    rw [g1, g2]
    show some (ad (j + 1), mo_en cA ad (mo_kd (K ++ [q]) (j + 1), mo_ln (K ++ [q]) (j + 1)) (mo_zr R K.length 0 (j + 1)) (mo_zr I K.length 0 (j + 1)) (mo_zr L K.length 0 (j + 1))) = some (ad (j + 1), mo_en cA ad (mo_kd K (j + 1), mo_ln K (j + 1)) (R (j + 1)) (I (j + 1)) (L (j + 1)))
    rw [mo_kd_old (by omega), mo_ln_old (by omega), mo_zr_off (by omega), mo_zr_off (by omega), mo_zr_off (by omega)]
  · by_cases e : j = K.length - 1
    · subst e
      rw [List.getElem?_append_right (by rw [hl]; exact Nat.le_refl _), hl, Nat.sub_self]
      have g1 := mo_w_at (cA := cA) (ad := ad) (σ := (K ++ [q], mo_zr R K.length 0, mo_zr I K.length 0, mo_zr L K.length 0, x')) (a := K.length) (by omega) (by show K.length < (K ++ [q]).length; rw [List.length_append]; exact Nat.lt_succ_self _)
      rw [g1]
      show some (ad K.length, mo_en cA ad (mo_kd (K ++ [q]) K.length, mo_ln (K ++ [q]) K.length) (mo_zr R K.length 0 K.length) (mo_zr I K.length 0 K.length) (mo_zr L K.length 0 K.length)) = some _
      rw [mo_kd_new, mo_ln_new, mo_zr_at, mo_zr_at, mo_zr_at]
    · rw [List.getElem?_eq_none (by simp [mo_w]; omega), List.getElem?_eq_none (by rw [List.length_append, hl]; simp; omega)]
section MA
variable {p : Program} {l : Launch} {e : Env} {R : Room} {s : State} {m : MethodId} {args : Array Value} {below : List Frame} {meth : Method} {c : Code} {Q : State → Prop} {D : va_G} {cA : Nat → ClassId} {ad : Nat → Nat} {A : Nat → Prop} {k0 z0 : Nat} {X : mo_X}
variable {own : String} {cc : ByteArray} {H : Heap} {locs : List Loc} {ls : Array Slot} {pc : Nat} {cells slots : Nat} {K : mo_K} {RR : Nat → Nat → Nat} {I : Nat → Nat → Int32} {L : Nat → Nat → Int64} {a b idx : Nat} {rest : List Value}
/-- where the next cell will lie -/
theorem mo_next (hR : mo_Rel D cA ad A k0 z0 (K, RR, I, L, 0) H) (hS : va_S A s.heap H locs) (hAd : ∀ j, k0 + j < 1000000 → ad (k0 + j) = s.heap.size + j) (hlt : K.length < 1000000) (hz : H.size ≤ s.heap.size + (K.length - k0)) : H.size = ad K.length := by
  obtain ⟨hP, hD, r1, r2, r3, h00⟩ := hR
  have r2 : k0 ≤ K.length := r2
  have h1 := hAd (K.length - k0) (by omega)
  rw [show k0 + (K.length - k0) = K.length by omega] at h1
  rw [h1]
  by_cases e : K.length = k0
  · have := hS.1
    omega
  · have h2 := hAd (K.length - 1 - k0) (by omega)
    rw [show k0 + (K.length - 1 - k0) = K.length - 1 by omega] at h2
    have h3 := (hP _ _ (mo_w_at (cA := cA) (ad := ad) (σ := (K, RR, I, L, 0)) (a := K.length - 1) (by omega) (by show K.length - 1 < K.length; omega))).lt
    have h3 : ad (K.length - 1) < H.size := h3
    omega
theorem mo_Rel_push {q : Nat × Nat} {H1 : Heap} (hR : mo_Rel D cA ad A k0 z0 (K, RR, I, L, 0) H) (hS : va_S A s.heap H locs) (hA : ∀ q, s.heap.size ≤ q → A q) (hH : H.size = ad K.length) (z1 : H1.size = ad K.length + 1) (o1 : ∀ q, q < ad K.length → H1[q]? = H[q]?) (he : va_at D mo_cls (ad K.length, mo_en cA ad q (fun _ => 0) (fun _ => 0) (fun _ => 0)) H1) :
    mo_Rel D cA ad A k0 z0 (K ++ [q], mo_zr RR K.length 0, mo_zr I K.length 0, mo_zr L K.length 0, 0) H1 ∧ va_S A s.heap H1 locs := by
  obtain ⟨hP, hD, r1, r2, r3, h00⟩ := hR
  have r2 : k0 ≤ K.length := r2
  have r3 : z0 ≤ mo_sz K := r3
  have h00 : mo_kd K 0 = 99 := h00
  have hs1 := hS.1
  have hk : ∀ (k : Nat) (x : Nat × va_E), (mo_w cA ad (K, RR, I, L, 0))[k]? = some x → H1[x.1]? = H[x.1]? := fun k x hx => o1 x.1 (by rw [← hH]; exact (hP k x hx).lt)
  refine ⟨⟨?_, ?_, r1, ?_, ?_, ?_⟩, ⟨by omega, fun x h1 h2 => (o1 x (by omega)).trans (hS.2.1 x h1 h2), hS.2.2⟩⟩
  · rw [mo_w_push (x := 0) (by omega)]
    refine (hP.kept hk).app (fun k x hx => ?_)
    have hz : k < 1 := (List.getElem?_eq_some_iff.mp hx).1
    rw [show k = 0 by omega] at hx
    cases hx
    exact he
  · rw [mo_w_push (x := 0) (by omega)]
    exact hD.push hP hH.symm (hA _ (by omega))
  · show k0 ≤ (K ++ [q]).length
    rw [List.length_append]; omega
  · show z0 ≤ mo_sz (K ++ [q])
    rw [mo_sz_new]; omega
  · show mo_kd (K ++ [q]) 0 = 99
    rw [mo_kd_old (by omega)]; exact h00
end MA
