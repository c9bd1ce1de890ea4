/-! Comings: the line of a DAY. -/
/-- fewer locals, place by place -/
def mo_le (ml' ml : mo_L) : Prop := ml'.length = ml.length ∧ ∀ (i : Nat) (v : Value), ml'[i]? = some (some v) → ml[i]? = some (some v)
theorem mo_le0 : mo_le [] [] := ⟨rfl, fun i v h => by simp at h⟩
theorem mo_leS {ml' ml : mo_L} {x : Option Value} (h : mo_le ml' ml) : mo_le (x :: ml') (x :: ml) := ⟨by rw [List.length_cons, List.length_cons, h.1], fun i v hv => by
  cases i with
  | zero => exact hv
  | succ i => exact h.2 i v hv⟩
theorem mo_leN {ml' ml : mo_L} {x : Option Value} (h : mo_le ml' ml) : mo_le (none :: ml') (x :: ml) := ⟨by rw [List.length_cons, List.length_cons, h.1], fun i v hv => by
  cases i with
  | zero => cases hv
  | succ i => exact h.2 i v hv⟩
theorem mo_J_le {l : Launch} {M : mo_M} {d mc ms : Nat} {al : Bool} {σ0 : mo_S} {QQ : mo_QQ} {pc : Nat} {ml ml' : mo_L} {st : List Value} {σ : mo_S} (h : mo_le ml' ml) (k : mo_JQ l M d mc ms al σ0 QQ (pc, ml', st, σ)) : mo_JQ l M d mc ms al σ0 QQ (pc, ml, st, σ) := mo_J_fewer h.1 h.2 k
/-- a heap with one row told anew -/
def mo_rw {α : Type} (f : Nat → Nat → α) (a : Nat) (r : Nat → α) : Nat → Nat → α := fun x => if x = a then r else f x
theorem mo_rw_at {α : Type} {f : Nat → Nat → α} {a : Nat} {r : Nat → α} : mo_rw f a r a = r := if_pos rfl
theorem mo_rw_off {α : Type} {f : Nat → Nat → α} {a x : Nat} {r : Nat → α} (h : x ≠ a) : mo_rw f a r x = f x := if_neg h
theorem mo_up_rw {α : Type} {f : Nat → Nat → α} {a k : Nat} {v : α} : mo_up f a k v = mo_rw f a (va_up (f a) k v) := by
  funext x y
  by_cases e : x = a
  · subst e; simp [mo_up, mo_rw, va_up]
  · simp [mo_up, mo_rw, e]
theorem mo_up_rwr {α : Type} {f : Nat → Nat → α} {a k : Nat} {v : α} {r : Nat → α} : mo_up (mo_rw f a r) a k v = mo_rw f a (va_up r k v) := by
  funext x y
  by_cases e : x = a
  · subst e; simp [mo_up, mo_rw, va_up]
  · simp [mo_up, mo_rw, e]
theorem mo_rw_rw {α : Type} {f : Nat → Nat → α} {a : Nat} {r r2 : Nat → α} : mo_rw (mo_rw f a r) a r2 = mo_rw f a r2 := by
  funext x
  by_cases e : x = a
  · subst e; simp [mo_rw]
  · simp [mo_rw, e]
theorem mo_rw_self {α : Type} {f : Nat → Nat → α} {a : Nat} : mo_rw f a (f a) = f := by
  funext x
  by_cases e : x = a
  · subst e; simp [mo_rw]
  · simp [mo_rw, e]
/-- ahead: by IN, then by MAN -/
def mo_ah (f g : Nat → Int32) (c o : Nat) : Bool := decide (f c < f o ∨ (f c = f o ∧ g c < g o))
theorem C_isAheadB (l : Launch) (K : mo_K) (R : Nat → Nat → Nat) (I : Nat → Nat → Int32) (L : Nat → Nat → Int64) (a c o : Nat) (h : mo_cm K R a) (hc : c < 40) (ho : o < 40) : mo_D l mm_Comings_isAhead 0 [.ref a, .int (nI c), .int (nI o)] (K, R, I, L, 0) (some (.int (if mo_ah (I (R a 2)) (I (R a 0)) c o = true then 1 else 0))) (K, R, I, L, 0) := by
  refine mo_D_eq (C_Comings_isAhead l K R I L a (nI c) (nI o) h (vp_in_nI hc (by omega)) (vp_in_nI ho (by omega))) ?_ rfl
  rw [nI_clamp (by omega), nI_clamp (by omega)]
  unfold mo_ah
  congr 2
  by_cases h1 : I (R a 2) c < I (R a 2) o
  · simp [h1]
  · by_cases h2 : I (R a 2) c = I (R a 2) o
    · by_cases h3 : I (R a 0) o ≤ I (R a 0) c
      · have h4 : ¬ I (R a 0) c < I (R a 0) o := Int32.not_lt.mpr h3
        simp [h2, h3, h4]
      · have h4 : I (R a 0) c < I (R a 0) o := Int32.not_le.mp h3
        simp [h2, h3, h4]
    · simp [h1, h2]
/-- put c into a row told from its last place on -/
def mo_ins (ah : Nat → Bool) (c : Nat) : List Nat → List Nat
  | [] => [c]
  | o :: r => if ah o = true then o :: mo_ins ah c r else c :: o :: r
/-- the line, told from its last place on -/
def mo_line (ah : Nat → Nat → Bool) (p : Nat → Bool) : Nat → List Nat
  | 0 => []
  | n + 1 => if p n = true then mo_ins (ah n) n (mo_line ah p n) else mo_line ah p n
theorem mo_ins_len (ah : Nat → Bool) (c : Nat) : ∀ l : List Nat, (mo_ins ah c l).length = l.length + 1
  | [] => rfl
  | o :: r => by
    unfold mo_ins
    split
    · rw [List.length_cons, mo_ins_len ah c r, List.length_cons]
    · rfl
theorem mo_ins_mem {ah : Nat → Bool} {c x : Nat} : ∀ {l : List Nat}, x ∈ mo_ins ah c l → x = c ∨ x ∈ l
  | [], h => Or.inl (List.mem_singleton.mp h)
  | o :: r, h => by
    unfold mo_ins at h
    split at h
    · rcases List.mem_cons.mp h with h | h
      · exact Or.inr (List.mem_cons.mpr (Or.inl h))
      · rcases mo_ins_mem h with h | h
        · exact Or.inl h
        · exact Or.inr (List.mem_cons_of_mem _ h)
    · rcases List.mem_cons.mp h with h | h
      · exact Or.inl h
      · exact Or.inr h
theorem mo_line_mem {ah : Nat → Nat → Bool} {p : Nat → Bool} {x : Nat} : ∀ {n : Nat}, x ∈ mo_line ah p n → x < n ∧ p x = true
  | 0, h => by cases h
  | n + 1, h => by
    unfold mo_line at h
    split at h
    · rename_i hp
      rcases mo_ins_mem h with h | h
      · subst h; exact ⟨Nat.lt_succ_self _, hp⟩
      · have := mo_line_mem h; exact ⟨by omega, this.2⟩
    · have := mo_line_mem h; exact ⟨by omega, this.2⟩
theorem mo_line_mono {ah : Nat → Nat → Bool} {p : Nat → Bool} {i n : Nat} (h : i ≤ n) : (mo_line ah p i).length ≤ (mo_line ah p n).length := by
  induction n with
  | zero => have : i = 0 := by omega
            subst this; exact Nat.le_refl _
  | succ n ih =>
    by_cases e : i = n + 1
    · subst e; exact Nat.le_refl _
    · have := ih (by omega)
      show _ ≤ (if p n = true then mo_ins (ah n) n (mo_line ah p n) else mo_line ah p n).length
      split
      · rw [mo_ins_len]; omega
      · exact this
theorem mo_ins_app {ah : Nat → Bool} {c : Nat} {t : List Nat} : ∀ {s : List Nat}, (∀ o ∈ s, ah o = true) → mo_ins ah c (s ++ t) = s ++ mo_ins ah c t
  | [], _ => rfl
  | o :: s, h => by
    have e : mo_ins ah c (o :: s ++ t) = if ah o = true then o :: mo_ins ah c (s ++ t) else c :: o :: (s ++ t) := rfl
    rw [e, if_pos (h o List.mem_cons_self), mo_ins_app (fun x hx => h x (List.mem_cons_of_mem _ hx))]
    rfl
/-- the row that holds such a line, over what it held -/
def mo_rowf (l : List Nat) (g : Nat → Int32) : Nat → Int32 := fun j => if j < l.length then nI (l.getD (l.length - 1 - j) 0) else g j
theorem mo_rowf_nil (g : Nat → Int32) : mo_rowf [] g = g := by funext j; simp [mo_rowf]
theorem mo_rowf_init {l : List Nat} {g : Nat → Int32} {c j : Nat} (h : j ≠ l.length) : mo_rowf l g j = mo_rowf (c :: l) g j := by
  unfold mo_rowf
  by_cases h1 : j < l.length
  · rw [if_pos h1, if_pos (by rw [List.length_cons]; omega)]
    congr 1
    rw [List.length_cons, show l.length + 1 - 1 - j = (l.length - 1 - j) + 1 by omega]
    rfl
  · rw [if_neg h1, if_neg (by rw [List.length_cons]; omega)]
theorem mo_rowf_end {s t : List Nat} {g : Nat → Int32} {c : Nat} : mo_rowf (s ++ c :: t) g t.length = nI c := by
  unfold mo_rowf
  rw [if_pos (by simp only [List.length_append, List.length_cons]; omega), List.length_append, List.length_cons, show s.length + (t.length + 1) - 1 - t.length = s.length by omega]
  congr 1
  rw [List.getD_eq_getElem?_getD, List.getElem?_append_right (Nat.le_refl _), Nat.sub_self]
  rfl
theorem mo_rowf_swap {s t : List Nat} {g : Nat → Int32} {c o j : Nat} (h1 : j ≠ t.length) (h2 : j ≠ t.length + 1) : mo_rowf (s ++ c :: o :: t) g j = mo_rowf (s ++ o :: c :: t) g j := by
  unfold mo_rowf
  have e : (s ++ c :: o :: t).length = (s ++ o :: c :: t).length := by simp
  rw [e]
  split
  · rename_i h
    congr 1
    simp only [List.length_append, List.length_cons] at h ⊢
    rw [List.getD_eq_getElem?_getD, List.getD_eq_getElem?_getD]
    congr 1
    by_cases hj : s.length + (t.length + 1 + 1) - 1 - j < s.length
    · rw [List.getElem?_append_left hj, List.getElem?_append_left hj]
    · rw [List.getElem?_append_right (by omega), List.getElem?_append_right (by omega)]
      obtain ⟨k, hk⟩ : ∃ k, s.length + (t.length + 1 + 1) - 1 - j - s.length = k + 2 := ⟨s.length + (t.length + 1 + 1) - 1 - j - s.length - 2, by omega⟩
      rw [hk]
      rfl
  · rfl
theorem vc_Comings_lineUp_0 (X : mo_X) (k : mo_F → Prop) (a0 : Nat) (i1 : Int32) (a2 : Nat) (K : mo_K) (R : Nat → Nat → Nat) (I : Nat → Nat → Int32) (L : Nat → Nat → Int64) (x : Nat) : mo_wq X cc_Comings_lineUp [5, 34] 400 (0, [some (.ref a0), some (.int i1), some (.ref a2), none, none, none], [], (K, R, I, L, x)) k = (k (5, [some (.ref a0), some (.int i1), some (.ref a2), some (.int 0), some (.int 0), none], [], (K, R, I, L, x))) := rfl
theorem vc_Comings_lineUp_5 (X : mo_X) (k : mo_F → Prop) (a0 : Nat) (i1 : Int32) (a2 : Nat) (i3 : Int32) (i4 : Int32) (K : mo_K) (R : Nat → Nat → Nat) (I : Nat → Nat → Int32) (L : Nat → Nat → Int64) (x : Nat) : mo_wq X cc_Comings_lineUp [5, 34] 400 (5, [some (.ref a0), some (.int i1), some (.ref a2), some (.int i3), some (.int i4), none], [], (K, R, I, L, x)) k = (mo_kd K a0 = 5 ∧ (((I a0 5) ≤ i4) → k (86, [some (.ref a0), some (.int i1), some (.ref a2), some (.int i3), some (.int i4), none], [.int i3], (K, R, I, L, x))) ∧ (¬ ((I a0 5) ≤ i4) → mo_kd K a0 = 5 ∧ (mo_kd K (R a0 1) = 100 ∧ vp_in i4 (mo_ln K (R a0 1))) ∧ (((I (R a0 1) i4.toNatClampNeg) = i1) → (100 ≤ mo_kd K a2 ∧ mo_kd K a2 ≤ 104) ∧ (((Int32.ofNat (mo_ln K a2)) ≤ i3) → k (5, [some (.ref a0), some (.int i1), some (.ref a2), some (.int i3), some (.int (i4 + 1)), none], [], (K, R, I, L, x))) ∧ (¬ ((Int32.ofNat (mo_ln K a2)) ≤ i3) → k (34, [some (.ref a0), some (.int i1), some (.ref a2), some (.int i3), some (.int i4), some (.int i3)], [], (K, R, I, L, x)))) ∧ (¬ ((I (R a0 1) i4.toNatClampNeg) = i1) → k (5, [some (.ref a0), some (.int i1), some (.ref a2), some (.int i3), some (.int (i4 + 1)), none], [], (K, R, I, L, x))))) := rfl
theorem vc_Comings_lineUp_34 (X : mo_X) (k : mo_F → Prop) (a0 : Nat) (i1 : Int32) (a2 : Nat) (i3 : Int32) (i4 : Int32) (i5 : Int32) (K : mo_K) (R : Nat → Nat → Nat) (I : Nat → Nat → Int32) (L : Nat → Nat → Int64) (x : Nat) : mo_wq X cc_Comings_lineUp [5, 34] 400 (34, [some (.ref a0), some (.int i1), some (.ref a2), some (.int i3), some (.int i4), some (.int i5)], [], (K, R, I, L, x)) k = (((i5 ≤ 0) → (mo_kd K a2 = 100 ∧ vp_in i5 (mo_ln K a2)) ∧ k (5, [some (.ref a0), some (.int i1), some (.ref a2), some (.int (i3 + 1)), some (.int (i4 + 1)), some (.int i5)], [], (K, R, mo_up I a2 i5.toNatClampNeg i4, L, x))) ∧ (¬ (i5 ≤ 0) → (mo_kd K a2 = 100 ∧ vp_in (i5 - 1) (mo_ln K a2)) ∧ k (48, [some (.ref a0), some (.int i1), some (.ref a2), some (.int i3), some (.int i4), some (.int i5)], [.int (I a2 (i5 - 1).toNatClampNeg), .int i4, .ref a0], (K, R, I, L, x)))) := rfl
theorem vc_Comings_lineUp_51 (X : mo_X) (k : mo_F → Prop) (a0 : Nat) (i1 : Int32) (a2 : Nat) (i3 : Int32) (i4 : Int32) (i5 : Int32) (u_0 : Int32) (K : mo_K) (R : Nat → Nat → Nat) (I : Nat → Nat → Int32) (L : Nat → Nat → Int64) (x : Nat) : mo_wq X cc_Comings_lineUp [5, 34] 400 (51, [some (.ref a0), some (.int i1), some (.ref a2), some (.int i3), some (.int i4), some (.int i5)], [.int u_0], (K, R, I, L, x)) k = (((u_0 = 0) → (mo_kd K a2 = 100 ∧ vp_in i5 (mo_ln K a2)) ∧ k (5, [some (.ref a0), some (.int i1), some (.ref a2), some (.int (i3 + 1)), some (.int (i4 + 1)), some (.int i5)], [], (K, R, mo_up I a2 i5.toNatClampNeg i4, L, x))) ∧ (¬ (u_0 = 0) → (mo_kd K a2 = 100 ∧ vp_in (i5 - 1) (mo_ln K a2)) ∧ (mo_kd K a2 = 100 ∧ vp_in i5 (mo_ln K a2)) ∧ k (34, [some (.ref a0), some (.int i1), some (.ref a2), some (.int i3), some (.int i4), some (.int (i5 + (-1)))], [], (K, R, mo_up I a2 i5.toNatClampNeg (I a2 (i5 - 1).toNatClampNeg), L, x)))) := rfl
theorem C_Comings_lineUp (l : Launch) (K : mo_K) (R : Nat → Nat → Nat) (I : Nat → Nat → Int32) (L : Nat → Nat → Int64) (a n w : Nat) (d : Int32) (h : mo_cm K R a) (hs : I a 5 = nI n) (hn : n ≤ 40) (hw : mo_kd K w = 100 ∧ mo_ln K w = 8) (hne : ∀ k, k < 5 → R a k ≠ w)
    (hlen : (mo_line (mo_ah (I (R a 2)) (I (R a 0))) (fun c => decide (I (R a 1) c = d)) n).length ≤ 8) :
    mo_D l mm_Comings_lineUp 1 [.ref a, .int d, .ref w] (K, R, I, L, 0) (some (.int (nI (mo_line (mo_ah (I (R a 2)) (I (R a 0))) (fun c => decide (I (R a 1) c = d)) n).length))) (K, R, mo_rw I w (mo_rowf (mo_line (mo_ah (I (R a 2)) (I (R a 0))) (fun c => decide (I (R a 1) c = d)) n) (I w)), L, 0) := by
  have ha : a ≠ w := fun e => by have h1 := h.1; rw [e, hw.1] at h1; exact absurd h1 (by decide)
  refine mo_D_of (by decide +kernel) (Nat.le_of_ble_eq_true rfl) (fun Ψ hΨ => ?_)
  generalize hl : mo_line (mo_ah (I (R a 2)) (I (R a 0))) (fun c => decide (I (R a 1) c = d)) = ln at hΨ hlen
  have outer : ∀ q i, i + q = n + 1 → i ≤ n → mo_J l mm_Comings_lineUp 1 0 0 false (K, R, I, L, 0) Ψ (5, [some (.ref a), some (.int d), some (.ref w), some (.int (nI (ln i).length)), some (.int (nI i)), none], [], (K, R, mo_rw I w (mo_rowf (ln i) (I w)), L, 0)) := by
    intro q
    induction q with
    | zero => intro i hi hin; exact absurd hi (by omega)
    | succ q ih =>
      intro i hi hin
      have hcl : (nI i).toNatClampNeg = i := nI_clamp (by omega)
      have hmono : (ln i).length ≤ (ln n).length := by rw [← hl]; exact mo_line_mono hin
      refine mo_J_run ok_Comings_lineUp (fun z => by cases z) [5, 34] 400 _ ?_
      rw [vc_Comings_lineUp_5, hcl, mo_rw_off ha, mo_rw_off (hne 1 (by decide)), (h.2 1 (by decide)).2, hw.2, hw.1]
      refine ⟨h.1, fun c1 => ?_, fun c1 => ⟨h.1, ⟨(h.2 1 (by decide)).1, vp_in_nI (Nat.lt_of_lt_of_le (mo_ltN hs (by omega) (by omega) c1) hn) (by omega)⟩, fun c2 => ⟨⟨by decide, by decide⟩, fun c3 => ?_, fun c3 => ?_⟩, fun c2 => ?_⟩⟩
      · have e : i = n := Nat.le_antisymm hin (mo_geN hs (by omega) (by omega) c1)
        subst e
        exact mo_ir ok_Comings_lineUp rfl rfl hΨ
      · -- the row is full: it can't be
        have hlt := mo_ltN hs (by omega) (by omega) c1
        have h8 : 8 ≤ (ln i).length := mo_geN (show Int32.ofNat 8 = nI 8 from rfl) (by decide) (by omega) c3
        have h9 : (ln (i + 1)).length ≤ (ln n).length := by rw [← hl]; exact mo_line_mono hlt
        have h10 : (ln (i + 1)).length = (ln i).length + 1 := by
          rw [← hl]
          show (if decide (I (R a 1) i = d) = true then _ else _ : List Nat).length = _
          rw [if_pos (decide_eq_true c2), mo_ins_len]
        omega
      · -- the inner loop
        have hlt := mo_ltN hs (by omega) (by omega) c1
        have h8 : (ln i).length < 8 := mo_ltN (show Int32.ofNat 8 = nI 8 from rfl) (by decide) (by omega) c3
        have hnext : ln (i + 1) = mo_ins (mo_ah (I (R a 2)) (I (R a 0)) i) i (ln i) := by
          rw [← hl]
          show (if decide (I (R a 1) i = d) = true then _ else _) = _
          rw [if_pos (decide_eq_true c2)]
        have hmem : ∀ o ∈ ln i, o < 40 := fun o ho => by
          rw [← hl] at ho
          have := (mo_line_mem ho).1
          omega
        have inner : ∀ (t s : List Nat) (f : Nat → Int32), s ++ t = ln i → (∀ o ∈ s, mo_ah (I (R a 2)) (I (R a 0)) i o = true) → (∀ j, j ≠ t.length → f j = mo_rowf (s ++ i :: t) (I w) j) → mo_J l mm_Comings_lineUp 1 0 0 false (K, R, I, L, 0) Ψ (34, [some (.ref a), some (.int d), some (.ref w), some (.int (nI (ln i).length)), some (.int (nI i)), some (.int (nI t.length))], [], (K, R, mo_rw I w f, L, 0)) := by
          intro t
          induction t with
          | nil =>
            intro s f hst hs2 hf
            refine mo_J_run ok_Comings_lineUp (fun z => by cases z) [5, 34] 400 _ ?_
            rw [vc_Comings_lineUp_34]
            refine ⟨fun _ => ⟨⟨hw.1, by rw [hw.2]; exact vp_in_nI (by decide) (by decide)⟩, ?_⟩, fun z => absurd (show nI 0 ≤ 0 by decide) z⟩
            rw [show (nI ([] : List Nat).length).toNatClampNeg = 0 from rfl, mo_up_rwr, nI_1, nI_1]
            have e1 : (ln (i + 1)).length = (ln i).length + 1 := by rw [hnext, mo_ins_len]
            have e2 : va_up f 0 (nI i) = mo_rowf (ln (i + 1)) (I w) := by
              rw [hnext, ← hst, mo_ins_app hs2]
              funext j
              by_cases ej : j = 0
              · subst ej; rw [va_up_self]; exact (mo_rowf_end (t := [])).symm
              · rw [va_up_ne _ _ ej]; exact hf j ej
            rw [e2, ← e1]
            exact mo_J_le (mo_leS (mo_leS (mo_leS (mo_leS (mo_leS (mo_leN mo_le0)))))) (ih (i + 1) (by omega) hlt)
          | cons o t iht =>
            intro s f hst hs2 hf
            have hto : t.length + 1 < 8 := by
              have := congrArg List.length hst
              rw [List.length_append, List.length_cons] at this
              omega
            have ho : o < 40 := hmem o (by rw [← hst]; simp)
            have efo : f t.length = nI o := by
              rw [hf t.length (by rw [List.length_cons]; omega), show s ++ i :: o :: t = (s ++ [i]) ++ o :: t by simp]
              exact mo_rowf_end
            have e0 : (nI (o :: t).length - 1 : Int32) = nI t.length := nI_pred t.length
            refine mo_J_run ok_Comings_lineUp (fun z => by cases z) [5, 34] 400 _ ?_
            rw [vc_Comings_lineUp_34, e0, nI_clamp (n := t.length) (by omega), mo_rw_at, efo]
            refine ⟨fun z => absurd z (nI_nle (by rw [List.length_cons]; omega) (by rw [List.length_cons]; omega)), fun _ => ⟨⟨hw.1, by rw [hw.2]; exact vp_in_nI (by omega) (by decide)⟩, ?_⟩⟩
            have hC := C_isAheadB l K R (mo_rw I w f) L a i o h (by omega) ho
            rw [mo_rw_off (hne 2 (by decide)), mo_rw_off (hne 0 (by decide))] at hC
            refine mo_fV (ci := 5) hC cd_Comings_isAhead ok_Comings_lineUp rfl (show mo_kV "GateNames$Comings" 31 mm_Comings_isAhead 2 5 = true by decide +kernel) h.1 rfl rfl (by decide) (by decide) (Nat.le_of_ble_eq_true rfl) ?_
            refine mo_J_run ok_Comings_lineUp (fun z => by cases z) [5, 34] 400 _ ?_
            show mo_wq _ cc_Comings_lineUp [5, 34] 400 (51, [some (.ref a), some (.int d), some (.ref w), some (.int (nI (ln i).length)), some (.int (nI i)), some (.int (nI (o :: t).length))], [.int (if mo_ah (I (R a 2)) (I (R a 0)) i o = true then 1 else 0)], (K, R, mo_rw I w f, L, 0)) _
            rw [vc_Comings_lineUp_51, e0, nI_clamp (n := t.length) (by omega), nI_clamp (n := (o :: t).length) (by rw [List.length_cons]; omega), mo_rw_at, efo]
            refine ⟨fun c4 => ⟨⟨hw.1, by rw [hw.2]; exact vp_in_nI (by rw [List.length_cons]; omega) (by decide)⟩, ?_⟩, fun c4 => ⟨⟨hw.1, by rw [hw.2]; exact vp_in_nI (by omega) (by decide)⟩, ⟨hw.1, by rw [hw.2]; exact vp_in_nI (by rw [List.length_cons]; omega) (by decide)⟩, ?_⟩⟩
            · have hah : mo_ah (I (R a 2)) (I (R a 0)) i o = false := by
                cases hb : mo_ah (I (R a 2)) (I (R a 0)) i o with
                | false => rfl
                | true => rw [hb, if_pos rfl] at c4; exact absurd c4 (by decide)
              rw [mo_up_rwr, nI_1, nI_1]
              have e1 : (ln (i + 1)).length = (ln i).length + 1 := by rw [hnext, mo_ins_len]
              have e3 : mo_ins (mo_ah (I (R a 2)) (I (R a 0)) i) i (o :: t) = i :: o :: t := by
                unfold mo_ins
                rw [if_neg (by rw [hah]; decide)]
              have e2 : va_up f (o :: t).length (nI i) = mo_rowf (ln (i + 1)) (I w) := by
                rw [hnext, ← hst, mo_ins_app hs2, e3]
                funext j
                by_cases ej : j = (o :: t).length
                · subst ej; rw [va_up_self]; exact mo_rowf_end.symm
                · rw [va_up_ne _ _ ej]; exact hf j ej
              rw [e2, ← e1]
              exact mo_J_le (mo_leS (mo_leS (mo_leS (mo_leS (mo_leS (mo_leN mo_le0)))))) (ih (i + 1) (by omega) hlt)
            · have hah : mo_ah (I (R a 2)) (I (R a 0)) i o = true := by
                cases hb : mo_ah (I (R a 2)) (I (R a 0)) i o with
                | true => rfl
                | false => rw [hb] at c4; exact absurd rfl c4
              rw [mo_up_rwr, show (nI (o :: t).length + (-1) : Int32) = nI t.length from pk_m1 t.length]
              refine iht (s ++ [o]) (va_up f (o :: t).length (nI o)) (by rw [← hst]; simp) (fun x hx => ?_) (fun j hj => ?_)
              · rcases List.mem_append.mp hx with hx | hx
                · exact hs2 x hx
                · rw [List.mem_singleton.mp hx]; exact hah
              · rw [show s ++ [o] ++ i :: t = s ++ o :: i :: t by simp]
                by_cases ej : j = (o :: t).length
                · subst ej
                  rw [va_up_self, show s ++ o :: i :: t = s ++ o :: (i :: t) from rfl]
                  exact (mo_rowf_end (t := i :: t)).symm
                · rw [va_up_ne _ _ ej, hf j ej]
                  exact mo_rowf_swap hj (by rw [List.length_cons] at ej; exact ej)
        exact inner (ln i) [] (mo_rowf (ln i) (I w)) rfl (fun o ho => by cases ho) (fun j hj => mo_rowf_init hj)
      · have hlt := mo_ltN hs (by omega) (by omega) c1
        have hnext : ln (i + 1) = ln i := by
          rw [← hl]
          show (if decide (I (R a 1) i = d) = true then _ else _) = _
          rw [if_neg (by rw [decide_eq_false c2]; decide)]
        have g := ih (i + 1) (by omega) hlt
        rw [hnext] at g
        rw [nI_1]
        exact g
  refine mo_J_run ok_Comings_lineUp (fun z => by cases z) [5, 34] 400 _ ?_
  show mo_wq _ cc_Comings_lineUp [5, 34] 400 (0, [some (.ref a), some (.int d), some (.ref w), none, none, none], [], (K, R, I, L, 0)) _
  rw [vc_Comings_lineUp_0]
  have g := outer (n + 1) 0 (by omega) (by omega)
  have e0 : ln 0 = [] := by rw [← hl]; rfl
  rw [e0, mo_rowf_nil, mo_rw_self] at g
  exact g

