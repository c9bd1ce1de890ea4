/-! The line of comers is the same for both; comer. -/
theorem ln_uniq {lt : Nat → Nat → Prop} (ha : ∀ a b, lt a b → ¬ lt b a) : ∀ {l1 l2 : List Nat}, l1.Pairwise lt → l2.Pairwise lt → (∀ x, x ∈ l1 ↔ x ∈ l2) → l1 = l2
  | [], [], _, _, _ => rfl
  | [], b :: l2, _, _, h => absurd ((h b).mpr List.mem_cons_self) (by simp)
  | a :: l1, [], _, _, h => absurd ((h a).mp List.mem_cons_self) (by simp)
  | a :: l1, b :: l2, h1, h2, h => by
    rw [List.pairwise_cons] at h1 h2
    have e : a = b := Classical.byContradiction (fun hne => by
      have m1 : a ∈ l2 := by
        rcases List.mem_cons.mp ((h a).mp List.mem_cons_self) with z | z
        · exact absurd z hne
        · exact z
      have m2 : b ∈ l1 := by
        rcases List.mem_cons.mp ((h b).mpr List.mem_cons_self) with z | z
        · exact absurd z.symm hne
        · exact z
      exact ha _ _ (h1.1 b m2) (h2.1 a m1))
    subst e
    rw [ln_uniq ha h1.2 h2.2 (fun x => by
      constructor
      · intro hx
        rcases List.mem_cons.mp ((h x).mp (List.mem_cons_of_mem _ hx)) with z | z
        · subst z
          exact absurd (h1.1 x hx) (ha _ _ (h1.1 x hx))
        · exact z
      · intro hx
        rcases List.mem_cons.mp ((h x).mpr (List.mem_cons_of_mem _ hx)) with z | z
        · subst z
          exact absurd (h2.1 x hx) (ha _ _ (h2.1 x hx))
        · exact z)]
theorem ln_ins_mem {ah : Nat → Bool} {c x : Nat} : ∀ {l : List Nat}, x ∈ mo_ins ah c l ↔ x = c ∨ x ∈ l
  | [] => by show x ∈ [c] ↔ _; simp
  | o :: r => by
    have ih := ln_ins_mem (ah := ah) (c := c) (x := x) (l := r)
    show x ∈ (if ah o = true then o :: mo_ins ah c r else c :: o :: r) ↔ _
    by_cases h : ah o = true
    · rw [if_pos h, List.mem_cons, ih, List.mem_cons]
      constructor
      · rintro (z | z | z)
        · exact Or.inr (Or.inl z)
        · exact Or.inl z
        · exact Or.inr (Or.inr z)
      · rintro (z | z | z)
        · exact Or.inr (Or.inl z)
        · exact Or.inl z
        · exact Or.inr (Or.inr z)
    · rw [if_neg h, List.mem_cons]
theorem ln_line_mem {ah : Nat → Nat → Bool} {p : Nat → Bool} {x : Nat} : ∀ {n : Nat}, x ∈ mo_line ah p n ↔ x < n ∧ p x = true
  | 0 => ⟨fun h => (by cases h), fun h => absurd h.1 (Nat.not_lt_zero x)⟩
  | n + 1 => by
    have ih := ln_line_mem (ah := ah) (p := p) (x := x) (n := n)
    show x ∈ (if p n = true then mo_ins (ah n) n (mo_line ah p n) else mo_line ah p n) ↔ _
    by_cases h : p n = true
    · rw [if_pos h, ln_ins_mem, ih]
      constructor
      · rintro (z | z)
        · subst z; exact ⟨Nat.lt_succ_self _, h⟩
        · exact ⟨by omega, z.2⟩
      · rintro ⟨z1, z2⟩
        by_cases e : x = n
        · exact Or.inl e
        · exact Or.inr ⟨by omega, z2⟩
    · rw [if_neg h, ih]
      constructor
      · rintro ⟨z1, z2⟩; exact ⟨by omega, z2⟩
      · rintro ⟨z1, z2⟩
        refine ⟨?_, z2⟩
        have : x ≠ n := fun e => h (e ▸ z2)
        omega
theorem ln_ins_pw {lt : Nat → Nat → Bool} (tr : ∀ a b c, lt a b = true → lt b c = true → lt a c = true) {c : Nat} : ∀ {l : List Nat}, l.Pairwise (fun a b => lt b a = true) → (∀ o ∈ l, lt c o = true ∨ lt o c = true) → (mo_ins (lt c) c l).Pairwise (fun a b => lt b a = true)
  | [], _, _ => List.pairwise_singleton _ _
  | o :: r, h, ht => by
    rw [List.pairwise_cons] at h
    show List.Pairwise _ (if lt c o = true then o :: mo_ins (lt c) c r else c :: o :: r)
    by_cases e : lt c o = true
    · rw [if_pos e, List.pairwise_cons]
      refine ⟨fun x hx => ?_, ln_ins_pw tr h.2 (fun x hx => ht x (List.mem_cons_of_mem _ hx))⟩
      rcases ln_ins_mem.mp hx with z | z
      · subst z; exact e
      · exact h.1 x z
    · rw [if_neg e, List.pairwise_cons]
      have hoc : lt o c = true := by
        rcases ht o List.mem_cons_self with z | z
        · exact absurd z e
        · exact z
      refine ⟨fun x hx => ?_, List.pairwise_cons.mpr h⟩
      rcases List.mem_cons.mp hx with z | z
      · subst z; exact hoc
      · exact tr _ _ _ (h.1 x z) hoc
theorem tAh_iff {T : mo_Tn} {c o : Nat} : tAh T c o = true ↔ tCi T c < tCi T o ∨ (tCi T c = tCi T o ∧ tCm T c < tCm T o) := decide_eq_true_iff
theorem ln_pw {T : mo_Tn} (hF : mo_fT T) {d : Int32} (hd : ∀ c c', c < tComs T → c' < tComs T → nI (tCd T c) = d → nI (tCd T c') = d → tCd T c = tCd T c') : ∀ n, n ≤ tComs T → (mo_line (tAh T) (fun c => decide (nI (tCd T c) = d)) n).Pairwise (fun a b => tAh T b a = true)
  | 0, _ => List.Pairwise.nil
  | n + 1, hn => by
    have ih := ln_pw hF hd n (by omega)
    show List.Pairwise _ (if decide (nI (tCd T n) = d) = true then mo_ins (tAh T n) n (mo_line (tAh T) (fun c => decide (nI (tCd T c) = d)) n) else mo_line (tAh T) (fun c => decide (nI (tCd T c) = d)) n)
    by_cases e : nI (tCd T n) = d
    · rw [if_pos (decide_eq_true e)]
      refine ln_ins_pw (fun a b c h1 h2 => ?_) ih (fun o ho => ?_)
      · rw [tAh_iff] at h1 h2 ⊢
        omega
      · have h1 := ln_line_mem.mp ho
        have h2 := of_decide_eq_true h1.2
        have h3 : tCm T n ≠ tCm T o := fun z => by
          have := hF.1 n o (by omega) (by omega) z (hd n o (by omega) (by omega) e h2)
          omega
        rw [tAh_iff, tAh_iff]
        omega
    · rw [if_neg (fun z => e (of_decide_eq_true z))]
      exact ih
theorem line_r {T : mo_Tn} (hv : mo_vT T) (hF : mo_fT T) (d : Int32) : (tLU T d).map (tCm T) = tLine T d := by
  have hM := vT_tMen hv
  have hd : ∀ c c', c < tComs T → c' < tComs T → nI (tCd T c) = d → nI (tCd T c') = d → tCd T c = tCd T c' := fun c c' h1 h2 e1 e2 => by
    have := vT_tCd hv h1
    have := vT_tCd hv h2
    exact (nI_eq (by omega) (by omega)).mp (e1.trans e2.symm)
  have tf : ∀ c, c < tComs T → nI (tCd T c) = d → tF T (nI (tCm T c)) d = some c := fun c hc e => by
    have := tF_is hv hF hc
    rw [e] at this
    exact this
  refine ln_uniq (lt := fun m m' => ∃ c c', tF T (nI m) d = some c ∧ tF T (nI m') d = some c' ∧ tAh T c c' = true) ?_ ?_ ?_ ?_
  · rintro a b ⟨c, c', h1, h2, h3⟩ ⟨e, e', g1, g2, g3⟩
    rw [h1] at g2
    rw [h2] at g1
    cases g1
    cases g2
    rw [tAh_iff] at h3 g3
    omega
  · rw [List.pairwise_map]
    unfold tLU
    rw [List.pairwise_reverse]
    refine List.Pairwise.imp_of_mem ?_ (ln_pw hF hd (tComs T) (Nat.le_refl _))
    intro a b ha hb hab
    have h1 := ln_line_mem.mp ha
    have h2 := ln_line_mem.mp hb
    exact ⟨b, a, tf b h2.1 (of_decide_eq_true h2.2), tf a h1.1 (of_decide_eq_true h1.2), hab⟩
  · rw [tLine_eq, List.pairwise_flatMap]
    constructor
    · intro t _
      refine List.Pairwise.imp_of_mem ?_ (List.Pairwise.filter _ (List.pairwise_lt_range (n := tMen T)))
      intro a b ha hb hab
      have h1 := List.mem_filter.mp ha
      have h2 := List.mem_filter.mp hb
      have k1 := List.mem_range.mp h1.1
      have k2 := List.mem_range.mp h2.1
      have g1 := h1.2
      have g2 := h2.2
      unfold tAt at g1 g2
      cases e1 : tF T (nI a) d with
      | none => rw [e1] at g1; cases g1
      | some c =>
        cases e2 : tF T (nI b) d with
        | none => rw [e2] at g2; cases g2
        | some c' =>
          rw [e1] at g1
          rw [e2] at g2
          have g1 : tCi T c = t := of_decide_eq_true g1
          have g2 : tCi T c' = t := of_decide_eq_true g2
          refine ⟨c, c', rfl, rfl, tAh_iff.mpr (Or.inr ⟨by omega, ?_⟩)⟩
          have m1 := tF_lt e1
          have m2 := tF_lt e2
          have m3 := vT_tCm hv m1.1
          have m4 := vT_tCm hv m2.1
          have n1 := (nI_eq (by omega) (by omega)).mp m1.2.1
          have n2 := (nI_eq (by omega) (by omega)).mp m2.2.1
          omega
    · refine List.Pairwise.imp ?_ (List.pairwise_lt_range (n := 100))
      intro t t' htt a ha b hb
      have h1 := List.mem_filter.mp ha
      have h2 := List.mem_filter.mp hb
      have g1 := h1.2
      have g2 := h2.2
      unfold tAt at g1 g2
      cases e1 : tF T (nI a) d with
      | none => rw [e1] at g1; cases g1
      | some c =>
        cases e2 : tF T (nI b) d with
        | none => rw [e2] at g2; cases g2
        | some c' =>
          rw [e1] at g1
          rw [e2] at g2
          have g1 : tCi T c = t := of_decide_eq_true g1
          have g2 : tCi T c' = t' := of_decide_eq_true g2
          exact ⟨c, c', rfl, rfl, tAh_iff.mpr (Or.inl (by omega))⟩
  · intro m
    rw [tLine_mem hv, List.mem_map]
    constructor
    · rintro ⟨c, hc, e⟩
      have h1 := tLU_mem hc
      subst e
      exact ⟨vT_tCm hv h1.1, c, tf c h1.1 h1.2⟩
    · rintro ⟨hm, c, e⟩
      have h1 := tF_lt e
      have h2 := vT_tCm hv h1.1
      refine ⟨c, ?_, (nI_eq (by omega) (by omega)).mp h1.2.1⟩
      unfold tLU
      rw [List.mem_reverse]
      exact ln_line_mem.mpr ⟨h1.1, decide_eq_true h1.2.2⟩
theorem line_len {T : mo_Tn} (hv : mo_vT T) (hF : mo_fT T) (d : Int32) : (tLU T d).length = (tLine T d).length := by rw [← line_r hv hF d, List.length_map]
theorem line_at {T : mo_Tn} (hv : mo_vT T) (hF : mo_fT T) {d : Int32} {k : Nat} (hk : k < (tLU T d).length) : tCm T ((tLU T d).getD k 0) = (tLine T d).getD k 0 := by
  rw [← line_r hv hF d, mo_getD hk, mo_getD (by rw [List.length_map]; exact hk), List.getElem_map]
theorem line_vL {T : mo_Tn} (hv : mo_vT T) (hF : mo_fT T) : mo_vL T := fun d => by
  rw [line_len hv hF d]
  exact tLine_len T d
theorem comer_r {R R' : Nat → Nat → Nat} {I I' : Nat → Nat → Int32} {g a : Nat} {T : mo_Tn} {dd p : Int32} (hv : mo_vT T) (hF : mo_fT T) : (o_Gate_comer R I g T dd p).1 = (o_Model_comer R' I' a T dd p).1 := by
  unfold o_Gate_comer o_Model_comer
  cases tN p with
  | none =>
    cases tB dd 30 with
    | none => rfl
    | some d =>
      show (if p = -1 then (nI (tLU T (nI d)).length, _) else ((-1 : Int32), _)).1 = (if p = -1 then (nI (tLine T (nI d)).length, _) else ((-1 : Int32), _)).1
      by_cases c : p = -1
      · rw [if_pos c, if_pos c]
        show nI _ = nI _
        rw [line_len hv hF]
      · rw [if_neg c, if_neg c]
  | some v =>
    cases tB dd 30 with
    | none => rfl
    | some d =>
      show (if (tLU T (nI d)).length ≤ v then ((-1 : Int32), _) else (nI (tCm T ((tLU T (nI d)).getD v 0)), _)).1 = (if (tLine T (nI d)).length ≤ v then ((-1 : Int32), _) else (nI ((tLine T (nI d)).getD v 0), _)).1
      rw [line_len hv hF]
      by_cases c : (tLine T (nI d)).length ≤ v
      · rw [if_pos c, if_pos c]
      · rw [if_neg c, if_neg c]
        show nI _ = nI _
        rw [line_at hv hF (by rw [line_len hv hF]; omega)]
