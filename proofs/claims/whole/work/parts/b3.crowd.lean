/-! crowd: the class's answers are the reference's. -/
theorem fl_mono {p q : Nat → Bool} : ∀ {l : List Nat}, (∀ x ∈ l, p x = true → q x = true) → (l.filter p).length ≤ (l.filter q).length
  | [], _ => Nat.le_refl _
  | a :: l, h => by
    have ih := fl_mono (p := p) (q := q) (l := l) (fun x hx => h x (List.mem_cons_of_mem _ hx))
    by_cases c : p a = true
    · rw [List.filter_cons_of_pos c, List.filter_cons_of_pos (h a List.mem_cons_self c), List.length_cons, List.length_cons]
      omega
    · rw [List.filter_cons_of_neg c]
      by_cases c2 : q a = true
      · rw [List.filter_cons_of_pos c2, List.length_cons]; omega
      · rw [List.filter_cons_of_neg c2]; exact ih
theorem pc_mono {x y : Nat} (h : ∀ k, k < 12 → x.testBit k = true → y.testBit k = true) : mo_pc x ≤ mo_pc y := fl_mono (fun k hk => h k (List.mem_range.mp hk))
theorem in_bit {T : mo_Tn} (hv : mo_vT T) (hF : mo_fT T) {d u : Int32} {k : Nat} : (tIn T d u).testBit k = true ↔ ∃ c, c < tComs T ∧ tSp T d u c ∧ tCm T c = k := by
  rw [← in_eq hv hF]
  exact pr_bit (tComs T)
/-- a crowd that has grown has one who came then -/
theorem crowd_grow {T : mo_Tn} (hv : mo_vT T) (hF : mo_fT T) {d : Int32} {b : Nat} (hb : b < 100) (h : ∀ t, t < b → mo_pc (tIn T d (nI t)) < mo_pc (tIn T d (nI b))) (h0 : 0 < mo_pc (tIn T d (nI b))) : ∃ c, c < tComs T ∧ nI (tCd T c) = d ∧ tCi T c = b := by
  rcases Nat.eq_zero_or_pos b with z | z
  · subst z
    have : ∃ k, k < 12 ∧ (tIn T d (nI 0)).testBit k = true := Classical.byContradiction (fun hn => by
      have : mo_pc (tIn T d (nI 0)) ≤ mo_pc 0 := pc_mono (fun k hk hb => absurd ⟨k, hk, hb⟩ hn)
      have h2 : mo_pc 0 = 0 := by decide
      omega)
    obtain ⟨k, _, hk⟩ := this
    obtain ⟨c, hc, hs, _⟩ := (in_bit hv hF).mp hk
    have h1 := vT_tCi hv hc
    have h2 := vT_tCo hv hc
    refine ⟨c, hc, hs.1, ?_⟩
    have := hs.2.1
    rw [nI_ltI (by omega) (by omega)] at this
    omega
  · have hlt := h (b - 1) (by omega)
    have : ∃ k, k < 12 ∧ (tIn T d (nI b)).testBit k = true ∧ ¬ (tIn T d (nI (b - 1))).testBit k = true := Classical.byContradiction (fun hn => by
      have : mo_pc (tIn T d (nI b)) ≤ mo_pc (tIn T d (nI (b - 1))) := pc_mono (fun k hk hb => Classical.byContradiction (fun hz => hn ⟨k, hk, hb, hz⟩))
      omega)
    obtain ⟨k, _, hk, hk2⟩ := this
    obtain ⟨c, hc, hs, hm⟩ := (in_bit hv hF).mp hk
    have h1 := vT_tCi hv hc
    have h2 := vT_tCo hv hc
    refine ⟨c, hc, hs.1, ?_⟩
    have a1 := hs.2.1
    have a2 := hs.2.2
    rw [nI_ltI (by omega) (by omega)] at a1 a2
    apply Classical.byContradiction
    intro hne
    apply hk2
    refine (in_bit hv hF).mpr ⟨c, hc, ⟨hs.1, ?_, ?_⟩, hm⟩
    · rw [nI_ltI (by omega) (by omega)]; omega
    · rw [nI_ltI (by omega) (by omega)]; omega
theorem crowd_ref {T : mo_Tn} {d : Nat} : w_Model_crowd_28 T d < 100 ∧ (∀ t, t < 100 → mo_pc (tIn T (nI d) (nI t)) ≤ mo_pc (tIn T (nI d) (nI (w_Model_crowd_28 T d)))) ∧ ∀ t, t < w_Model_crowd_28 T d → mo_pc (tIn T (nI d) (nI t)) < mo_pc (tIn T (nI d) (nI (w_Model_crowd_28 T d))) := by
  unfold w_Model_crowd_28
  have := mo_it_inv (f := b_Model_crowd_28 T d) (fun i s => s ≤ i ∧ (∀ t, t < 1 + i → mo_pc (tIn T (nI d) (nI t)) ≤ mo_pc (tIn T (nI d) (nI s))) ∧ ∀ t, t < s → mo_pc (tIn T (nI d) (nI t)) < mo_pc (tIn T (nI d) (nI s))) (k := 99) (i := 0) (s := 0) ⟨Nat.le_refl _, fun t ht => by rw [show t = 0 by omega]; exact Nat.le_refl _, fun t ht => absurd ht (Nat.not_lt_zero t)⟩ (fun j s _ hj hP => by
    obtain ⟨h1, h2, h3⟩ := hP
    unfold b_Model_crowd_28
    by_cases c : mo_pc (tIn T (nI d) (nI (1 + j))) ≤ mo_pc (tIn T (nI d) (nI s))
    · rw [if_pos c]
      refine ⟨by omega, fun t ht => ?_, h3⟩
      by_cases e : t = 1 + j
      · rw [e]; exact c
      · exact h2 t (by omega)
    · rw [if_neg c]
      refine ⟨by omega, fun t ht => ?_, fun t ht => ?_⟩
      · by_cases e : t = 1 + j
        · rw [e]; exact Nat.le_refl _
        · have := h2 t (by omega); omega
      · have := h2 t (by omega); omega)
  rw [Nat.zero_add] at this
  exact ⟨by omega, fun t ht => this.2.1 t (by omega), this.2.2⟩
theorem lu_sorted {T : mo_Tn} (hv : mo_vT T) (hF : mo_fT T) {d : Int32} {i j : Nat} (hi : i < j) (hj : j < (tLU T d).length) : tCi T ((tLU T d).getD i 0) ≤ tCi T ((tLU T d).getD j 0) := by
  have hd : ∀ c c', c < tComs T → c' < tComs T → nI (tCd T c) = d → nI (tCd T c') = d → tCd T c = tCd T c' := fun c c' h1 h2 e1 e2 => by
    have := vT_tCd hv h1
    have := vT_tCd hv h2
    exact (nI_eq (by omega) (by omega)).mp (e1.trans e2.symm)
  have hp : (tLU T d).Pairwise (fun a b => tAh T a b = true) := by
    unfold tLU
    rw [List.pairwise_reverse]
    exact ln_pw hF hd (tComs T) (Nat.le_refl _)
  have := List.pairwise_iff_getElem.mp hp i j (by omega) hj hi
  rw [tAh_iff] at this
  rw [mo_getD (by omega), mo_getD hj]
  omega
theorem lu_mem {T : mo_Tn} {d : Int32} {c : Nat} (hc : c < tComs T) (e : nI (tCd T c) = d) : ∃ k, k < (tLU T d).length ∧ (tLU T d).getD k 0 = c := by
  have : c ∈ tLU T d := by
    unfold tLU
    rw [List.mem_reverse]
    exact ln_line_mem.mpr ⟨hc, decide_eq_true e⟩
  obtain ⟨k, hk, e2⟩ := List.mem_iff_getElem.mp this
  exact ⟨k, hk, by rw [mo_getD hk]; exact e2⟩
theorem crowd_cls {T : mo_Tn} (hv : mo_vT T) (hF : mo_fT T) {d : Nat} : w_Gate_crowd_41 T d = (mo_pc (tIn T (nI d) (nI (w_Model_crowd_28 T d))), w_Model_crowd_28 T d) := by
  obtain ⟨r1, r2, r3⟩ := crowd_ref (T := T) (d := d)
  generalize w_Model_crowd_28 T d = b at r1 r2 r3 ⊢
  have key := mo_it_inv (f := b_Gate_crowd_41 T d) (fun i s => i ≤ (tLU T (nI d)).length ∧ (∀ k, k < i → mo_pc (tPr T (nI d) (nI (tCi T ((tLU T (nI d)).getD k 0)))) ≤ s.1) ∧ (s = (0, 0) ∨ ∃ k0, k0 < i ∧ s = (mo_pc (tPr T (nI d) (nI (tCi T ((tLU T (nI d)).getD k0 0)))), tCi T ((tLU T (nI d)).getD k0 0)) ∧ ∀ k, k < i → tCi T ((tLU T (nI d)).getD k 0) < s.2 → mo_pc (tPr T (nI d) (nI (tCi T ((tLU T (nI d)).getD k 0)))) < s.1)) (k := (tLU T (nI d)).length) (i := 0) (s := (0, 0)) ⟨Nat.zero_le _, fun k hk => absurd hk (Nat.not_lt_zero k), Or.inl rfl⟩ (fun j s _ hj hP => by
    obtain ⟨h1, h2, h3⟩ := hP
    have hj' : j < (tLU T (nI d)).length := by omega
    unfold b_Gate_crowd_41
    by_cases c : mo_pc (tPr T (nI d) (nI (tCi T ((tLU T (nI d)).getD j 0)))) ≤ s.1
    · rw [if_pos c]
      refine ⟨by omega, fun k hk => ?_, ?_⟩
      · by_cases e : k = j
        · rw [e]; exact c
        · exact h2 k (by omega)
      · rcases h3 with h3 | ⟨k0, g1, g2, g3⟩
        · exact Or.inl h3
        · refine Or.inr ⟨k0, by omega, g2, fun k hk hlt => ?_⟩
          by_cases e : k = j
          · have := lu_sorted hv hF g1 hj'
            rw [g2, e] at hlt
            exact absurd hlt (by show ¬ _ < tCi T _; omega)
          · exact g3 k (by omega) hlt
    · rw [if_neg c]
      refine ⟨by omega, fun k hk => ?_, Or.inr ⟨j, Nat.lt_succ_self j, rfl, fun k hk hlt => ?_⟩⟩
      · by_cases e : k = j
        · rw [e]; exact Nat.le_refl _
        · have := h2 k (by omega)
          show _ ≤ mo_pc (tPr T (nI d) (nI (tCi T ((tLU T (nI d)).getD j 0))))
          omega
      · by_cases e : k = j
        · rw [e] at hlt; exact absurd hlt (Nat.lt_irrefl _)
        · have := h2 k (by omega)
          show _ < mo_pc (tPr T (nI d) (nI (tCi T ((tLU T (nI d)).getD j 0))))
          omega)
  rw [Nat.zero_add] at key
  have e : w_Gate_crowd_41 T d = mo_it (b_Gate_crowd_41 T d) (tLU T (nI d)).length 0 (0, 0) := rfl
  rw [e]
  generalize mo_it (b_Gate_crowd_41 T d) (tLU T (nI d)).length 0 (0, 0) = s at key ⊢
  obtain ⟨_, k2, k3⟩ := key
  rw [show tPr T = tIn T from funext (fun _ => funext (fun _ => in_eq hv hF))] at k2 k3
  have hex : 0 < mo_pc (tIn T (nI d) (nI b)) → ∃ k, k < (tLU T (nI d)).length ∧ tCi T ((tLU T (nI d)).getD k 0) = b := fun h0 => by
    obtain ⟨c, hc, h1, h2⟩ := crowd_grow hv hF r1 r3 h0
    obtain ⟨k, hk, e⟩ := lu_mem hc h1
    exact ⟨k, hk, by rw [e]; exact h2⟩
  rcases k3 with k3 | ⟨k0, g1, g2, g3⟩
  · rw [k3] at k2 ⊢
    have h0 : mo_pc (tIn T (nI d) (nI b)) = 0 := by
      rcases Nat.eq_zero_or_pos (mo_pc (tIn T (nI d) (nI b))) with z | z
      · exact z
      · obtain ⟨k, hk, e⟩ := hex z
        have := k2 k hk
        rw [e] at this
        exact Nat.le_zero.mp this
    have hb : b = 0 := by
      rcases Nat.eq_zero_or_pos b with z | z
      · exact z
      · have := r3 0 z
        omega
    rw [h0, hb]
  · have hc := tLU_lt g1
    have hci := vT_tCi hv hc
    have hco := vT_tCo hv hc
    have m1 := r2 (tCi T ((tLU T (nI d)).getD k0 0)) (by omega)
    rcases Nat.eq_zero_or_pos (mo_pc (tIn T (nI d) (nI b))) with z | z
    · exfalso
      have : 0 < mo_pc (tIn T (nI d) (nI (tCi T ((tLU T (nI d)).getD k0 0)))) := by
        have hm := vT_tCm hv hc
        have hM := vT_tMen hv
        have hb2 : (tIn T (nI d) (nI (tCi T ((tLU T (nI d)).getD k0 0)))).testBit (tCm T ((tLU T (nI d)).getD k0 0)) = true := (in_bit hv hF).mpr ⟨_, hc, ⟨(tLU_mem (by rw [mo_getD g1]; exact List.getElem_mem g1)).2, (by rw [nI_ltI (by omega) (by omega)]; omega), (by rw [nI_ltI (by omega) (by omega)]; omega)⟩, rfl⟩
        unfold mo_pc
        exact List.length_pos_of_mem (List.mem_filter.mpr ⟨List.mem_range.mpr (by omega), hb2⟩)
      omega
    · obtain ⟨k, hk, e⟩ := hex z
      have m2 := k2 k hk
      rw [e] at m2
      rw [g2] at m2 ⊢
      have m2 : mo_pc (tIn T (nI d) (nI b)) ≤ mo_pc (tIn T (nI d) (nI (tCi T ((tLU T (nI d)).getD k0 0)))) := m2
      have hcb : tCi T ((tLU T (nI d)).getD k0 0) = b := by
        rcases Nat.lt_trichotomy (tCi T ((tLU T (nI d)).getD k0 0)) b with w | w | w
        · have := r3 _ w
          omega
        · exact w
        · have := g3 k hk (by rw [e, g2]; exact w)
          rw [e, g2] at this
          have this : mo_pc (tIn T (nI d) (nI b)) < mo_pc (tIn T (nI d) (nI (tCi T ((tLU T (nI d)).getD k0 0)))) := this
          omega
      rw [hcb]
theorem crowd_r {R : Nat → Nat → Nat} {I I' : Nat → Nat → Int32} {g a : Nat} {T : mo_Tn} {dd w : Int32} (hv : mo_vT T) (hF : mo_fT T) : (o_Gate_crowd R I g T dd w).1 = (o_Model_crowd I' a T dd w).1 := by
  unfold o_Gate_crowd o_Model_crowd
  cases tB dd 30 with
  | none => rfl
  | some d =>
    cases tB w 2 with
    | none => rfl
    | some u =>
      show (if u = 0 then (nI (w_Gate_crowd_41 T d).1, _) else (nI (w_Gate_crowd_41 T d).2, _)).1 = (if u = 0 then (nI (mo_pc (tIn T (nI d) (nI (w_Model_crowd_28 T d)))), _) else (nI (w_Model_crowd_28 T d), _)).1
      rw [crowd_cls hv hF]
      by_cases c : u = 0
      · rw [if_pos c, if_pos c]
      · rw [if_neg c, if_neg c]
