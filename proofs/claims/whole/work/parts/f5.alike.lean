/-! Questions alike. -/
theorem getD_lt {l : List Nat} (hl : l.Pairwise (fun a b => a < b)) {j j' : Nat} (h : j < j') (h2 : j' < l.length) : l.getD j 0 < l.getD j' 0 := by
  have e1 : l.getD j 0 = l[j]'(by omega) := by simp [List.getD, List.getElem?_eq_getElem (show j < l.length by omega)]
  have e2 : l.getD j' 0 = l[j'] := by simp [List.getD, List.getElem?_eq_getElem h2]
  rw [e1, e2]
  exact List.pairwise_iff_getElem.mp hl j j' (by omega) h2 h
theorem tGS_inj {T : mo_Tn} (hv : mo_vT T) {j j' : Nat} (hj : j < (tGS T).length) (hj' : j' < (tGS T).length) (e : nI ((tGS T).getD j 0) = nI ((tGS T).getD j' 0)) : j = j' := by
  have hl : (tGS T).Pairwise (fun a b => a < b) := List.Pairwise.filter _ List.pairwise_lt_range
  have hb := vT_tMen hv
  have h1 := tGS_lt hj
  have h2 := tGS_lt hj'
  have e2 := (nI_eq (by omega) (by omega)).mp e
  apply Classical.byContradiction
  intro hne
  by_cases c : j < j'
  · have := getD_lt hl c hj'; omega
  · have := getD_lt hl (show j' < j by omega) hj; omega
theorem qm_r {T : mo_Tn} (hv : mo_vT T) (hF : mo_fT T) {q : Int32} : w_Model_questions_13 T q = tPm T q := by
  have hl := tNS_le hv
  have key := mo_it_inv (f := b_Model_questions_13 T q) (fun i s => (∀ v, s = some v → v < i ∧ nI ((tGS T).getD v 0) = q) ∧ (s = none → ∀ j, j < i → ¬ nI ((tGS T).getD j 0) = q)) (k := (tNS T).length) (i := 0) (s := none) ⟨fun v e => (by cases e), fun _ j hj => absurd hj (Nat.not_lt_zero j)⟩ (fun i s _ hi hP => by
    obtain ⟨h1, h2⟩ := hP
    unfold b_Model_questions_13
    cases s with
    | none =>
      show (∀ v, (if nI ((tGS T).getD i 0) = q then some i else (none : Option Nat)) = some v → _) ∧ ((if nI ((tGS T).getD i 0) = q then some i else (none : Option Nat)) = none → _)
      by_cases c : nI ((tGS T).getD i 0) = q
      · rw [if_pos c]
        exact ⟨fun v e => by cases e; exact ⟨by omega, c⟩, fun e => by cases e⟩
      · rw [if_neg c]
        refine ⟨fun v e => (by cases e), fun _ j hj => ?_⟩
        by_cases d : j = i
        · rw [d]; exact c
        · exact h2 rfl j (by omega)
    | some v1 =>
      show (∀ v, (if nI ((tGS T).getD i 0) = q then some i else some v1) = some v → _) ∧ ((if nI ((tGS T).getD i 0) = q then some i else some v1) = none → _)
      by_cases c : nI ((tGS T).getD i 0) = q
      · rw [if_pos c]
        exact ⟨fun v e => by cases e; exact ⟨by omega, c⟩, fun e => by cases e⟩
      · rw [if_neg c]
        refine ⟨fun v e => ?_, fun e => (by cases e)⟩
        have := h1 v e
        exact ⟨by omega, this.2⟩)
  rw [Nat.zero_add] at key
  have key2 : (∀ v, w_Model_questions_13 T q = some v → v < (tNS T).length ∧ nI ((tGS T).getD v 0) = q) ∧ (w_Model_questions_13 T q = none → ∀ j, j < (tNS T).length → ¬ nI ((tGS T).getD j 0) = q) := key
  have ht : tPm T q = mo_ff (fun j => decide (nI ((tGS T).getD j 0) = q)) (tNS T).length := by
    unfold tPm
    rw [op58_r hv hF, tGz_r hv hF]
  rw [ht]
  cases e : mo_ff (fun j => decide (nI ((tGS T).getD j 0) = q)) (tNS T).length with
  | none =>
    cases e2 : w_Model_questions_13 T q with
    | none => rfl
    | some v =>
      have h1 := key2.1 v e2
      have h2 := ff_none e h1.1
      exact absurd h1.2 (of_decide_eq_false h2)
  | some t =>
    have h1 := mo_ff_lt e
    have h1' : nI ((tGS T).getD t 0) = q := of_decide_eq_true h1.2.1
    cases e2 : w_Model_questions_13 T q with
    | none => exact absurd h1' (key2.2 e2 t h1.1)
    | some v =>
      have h2 := key2.1 v e2
      rw [tGS_inj hv (show v < (tGS T).length by omega) (show t < (tGS T).length by omega) (by rw [h2.2, h1'])]
theorem w57_r {K : mo_K} {R : Nat → Nat → Nat} {I : Nat → Nat → Int32} {a : Nat} {T : mo_Tn} (h : mo_md K R a) : (∀ p, p ≠ R a 38 → w_Model_questions_57 R I a T p = mo_lw (mo_lw (mo_l1 (mo_up I a 0 0) a 37 (R a 34) (tNS T)) (R a 35) (tGS T)) (R a 36) (tCS T) p) ∧ ∀ k, k < 256 → w_Model_questions_57 R I a T (R a 38) k = 0 := by
  have key := mo_it_inv (f := b_Model_questions_57 R a) (fun i s => (∀ p, p ≠ R a 38 → s p = mo_lw (mo_lw (mo_l1 (mo_up I a 0 0) a 37 (R a 34) (tNS T)) (R a 35) (tGS T)) (R a 36) (tCS T) p) ∧ ∀ k, k < i → s (R a 38) k = 0) (k := 256) (i := 0) (s := mo_lw (mo_lw (mo_l1 (mo_up I a 0 0) a 37 (R a 34) (tNS T)) (R a 35) (tGS T)) (R a 36) (tCS T)) ⟨fun _ _ => rfl, fun k hk => absurd hk (Nat.not_lt_zero k)⟩ (fun i s _ _ hP => by
    unfold b_Model_questions_57
    refine ⟨fun p hp => by rw [mo_upR hp]; exact hP.1 p hp, fun k hk => ?_⟩
    by_cases c : k = i
    · rw [c, mo_upA]; decide
    · rw [mo_upK _ _ _ c]; exact hP.2 k (by omega))
  rw [Nat.zero_add] at key
  exact key
theorem questions_r {K : mo_K} {R R' : Nat → Nat → Nat} {I I' : Nat → Nat → Int32} {L L' : Nat → Nat → Int64} {g a : Nat} {T : mo_Tn} {q : Int32} (h : mo_md K R' a) (hv : mo_vT T) (hF : mo_fT T) (hS : mo_sT T) : (o_Gate_questions R I L g T q).1 = (o_Model_questions R' I' L' a T q).1 := by
  have hn8 := tNS_len hv
  have hp8 := mo_p8 hn8
  have hp := Nat.two_pow_pos (tNS T).length
  unfold o_Gate_questions o_Model_questions
  rw [qm_r hv hF]
  cases e : tPm T q with
  | none => rfl
  | some v =>
    have hv2 : v < (tNS T).length := by
      have := (mo_ff_lt e).1
      rw [tGz_r hv hF] at this
      exact this
    show (if tAhd R I g T (2 ^ tGz T - 1) = 0 then _ else _ : Int32 × (Nat → Nat → Int32) × (Nat → Nat → Int64)).1 = (if tHo (tNS T).length (tCS T) (-1) 0 = 0 then _ else _ : Int32 × (Nat → Nat → Int32) × (Nat → Nat → Int64)).1
    rw [holds_r hv hF hS]
    by_cases c : tHo (tNS T).length (tCS T) (-1) 0 = 0
    · rw [if_pos c, c, if_pos (show nI 0 = 0 from rfl)]
    · have hlt := tHo_lt hn8 (tCS T) (-1) 0
      rw [if_neg c, if_neg (show ¬ nI (tHo (tNS T).length (tCS T) (-1) 0) = 0 from fun z => c ((nI_eq (b := 0) (by omega) (by omega)).mp z))]
      show (o_Guess_fewestAbout R (tOP R I g T) L g (tGz T) (tMy T) (w_Guess_open_4 T).2 v).1 = nI (w_Model_questions_144 R' I' a T v)
      unfold o_Guess_fewestAbout
      show nI (w_Guess_fewestAbout_80 R (tOP R I g T) L g (tGz T) (tMy T) (w_Guess_open_4 T).2 v) = _
      refine congrArg nI ?_
      rw [tGz_r hv hF, op4_r hv hF]
      generalize hn : (tNS T).length = n at hn8 hp8 hp hv2
      have hb : (w_Guess_fewestAbout_14 R (tOP R I g T) L g n (tMy T) v).1 = w_Model_questions_96 R' I' a T v := by
        have f1 := (fewest_r (R := R) (I := tOP R I g T) (L := L) (g := g) (n := n) (ms := tMy T) (z := v) (2 ^ n) (Nat.le_refl _)).2
        have f2 : (w_Guess_fewestAbout_14 R (tOP R I g T) L g n (tMy T) v).1 = (mo_it (b_Guess_fewestAbout_14 R (tOP R I g T) L g n (tMy T) v) (2 ^ n) 0 (2 ^ n - 1, tOP R I g T (R (R g 4) 7))).1 := rfl
        rw [f2, f1, fewest_eq hn8]
        unfold w_Model_questions_96
        rw [hn]
        refine mo_it_congr (fun j _ hj t => ?_)
        have hj2 : j < 2 ^ n := by omega
        have hms : ∀ i k, i < n → k < n → (tMy T i).testBit k = ((fun k => (tCS T).getD k 0) k).testBit i := fun i k hi hk => may_r hv hF hS (by omega) (by omega)
        have va := vague_amb (R := R) (L := L) (g := g) hn8 hms hj2 hv2
        have w57 := w57_r (I := I') (T := T) h
        have hoI : oI R' a n (fun k => (tCS T).getD k 0) 0 0 (w_Model_questions_57 R' I' a T) := by
          refine ⟨?_, fun k hk => ?_, Nat.two_pow_pos _, fun k => k, fun k hk => absurd hk (Nat.not_lt_zero k), fun j hj hb => ?_⟩
          · rw [w57.1 a (md_na h).1, mo_lwR (mo_nekd h.1 (mo_mk36 h) (by decide)), mo_lwR (mo_nekd h.1 (mo_mk35 h) (by decide)), ← hn]
            exact mo_l1C _ _ _ _ _
          · rw [w57.1 _ (md_ne h).2.2.2.1]
            exact mo_lwA (by have := tNS_le hv; rw [tCS_len]; omega)
          · rw [Nat.zero_testBit] at hb; cases hb
        have hcs : ∀ k, k < n → (fun k => (tCS T).getD k 0) k < 2 ^ n := by rw [← hn]; exact cs_lt hv
        have oa := oA_all h hv2 hn8 hcs hj2 hoI (w57.2 j (by omega))
        show tFb2 _ t j = b_Model_questions_96 R' I' a T v j t
        unfold tFb2 b_Model_questions_96
        rw [hn]
        by_cases d : amb n (fun k j => ((fun k => (tCS T).getD k 0) k).testBit j) v j
        · rw [if_pos (va.mpr d), if_neg (oa.mpr d)]
        · rw [if_neg (fun z => d (va.mp z)), if_pos (Classical.byContradiction (fun z => d (oa.mp z)))]
          by_cases d2 : mo_pc j < mo_pc t
          · rw [if_pos d2, if_neg (by omega)]
          · rw [if_neg d2, if_pos (by omega)]
      unfold w_Guess_fewestAbout_80 w_Model_questions_144
      rw [hn]
      refine mo_it_congr (fun j _ hj t => ?_)
      unfold b_Guess_fewestAbout_80 b_Model_questions_144
      rw [hb]
