/-! inTown: the class's answers are the reference's. -/
/-- a coming that spans a minute of a day -/
def tSp (T : mo_Tn) (d u : Int32) (c : Nat) : Prop := nI (tCd T c) = d ∧ ¬ u < nI (tCi T c) ∧ ¬ nI (tCo T c) < u
theorem pr_bit {T : mo_Tn} {d u : Int32} {k : Nat} : ∀ n, (mo_it (b_cpresent_5 T d u) n 0 0).testBit k = true ↔ ∃ c, c < n ∧ tSp T d u c ∧ tCm T c = k
  | 0 => by
    show (0 : Nat).testBit k = true ↔ _
    rw [Nat.zero_testBit]
    exact ⟨fun z => (by cases z), fun ⟨c, hc, _⟩ => absurd hc (Nat.not_lt_zero c)⟩
  | n + 1 => by
    have ih := pr_bit (T := T) (d := d) (u := u) (k := k) n
    rw [mo_it_last, Nat.zero_add]
    have keep : ¬ tSp T d u n → ((mo_it (b_cpresent_5 T d u) n 0 0).testBit k = true ↔ ∃ c, c < n + 1 ∧ tSp T d u c ∧ tCm T c = k) := fun hn => by
      rw [ih]
      constructor
      · rintro ⟨c, hc, h⟩; exact ⟨c, by omega, h⟩
      · rintro ⟨c, hc, h⟩
        by_cases e : c = n
        · subst e; exact absurd h.1 hn
        · exact ⟨c, by omega, h⟩
    generalize mo_it (b_cpresent_5 T d u) n 0 0 = s at ih keep ⊢
    unfold b_cpresent_5
    by_cases c1 : nI (tCd T n) = d
    · rw [if_pos c1]
      by_cases c2 : u < nI (tCi T n)
      · rw [if_pos c2]; exact keep (fun z => z.2.1 c2)
      · rw [if_neg c2]
        by_cases c3 : nI (tCo T n) < u
        · rw [if_pos c3]; exact keep (fun z => z.2.2 c3)
        · rw [if_neg c3, Nat.testBit_or, Nat.testBit_two_pow, Bool.or_eq_true, ih, decide_eq_true_iff]
          constructor
          · rintro (⟨c, hc, h⟩ | h)
            · exact ⟨c, by omega, h⟩
            · exact ⟨n, by omega, ⟨c1, c2, c3⟩, h⟩
          · rintro ⟨c, hc, h⟩
            by_cases e : c = n
            · subst e; exact Or.inr h.2
            · exact Or.inl ⟨c, by omega, h⟩
    · rw [if_neg c1]; exact keep (fun z => c1 z.1)
theorem tF_is {T : mo_Tn} (hv : mo_vT T) (hF : mo_fT T) {c : Nat} (hc : c < tComs T) : tF T (nI (tCm T c)) (nI (tCd T c)) = some c := by
  have hM := vT_tMen hv
  cases e : tF T (nI (tCm T c)) (nI (tCd T c)) with
  | none => exact absurd (decide_eq_true (show nI (tCm T c) = nI (tCm T c) ∧ nI (tCd T c) = nI (tCd T c) from ⟨rfl, rfl⟩)) (by rw [ff_none e hc]; decide)
  | some c2 =>
    have h2 := tF_lt e
    have m1 := vT_tCm hv hc
    have m2 := vT_tCm hv h2.1
    have d1 := vT_tCd hv hc
    have d2 := vT_tCd hv h2.1
    rw [hF.1 c2 c h2.1 hc ((nI_eq (by omega) (by omega)).mp h2.2.1) ((nI_eq (by omega) (by omega)).mp h2.2.2)]
theorem in_eq {T : mo_Tn} (hv : mo_vT T) (hF : mo_fT T) {d u : Int32} : tPr T d u = tIn T d u := by
  have hM := vT_tMen hv
  apply Nat.eq_of_testBit_eq
  intro k
  apply Bool.eq_iff_iff.mpr
  unfold tIn
  rw [mo_bs_bit]
  show (mo_it (b_cpresent_5 T d u) (tComs T) 0 0).testBit k = true ↔ _
  rw [pr_bit, Bool.and_eq_true, decide_eq_true_iff, Bool.not_eq_true', decide_eq_false_iff_not]
  constructor
  · rintro ⟨c, hc, hs, e⟩
    subst e
    refine ⟨vT_tCm hv hc, ?_⟩
    unfold o_Model_isThere
    rw [← hs.1, tF_is hv hF hc]
    show ¬ (if mo_isIn u (nI (tCi T c)) (nI (tCo T c)) = 0 then (0 : Int32) else 1) = 0
    unfold mo_isIn
    rw [if_neg hs.2.1, if_neg hs.2.2, if_neg (by decide)]
    decide
  · rintro ⟨hk, hz⟩
    unfold o_Model_isThere at hz
    cases e : tF T (nI k) d with
    | none => rw [e] at hz; exact absurd rfl hz
    | some c =>
      rw [e] at hz
      have hc := tF_lt e
      have m1 := vT_tCm hv hc.1
      refine ⟨c, hc.1, ⟨hc.2.2, ?_, ?_⟩, (nI_eq (by omega) (by omega)).mp hc.2.1⟩
      · intro z
        apply hz
        show (if mo_isIn u (nI (tCi T c)) (nI (tCo T c)) = 0 then (0 : Int32) else 1) = 0
        unfold mo_isIn
        rw [if_pos z, if_pos rfl]
      · intro z
        apply hz
        show (if mo_isIn u (nI (tCi T c)) (nI (tCo T c)) = 0 then (0 : Int32) else 1) = 0
        unfold mo_isIn
        by_cases z1 : u < nI (tCi T c)
        · rw [if_pos z1, if_pos rfl]
        · rw [if_neg z1, if_pos z, if_pos rfl]
theorem inTown_r {I : Nat → Nat → Int32} {a : Nat} {T : mo_Tn} {dd u : Int32} (hv : mo_vT T) (hF : mo_fT T) : o_Gate_inTown T dd u = (o_Model_inTown I a T dd u).1 := by
  unfold o_Gate_inTown o_Model_inTown
  cases e0 : tB dd 30 with
  | none => cases tN u <;> rfl
  | some d =>
    have b0 := tB_v (by omega) e0
    cases e : tN u with
    | none =>
      have hz := tN_N e
      show (-1 : Int32) = (Option.elim (tB u 100) _ _ : Int32 × (Nat → Nat → Int32)).1
      rw [show tB u 100 = none by unfold tB; rw [if_neg (fun z => Int32.not_le.mpr hz z.1)]]
      rfl
    | some v =>
      have h2 := tN_S e
      show (if v < 100 then nI (tPr T (nI d) (nI v)) else -1) = (Option.elim (tB u 100) _ _ : Int32 × (Nat → Nat → Int32)).1
      by_cases c : v < 100
      · rw [if_pos c, h2.2, tB_of c (by omega), in_eq hv hF]
        exact (o_thoseIn_eq hv _ _).symm
      · rw [if_neg c, h2.2, tB_no c h2.1 (by omega)]
        rfl
