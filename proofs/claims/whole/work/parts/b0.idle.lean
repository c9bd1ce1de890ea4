/-! idle: the class's answers are the reference's. -/
theorem gs_bit {T : mo_Tn} {d : Int32} {k : Nat} : ∀ n, (mo_it (b_cgivenNames_4 T d) n 0 0).testBit k = true ↔ ∃ c, c < n ∧ nI (tCd T c) = d ∧ tGc T c = some k
  | 0 => by
    show (0 : Nat).testBit k = true ↔ _
    rw [Nat.zero_testBit]
    exact ⟨fun z => (by cases z), fun ⟨c, hc, _⟩ => absurd hc (Nat.not_lt_zero c)⟩
  | n + 1 => by
    have ih := gs_bit (T := T) (d := d) (k := k) n
    rw [mo_it_last, Nat.zero_add]
    have keep : ¬ (nI (tCd T n) = d ∧ tGc T n = some k) → ((mo_it (b_cgivenNames_4 T d) n 0 0).testBit k = true ↔ ∃ c, c < n + 1 ∧ nI (tCd T c) = d ∧ tGc T c = some k) := fun hn => by
      rw [ih]
      constructor
      · rintro ⟨c, hc, h⟩; exact ⟨c, by omega, h⟩
      · rintro ⟨c, hc, h⟩
        by_cases e : c = n
        · subst e; exact absurd h hn
        · exact ⟨c, by omega, h⟩
    generalize mo_it (b_cgivenNames_4 T d) n 0 0 = s at ih keep ⊢
    unfold b_cgivenNames_4
    by_cases c1 : nI (tCd T n) = d
    · rw [if_pos c1]
      cases eg : tGc T n with
      | none =>
        exact keep (fun z => by rw [eg] at z; cases z.2)
      | some v =>
        show (s ||| 2 ^ v).testBit k = true ↔ _
        rw [Nat.testBit_or, Nat.testBit_two_pow, Bool.or_eq_true, ih, decide_eq_true_iff]
        constructor
        · rintro (⟨c, hc, h⟩ | h)
          · exact ⟨c, by omega, h⟩
          · exact ⟨n, by omega, c1, by rw [eg, h]⟩
        · rintro ⟨c, hc, h⟩
          by_cases e : c = n
          · subst e
            rw [eg] at h
            exact Or.inr (Option.some.inj h.2)
          · exact Or.inl ⟨c, by omega, h⟩
    · rw [if_neg c1]; exact keep (fun z => c1 z.1)
theorem gr_bit {T : mo_Tn} (hv : mo_vT T) {d : Int32} {k : Nat} (hk : k < tNames T) : (tGs T d).testBit k = true ↔ (tGr T (nI k) d).isSome = true := by
  have hN := vT_tNames hv
  show (mo_it (b_cgivenNames_4 T d) (tComs T) 0 0).testBit k = true ↔ _
  rw [gs_bit]
  cases e : tGr T (nI k) d with
  | none =>
    constructor
    · rintro ⟨c, hc, h1, h2⟩
      exact absurd (decide_eq_true (show mo_oi (tGc T c) = nI k ∧ nI (tCd T c) = d from ⟨mo_oiS h2, h1⟩)) (by rw [ff_none e hc]; decide)
    · intro z; cases z
  | some c =>
    refine ⟨fun _ => rfl, fun _ => ?_⟩
    have hc := mo_ff_lt e
    have hp := of_decide_eq_true hc.2.1
    refine ⟨c, hc.1, hp.2, ?_⟩
    cases eg : tGc T c with
    | none => rw [mo_oiN eg] at hp; exact absurd hp.1.symm (mo_nIm rfl (by omega))
    | some w =>
      rw [mo_oiS eg] at hp
      have hw := tGc_lt hv hc.1 eg
      rw [(nI_eq (by omega) (by omega)).mp hp.1]
theorem idle_r {I : Nat → Nat → Int32} {a : Nat} {T : mo_Tn} {dd : Int32} (hv : mo_vT T) (hF : mo_fT T) : o_Gate_idle T dd = (o_Model_idle I a T dd).1 := by
  have hN := vT_tNames hv
  have hD := vT_tTd hv
  unfold o_Gate_idle o_Model_idle
  cases e : tN dd with
  | none =>
    have hz := tN_N e
    rw [show tB dd (tTd T + 1) = none by unfold tB; rw [if_neg (fun z => Int32.not_le.mpr hz z.1)]]
    rfl
  | some v =>
    have h2 := tN_S e
    show (if v ≤ tTd T then nI (mo_dif ((2 ^ (tNames T)) - 1) (tGs T (nI v))) else -1) = _
    by_cases c : v ≤ tTd T
    · rw [if_pos c, h2.2, tB_of (show v < tTd T + 1 by omega) (by omega)]
      show _ = w_Model_idle_19 T v
      unfold w_Model_idle_19
      rw [mo_it_set (p := fun n => (tBr T (nI n) v).isNone) hN (fun k s hk => by
        unfold b_Model_idle_19
        cases tBr T (nI k) v with
        | none => rfl
        | some m => rfl)]
      congr 1
      apply Nat.eq_of_testBit_eq
      intro k
      rw [mo_dif_bit, mo_bs_bit, Nat.testBit_two_pow_sub_one]
      by_cases ck : k < tNames T
      · rw [decide_eq_true ck, Bool.true_and, Bool.true_and, ← bear_r hv hF ck (d := v) (by omega)]
        have g := gr_bit hv (d := nI v) ck
        cases eg : tGr T (nI k) (nI v) with
        | none =>
          rw [eg] at g
          rw [show (tGs T (nI v)).testBit k = false from Bool.eq_false_iff.mpr (fun z => by have := g.mp z; cases this)]
          rfl
        | some x =>
          rw [eg] at g
          rw [g.mpr rfl]
          rfl
      · rw [decide_eq_false ck]
        rfl
    · rw [if_neg c, h2.2, tB_no (show ¬ v < tTd T + 1 by omega) h2.1 (by omega)]
      rfl
