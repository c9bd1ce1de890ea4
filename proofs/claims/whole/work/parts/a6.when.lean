/-! when and man: the class's answers are the reference's. -/
theorem tB_of {x n : Nat} (h : x < n) (hn : n < 2147483648) : tB (nI x) n = some x := by
  unfold tB
  rw [if_pos ⟨(nI_leI (a := 0) (by decide) (by omega)).mpr (Nat.zero_le _), (nI_ltI (by omega) hn).mpr h⟩, nI_clamp (by omega)]
theorem when_r {R : Nat → Nat → Nat} {I : Nat → Nat → Int32} {a : Nat} {T : mo_Tn} {p dd w : Int32} (hN : mo_now (I (R a 14)) T) : o_Gate_when T p dd w = (o_Model_when R I a T p dd w).1 := by
  have hv := now_v hN
  have hM := vT_tMen hv
  unfold o_Gate_when o_Model_when
  cases e : tF T p dd with
  | none =>
    cases e1 : tB p (tMen T) with
    | none => rfl
    | some v =>
      cases e2 : tB dd 30 with
      | none => rfl
      | some d =>
        cases e3 : tB w 2 with
        | none => rfl
        | some u =>
          show (-1 : Int32) = (Option.elim (tF T (nI v) (nI d)) _ _ : Int32 × (Nat → Nat → Int32)).1
          rw [← (tB_v (by omega) e1).2, ← (tB_v (by omega) e2).2, e]
          rfl
  | some c =>
    have hc := tF_lt e
    have h1 : tB p (tMen T) = some (tCm T c) := by rw [← hc.2.1]; exact tB_of (vT_tCm hv hc.1) (by omega)
    have h2 : tB dd 30 = some (tCd T c) := by rw [← hc.2.2]; exact tB_of (vT_tCd hv hc.1) (by omega)
    have h3 : tF T (nI (tCm T c)) (nI (tCd T c)) = some c := by rw [hc.2.1, hc.2.2]; exact e
    rw [h1, h2]
    cases e3 : tB w 2 with
    | none => rfl
    | some u =>
      have hu := (tB_v (by omega) e3).1
      show (if u = 0 then nI (tCi T c) else nI (tCo T c)) = (Option.elim (tF T (nI (tCm T c)) (nI (tCd T c))) _ _ : Int32 × (Nat → Nat → Int32)).1
      rw [h3]
      show _ = I (R a 14) (((32 + (4 * c)) + 2) + u)
      by_cases c0 : u = 0
      · rw [if_pos c0]
        exact (now_tCi hN hc.1 (by omega)).symm
      · rw [if_neg c0]
        exact (now_tCo hN hc.1 (by omega)).symm
theorem man_r {R : Nat → Nat → Nat} {I : Nat → Nat → Int32} {a : Nat} {T : mo_Tn} {x u : Nat} (hN : mo_now (I (R a 14)) T) (hx : x < tMen T) (hu : u < 3) : o_Gate_man T x u = (o_Model_man R I a T (nI x) (nI u)).1 ∧ (o_Model_man R I a T (nI x) (nI u)).2 = mo_up I a 0 0 := by
  have hv := now_v hN
  have hM := vT_tMen hv
  unfold o_Gate_man o_Model_man
  rw [tB_of hx (by omega), tB_of hu (by omega)]
  refine ⟨?_, rfl⟩
  show _ = I (R a 14) ((8 + (3 * x)) + u)
  by_cases c0 : u = 0
  · rw [if_pos c0]
    exact (now_tOwn hN hx (by omega)).symm
  · rw [if_neg c0]
    by_cases c1 : u = 1
    · rw [if_pos c1]
      exact (now_tPurse hN hx (by omega)).symm
    · rw [if_neg c1]
      exact (now_tFoes hN hx (by omega)).symm
