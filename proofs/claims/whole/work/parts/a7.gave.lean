/-! A town's own facts; gave. -/
/-- nobody comes twice on a day; a name is given only by one who comes, on a day that has been; names given on a day are unlike; own names are unlike -/
def mo_fT (T : mo_Tn) : Prop := (∀ c c', c < tComs T → c' < tComs T → tCm T c = tCm T c' → tCd T c = tCd T c' → c = c') ∧ (∀ d m, d < 30 → m < 8 → tGv T d m ≠ 0 → d ≤ tTd T ∧ ∃ c, tF T (nI m) (nI d) = some c) ∧ (∀ d m m', d < 30 → m < 8 → m' < 8 → tGv T d m ≠ 0 → tGv T d m = tGv T d m' → m = m') ∧ (∀ m m', m < tMen T → m' < tMen T → tOwn T m = tOwn T m' → m = m')
theorem tB_no {x n : Nat} (h : ¬ x < n) (hx : x < 2147483648) (hn : n < 2147483648) : tB (nI x) n = none := by
  unfold tB
  rw [if_neg (fun z => h ((nI_ltI hx hn).mp z.2))]
theorem gave_r {I : Nat → Nat → Int32} {a : Nat} {T : mo_Tn} {p dd : Int32} (hv : mo_vT T) (hF : mo_fT T) : mo_oi (tGb T p dd) = (o_Model_gave I a T p dd).1 := by
  have hM := vT_tMen hv
  have hD := vT_tTd hv
  unfold tGb o_Model_gave
  cases e : tF T p dd with
  | none =>
    cases e1 : tB p (tMen T) with
    | none => rfl
    | some v =>
      cases e2 : tB dd (tTd T + 1) with
      | none => rfl
      | some d =>
        show (-1 : Int32) = nI (tGv T d v) - 1
        have b1 := tB_v (by omega) e1
        have b2 := tB_v (by omega) e2
        by_cases c : tGv T d v = 0
        · rw [c]; rfl
        · obtain ⟨_, x, hx⟩ := hF.2.1 d v (by omega) (by omega) c
          rw [← b1.2, ← b2.2, e] at hx
          cases hx
  | some c =>
    have hc := tF_lt e
    have hm := vT_tCm hv hc.1
    have hd := vT_tCd hv hc.1
    have h1 : tB p (tMen T) = some (tCm T c) := by rw [← hc.2.1]; exact tB_of hm (by omega)
    rw [h1]
    show mo_oi (tGave T (tCd T c) (tCm T c)) = (Option.elim (tB dd (tTd T + 1)) _ _ : Int32 × (Nat → Nat → Int32)).1
    by_cases ct : tCd T c < tTd T + 1
    · rw [show tB dd (tTd T + 1) = some (tCd T c) by rw [← hc.2.2]; exact tB_of ct (by omega)]
      show _ = nI (tGv T (tCd T c) (tCm T c)) - 1
      cases eg : tGave T (tCd T c) (tCm T c) with
      | none => exact (tGave_N eg).symm
      | some v => exact (tGave_S eg).symm
    · rw [show tB dd (tTd T + 1) = none by rw [← hc.2.2]; exact tB_no ct (by omega) (by omega)]
      have hz : tGv T (tCd T c) (tCm T c) = 0 := by
        by_cases z : tGv T (tCd T c) (tCm T c) = 0
        · exact z
        · have := (hF.2.1 _ _ hd (by omega) z).1
          omega
      unfold tGave
      rw [if_pos hz]
      rfl
