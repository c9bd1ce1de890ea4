/-! Fits asked, and looked through. -/
theorem sr_all : (List.range 64).all (fun k => decide ((((Int32.toInt64 (nI k)).toUInt64 &&& Int64.toUInt64 63) % 64 : UInt64).toBitVec = BitVec.ofNat 64 k)) = true := by decide +kernel
theorem lbt_sr {s : Int64} {k : Nat} (hk : k < 64) : (lg_cmp ((((Int64.toUInt64 s) >>> (((Int32.toInt64 (nI k)).toUInt64) &&& (Int64.toUInt64 63))).toInt64) &&& 1) 0 = 0) ↔ mo_lbt s k = false := by
  have e := of_decide_eq_true (List.all_eq_true.mp sr_all k (List.mem_range.mpr hk))
  rw [lc_eq0]
  have hb : ((((Int64.toUInt64 s) >>> (((Int32.toInt64 (nI k)).toUInt64) &&& (Int64.toUInt64 63))).toInt64) &&& 1).toBitVec = (s.toBitVec >>> (BitVec.ofNat 64 k)) &&& 1#64 := by
    rw [Int64.toBitVec_and]
    show (s.toBitVec >>> ((((Int32.toInt64 (nI k)).toUInt64 &&& Int64.toUInt64 63) % 64 : UInt64).toBitVec)) &&& _ = _
    rw [e]
    rfl
  have h0 : ((s.toBitVec >>> (BitVec.ofNat 64 k)) &&& 1#64).toNat = if mo_lbt s k = true then 1 else 0 := by
    rw [BitVec.toNat_and, BitVec.ushiftRight_eq', BitVec.toNat_ushiftRight, BitVec.toNat_ofNat, Nat.mod_eq_of_lt (show k < 2 ^ 64 by omega)]
    show (s.toBitVec.toNat >>> k) &&& 1 = _
    rw [Nat.and_one_is_mod, Nat.shiftRight_eq_div_pow]
    unfold mo_lbt
    rw [show s.toBitVec.getLsbD k = s.toBitVec.toNat.testBit k from rfl, Nat.testBit_eq_decide_div_mod_eq]
    by_cases c : s.toBitVec.toNat / 2 ^ k % 2 = 1
    · rw [decide_eq_true c, if_pos rfl, c]
    · rw [decide_eq_false c, if_neg (by decide)]; omega
  constructor
  · intro z
    have := congrArg (fun w => w.toBitVec.toNat) z
    have this : _ = (0 : Nat) := this
    rw [hb, h0] at this
    cases h : mo_lbt s k
    · rfl
    · rw [h, if_pos rfl] at this; cases this
  · intro z
    apply Int64.toBitVec_inj.mp
    apply BitVec.eq_of_toNat_eq
    rw [hb, h0, z]
    rfl
theorem isFit_r {R : Nat → Nat → Nat} {L : Nat → Nat → Int64} {g x y : Nat} : o_Guess_isFit R L g x y = if fB (L (R (R g 4) 6)) x y = true then 1 else 0 := by
  unfold o_Guess_isFit fB
  have h := lbt_sr (s := L (R (R g 4) 6) (x * 4 + y / 64)) (k := y % 64) (Nat.mod_lt _ (by decide))
  rw [show y - y / 64 * 64 = y % 64 by omega]
  by_cases c : mo_lbt (L (R (R g 4) 6) (x * 4 + y / 64)) (y % 64) = true
  · rw [if_pos c, if_neg (fun z => by rw [h.mp z] at c; cases c)]
  · rw [if_neg c, if_pos (h.mpr (Bool.eq_false_iff.mpr c))]
/-- the least bit taken away -/
theorem lbt_low {p : Int64} (hp : p ≠ 0) : ∃ k, k < 64 ∧ o_Long_numberOfTrailingZeros p = nI k ∧ mo_lbt p k = true ∧ (∀ b, b < k → mo_lbt p b = false) ∧ ∀ b, mo_lbt (p &&& (p - 1)) b = (mo_lbt p b && !decide (b = k)) := by
  obtain ⟨k, m, hk, e, ho⟩ := tz_64 hp
  have hp2 := Nat.two_pow_pos k
  have hl : p.toBitVec.toNat < 2 ^ 64 := p.toBitVec.isLt
  have hy : 0 < p.toBitVec.toNat := by rw [e]; exact Nat.mul_pos hp2 (by omega)
  have e1 : (p - 1).toBitVec.toNat = p.toBitVec.toNat - 1 := by
    rw [Int64.toBitVec_sub, BitVec.toNat_sub]
    show (2 ^ 64 - 1 + p.toBitVec.toNat) % 2 ^ 64 = _
    omega
  have b0 : ∀ b, mo_lbt p b = p.toBitVec.toNat.testBit b := fun b => rfl
  have e3 : p.toBitVec.toNat - 1 = 2 ^ k * (2 * m) + (2 ^ k - 1) := by rw [e, Nat.mul_add, Nat.mul_one]; omega
  have e4 : p.toBitVec.toNat = 2 ^ k * (2 * m + 1) + 0 := by rw [Nat.add_zero]; exact e
  have b1 : ∀ b, (p.toBitVec.toNat - 1).testBit b = if b < k then (2 ^ k - 1).testBit b else (2 * m).testBit (b - k) := fun b => by
    rw [e3]
    exact Nat.testBit_two_pow_mul_add _ (by omega) b
  have b2 : ∀ b, p.toBitVec.toNat.testBit b = if b < k then (0 : Nat).testBit b else (2 * m + 1).testBit (b - k) := fun b => by
    conv => lhs; rw [e4]
    exact Nat.testBit_two_pow_mul_add _ hp2 b
  refine ⟨k, hk, ho, ?_, fun b hb => ?_, fun b => ?_⟩
  · rw [b0, b2, if_neg (Nat.lt_irrefl k), Nat.sub_self, Nat.testBit_zero]
    exact decide_eq_true (by omega)
  · rw [b0, b2, if_pos hb, Nat.zero_testBit]
  · rw [lbt_and, b0, show mo_lbt (p - 1) b = (p - 1).toBitVec.toNat.testBit b from rfl, e1, b1, b2]
    by_cases c : b < k
    · rw [if_pos c, if_pos c, Nat.zero_testBit, Bool.false_and, Bool.false_and]
    · rw [if_neg c, if_neg c]
      cases h : b - k with
      | zero =>
        rw [decide_eq_true (show b = k by omega), show (2 * m).testBit 0 = false by rw [Nat.testBit_zero]; exact decide_eq_false (by omega), Bool.and_false, Bool.not_true, Bool.and_false]
      | succ i =>
        rw [decide_eq_false (show ¬ b = k by omega), show (2 * m + 1).testBit (i + 1) = m.testBit i by rw [Nat.testBit_succ]; congr 1; omega, show (2 * m).testBit (i + 1) = m.testBit i by rw [Nat.testBit_succ]; congr 1; omega, Bool.and_self, Bool.not_false, Bool.and_true]
