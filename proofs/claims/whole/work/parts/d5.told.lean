/-! Trailing zeros, told. -/
theorem tz_mask {x k m : Nat} (hx : x = 2 ^ k * (2 * m + 1)) (hl : x < 2 ^ 32) : (nI x ^^^ (-1)) &&& (nI x - 1) = nI (2 ^ k - 1) := by
  have hp := Nat.two_pow_pos k
  have hx1 : 0 < x := by rw [hx]; exact Nat.mul_pos hp (by omega)
  have hk : 2 ^ k ≤ x := by rw [hx]; exact Nat.le_mul_of_pos_right _ (by omega)
  have e1 : nI x - 1 = nI (x - 1) := mo_nsub rfl rfl hx1
  have e2 : nI x ^^^ (-1) = nI (2 ^ 32 - (x + 1)) := by
    apply Int32.toBitVec_inj.mp
    rw [Int32.toBitVec_xor, mo_nI_bv, mo_nI_bv]
    apply BitVec.eq_of_toNat_eq
    rw [BitVec.toNat_xor, BitVec.toNat_ofNat, BitVec.toNat_ofNat, Nat.mod_eq_of_lt hl, Nat.mod_eq_of_lt (by omega)]
    show x ^^^ (2 ^ 32 - 1) = _
    apply Nat.eq_of_testBit_eq
    intro j
    rw [Nat.testBit_xor, Nat.testBit_two_pow_sub_one, Nat.testBit_two_pow_sub_succ hl]
    by_cases c : j < 32
    · rw [decide_eq_true c]; cases x.testBit j <;> rfl
    · rw [decide_eq_false c, bit_ge hl (by omega)]; rfl
  rw [e1, e2]
  apply Int32.toBitVec_inj.mp
  rw [Int32.toBitVec_and, mo_nI_bv, mo_nI_bv, mo_nI_bv, ← BitVec.ofNat_and]
  congr 1
  have e3 : x - 1 = 2 ^ k * (2 * m) + (2 ^ k - 1) := by rw [hx, Nat.mul_add, Nat.mul_one]; omega
  have e4 : x = 2 ^ k * (2 * m + 1) + 0 := by rw [Nat.add_zero]; exact hx
  apply Nat.eq_of_testBit_eq
  intro j
  rw [Nat.testBit_and, Nat.testBit_two_pow_sub_succ hl, Nat.testBit_two_pow_sub_one]
  have b1 : (x - 1).testBit j = if j < k then (2 ^ k - 1).testBit j else (2 * m).testBit (j - k) := by
    rw [e3]
    exact Nat.testBit_two_pow_mul_add _ (by omega) j
  have b2 : x.testBit j = if j < k then (0 : Nat).testBit j else (2 * m + 1).testBit (j - k) := by
    conv => lhs; rw [e4]
    exact Nat.testBit_two_pow_mul_add _ hp j
  by_cases c : j < k
  · have hj : j < 32 := by
      have : 2 ^ k < 2 ^ 32 := by omega
      have := (Nat.pow_lt_pow_iff_right (a := 2) (by decide)).mp this
      omega
    rw [b1, b2, if_pos c, if_pos c, Nat.zero_testBit, Nat.testBit_two_pow_sub_one, decide_eq_true c, decide_eq_true hj]
    rfl
  · rw [b1, b2, if_neg c, if_neg c, decide_eq_false c]
    cases h : j - k with
    | zero =>
      rw [show (2 * m + 1).testBit 0 = true by rw [Nat.testBit_zero]; exact decide_eq_true (by omega)]
      cases decide (j < 32) <;> rfl
    | succ i =>
      rw [show (2 * m + 1).testBit (i + 1) = m.testBit i by rw [Nat.testBit_succ]; congr 1; omega, show (2 * m).testBit (i + 1) = m.testBit i by rw [Nat.testBit_succ]; congr 1; omega]
      cases decide (j < 32) <;> cases m.testBit i <;> rfl
theorem tz_32 {x k m : Nat} (hx : x = 2 ^ k * (2 * m + 1)) (hl : x < 2 ^ 32) : o_Integer_numberOfTrailingZeros (nI x) = nI k := by
  have hk : k < 32 := by
    have h1 : 2 ^ k ≤ x := by rw [hx]; exact Nat.le_mul_of_pos_right _ (by omega)
    exact (Nat.pow_lt_pow_iff_right (a := 2) (by decide)).mp (Nat.lt_of_le_of_lt h1 hl)
  unfold o_Integer_numberOfTrailingZeros
  rw [tz_mask hx hl]
  clear hx hl x m
  revert k
  decide +kernel
theorem tz_odd : ∀ (y : Nat), 0 < y → ∃ k m, y = 2 ^ k * (2 * m + 1) := fun y => by
  induction y using Nat.strongRecOn with
  | _ y ih =>
    intro hy
    by_cases c : y % 2 = 1
    · exact ⟨0, y / 2, by rw [Nat.pow_zero, Nat.one_mul]; omega⟩
    · obtain ⟨k, m, e⟩ := ih (y / 2) (by omega) (by omega)
      refine ⟨k + 1, m, ?_⟩
      rw [Nat.pow_succ, Nat.mul_comm (2 ^ k) 2, Nat.mul_assoc, ← e]
      omega
theorem tz_hi (p : Int64) : Int64.toInt32 (((Int64.toUInt64 p) >>> (((Int32.toInt64 32).toUInt64) &&& (Int64.toUInt64 63))).toInt64) = nI (p.toBitVec.toNat / 2 ^ 32) := by
  apply Int32.toBitVec_inj.mp
  rw [mo_nI_bv]
  apply BitVec.eq_of_toNat_eq
  have e : ((((Int64.toUInt64 p) >>> (((Int32.toInt64 32).toUInt64) &&& (Int64.toUInt64 63))).toInt64)).toBitVec.toNat = p.toBitVec.toNat / 2 ^ 32 := by
    show (p.toBitVec >>> (32 : Nat)).toNat = _
    rw [BitVec.toNat_ushiftRight, Nat.shiftRight_eq_div_pow]
  show (BitVec.signExtend 32 _).toNat = _
  rw [BitVec.signExtend_eq_setWidth_of_le _ (by decide), BitVec.toNat_setWidth, e, BitVec.toNat_ofNat]
theorem tz_lo (p : Int64) : Int64.toInt32 p = nI p.toBitVec.toNat := by
  apply Int32.toBitVec_inj.mp
  rw [mo_nI_bv]
  apply BitVec.eq_of_toNat_eq
  show (BitVec.signExtend 32 p.toBitVec).toNat = _
  rw [BitVec.signExtend_eq_setWidth_of_le _ (by decide), BitVec.toNat_setWidth, BitVec.toNat_ofNat]
theorem nI_md (y : Nat) : nI y = nI (y % 2 ^ 32) := by
  apply Int32.toBitVec_inj.mp
  rw [mo_nI_bv, mo_nI_bv]
  apply BitVec.eq_of_toNat_eq
  rw [BitVec.toNat_ofNat, BitVec.toNat_ofNat, Nat.mod_mod]
theorem nI_zero {y : Nat} (hy : y < 2 ^ 32) : nI y = 0 ↔ y = 0 := by
  constructor
  · intro e
    have := congrArg (fun z => z.toBitVec.toNat) e
    have : (BitVec.ofNat 32 y).toNat = 0 := this
    rw [BitVec.toNat_ofNat, Nat.mod_eq_of_lt hy] at this
    exact this
  · intro e; rw [e]; rfl
/-- the least bit of a long -/
theorem tz_64 {p : Int64} (hp : p ≠ 0) : ∃ k m, k < 64 ∧ p.toBitVec.toNat = 2 ^ k * (2 * m + 1) ∧ o_Long_numberOfTrailingZeros p = nI k := by
  have hy : 0 < p.toBitVec.toNat := Nat.pos_of_ne_zero (fun z => hp (Int64.toBitVec_inj.mp (BitVec.eq_of_toNat_eq (by rw [z]; rfl))))
  have hl : p.toBitVec.toNat < 2 ^ 64 := p.toBitVec.isLt
  obtain ⟨k, m, e⟩ := tz_odd _ hy
  have hk : k < 64 := by
    have h1 : 2 ^ k ≤ p.toBitVec.toNat := by rw [e]; exact Nat.le_mul_of_pos_right _ (by omega)
    exact (Nat.pow_lt_pow_iff_right (a := 2) (by decide)).mp (Nat.lt_of_le_of_lt h1 hl)
  refine ⟨k, m, hk, e, ?_⟩
  unfold o_Long_numberOfTrailingZeros
  rw [tz_lo, tz_hi, nI_md p.toBitVec.toNat]
  generalize p.toBitVec.toNat = y at *
  have hm : y % 2 ^ 32 < 2 ^ 32 := Nat.mod_lt _ (by decide)
  by_cases c : k < 32
  · have e2 : 2 ^ 32 = 2 ^ k * 2 ^ (32 - k) := by rw [← Nat.pow_add]; congr 1; omega
    have e3 : y % 2 ^ 32 = 2 ^ k * ((2 * m + 1) % 2 ^ (32 - k)) := by rw [e, e2, Nat.mul_mod_mul_left]
    have e4 : (2 * m + 1) % 2 ^ (32 - k) = 2 * (m % 2 ^ (31 - k)) + 1 := by
      rw [show 32 - k = (31 - k) + 1 by omega, Nat.pow_succ, Nat.mul_comm _ 2, Nat.mod_mul, show (2 * m + 1) / 2 = m by omega, show (2 * m + 1) % 2 = 1 by omega, Nat.add_comm]
    have hpos : 0 < y % 2 ^ 32 := by rw [e3, e4]; exact Nat.mul_pos (Nat.two_pow_pos k) (by omega)
    rw [if_neg (fun z => by have := (nI_zero hm).mp z; omega)]
    exact tz_32 (by rw [e3, e4]) hm
  · have e2 : 2 ^ k = 2 ^ 32 * 2 ^ (k - 32) := by rw [← Nat.pow_add]; congr 1; omega
    have e3 : y = 2 ^ 32 * (2 ^ (k - 32) * (2 * m + 1)) := by rw [e, e2, Nat.mul_assoc]
    have e4 : y % 2 ^ 32 = 0 := by rw [e3, Nat.mul_mod_right]
    have e5 : y / 2 ^ 32 = 2 ^ (k - 32) * (2 * m + 1) := by rw [e3, Nat.mul_div_cancel_left _ (by decide)]
    rw [if_pos ((nI_zero hm).mpr e4), tz_32 e5 (by omega)]
    show nI 32 + nI (k - 32) = nI k
    rw [nI_add]
    congr 1
    omega
