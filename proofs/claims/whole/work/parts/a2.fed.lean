/-! A fed byte: shifts. -/
theorem mo_sh24 (q : Int32) : (q >>> ((24 : Int32) &&& 31)).toInt8 = ((q.toUInt32 >>> (Int32.toUInt32 24 &&& Int32.toUInt32 31)).toInt32).toInt8 := by
  apply mo_i8
  intro i hi
  have e1 : (q >>> ((24 : Int32) &&& 31)).toBitVec = q.toBitVec.sshiftRight 24 := by
    rw [Int32.toBitVec_shiftRight, show (((24 : Int32) &&& 31).toBitVec.smod 32) = 24#32 by decide]
    rfl
  have e2 : ((q.toUInt32 >>> (Int32.toUInt32 24 &&& Int32.toUInt32 31)).toInt32).toBitVec = q.toBitVec >>> (24 : Nat) := by
    show (q.toUInt32 >>> (Int32.toUInt32 24 &&& Int32.toUInt32 31)).toBitVec = _
    rw [UInt32.toBitVec_shiftRight, show ((Int32.toUInt32 24 &&& Int32.toUInt32 31).toBitVec % 32) = 24#32 by decide]
    rfl
  rw [e1, e2, BitVec.getLsbD_sshiftRight, BitVec.getLsbD_ushiftRight]
  have h1 : (decide (32 ≤ i)) = false := decide_eq_false (by omega)
  rw [h1, if_pos (by omega)]
  simp
theorem mo_sh16 (q : Int32) : (q >>> ((16 : Int32) &&& 31)).toInt8 = ((q.toUInt32 >>> (Int32.toUInt32 16 &&& Int32.toUInt32 31)).toInt32).toInt8 := by
  apply mo_i8
  intro i hi
  have e1 : (q >>> ((16 : Int32) &&& 31)).toBitVec = q.toBitVec.sshiftRight 16 := by
    rw [Int32.toBitVec_shiftRight, show (((16 : Int32) &&& 31).toBitVec.smod 32) = 16#32 by decide]
    rfl
  have e2 : ((q.toUInt32 >>> (Int32.toUInt32 16 &&& Int32.toUInt32 31)).toInt32).toBitVec = q.toBitVec >>> (16 : Nat) := by
    show (q.toUInt32 >>> (Int32.toUInt32 16 &&& Int32.toUInt32 31)).toBitVec = _
    rw [UInt32.toBitVec_shiftRight, show ((Int32.toUInt32 16 &&& Int32.toUInt32 31).toBitVec % 32) = 16#32 by decide]
    rfl
  rw [e1, e2, BitVec.getLsbD_sshiftRight, BitVec.getLsbD_ushiftRight]
  have h1 : (decide (32 ≤ i)) = false := decide_eq_false (by omega)
  rw [h1, if_pos (by omega)]
  simp
theorem mo_sh8 (q : Int32) : (q >>> ((8 : Int32) &&& 31)).toInt8 = ((q.toUInt32 >>> (Int32.toUInt32 8 &&& Int32.toUInt32 31)).toInt32).toInt8 := by
  apply mo_i8
  intro i hi
  have e1 : (q >>> ((8 : Int32) &&& 31)).toBitVec = q.toBitVec.sshiftRight 8 := by
    rw [Int32.toBitVec_shiftRight, show (((8 : Int32) &&& 31).toBitVec.smod 32) = 8#32 by decide]
    rfl
  have e2 : ((q.toUInt32 >>> (Int32.toUInt32 8 &&& Int32.toUInt32 31)).toInt32).toBitVec = q.toBitVec >>> (8 : Nat) := by
    show (q.toUInt32 >>> (Int32.toUInt32 8 &&& Int32.toUInt32 31)).toBitVec = _
    rw [UInt32.toBitVec_shiftRight, show ((Int32.toUInt32 8 &&& Int32.toUInt32 31).toBitVec % 32) = 8#32 by decide]
    rfl
  rw [e1, e2, BitVec.getLsbD_sshiftRight, BitVec.getLsbD_ushiftRight]
  have h1 : (decide (32 ≤ i)) = false := decide_eq_false (by omega)
  rw [h1, if_pos (by omega)]
  simp
theorem mo_sh0 (q : Int32) : (q >>> ((0 : Int32) &&& 31)).toInt8 = ((q.toUInt32 >>> (Int32.toUInt32 0 &&& Int32.toUInt32 31)).toInt32).toInt8 := by
  apply mo_i8
  intro i hi
  have e1 : (q >>> ((0 : Int32) &&& 31)).toBitVec = q.toBitVec.sshiftRight 0 := by
    rw [Int32.toBitVec_shiftRight, show (((0 : Int32) &&& 31).toBitVec.smod 32) = 0#32 by decide]
    rfl
  have e2 : ((q.toUInt32 >>> (Int32.toUInt32 0 &&& Int32.toUInt32 31)).toInt32).toBitVec = q.toBitVec >>> (0 : Nat) := by
    show (q.toUInt32 >>> (Int32.toUInt32 0 &&& Int32.toUInt32 31)).toBitVec = _
    rw [UInt32.toBitVec_shiftRight, show ((Int32.toUInt32 0 &&& Int32.toUInt32 31).toBitVec % 32) = 0#32 by decide]
    rfl
  rw [e1, e2, BitVec.getLsbD_sshiftRight, BitVec.getLsbD_ushiftRight]
  have h1 : (decide (32 ≤ i)) = false := decide_eq_false (by omega)
  rw [h1, if_pos (by omega)]
  simp
/-- a byte that the class puts is the one that the reference keeps -/
theorem mo_put_b {x y : Int32} (h : x.toInt8 = y.toInt8) : vp_nar .byte (x.toInt8.toInt32) = mo_sx (mo_b y) := by
  unfold mo_sx
  rw [← mo_bP, mo_nar_b, mo_nar_b, mo_i8i, mo_and255, h]
theorem mo_put_all (q : Int32) : [vp_nar .byte ((Int32.toInt8 (q >>> (24 &&& 31))).toInt32), vp_nar .byte ((Int32.toInt8 (q >>> (16 &&& 31))).toInt32), vp_nar .byte ((Int32.toInt8 (q >>> (8 &&& 31))).toInt32), vp_nar .byte ((Int32.toInt8 (q >>> (0 &&& 31))).toInt32)] = (mo_bts q).map mo_sx := by
  unfold mo_bts
  rw [mo_put_b (mo_sh24 q), mo_put_b (mo_sh16 q), mo_put_b (mo_sh8 q), mo_put_b (mo_sh0 q)]
  rfl
