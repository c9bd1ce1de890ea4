/-! A fed byte: the class's and the reference's. -/
theorem mo_nar_b {x : Int32} : vp_nar .byte x = x.toInt8.toInt32 := rfl
theorem mo_i8 {x y : Int32} (h : ∀ i, i < 8 → x.toBitVec.getLsbD i = y.toBitVec.getLsbD i) : x.toInt8 = y.toInt8 := by
  apply Int8.toBitVec_inj.mp
  rw [Int32.toBitVec_toInt8, Int32.toBitVec_toInt8]
  apply BitVec.eq_of_getLsbD_eq
  intro i hi
  rw [BitVec.getLsbD_signExtend, BitVec.getLsbD_signExtend]
  simp only [hi, show i < 32 by omega, if_true]
  rw [h i hi]
theorem mo_i8i {x : Int32} : x.toInt8.toInt32.toInt8 = x.toInt8 := by simp
theorem mo_and255 {x : Int32} : (x &&& 255).toInt8 = x.toInt8 := by
  apply mo_i8
  intro i hi
  rw [Int32.toBitVec_and, BitVec.getLsbD_and]
  have : (255 : Int32).toBitVec.getLsbD i = true := by
    rcases (by omega : i = 0 ∨ i = 1 ∨ i = 2 ∨ i = 3 ∨ i = 4 ∨ i = 5 ∨ i = 6 ∨ i = 7) with rfl | rfl | rfl | rfl | rfl | rfl | rfl | rfl <;> rfl
  rw [this, Bool.and_true]
