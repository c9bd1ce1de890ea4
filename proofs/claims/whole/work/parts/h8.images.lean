/-! Images: kept and brought back by both. -/
theorem an1_b : ∀ i, i < 32 → i ≠ 0 → (1 : Int32).toBitVec.getLsbD i = false := by decide
theorem an1 (y : Int32) : (y &&& 1) = 0 ↔ y.toBitVec.getLsbD 0 = false := by
  constructor
  · intro h
    have h2 : (y &&& 1).toBitVec.getLsbD 0 = (0 : Int32).toBitVec.getLsbD 0 := by rw [h]
    rw [Int32.toBitVec_and, BitVec.getLsbD_and] at h2
    have h3 : (1 : Int32).toBitVec.getLsbD 0 = true := by decide
    rw [h3, Bool.and_true] at h2
    exact h2.trans (by decide)
  · intro h
    apply Int32.toBitVec_inj.mp
    rw [Int32.toBitVec_and]
    apply BitVec.eq_of_getLsbD_eq
    intro i hi
    rw [BitVec.getLsbD_and]
    have h0 : (0 : Int32).toBitVec.getLsbD i = false := BitVec.getLsbD_zero
    rw [h0]
    by_cases c : i = 0
    · rw [c, h]; rfl
    · rw [an1_b i hi c, Bool.and_false]
theorem kb_get (x : Int32) {k : Nat} (hk : k < 2) : ((x.toUInt32 >>> ((nI k).toUInt32 &&& Int32.toUInt32 31)).toInt32 &&& 1) = 0 ↔ x.toBitVec.getLsbD k = false := by
  rw [an1]
  have e : ((x.toUInt32 >>> ((nI k).toUInt32 &&& Int32.toUInt32 31)).toInt32).toBitVec = x.toBitVec >>> k := by
    show (x.toUInt32 >>> ((nI k).toUInt32 &&& Int32.toUInt32 31)).toBitVec = _
    rcases (show k = 0 ∨ k = 1 by omega) with rfl | rfl
    · rw [UInt32.toBitVec_shiftRight, show (((nI 0).toUInt32 &&& Int32.toUInt32 31).toBitVec % 32) = 0#32 by decide]; rfl
    · rw [UInt32.toBitVec_shiftRight, show (((nI 1).toUInt32 &&& Int32.toUInt32 31).toBitVec % 32) = 1#32 by decide]; rfl
  rw [e, BitVec.getLsbD_ushiftRight, Nat.add_zero]
theorem kb_or (x : Int32) {v k : Nat} (hv : v < 2) (hk : k < 2) : (x ||| ((1 : Int32) <<< ((nI v) &&& 31))).toBitVec.getLsbD k = (x.toBitVec.getLsbD k || decide (k = v)) := by
  rw [Int32.toBitVec_or, BitVec.getLsbD_or]
  congr 1
  rcases (show v = 0 ∨ v = 1 by omega) with rfl | rfl <;> rcases (show k = 0 ∨ k = 1 by omega) with rfl | rfl <;> decide
theorem img18 {s : Bool} {I : Nat → Nat → Int32} {v : Nat} : w_Model_image_18 (wR s) I 126 v = mo_fi (mo_up I 126 0 0) 131 (842 * v) 842 (I 128) := by
  unfold w_Model_image_18
  refine mo_it_fill (fun k z hk hz => ?_)
  unfold b_Model_image_18
  rw [show wR s 126 17 = 131 from w_V s (126, 17, 131) (by decide), show wR s 126 14 = 128 from w_V s (126, 14, 128) (by decide)]
theorem img51 {s : Bool} {L : Nat → Nat → Int64} {v : Nat} : w_Model_image_51 (wR s) L 126 v = mo_fi L 134 (12 * v) 12 (L 132) := by
  unfold w_Model_image_51
  refine mo_it_fill (fun k z hk hz => ?_)
  unfold b_Model_image_51
  rw [show wR s 126 20 = 134 from w_V s (126, 20, 134) (by decide), show wR s 126 18 = 132 from w_V s (126, 18, 132) (by decide)]
theorem rst27 {s : Bool} {I : Nat → Nat → Int32} {v : Nat} : w_Model_restore_27 (wR s) I 126 v = mo_fi (mo_up I 126 0 0) 128 0 842 (fun i => I 131 (842 * v + i)) := by
  unfold w_Model_restore_27
  refine mo_it_fill (fun k z hk hz => ?_)
  unfold b_Model_restore_27
  rw [show wR s 126 17 = 131 from w_V s (126, 17, 131) (by decide), show wR s 126 14 = 128 from w_V s (126, 14, 128) (by decide), Nat.zero_add]
theorem rst60 {s : Bool} {L : Nat → Nat → Int64} {v : Nat} : w_Model_restore_60 (wR s) L 126 v = mo_fi L 132 0 12 (fun i => L 134 (12 * v + i)) := by
  unfold w_Model_restore_60
  refine mo_it_fill (fun k z hk hz => ?_)
  unfold b_Model_restore_60
  rw [show wR s 126 20 = 134 from w_V s (126, 20, 134) (by decide), show wR s 126 18 = 132 from w_V s (126, 18, 132) (by decide), Nat.zero_add]
theorem w_kT (s : Bool) : ∀ b ∈ [6, 31, 76, 101], mo_kT wK (wR s) b := by
  intro b hb
  have h : ∀ b ∈ [6, 31, 76, 101], mo_kT wK (wR s) b := by
    unfold mo_kT mo_kRoll mo_kComings mo_kGains mo_kOwings mo_kSights
    cases s <;> decide +kernel
  exact h b hb
theorem w_k2 (s : Bool) {v : Nat} (hv : v < 2) : wR s (wR s 1 2) v = 6 + 25 * v := by
  rw [show wR s 1 2 = 5 from w_V s (1, 2, 5) (by decide)]
  rcases (show v = 0 ∨ v = 1 by omega) with rfl | rfl
  · exact w_V s (5, 0, 6) (by decide)
  · exact w_V s (5, 1, 31) (by decide)
theorem tN_B {p : Int32} {v : Nat} (e : tN p = some v) : tB p 2 = if v < 2 then some v else none := by
  obtain ⟨h1, h2⟩ := tN_S e
  unfold tB
  by_cases c : v < 2
  · rw [if_pos c, if_pos ⟨by rw [h2]; exact (nI_leI (a := 0) (by omega) (by omega)).mpr (by omega), by rw [h2]; exact (nI_ltI (by omega) (by omega)).mpr c⟩, h2, nI_clamp (by omega)]
  · rw [if_neg c, if_neg (fun z => c (by rw [h2] at z; exact (nI_ltI (by omega) (by omega)).mp z.2))]
theorem tN_Bn {p : Int32} (e : tN p = none) : tB p 2 = none := by
  have h := tN_N e
  unfold tB
  rw [if_neg (fun z => absurd z.1 (Int32.not_le.mpr h))]
