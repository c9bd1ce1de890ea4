/-! The decode row behind a checked table. -/
theorem mo_dec {own : String} {ini : Bool} {cc : ByteArray} {code : List (Nat × mo_I)} {pc : Nat} {i : mo_I} (hok : code.all (mo_chk own ini cc) = true) (hat : mo_at code pc = some i) : ClassFile.decode cc pc = .ok (i.1, i.2.1) := by
  have hck := List.all_eq_true.mp hok _ (mo_at_mem hat)
  obtain ⟨op, len, a, b, t, v⟩ := i
  simp only [mo_chk, Bool.and_eq_true, decide_eq_true_eq] at hck
  exact hck.1
