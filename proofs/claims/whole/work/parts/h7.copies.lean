/-! A town copied, by numbers. -/
theorem w_ro (s : Bool) {b : Nat} (hb : b ∈ [6, 31, 76, 101]) : (wR s b 0 = b + 1 ∧ wR s b 1 = b + 7 ∧ wR s b 2 = b + 13 ∧ wR s b 3 = b + 17 ∧ wR s b 4 = b + 22) ∧ (wR s (b + 1) 0 = b + 2 ∧ wR s (b + 1) 1 = b + 3 ∧ wR s (b + 1) 2 = b + 4 ∧ wR s (b + 1) 3 = b + 5 ∧ wR s (b + 1) 4 = b + 6) ∧ (wR s (b + 7) 0 = b + 8 ∧ wR s (b + 7) 1 = b + 9 ∧ wR s (b + 7) 2 = b + 10 ∧ wR s (b + 7) 3 = b + 11 ∧ wR s (b + 7) 4 = b + 12) ∧ (wR s (b + 13) 0 = b + 14 ∧ wR s (b + 13) 1 = b + 15 ∧ wR s (b + 13) 2 = b + 16) ∧ (wR s (b + 17) 0 = b + 18 ∧ wR s (b + 17) 1 = b + 19 ∧ wR s (b + 17) 2 = b + 20 ∧ wR s (b + 17) 3 = b + 21) ∧ wR s (b + 22) 0 = b + 23 ∧ wR s (b + 22) 1 = b + 24 := by
  have h := w_W s b hb
  refine ⟨⟨?_, ?_, ?_, ?_, ?_⟩, ⟨?_, ?_, ?_, ?_, ?_⟩, ⟨?_, ?_, ?_, ?_, ?_⟩, ⟨?_, ?_, ?_⟩, ⟨?_, ?_, ?_, ?_⟩, ?_, ?_⟩
  · exact h _ (List.mem_of_getElem? (i := 0) rfl)
  · exact h _ (List.mem_of_getElem? (i := 1) rfl)
  · exact h _ (List.mem_of_getElem? (i := 2) rfl)
  · exact h _ (List.mem_of_getElem? (i := 3) rfl)
  · exact h _ (List.mem_of_getElem? (i := 4) rfl)
  · exact h _ (List.mem_of_getElem? (i := 5) rfl)
  · exact h _ (List.mem_of_getElem? (i := 6) rfl)
  · exact h _ (List.mem_of_getElem? (i := 7) rfl)
  · exact h _ (List.mem_of_getElem? (i := 8) rfl)
  · exact h _ (List.mem_of_getElem? (i := 9) rfl)
  · exact h _ (List.mem_of_getElem? (i := 10) rfl)
  · exact h _ (List.mem_of_getElem? (i := 11) rfl)
  · exact h _ (List.mem_of_getElem? (i := 12) rfl)
  · exact h _ (List.mem_of_getElem? (i := 13) rfl)
  · exact h _ (List.mem_of_getElem? (i := 14) rfl)
  · exact h _ (List.mem_of_getElem? (i := 15) rfl)
  · exact h _ (List.mem_of_getElem? (i := 16) rfl)
  · exact h _ (List.mem_of_getElem? (i := 17) rfl)
  · exact h _ (List.mem_of_getElem? (i := 18) rfl)
  · exact h _ (List.mem_of_getElem? (i := 19) rfl)
  · exact h _ (List.mem_of_getElem? (i := 20) rfl)
  · exact h _ (List.mem_of_getElem? (i := 21) rfl)
  · exact h _ (List.mem_of_getElem? (i := 22) rfl)
  · exact h _ (List.mem_of_getElem? (i := 23) rfl)
theorem cpR {H : Nat → Nat → Int32} {src dst n x : Nat} (h : x ≠ dst) : mo_cp H src dst 0 0 n x = H x := if_neg h
theorem cpA {H : Nat → Nat → Int32} {src dst n m : Nat} (h : m < n) : mo_cp H src dst 0 0 n dst m = H src m := by
  show (if dst = dst then va_cpy (H src) (H dst) 0 0 n else H dst) m = _
  rw [if_pos rfl]
  unfold va_cpy
  rw [if_pos ⟨Nat.zero_le _, by omega⟩]
  congr 1
  omega
def cpN (I : Nat → Nat → Int32) (b c : Nat) : Nat → Nat → Int32 := mo_up (mo_up (mo_cp (mo_cp (mo_up (mo_cp (mo_cp (mo_cp (mo_cp (mo_up (mo_cp (mo_cp (mo_cp (mo_up (mo_cp (mo_cp (mo_cp (mo_cp (mo_cp (mo_up (mo_up (mo_up (mo_cp (mo_cp (mo_cp (mo_cp (mo_cp (I) (c + 2) (b + 2) 0 0 8) (c + 3) (b + 3) 0 0 8) (c + 4) (b + 4) 0 0 8) (c + 5) (b + 5) 0 0 12) (c + 6) (b + 6) 0 0 12) (b + 1) 5 (I (c + 1) 5)) (b + 1) 6 (I (c + 1) 6)) (b + 1) 7 (I (c + 1) 7)) (c + 8) (b + 8) 0 0 40) (c + 9) (b + 9) 0 0 40) (c + 10) (b + 10) 0 0 40) (c + 11) (b + 11) 0 0 40) (c + 12) (b + 12) 0 0 40) (b + 7) 5 (I (c + 7) 5)) (c + 14) (b + 14) 0 0 40) (c + 15) (b + 15) 0 0 40) (c + 16) (b + 16) 0 0 40) (b + 13) 3 (I (c + 13) 3)) (c + 18) (b + 18) 0 0 40) (c + 19) (b + 19) 0 0 40) (c + 20) (b + 20) 0 0 40) (c + 21) (b + 21) 0 0 40) (b + 17) 4 (I (c + 17) 4)) (c + 23) (b + 23) 0 0 16) (c + 24) (b + 24) 0 0 16) (b + 22) 2 (I (c + 22) 2)) b 5 (I c 5)
section C
variable {I : Nat → Nat → Int32} {b c : Nat}
theorem cpN_o {q : Nat} (h : q < b ∨ b + 25 ≤ q) : cpN I b c q = I q := by
  unfold cpN
  rw [mo_upR (by omega), mo_upR (by omega), cpR (by omega), cpR (by omega), mo_upR (by omega), cpR (by omega), cpR (by omega), cpR (by omega), cpR (by omega), mo_upR (by omega), cpR (by omega), cpR (by omega), cpR (by omega), mo_upR (by omega), cpR (by omega), cpR (by omega), cpR (by omega), cpR (by omega), cpR (by omega), mo_upR (by omega), mo_upR (by omega), mo_upR (by omega), cpR (by omega), cpR (by omega), cpR (by omega), cpR (by omega), cpR (by omega)]
theorem cpN_r2 (hd : b + 25 ≤ c ∨ c + 25 ≤ b) {m : Nat} (hm : m < 8) : cpN I b c (b + 2) m = I (c + 2) m := by
  unfold cpN
  rw [mo_upR (by omega), mo_upR (by omega), cpR (by omega), cpR (by omega), mo_upR (by omega), cpR (by omega), cpR (by omega), cpR (by omega), cpR (by omega), mo_upR (by omega), cpR (by omega), cpR (by omega), cpR (by omega), mo_upR (by omega), cpR (by omega), cpR (by omega), cpR (by omega), cpR (by omega), cpR (by omega), mo_upR (by omega), mo_upR (by omega), mo_upR (by omega), cpR (by omega), cpR (by omega), cpR (by omega), cpR (by omega), cpA hm]
theorem cpN_r3 (hd : b + 25 ≤ c ∨ c + 25 ≤ b) {m : Nat} (hm : m < 8) : cpN I b c (b + 3) m = I (c + 3) m := by
  unfold cpN
  rw [mo_upR (by omega), mo_upR (by omega), cpR (by omega), cpR (by omega), mo_upR (by omega), cpR (by omega), cpR (by omega), cpR (by omega), cpR (by omega), mo_upR (by omega), cpR (by omega), cpR (by omega), cpR (by omega), mo_upR (by omega), cpR (by omega), cpR (by omega), cpR (by omega), cpR (by omega), cpR (by omega), mo_upR (by omega), mo_upR (by omega), mo_upR (by omega), cpR (by omega), cpR (by omega), cpR (by omega), cpA hm, cpR (by omega)]
theorem cpN_r4 (hd : b + 25 ≤ c ∨ c + 25 ≤ b) {m : Nat} (hm : m < 8) : cpN I b c (b + 4) m = I (c + 4) m := by
  unfold cpN
  rw [mo_upR (by omega), mo_upR (by omega), cpR (by omega), cpR (by omega), mo_upR (by omega), cpR (by omega), cpR (by omega), cpR (by omega), cpR (by omega), mo_upR (by omega), cpR (by omega), cpR (by omega), cpR (by omega), mo_upR (by omega), cpR (by omega), cpR (by omega), cpR (by omega), cpR (by omega), cpR (by omega), mo_upR (by omega), mo_upR (by omega), mo_upR (by omega), cpR (by omega), cpR (by omega), cpA hm, cpR (by omega), cpR (by omega)]
theorem cpN_r5 (hd : b + 25 ≤ c ∨ c + 25 ≤ b) {m : Nat} (hm : m < 12) : cpN I b c (b + 5) m = I (c + 5) m := by
  unfold cpN
  rw [mo_upR (by omega), mo_upR (by omega), cpR (by omega), cpR (by omega), mo_upR (by omega), cpR (by omega), cpR (by omega), cpR (by omega), cpR (by omega), mo_upR (by omega), cpR (by omega), cpR (by omega), cpR (by omega), mo_upR (by omega), cpR (by omega), cpR (by omega), cpR (by omega), cpR (by omega), cpR (by omega), mo_upR (by omega), mo_upR (by omega), mo_upR (by omega), cpR (by omega), cpA hm, cpR (by omega), cpR (by omega), cpR (by omega)]
theorem cpN_r6 (hd : b + 25 ≤ c ∨ c + 25 ≤ b) {m : Nat} (hm : m < 12) : cpN I b c (b + 6) m = I (c + 6) m := by
  unfold cpN
  rw [mo_upR (by omega), mo_upR (by omega), cpR (by omega), cpR (by omega), mo_upR (by omega), cpR (by omega), cpR (by omega), cpR (by omega), cpR (by omega), mo_upR (by omega), cpR (by omega), cpR (by omega), cpR (by omega), mo_upR (by omega), cpR (by omega), cpR (by omega), cpR (by omega), cpR (by omega), cpR (by omega), mo_upR (by omega), mo_upR (by omega), mo_upR (by omega), cpA hm, cpR (by omega), cpR (by omega), cpR (by omega), cpR (by omega)]
theorem cpN_f1_5 : cpN I b c (b + 1) 5 = I (c + 1) 5 := by
  unfold cpN
  rw [mo_upR (by omega), mo_upR (by omega), cpR (by omega), cpR (by omega), mo_upR (by omega), cpR (by omega), cpR (by omega), cpR (by omega), cpR (by omega), mo_upR (by omega), cpR (by omega), cpR (by omega), cpR (by omega), mo_upR (by omega), cpR (by omega), cpR (by omega), cpR (by omega), cpR (by omega), cpR (by omega), mo_upK _ _ _ (by decide), mo_upK _ _ _ (by decide), mo_upA]
theorem cpN_f1_6 : cpN I b c (b + 1) 6 = I (c + 1) 6 := by
  unfold cpN
  rw [mo_upR (by omega), mo_upR (by omega), cpR (by omega), cpR (by omega), mo_upR (by omega), cpR (by omega), cpR (by omega), cpR (by omega), cpR (by omega), mo_upR (by omega), cpR (by omega), cpR (by omega), cpR (by omega), mo_upR (by omega), cpR (by omega), cpR (by omega), cpR (by omega), cpR (by omega), cpR (by omega), mo_upK _ _ _ (by decide), mo_upA]
theorem cpN_f1_7 : cpN I b c (b + 1) 7 = I (c + 1) 7 := by
  unfold cpN
  rw [mo_upR (by omega), mo_upR (by omega), cpR (by omega), cpR (by omega), mo_upR (by omega), cpR (by omega), cpR (by omega), cpR (by omega), cpR (by omega), mo_upR (by omega), cpR (by omega), cpR (by omega), cpR (by omega), mo_upR (by omega), cpR (by omega), cpR (by omega), cpR (by omega), cpR (by omega), cpR (by omega), mo_upA]
theorem cpN_r8 (hd : b + 25 ≤ c ∨ c + 25 ≤ b) {m : Nat} (hm : m < 40) : cpN I b c (b + 8) m = I (c + 8) m := by
  unfold cpN
  rw [mo_upR (by omega), mo_upR (by omega), cpR (by omega), cpR (by omega), mo_upR (by omega), cpR (by omega), cpR (by omega), cpR (by omega), cpR (by omega), mo_upR (by omega), cpR (by omega), cpR (by omega), cpR (by omega), mo_upR (by omega), cpR (by omega), cpR (by omega), cpR (by omega), cpR (by omega), cpA hm, mo_upR (by omega), mo_upR (by omega), mo_upR (by omega), cpR (by omega), cpR (by omega), cpR (by omega), cpR (by omega), cpR (by omega)]
theorem cpN_r9 (hd : b + 25 ≤ c ∨ c + 25 ≤ b) {m : Nat} (hm : m < 40) : cpN I b c (b + 9) m = I (c + 9) m := by
  unfold cpN
  rw [mo_upR (by omega), mo_upR (by omega), cpR (by omega), cpR (by omega), mo_upR (by omega), cpR (by omega), cpR (by omega), cpR (by omega), cpR (by omega), mo_upR (by omega), cpR (by omega), cpR (by omega), cpR (by omega), mo_upR (by omega), cpR (by omega), cpR (by omega), cpR (by omega), cpA hm, cpR (by omega), mo_upR (by omega), mo_upR (by omega), mo_upR (by omega), cpR (by omega), cpR (by omega), cpR (by omega), cpR (by omega), cpR (by omega)]
theorem cpN_r10 (hd : b + 25 ≤ c ∨ c + 25 ≤ b) {m : Nat} (hm : m < 40) : cpN I b c (b + 10) m = I (c + 10) m := by
  unfold cpN
  rw [mo_upR (by omega), mo_upR (by omega), cpR (by omega), cpR (by omega), mo_upR (by omega), cpR (by omega), cpR (by omega), cpR (by omega), cpR (by omega), mo_upR (by omega), cpR (by omega), cpR (by omega), cpR (by omega), mo_upR (by omega), cpR (by omega), cpR (by omega), cpA hm, cpR (by omega), cpR (by omega), mo_upR (by omega), mo_upR (by omega), mo_upR (by omega), cpR (by omega), cpR (by omega), cpR (by omega), cpR (by omega), cpR (by omega)]
theorem cpN_r11 (hd : b + 25 ≤ c ∨ c + 25 ≤ b) {m : Nat} (hm : m < 40) : cpN I b c (b + 11) m = I (c + 11) m := by
  unfold cpN
  rw [mo_upR (by omega), mo_upR (by omega), cpR (by omega), cpR (by omega), mo_upR (by omega), cpR (by omega), cpR (by omega), cpR (by omega), cpR (by omega), mo_upR (by omega), cpR (by omega), cpR (by omega), cpR (by omega), mo_upR (by omega), cpR (by omega), cpA hm, cpR (by omega), cpR (by omega), cpR (by omega), mo_upR (by omega), mo_upR (by omega), mo_upR (by omega), cpR (by omega), cpR (by omega), cpR (by omega), cpR (by omega), cpR (by omega)]
theorem cpN_r12 (hd : b + 25 ≤ c ∨ c + 25 ≤ b) {m : Nat} (hm : m < 40) : cpN I b c (b + 12) m = I (c + 12) m := by
  unfold cpN
  rw [mo_upR (by omega), mo_upR (by omega), cpR (by omega), cpR (by omega), mo_upR (by omega), cpR (by omega), cpR (by omega), cpR (by omega), cpR (by omega), mo_upR (by omega), cpR (by omega), cpR (by omega), cpR (by omega), mo_upR (by omega), cpA hm, cpR (by omega), cpR (by omega), cpR (by omega), cpR (by omega), mo_upR (by omega), mo_upR (by omega), mo_upR (by omega), cpR (by omega), cpR (by omega), cpR (by omega), cpR (by omega), cpR (by omega)]
theorem cpN_f7_5 : cpN I b c (b + 7) 5 = I (c + 7) 5 := by
  unfold cpN
  rw [mo_upR (by omega), mo_upR (by omega), cpR (by omega), cpR (by omega), mo_upR (by omega), cpR (by omega), cpR (by omega), cpR (by omega), cpR (by omega), mo_upR (by omega), cpR (by omega), cpR (by omega), cpR (by omega), mo_upA]
theorem cpN_r14 (hd : b + 25 ≤ c ∨ c + 25 ≤ b) {m : Nat} (hm : m < 40) : cpN I b c (b + 14) m = I (c + 14) m := by
  unfold cpN
  rw [mo_upR (by omega), mo_upR (by omega), cpR (by omega), cpR (by omega), mo_upR (by omega), cpR (by omega), cpR (by omega), cpR (by omega), cpR (by omega), mo_upR (by omega), cpR (by omega), cpR (by omega), cpA hm, mo_upR (by omega), cpR (by omega), cpR (by omega), cpR (by omega), cpR (by omega), cpR (by omega), mo_upR (by omega), mo_upR (by omega), mo_upR (by omega), cpR (by omega), cpR (by omega), cpR (by omega), cpR (by omega), cpR (by omega)]
theorem cpN_r15 (hd : b + 25 ≤ c ∨ c + 25 ≤ b) {m : Nat} (hm : m < 40) : cpN I b c (b + 15) m = I (c + 15) m := by
  unfold cpN
  rw [mo_upR (by omega), mo_upR (by omega), cpR (by omega), cpR (by omega), mo_upR (by omega), cpR (by omega), cpR (by omega), cpR (by omega), cpR (by omega), mo_upR (by omega), cpR (by omega), cpA hm, cpR (by omega), mo_upR (by omega), cpR (by omega), cpR (by omega), cpR (by omega), cpR (by omega), cpR (by omega), mo_upR (by omega), mo_upR (by omega), mo_upR (by omega), cpR (by omega), cpR (by omega), cpR (by omega), cpR (by omega), cpR (by omega)]
theorem cpN_r16 (hd : b + 25 ≤ c ∨ c + 25 ≤ b) {m : Nat} (hm : m < 40) : cpN I b c (b + 16) m = I (c + 16) m := by
  unfold cpN
  rw [mo_upR (by omega), mo_upR (by omega), cpR (by omega), cpR (by omega), mo_upR (by omega), cpR (by omega), cpR (by omega), cpR (by omega), cpR (by omega), mo_upR (by omega), cpA hm, cpR (by omega), cpR (by omega), mo_upR (by omega), cpR (by omega), cpR (by omega), cpR (by omega), cpR (by omega), cpR (by omega), mo_upR (by omega), mo_upR (by omega), mo_upR (by omega), cpR (by omega), cpR (by omega), cpR (by omega), cpR (by omega), cpR (by omega)]
theorem cpN_f13_3 : cpN I b c (b + 13) 3 = I (c + 13) 3 := by
  unfold cpN
  rw [mo_upR (by omega), mo_upR (by omega), cpR (by omega), cpR (by omega), mo_upR (by omega), cpR (by omega), cpR (by omega), cpR (by omega), cpR (by omega), mo_upA]
theorem cpN_r18 (hd : b + 25 ≤ c ∨ c + 25 ≤ b) {m : Nat} (hm : m < 40) : cpN I b c (b + 18) m = I (c + 18) m := by
  unfold cpN
  rw [mo_upR (by omega), mo_upR (by omega), cpR (by omega), cpR (by omega), mo_upR (by omega), cpR (by omega), cpR (by omega), cpR (by omega), cpA hm, mo_upR (by omega), cpR (by omega), cpR (by omega), cpR (by omega), mo_upR (by omega), cpR (by omega), cpR (by omega), cpR (by omega), cpR (by omega), cpR (by omega), mo_upR (by omega), mo_upR (by omega), mo_upR (by omega), cpR (by omega), cpR (by omega), cpR (by omega), cpR (by omega), cpR (by omega)]
theorem cpN_r19 (hd : b + 25 ≤ c ∨ c + 25 ≤ b) {m : Nat} (hm : m < 40) : cpN I b c (b + 19) m = I (c + 19) m := by
  unfold cpN
  rw [mo_upR (by omega), mo_upR (by omega), cpR (by omega), cpR (by omega), mo_upR (by omega), cpR (by omega), cpR (by omega), cpA hm, cpR (by omega), mo_upR (by omega), cpR (by omega), cpR (by omega), cpR (by omega), mo_upR (by omega), cpR (by omega), cpR (by omega), cpR (by omega), cpR (by omega), cpR (by omega), mo_upR (by omega), mo_upR (by omega), mo_upR (by omega), cpR (by omega), cpR (by omega), cpR (by omega), cpR (by omega), cpR (by omega)]
theorem cpN_r20 (hd : b + 25 ≤ c ∨ c + 25 ≤ b) {m : Nat} (hm : m < 40) : cpN I b c (b + 20) m = I (c + 20) m := by
  unfold cpN
  rw [mo_upR (by omega), mo_upR (by omega), cpR (by omega), cpR (by omega), mo_upR (by omega), cpR (by omega), cpA hm, cpR (by omega), cpR (by omega), mo_upR (by omega), cpR (by omega), cpR (by omega), cpR (by omega), mo_upR (by omega), cpR (by omega), cpR (by omega), cpR (by omega), cpR (by omega), cpR (by omega), mo_upR (by omega), mo_upR (by omega), mo_upR (by omega), cpR (by omega), cpR (by omega), cpR (by omega), cpR (by omega), cpR (by omega)]
theorem cpN_r21 (hd : b + 25 ≤ c ∨ c + 25 ≤ b) {m : Nat} (hm : m < 40) : cpN I b c (b + 21) m = I (c + 21) m := by
  unfold cpN
  rw [mo_upR (by omega), mo_upR (by omega), cpR (by omega), cpR (by omega), mo_upR (by omega), cpA hm, cpR (by omega), cpR (by omega), cpR (by omega), mo_upR (by omega), cpR (by omega), cpR (by omega), cpR (by omega), mo_upR (by omega), cpR (by omega), cpR (by omega), cpR (by omega), cpR (by omega), cpR (by omega), mo_upR (by omega), mo_upR (by omega), mo_upR (by omega), cpR (by omega), cpR (by omega), cpR (by omega), cpR (by omega), cpR (by omega)]
theorem cpN_f17_4 : cpN I b c (b + 17) 4 = I (c + 17) 4 := by
  unfold cpN
  rw [mo_upR (by omega), mo_upR (by omega), cpR (by omega), cpR (by omega), mo_upA]
theorem cpN_r23 (hd : b + 25 ≤ c ∨ c + 25 ≤ b) {m : Nat} (hm : m < 16) : cpN I b c (b + 23) m = I (c + 23) m := by
  unfold cpN
  rw [mo_upR (by omega), mo_upR (by omega), cpR (by omega), cpA hm, mo_upR (by omega), cpR (by omega), cpR (by omega), cpR (by omega), cpR (by omega), mo_upR (by omega), cpR (by omega), cpR (by omega), cpR (by omega), mo_upR (by omega), cpR (by omega), cpR (by omega), cpR (by omega), cpR (by omega), cpR (by omega), mo_upR (by omega), mo_upR (by omega), mo_upR (by omega), cpR (by omega), cpR (by omega), cpR (by omega), cpR (by omega), cpR (by omega)]
theorem cpN_r24 (hd : b + 25 ≤ c ∨ c + 25 ≤ b) {m : Nat} (hm : m < 16) : cpN I b c (b + 24) m = I (c + 24) m := by
  unfold cpN
  rw [mo_upR (by omega), mo_upR (by omega), cpA hm, cpR (by omega), mo_upR (by omega), cpR (by omega), cpR (by omega), cpR (by omega), cpR (by omega), mo_upR (by omega), cpR (by omega), cpR (by omega), cpR (by omega), mo_upR (by omega), cpR (by omega), cpR (by omega), cpR (by omega), cpR (by omega), cpR (by omega), mo_upR (by omega), mo_upR (by omega), mo_upR (by omega), cpR (by omega), cpR (by omega), cpR (by omega), cpR (by omega), cpR (by omega)]
theorem cpN_f22_2 : cpN I b c (b + 22) 2 = I (c + 22) 2 := by
  unfold cpN
  rw [mo_upR (by omega), mo_upA]
theorem cpN_f0 : cpN I b c b 5 = I c 5 := by
  unfold cpN
  rw [mo_upA]
end C
theorem cpV7 {I : Nat → Nat → Int32} {b c : Nat} (hd : b + 25 ≤ c ∨ c + 25 ≤ b) : (mo_up (mo_up (mo_up (mo_cp (mo_cp (mo_cp (mo_cp (mo_cp (I) (c + 2) (b + 2) 0 0 8) (c + 3) (b + 3) 0 0 8) (c + 4) (b + 4) 0 0 8) (c + 5) (b + 5) 0 0 12) (c + 6) (b + 6) 0 0 12) (b + 1) 5 (I (c + 1) 5)) (b + 1) 6 (I (c + 1) 6)) (b + 1) 7 (I (c + 1) 7)) (c + 7) 5 = I (c + 7) 5 := by
  rw [mo_upR (by omega), mo_upR (by omega), mo_upR (by omega), cpR (by omega), cpR (by omega), cpR (by omega), cpR (by omega), cpR (by omega)]
theorem cpV13 {I : Nat → Nat → Int32} {b c : Nat} (hd : b + 25 ≤ c ∨ c + 25 ≤ b) : (mo_up (mo_cp (mo_cp (mo_cp (mo_cp (mo_cp (mo_up (mo_up (mo_up (mo_cp (mo_cp (mo_cp (mo_cp (mo_cp (I) (c + 2) (b + 2) 0 0 8) (c + 3) (b + 3) 0 0 8) (c + 4) (b + 4) 0 0 8) (c + 5) (b + 5) 0 0 12) (c + 6) (b + 6) 0 0 12) (b + 1) 5 (I (c + 1) 5)) (b + 1) 6 (I (c + 1) 6)) (b + 1) 7 (I (c + 1) 7)) (c + 8) (b + 8) 0 0 40) (c + 9) (b + 9) 0 0 40) (c + 10) (b + 10) 0 0 40) (c + 11) (b + 11) 0 0 40) (c + 12) (b + 12) 0 0 40) (b + 7) 5 (I (c + 7) 5)) (c + 13) 3 = I (c + 13) 3 := by
  rw [mo_upR (by omega), cpR (by omega), cpR (by omega), cpR (by omega), cpR (by omega), cpR (by omega), mo_upR (by omega), mo_upR (by omega), mo_upR (by omega), cpR (by omega), cpR (by omega), cpR (by omega), cpR (by omega), cpR (by omega)]
theorem cpV17 {I : Nat → Nat → Int32} {b c : Nat} (hd : b + 25 ≤ c ∨ c + 25 ≤ b) : (mo_up (mo_cp (mo_cp (mo_cp (mo_up (mo_cp (mo_cp (mo_cp (mo_cp (mo_cp (mo_up (mo_up (mo_up (mo_cp (mo_cp (mo_cp (mo_cp (mo_cp (I) (c + 2) (b + 2) 0 0 8) (c + 3) (b + 3) 0 0 8) (c + 4) (b + 4) 0 0 8) (c + 5) (b + 5) 0 0 12) (c + 6) (b + 6) 0 0 12) (b + 1) 5 (I (c + 1) 5)) (b + 1) 6 (I (c + 1) 6)) (b + 1) 7 (I (c + 1) 7)) (c + 8) (b + 8) 0 0 40) (c + 9) (b + 9) 0 0 40) (c + 10) (b + 10) 0 0 40) (c + 11) (b + 11) 0 0 40) (c + 12) (b + 12) 0 0 40) (b + 7) 5 (I (c + 7) 5)) (c + 14) (b + 14) 0 0 40) (c + 15) (b + 15) 0 0 40) (c + 16) (b + 16) 0 0 40) (b + 13) 3 (I (c + 13) 3)) (c + 17) 4 = I (c + 17) 4 := by
  rw [mo_upR (by omega), cpR (by omega), cpR (by omega), cpR (by omega), mo_upR (by omega), cpR (by omega), cpR (by omega), cpR (by omega), cpR (by omega), cpR (by omega), mo_upR (by omega), mo_upR (by omega), mo_upR (by omega), cpR (by omega), cpR (by omega), cpR (by omega), cpR (by omega), cpR (by omega)]
theorem cpV22 {I : Nat → Nat → Int32} {b c : Nat} (hd : b + 25 ≤ c ∨ c + 25 ≤ b) : (mo_up (mo_cp (mo_cp (mo_cp (mo_cp (mo_up (mo_cp (mo_cp (mo_cp (mo_up (mo_cp (mo_cp (mo_cp (mo_cp (mo_cp (mo_up (mo_up (mo_up (mo_cp (mo_cp (mo_cp (mo_cp (mo_cp (I) (c + 2) (b + 2) 0 0 8) (c + 3) (b + 3) 0 0 8) (c + 4) (b + 4) 0 0 8) (c + 5) (b + 5) 0 0 12) (c + 6) (b + 6) 0 0 12) (b + 1) 5 (I (c + 1) 5)) (b + 1) 6 (I (c + 1) 6)) (b + 1) 7 (I (c + 1) 7)) (c + 8) (b + 8) 0 0 40) (c + 9) (b + 9) 0 0 40) (c + 10) (b + 10) 0 0 40) (c + 11) (b + 11) 0 0 40) (c + 12) (b + 12) 0 0 40) (b + 7) 5 (I (c + 7) 5)) (c + 14) (b + 14) 0 0 40) (c + 15) (b + 15) 0 0 40) (c + 16) (b + 16) 0 0 40) (b + 13) 3 (I (c + 13) 3)) (c + 18) (b + 18) 0 0 40) (c + 19) (b + 19) 0 0 40) (c + 20) (b + 20) 0 0 40) (c + 21) (b + 21) 0 0 40) (b + 17) 4 (I (c + 17) 4)) (c + 22) 2 = I (c + 22) 2 := by
  rw [mo_upR (by omega), cpR (by omega), cpR (by omega), cpR (by omega), cpR (by omega), mo_upR (by omega), cpR (by omega), cpR (by omega), cpR (by omega), mo_upR (by omega), cpR (by omega), cpR (by omega), cpR (by omega), cpR (by omega), cpR (by omega), mo_upR (by omega), mo_upR (by omega), mo_upR (by omega), cpR (by omega), cpR (by omega), cpR (by omega), cpR (by omega), cpR (by omega)]
theorem cpV0 {I : Nat → Nat → Int32} {b c : Nat} (hd : b + 25 ≤ c ∨ c + 25 ≤ b) : (mo_up (mo_cp (mo_cp (mo_up (mo_cp (mo_cp (mo_cp (mo_cp (mo_up (mo_cp (mo_cp (mo_cp (mo_up (mo_cp (mo_cp (mo_cp (mo_cp (mo_cp (mo_up (mo_up (mo_up (mo_cp (mo_cp (mo_cp (mo_cp (mo_cp (I) (c + 2) (b + 2) 0 0 8) (c + 3) (b + 3) 0 0 8) (c + 4) (b + 4) 0 0 8) (c + 5) (b + 5) 0 0 12) (c + 6) (b + 6) 0 0 12) (b + 1) 5 (I (c + 1) 5)) (b + 1) 6 (I (c + 1) 6)) (b + 1) 7 (I (c + 1) 7)) (c + 8) (b + 8) 0 0 40) (c + 9) (b + 9) 0 0 40) (c + 10) (b + 10) 0 0 40) (c + 11) (b + 11) 0 0 40) (c + 12) (b + 12) 0 0 40) (b + 7) 5 (I (c + 7) 5)) (c + 14) (b + 14) 0 0 40) (c + 15) (b + 15) 0 0 40) (c + 16) (b + 16) 0 0 40) (b + 13) 3 (I (c + 13) 3)) (c + 18) (b + 18) 0 0 40) (c + 19) (b + 19) 0 0 40) (c + 20) (b + 20) 0 0 40) (c + 21) (b + 21) 0 0 40) (b + 17) 4 (I (c + 17) 4)) (c + 23) (b + 23) 0 0 16) (c + 24) (b + 24) 0 0 16) (b + 22) 2 (I (c + 22) 2)) (c) 5 = I (c) 5 := by
  rw [mo_upR (by omega), cpR (by omega), cpR (by omega), mo_upR (by omega), cpR (by omega), cpR (by omega), cpR (by omega), cpR (by omega), mo_upR (by omega), cpR (by omega), cpR (by omega), cpR (by omega), mo_upR (by omega), cpR (by omega), cpR (by omega), cpR (by omega), cpR (by omega), cpR (by omega), mo_upR (by omega), mo_upR (by omega), mo_upR (by omega), cpR (by omega), cpR (by omega), cpR (by omega), cpR (by omega), cpR (by omega)]
theorem cp_N {I : Nat → Nat → Int32} (s : Bool) {b c : Nat} (hb : b ∈ [6, 31, 76, 101]) (hc : c ∈ [6, 31, 76, 101]) (hd : b + 25 ≤ c ∨ c + 25 ≤ b) : cp_Town (wR s) I b c = cpN I b c := by
  obtain ⟨⟨a0, a1, a2, a3, a4⟩, ⟨r0, r1, r2, r3, r4⟩, ⟨c0, c1, c2, c3, c4⟩, ⟨g0, g1, g2⟩, ⟨o0, o1, o2, o3⟩, t0, t1⟩ := w_ro s hb
  obtain ⟨⟨A0, A1, A2, A3, A4⟩, ⟨R0, R1, R2, R3, R4⟩, ⟨C0, C1, C2, C3, C4⟩, ⟨G0, G1, G2⟩, ⟨O0, O1, O2, O3⟩, T0, T1⟩ := w_ro s hc
  unfold cp_Town cp_Sights cp_Owings cp_Gains cp_Comings cp_Roll
  rw [a0, a1, a2, a3, a4, A0, A1, A2, A3, A4, r0, r1, r2, r3, r4, R0, R1, R2, R3, R4, c0, c1, c2, c3, c4, C0, C1, C2, C3, C4, g0, g1, g2, G0, G1, G2, o0, o1, o2, o3, O0, O1, O2, O3, t0, t1, T0, T1]
  rw [cpV7 hd, cpV13 hd, cpV17 hd, cpV22 hd, cpV0 hd]
  rfl
/-- a town that was copied is told alike -/
theorem ct_cp {I : Nat → Nat → Int32} {s : Bool} {b c : Nat} {T : mo_Tn} (hb : b ∈ [6, 31, 76, 101]) (hc : c ∈ [6, 31, 76, 101]) (hd : b + 25 ≤ c ∨ c + 25 ≤ b) (h : mo_ct I (wR s) c T) : mo_ct (cpN I b c) (wR s) b T := by
  obtain ⟨⟨a0, a1, a2, a3, a4⟩, ⟨r0, r1, r2, r3, r4⟩, ⟨c0, c1, c2, c3, c4⟩, ⟨g0, g1, g2⟩, ⟨o0, o1, o2, o3⟩, t0, t1⟩ := w_ro s hb
  obtain ⟨⟨A0, A1, A2, A3, A4⟩, ⟨R0, R1, R2, R3, R4⟩, ⟨C0, C1, C2, C3, C4⟩, ⟨G0, G1, G2⟩, ⟨O0, O1, O2, O3⟩, T0, T1⟩ := w_ro s hc
  have hv := ct_v h
  have b0 := vT_tMen hv; have b1 := vT_tNames hv; have b2 := vT_tComs hv; have b3 := vT_tBrs hv; have b4 := vT_tOws hv; have b6 := vT_tSts hv
  refine ⟨hv, ?_, ?_, ?_, ?_, ?_, ?_, ?_, ?_, ?_, ?_, ?_, ?_, ?_, ?_, ?_, ?_, ?_, ?_, ?_, ?_, ?_, ?_, ?_, ?_, ?_⟩
  · have := ct_tMen h; rw [A0] at this; rw [a0, cpN_f1_5]; exact this
  · have := ct_tNames h; rw [A0] at this; rw [a0, cpN_f1_6]; exact this
  · have := ct_tComs h; rw [A1] at this; rw [a1, cpN_f7_5]; exact this
  · have := ct_tBrs h; rw [A2] at this; rw [a2, cpN_f13_3]; exact this
  · have := ct_tOws h; rw [A3] at this; rw [a3, cpN_f17_4]; exact this
  · rw [cpN_f0]; exact ct_tTd h
  · have := ct_tSts h; rw [A4] at this; rw [a4, cpN_f22_2]; exact this
  · intro m hm; have := ct_own h hm; rw [A0, R0] at this; rw [a0, r0, cpN_r2 hd (Nat.lt_of_lt_of_le hm (by first | exact b0 | exact b1 | exact b2 | exact b3 | exact b4 | exact b6))]; exact this
  · intro m hm; have := ct_pu h hm; rw [A0, R1] at this; rw [a0, r1, cpN_r3 hd (Nat.lt_of_lt_of_le hm (by first | exact b0 | exact b1 | exact b2 | exact b3 | exact b4 | exact b6))]; exact this
  · intro m hm; have := ct_fo h hm; rw [A0, R2] at this; rw [a0, r2, cpN_r4 hd (Nat.lt_of_lt_of_le hm (by first | exact b0 | exact b1 | exact b2 | exact b3 | exact b4 | exact b6))]; exact this
  · intro m hm; have := ct_ow h hm; rw [A0, R4] at this; rw [a0, r4, cpN_r6 hd (Nat.lt_of_lt_of_le hm (by first | exact b0 | exact b1 | exact b2 | exact b3 | exact b4 | exact b6))]; exact this
  · intro m hm; have := ct_cm h hm; rw [A1, C0] at this; rw [a1, c0, cpN_r8 hd (Nat.lt_of_lt_of_le hm (by first | exact b0 | exact b1 | exact b2 | exact b3 | exact b4 | exact b6))]; exact this
  · intro m hm; have := ct_cd h hm; rw [A1, C1] at this; rw [a1, c1, cpN_r9 hd (Nat.lt_of_lt_of_le hm (by first | exact b0 | exact b1 | exact b2 | exact b3 | exact b4 | exact b6))]; exact this
  · intro m hm; have := ct_ci h hm; rw [A1, C2] at this; rw [a1, c2, cpN_r10 hd (Nat.lt_of_lt_of_le hm (by first | exact b0 | exact b1 | exact b2 | exact b3 | exact b4 | exact b6))]; exact this
  · intro m hm; have := ct_co h hm; rw [A1, C3] at this; rw [a1, c3, cpN_r11 hd (Nat.lt_of_lt_of_le hm (by first | exact b0 | exact b1 | exact b2 | exact b3 | exact b4 | exact b6))]; exact this
  · intro m hm; have := ct_cg h hm; rw [A1, C4] at this; rw [a1, c4, cpN_r12 hd (Nat.lt_of_lt_of_le hm (by first | exact b0 | exact b1 | exact b2 | exact b3 | exact b4 | exact b6))]; exact this
  · intro m hm; have := ct_gn h hm; rw [A2, G0] at this; rw [a2, g0, cpN_r14 hd (Nat.lt_of_lt_of_le hm (by first | exact b0 | exact b1 | exact b2 | exact b3 | exact b4 | exact b6))]; exact this
  · intro m hm; have := ct_gd h hm; rw [A2, G1] at this; rw [a2, g1, cpN_r15 hd (Nat.lt_of_lt_of_le hm (by first | exact b0 | exact b1 | exact b2 | exact b3 | exact b4 | exact b6))]; exact this
  · intro m hm; have := ct_gp h hm; rw [A2, G2] at this; rw [a2, g2, cpN_r16 hd (Nat.lt_of_lt_of_le hm (by first | exact b0 | exact b1 | exact b2 | exact b3 | exact b4 | exact b6))]; exact this
  · intro m hm; have := ct_of h hm; rw [A3, O0] at this; rw [a3, o0, cpN_r18 hd (Nat.lt_of_lt_of_le hm (by first | exact b0 | exact b1 | exact b2 | exact b3 | exact b4 | exact b6))]; exact this
  · intro m hm; have := ct_ot h hm; rw [A3, O1] at this; rw [a3, o1, cpN_r19 hd (Nat.lt_of_lt_of_le hm (by first | exact b0 | exact b1 | exact b2 | exact b3 | exact b4 | exact b6))]; exact this
  · intro m hm; have := ct_od h hm; rw [A3, O2] at this; rw [a3, o2, cpN_r20 hd (Nat.lt_of_lt_of_le hm (by first | exact b0 | exact b1 | exact b2 | exact b3 | exact b4 | exact b6))]; exact this
  · intro m hm; have := ct_os h hm; rw [A3, O3] at this; rw [a3, o3, cpN_r21 hd (Nat.lt_of_lt_of_le hm (by first | exact b0 | exact b1 | exact b2 | exact b3 | exact b4 | exact b6))]; exact this
  · intro m hm; have := ct_sn h hm; rw [A4, T0] at this; rw [a4, t0, cpN_r23 hd (Nat.lt_of_lt_of_le hm (by first | exact b0 | exact b1 | exact b2 | exact b3 | exact b4 | exact b6))]; exact this
  · intro m hm; have := ct_sm h hm; rw [A4, T1] at this; rw [a4, t1, cpN_r24 hd (Nat.lt_of_lt_of_le hm (by first | exact b0 | exact b1 | exact b2 | exact b3 | exact b4 | exact b6))]; exact this
/-- and so is all that is told of it -/
theorem wTn_cp {I : Nat → Nat → Int32} {s : Bool} {b c : Nat} {T : mo_Tn} {ρ : Nat → Int32} {ν : Nat → Int64} (hb : b ∈ [6, 31, 76, 101]) (hc : c ∈ [6, 31, 76, 101]) (hd : b + 25 ≤ c ∨ c + 25 ≤ b) (h : wTn I (wR s) c ρ ν T) : wTn (cpN I b c) (wR s) b ρ ν T := by
  obtain ⟨h1, h2, h3, h4, h5, h6, h7, h8⟩ := h
  obtain ⟨⟨a0, _⟩, ⟨_, _, _, r3, _⟩, _⟩ := w_ro s hb
  obtain ⟨⟨A0, _⟩, ⟨_, _, _, R3, _⟩, _⟩ := w_ro s hc
  have b1 := vT_tNames h2.1
  refine ⟨ct_cp hb hc hd h1, h2, h3, h4, h5, h6, ?_, fun n hn => ?_⟩
  · rw [a0, cpN_f1_7, ← A0]; exact h7
  · have := h8 n hn
    rw [A0, R3] at this
    rw [a0, r3, cpN_r5 hd (Nat.lt_of_lt_of_le hn b1)]
    exact this
