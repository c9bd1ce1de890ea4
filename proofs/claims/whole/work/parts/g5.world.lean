/-! The law's world: every cell by its number. -/
def wE : List (Nat × Nat × Nat) := Model_es 126 127 ++ Gate_es
def wK : mo_K := kG ++ (Gate_ks ++ ([(11, 42)] ++ (Model_ks ++ [(101, 1)])))
def wT : Bool → Nat
  | false => 76
  | true => 101
def wD : Bool → Nat
  | false => 101
  | true => 76
/-- now and draft change places, all else stays -/
def wR (s : Bool) : Nat → Nat → Nat := mo_up (mo_up (ru wE) 1 11 (wT s)) 1 12 (wD s)
theorem up_id {α : Type} {f : Nat → Nat → α} {a k : Nat} {v : α} (h : f a k = v) : mo_up f a k v = f := by
  funext x y
  show (if x = a ∧ y = k then v else f x y) = f x y
  split
  · rename_i c
    rw [c.1, c.2, h]
  · rfl
theorem up_sw {α : Type} {f : Nat → Nat → α} {a k j : Nat} {v w v' w' : α} (h : k ≠ j) : mo_up (mo_up (mo_up (mo_up f a k v) a j w) a k v') a j w' = mo_up (mo_up f a k v') a j w' := by
  funext x y
  show (if x = a ∧ y = j then w' else if x = a ∧ y = k then v' else if x = a ∧ y = j then w else if x = a ∧ y = k then v else f x y) = (if x = a ∧ y = j then w' else if x = a ∧ y = k then v' else f x y)
  by_cases c : x = a ∧ y = j
  · rw [if_pos c, if_pos c]
  · rw [if_neg c, if_neg c, if_neg c]
    by_cases c2 : x = a ∧ y = k
    · rw [if_pos c2, if_pos c2]
    · rw [if_neg c2, if_neg c2, if_neg c2]
set_option maxRecDepth 100000 in
theorem wR_0 : ru wE = wR false := by
  unfold wR
  have h1 : ru wE 1 11 = 76 := by decide +kernel
  have h2 : ru wE 1 12 = 101 := by decide +kernel
  rw [up_id (v := wT false) h1, up_id (v := wD false) h2]
theorem wR_sw (s : Bool) : mo_up (mo_up (wR s) 1 11 (wD s)) 1 12 (wT s) = wR (!s) := by
  unfold wR
  rw [up_sw (by decide)]
  cases s <;> rfl
set_option maxRecDepth 100000 in
theorem w_gt (s : Bool) : mo_gt wK (wR s) 1 (wT s) := by
  cases s
  · exact ⟨by decide +kernel, by decide +kernel, by decide +kernel, by decide +kernel, by decide +kernel⟩
  · exact ⟨by decide +kernel, by decide +kernel, by decide +kernel, by decide +kernel, by decide +kernel⟩
set_option maxRecDepth 100000 in
theorem w_md (s : Bool) : mo_md wK (wR s) 126 := by
  cases s
  · exact ⟨by decide +kernel, by decide +kernel, by decide +kernel⟩
  · exact ⟨by decide +kernel, by decide +kernel, by decide +kernel⟩
/-- the references that matter, as numbers -/
def wV : List (Nat × Nat × Nat) := [(1, 0, 2), (1, 1, 3), (1, 2, 5), (1, 3, 56), (1, 4, 61), (1, 5, 70), (1, 6, 71), (1, 7, 72), (1, 8, 73), (1, 9, 74), (1, 10, 75), (2, 0, 3), (3, 0, 4), (5, 0, 6), (5, 1, 31), (56, 0, 57), (56, 1, 58), (56, 2, 59), (56, 3, 60), (61, 0, 62), (61, 1, 63), (61, 2, 64), (61, 3, 65), (61, 4, 66), (61, 5, 67), (61, 6, 68), (61, 7, 69), (126, 1, 127), (126, 14, 128), (126, 15, 129), (126, 16, 130), (126, 17, 131), (126, 18, 132), (126, 19, 133), (126, 20, 134), (126, 21, 135), (126, 22, 136), (126, 24, 137), (126, 25, 138), (126, 26, 139), (126, 27, 140), (126, 28, 141), (126, 32, 142), (126, 34, 143), (126, 35, 144), (126, 36, 145), (126, 38, 146), (126, 39, 147), (126, 40, 148)]
set_option maxRecDepth 100000 in
theorem w_V (s : Bool) : ∀ q ∈ wV, wR s q.1 q.2.1 = q.2.2 := by cases s <;> decide +kernel
/-- the references within a town that stands at b -/
def wW (b : Nat) : List (Nat × Nat × Nat) := [(b, 0, b + 1), (b, 1, b + 7), (b, 2, b + 13), (b, 3, b + 17), (b, 4, b + 22), (b + 1, 0, b + 2), (b + 1, 1, b + 3), (b + 1, 2, b + 4), (b + 1, 3, b + 5), (b + 1, 4, b + 6), (b + 7, 0, b + 8), (b + 7, 1, b + 9), (b + 7, 2, b + 10), (b + 7, 3, b + 11), (b + 7, 4, b + 12), (b + 13, 0, b + 14), (b + 13, 1, b + 15), (b + 13, 2, b + 16), (b + 17, 0, b + 18), (b + 17, 1, b + 19), (b + 17, 2, b + 20), (b + 17, 3, b + 21), (b + 22, 0, b + 23), (b + 22, 1, b + 24)]
set_option maxRecDepth 100000 in
theorem w_W (s : Bool) : ∀ b ∈ [6, 31, 76, 101], ∀ q ∈ wW b, wR s q.1 q.2.1 = q.2.2 := by cases s <;> decide +kernel
theorem w_11 (s : Bool) : wR s 1 11 = wT s := by cases s <;> rfl
theorem w_12 (s : Bool) : wR s 1 12 = wD s := by cases s <;> rfl
theorem w_tb (s : Bool) : mo_tb wK (wR s) 3 := by
  cases s
  · exact ⟨by decide +kernel, by decide +kernel, by decide +kernel⟩
  · exact ⟨by decide +kernel, by decide +kernel, by decide +kernel⟩
set_option maxRecDepth 100000 in
theorem w_rr (s : Bool) : mo_rr wK (wR s) 2 3 (wR s (wD s) 0) (wR s (wD s) 1) (wR s (wD s) 2) (wR s (wD s) 3) (wR s (wD s) 4) := by
  cases s
  · exact ⟨by decide +kernel, by decide +kernel, by decide +kernel, by decide +kernel⟩
  · exact ⟨by decide +kernel, by decide +kernel, by decide +kernel, by decide +kernel⟩
set_option maxRecDepth 100000 in
theorem w_rs (s : Bool) : mo_rr wK (wR s) 2 3 (wR s (wT s) 0) (wR s (wD s) 1) (wR s (wD s) 2) (wR s (wD s) 3) (wR s (wD s) 4) := by
  cases s
  · exact ⟨by decide +kernel, by decide +kernel, by decide +kernel, by decide +kernel⟩
  · exact ⟨by decide +kernel, by decide +kernel, by decide +kernel, by decide +kernel⟩
