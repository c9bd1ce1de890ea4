/-! Rows that are filled from their start on, told as lists. -/
/-- row q begins with these numbers -/
def mo_lw (I : Nat → Nat → Int32) (q : Nat) (xs : List Nat) : Nat → Nat → Int32 := fun x y => if x = q ∧ y < xs.length then nI (xs.getD y 0) else I x y
theorem mo_lw0 (I : Nat → Nat → Int32) (q : Nat) : mo_lw I q [] = I := by
  funext x y
  exact if_neg (fun z => absurd z.2 (Nat.not_lt_zero _))
theorem mo_lwA {I : Nat → Nat → Int32} {q k : Nat} {xs : List Nat} (h : k < xs.length) : mo_lw I q xs q k = nI (xs.getD k 0) := if_pos ⟨rfl, h⟩
theorem mo_lwQ {I : Nat → Nat → Int32} {q x : Nat} {xs : List Nat} (h : x ≠ q) (y : Nat) : mo_lw I q xs x y = I x y := if_neg (fun z => h z.1)
theorem mo_lwR {I : Nat → Nat → Int32} {q x : Nat} {xs : List Nat} (h : x ≠ q) : mo_lw I q xs x = I x := funext (fun y => mo_lwQ h y)
theorem mo_lwP (I : Nat → Nat → Int32) (q : Nat) (xs : List Nat) (v : Nat) : mo_up (mo_lw I q xs) q xs.length (nI v) = mo_lw I q (xs ++ [v]) := by
  funext x y
  unfold mo_up mo_lw
  by_cases hx : x = q
  · by_cases hy : y = xs.length
    · subst hy
      rw [if_pos ⟨hx, rfl⟩, if_pos ⟨hx, by rw [List.length_append]; simp⟩]
      congr 1
      simp [List.getD_eq_getElem?_getD]
    · rw [if_neg (fun z => hy z.2)]
      by_cases hl : y < xs.length
      · rw [if_pos ⟨hx, hl⟩, if_pos ⟨hx, by rw [List.length_append]; simp; omega⟩]
        congr 1
        simp [List.getD_eq_getElem?_getD, List.getElem?_append_left hl]
      · rw [if_neg (fun z => hl z.2), if_neg (fun z => by have := z.2; rw [List.length_append] at this; simp at this; omega)]
  · rw [if_neg (fun z => hx z.1), if_neg (fun z => hx z.1), if_neg (fun z => hx z.1)]
theorem mo_upC {α : Type} (f : Nat → Nat → α) {a b k j : Nat} {v w : α} (h : a ≠ b) : mo_up (mo_up f a k v) b j w = mo_up (mo_up f b j w) a k v := by
  funext x y
  unfold mo_up
  by_cases h1 : x = b ∧ y = j
  · by_cases h2 : x = a ∧ y = k
    · exact absurd (h2.1.symm.trans h1.1) h
    · rw [if_pos h1, if_neg h2, if_pos h1]
  · rw [if_neg h1]
    by_cases h2 : x = a ∧ y = k
    · rw [if_pos h2, if_pos h2]
    · rw [if_neg h2, if_neg h2, if_neg h1]
theorem mo_upU {α : Type} (f : Nat → Nat → α) {a k : Nat} {v w : α} : mo_up (mo_up f a k v) a k w = mo_up f a k w := by
  funext x y
  unfold mo_up
  by_cases h1 : x = a ∧ y = k
  · rw [if_pos h1, if_pos h1]
  · rw [if_neg h1, if_neg h1, if_neg h1]
theorem mo_lwU {I : Nat → Nat → Int32} {p q k : Nat} {v : Int32} {ys : List Nat} (h : q ≠ p) : mo_up (mo_lw I p ys) q k v = mo_lw (mo_up I q k v) p ys := by
  funext x y
  show (if x = q ∧ y = k then v else (if x = p ∧ y < ys.length then nI (ys.getD y 0) else I x y)) = (if x = p ∧ y < ys.length then nI (ys.getD y 0) else (if x = q ∧ y = k then v else I x y))
  by_cases h1 : x = q ∧ y = k
  · rw [if_pos h1, if_neg (fun z => h (h1.1.symm.trans z.1)), if_pos h1]
  · rw [if_neg h1]
    by_cases h2 : x = p ∧ y < ys.length
    · rw [if_pos h2, if_pos h2]
    · rw [if_neg h2, if_neg h2, if_neg h1]
/-- one row with its count in a field -/
def mo_l1 (I : Nat → Nat → Int32) (a f q : Nat) (xs : List Nat) : Nat → Nat → Int32 := mo_up (mo_lw I q xs) a f (nI xs.length)
theorem mo_l10 (I : Nat → Nat → Int32) (a f q : Nat) : mo_up I a f 0 = mo_l1 I a f q [] := by unfold mo_l1; rw [mo_lw0]; rfl
theorem mo_l1C (I : Nat → Nat → Int32) (a f q : Nat) (xs : List Nat) : mo_l1 I a f q xs a f = nI xs.length := mo_upA _ _ _ _
theorem mo_l1A {I : Nat → Nat → Int32} {a f q k : Nat} {xs : List Nat} (h : q ≠ a) (hk : k < xs.length) : mo_l1 I a f q xs q k = nI (xs.getD k 0) := by unfold mo_l1; rw [mo_upQ _ _ _ h, mo_lwA hk]
theorem mo_l1Q {I : Nat → Nat → Int32} {a f q x : Nat} {xs : List Nat} (h1 : x ≠ q) (h2 : x ≠ a) : mo_l1 I a f q xs x = I x := by unfold mo_l1; rw [mo_upR h2, mo_lwR h1]
theorem mo_l1F {I : Nat → Nat → Int32} {a f q y : Nat} {xs : List Nat} (h1 : a ≠ q) (h2 : y ≠ f) : mo_l1 I a f q xs a y = I a y := by unfold mo_l1; rw [mo_upK _ _ _ h2, mo_lwQ h1]
theorem mo_l1P {I : Nat → Nat → Int32} {a f q : Nat} {xs : List Nat} {v : Nat} (h : q ≠ a) : mo_up (mo_up (mo_l1 I a f q xs) q xs.length (nI v)) a f (nI (xs.length + 1)) = mo_l1 I a f q (xs ++ [v]) := by
  unfold mo_l1
  rw [mo_upC _ h.symm, mo_upU, mo_lwP, List.length_append]
  rfl
/-- two rows with their count in a field -/
def mo_l2 (I : Nat → Nat → Int32) (a f q p : Nat) (xs : List (Nat × Nat)) : Nat → Nat → Int32 := mo_up (mo_lw (mo_lw I q (xs.map (fun z => z.1))) p (xs.map (fun z => z.2))) a f (nI xs.length)
theorem mo_l20 (I : Nat → Nat → Int32) (a f q p : Nat) : mo_up I a f 0 = mo_l2 I a f q p [] := by unfold mo_l2; rw [List.map_nil, List.map_nil, mo_lw0, mo_lw0]; rfl
theorem mo_l2C (I : Nat → Nat → Int32) (a f q p : Nat) (xs : List (Nat × Nat)) : mo_l2 I a f q p xs a f = nI xs.length := mo_upA _ _ _ _
theorem mo_l2Q {I : Nat → Nat → Int32} {a f q p x : Nat} {xs : List (Nat × Nat)} (h1 : x ≠ q) (h2 : x ≠ p) (h3 : x ≠ a) : mo_l2 I a f q p xs x = I x := by unfold mo_l2; rw [mo_upR h3, mo_lwR h2, mo_lwR h1]
theorem mo_l2P {I : Nat → Nat → Int32} {a f q p : Nat} {xs : List (Nat × Nat)} {v w : Nat} (h1 : q ≠ a) (h2 : p ≠ a) (h3 : q ≠ p) : mo_up (mo_up (mo_up (mo_l2 I a f q p xs) q xs.length (nI v)) p xs.length (nI w)) a f (nI (xs.length + 1)) = mo_l2 I a f q p (xs ++ [(v, w)]) := by
  unfold mo_l2
  have e1 : xs.length = (xs.map (fun z => z.1)).length := by rw [List.length_map]
  have e2 : xs.length = (xs.map (fun z => z.2)).length := by rw [List.length_map]
  rw [mo_upC _ h1.symm, mo_upC _ h2.symm, mo_upU, List.map_append, List.map_append, List.length_append]
  have e3 : mo_up (mo_lw (mo_lw I q (xs.map (fun z => z.1))) p (xs.map (fun z => z.2))) q xs.length (nI v) = mo_lw (mo_lw I q (xs.map (fun z => z.1) ++ [v])) p (xs.map (fun z => z.2)) := by
    rw [mo_lwU h3, ← mo_lwP, ← e1]
  rw [e3]
  have e4 := mo_lwP (mo_lw I q (xs.map (fun z => z.1) ++ [v])) p (xs.map (fun z => z.2)) w
  rw [← e2] at e4
  rw [e4]
  rfl
/-- a row filled by rule -/
def mo_fi {α : Type} (H : Nat → Nat → α) (q c N : Nat) (g : Nat → α) : Nat → Nat → α := fun x y => if x = q ∧ c ≤ y ∧ y < c + N then g (y - c) else H x y
theorem mo_fi0 {α : Type} (H : Nat → Nat → α) (q c : Nat) (g : Nat → α) : mo_fi H q c 0 g = H := by
  funext x y
  exact if_neg (fun z => by omega)
theorem mo_fiS {α : Type} (H : Nat → Nat → α) (q c N : Nat) (g : Nat → α) : mo_up (mo_fi H q c N g) q (c + N) (g N) = mo_fi H q c (N + 1) g := by
  funext x y
  show (if x = q ∧ y = c + N then g N else (if x = q ∧ c ≤ y ∧ y < c + N then g (y - c) else H x y)) = (if x = q ∧ c ≤ y ∧ y < c + (N + 1) then g (y - c) else H x y)
  by_cases h1 : x = q ∧ y = c + N
  · rw [if_pos h1, if_pos ⟨h1.1, by omega, by omega⟩, show y - c = N by omega]
  · rw [if_neg h1]
    by_cases h2 : x = q ∧ c ≤ y ∧ y < c + N
    · rw [if_pos h2, if_pos ⟨h2.1, h2.2.1, by omega⟩]
    · rw [if_neg h2, if_neg (fun z => by
        have h3 : y ≠ c + N := fun e => h1 ⟨z.1, e⟩
        exact h2 ⟨z.1, z.2.1, by omega⟩)]
theorem mo_fiR {α : Type} {H : Nat → Nat → α} {q c N : Nat} {g : Nat → α} {x : Nat} (h : x ≠ q) : mo_fi H q c N g x = H x := funext (fun _ => if_neg (fun z => h z.1))
theorem mo_fiA {α : Type} {H : Nat → Nat → α} {q c N : Nat} {g : Nat → α} {k : Nat} (h : k < N) : mo_fi H q c N g q (c + k) = g k := by
  show (if q = q ∧ c ≤ c + k ∧ c + k < c + N then g (c + k - c) else H q (c + k)) = g k
  rw [if_pos ⟨rfl, by omega, by omega⟩, Nat.add_sub_cancel_left]
theorem mo_it_fill {α : Type} {f : Nat → (Nat → Nat → α) → Nat → Nat → α} {q c N : Nat} {g : Nat → α} {H : Nat → Nat → α} (h : ∀ k s, k < N → (∀ x, x ≠ q → s x = H x) → f k s = mo_up s q (c + k) (g k)) : mo_it f N 0 H = mo_fi H q c N g := by
  have := mo_it_inv (f := f) (fun k s => s = mo_fi H q c k g) (k := N) (i := 0) (s := H) (mo_fi0 H q c g).symm (fun j t _ h2 ht => by
    rw [h j t (by omega) (fun x hx => by rw [ht]; exact mo_fiR hx), ht]
    exact mo_fiS H q c j g)
  rw [Nat.zero_add] at this
  exact this
