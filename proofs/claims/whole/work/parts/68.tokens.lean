/-! The class: tokens. -/
theorem mo_upX {α : Type} {H : Nat → Nat → α} {a f g : Nat} {x y : α} (h : f ≠ g) : mo_up (mo_up H a f x) a g y = mo_up (mo_up H a g y) a f x := by
  funext p q
  by_cases c1 : p = a
  · subst c1
    by_cases c2 : q = f
    · subst c2; rw [mo_upK _ _ _ h, mo_upA, mo_upA]
    · rw [mo_upK (mo_up H p g y) p x c2]
      by_cases c3 : q = g
      · subst c3; rw [mo_upA, mo_upA]
      · rw [mo_upK _ _ _ c3, mo_upK _ _ _ c3, mo_upK _ _ _ c2]
  · rw [mo_upQ _ _ _ c1, mo_upQ _ _ _ c1, mo_upQ _ _ _ c1, mo_upQ _ _ _ c1]
theorem mo_upS {α : Type} (H : Nat → Nat → α) (a f : Nat) : mo_up H a f (H a f) = H := by
  funext p q
  by_cases c : p = a ∧ q = f
  · rw [c.1, c.2, mo_upA]
  · exact if_neg c
