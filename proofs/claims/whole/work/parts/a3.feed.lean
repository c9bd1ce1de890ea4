/-! What is fed, told. -/
theorem mo_gdA {xs ys : List Nat} {k : Nat} (h : k < xs.length) : (xs ++ ys).getD k 0 = xs.getD k 0 := by
  rw [List.getD_eq_getElem?_getD, List.getD_eq_getElem?_getD, List.getElem?_append_left h]
theorem mo_gdB {xs ys : List Nat} {j : Nat} : (xs ++ ys).getD (xs.length + j) 0 = ys.getD j 0 := by
  rw [List.getD_eq_getElem?_getD, List.getD_eq_getElem?_getD, List.getElem?_append_right (Nat.le_add_right _ _), Nat.add_sub_cancel_left]
theorem put_xp {K : mo_K} {R : Nat → Nat → Nat} {I : Nat → Nat → Int32} {b : Nat} {xs : List Nat} {q : Int32} (h : mo_tb K R b) (hX : mo_xp I R b xs) (hl : xs.length + 4 ≤ 940) : mo_xp (o_Tape_put R I b xs.length q) R b (xs ++ mo_bts q) := by
  have hne := mo_tb_ne h
  have hL := mo_lenb xs q
  have e24 := mo_put_b (mo_sh24 q)
  have e16 := mo_put_b (mo_sh16 q)
  have e8 := mo_put_b (mo_sh8 q)
  have e0 := mo_put_b (mo_sh0 q)
  refine ⟨?_, by rw [hL]; exact hl, fun k hk => ?_⟩
  · rw [hL]
    unfold o_Tape_put
    rw [mo_upA]
  · rw [hL] at hk
    unfold o_Tape_put
    rw [mo_upQ _ _ _ hne]
    by_cases c : k < xs.length
    · rw [mo_upK _ _ _ (by omega), mo_upQ _ _ _ hne, mo_upK _ _ _ (by omega), mo_upQ _ _ _ hne, mo_upK _ _ _ (by omega), mo_upQ _ _ _ hne, mo_upK _ _ _ (by omega), mo_gdA c]
      exact hX.2.2 k c
    · obtain ⟨j, rfl⟩ := Nat.exists_eq_add_of_le (Nat.le_of_not_lt c)
      rw [mo_gdB]
      rcases (by omega : j = 0 ∨ j = 1 ∨ j = 2 ∨ j = 3) with rfl | rfl | rfl | rfl
      · rw [mo_upK _ _ _ (by omega), mo_upQ _ _ _ hne, mo_upK _ _ _ (by omega), mo_upQ _ _ _ hne, mo_upK _ _ _ (by omega), mo_upQ _ _ _ hne, Nat.add_zero, mo_upA]
        exact ⟨e24, mo_b_lt _⟩
      · rw [mo_upK _ _ _ (by omega), mo_upQ _ _ _ hne, mo_upK _ _ _ (by omega), mo_upQ _ _ _ hne, mo_upA]
        exact ⟨e16, mo_b_lt _⟩
      · rw [mo_upK _ _ _ (by omega), mo_upQ _ _ _ hne, show xs.length + 2 = xs.length + 1 + 1 from rfl, mo_upA]
        exact ⟨e8, mo_b_lt _⟩
      · rw [show xs.length + 3 = xs.length + 1 + 1 + 1 from rfl, mo_upA]
        exact ⟨e0, mo_b_lt _⟩
