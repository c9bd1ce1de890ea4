/-! A choice, told; and what is vague. -/
theorem choice_r {R : Nat → Nat → Nat} {L : Nat → Nat → Int64} {g n : Nat} {ms : Nat → Nat} {x y z : Nat} : o_Guess_hasChoice R L g n ms x y z = if lo_ct (fun i => x.testBit i && (ms i).testBit z && fB (L (R (R g 4) 6)) (mo_dif x (2 ^ i)) y) n ≤ 1 then 0 else 1 := by
  have key : ∀ k, mo_it (b_Guess_hasChoice_6 R L g ms x y z) k 0 0 = lo_ct (fun i => x.testBit i && (ms i).testBit z && fB (L (R (R g 4) 6)) (mo_dif x (2 ^ i)) y) k := fun k => by
    induction k with
    | zero => rfl
    | succ k ih =>
      rw [mo_it_last, Nat.zero_add, ih]
      show b_Guess_hasChoice_6 R L g ms x y z k _ = lo_ct (fun i => x.testBit i && (ms i).testBit z && fB (L (R (R g 4) 6)) (mo_dif x (2 ^ i)) y) k + (if (x.testBit k && (ms k).testBit z && fB (L (R (R g 4) 6)) (mo_dif x (2 ^ k)) y) = true then 1 else 0)
      unfold b_Guess_hasChoice_6
      rw [isFit_r]
      cases x.testBit k with
      | false => rw [if_neg (by decide), Bool.false_and, Bool.false_and, if_neg (by decide), Nat.add_zero]
      | true =>
        rw [if_pos rfl, Bool.true_and]
        cases (ms k).testBit z with
        | false => rw [if_neg (by decide), Bool.false_and, if_neg (by decide), Nat.add_zero]
        | true =>
          rw [if_pos rfl, Bool.true_and]
          cases fB (L (R (R g 4) 6)) (mo_dif x (2 ^ k)) y with
          | false => rw [if_neg (show ¬ false = true by decide), if_pos rfl, if_neg (by decide), Nat.add_zero]
          | true => rw [if_pos rfl, if_neg (show ¬ (1 : Int32) = 0 by decide), if_pos rfl]
  unfold o_Guess_hasChoice w_Guess_hasChoice_6
  rw [key n]
theorem part_r {R : Nat → Nat → Nat} {I : Nat → Nat → Int32} {g n x : Nat} : ((∃ i, i < n ∧ x.testBit i = false ∧ ¬ I (R (R g 4) 7) (x ||| 2 ^ i) = 0) ∧ o_Guess_isPartOfVague R I g n x = 1) ∨ ((∀ i, i < n → x.testBit i = false → I (R (R g 4) 7) (x ||| 2 ^ i) = 0) ∧ o_Guess_isPartOfVague R I g n x = 0) := by
  have run : ∀ m i, i + m = n → (∀ j, j < i → x.testBit j = false → I (R (R g 4) 7) (x ||| 2 ^ j) = 0) → ((∃ i, i < n ∧ x.testBit i = false ∧ ¬ I (R (R g 4) 7) (x ||| 2 ^ i) = 0) ∧ mo_lp (b_Guess_isPartOfVague_2 R I g x) m i () = .inr 1) ∨ ((∀ i, i < n → x.testBit i = false → I (R (R g 4) 7) (x ||| 2 ^ i) = 0) ∧ mo_lp (b_Guess_isPartOfVague_2 R I g x) m i () = .inl ()) := fun m => by
    induction m with
    | zero => intro i hi h; exact Or.inr ⟨fun j hj => h j (by omega), rfl⟩
    | succ m ih =>
      intro i hi h
      by_cases c1 : x.testBit i = true
      · rw [mo_lp_inlS (s' := ()) (by unfold b_Guess_isPartOfVague_2; rw [if_pos c1])]
        refine ih (i + 1) (by omega) (fun j hj hz => ?_)
        by_cases e : j = i
        · rw [e, c1] at hz; cases hz
        · exact h j (by omega) hz
      · by_cases c2 : I (R (R g 4) 7) (x ||| 2 ^ i) = 0
        · rw [mo_lp_inlS (s' := ()) (by unfold b_Guess_isPartOfVague_2; rw [if_neg c1, if_pos c2])]
          refine ih (i + 1) (by omega) (fun j hj hz => ?_)
          by_cases e : j = i
          · rw [e]; exact c2
          · exact h j (by omega) hz
        · exact Or.inl ⟨⟨i, by omega, bit_f c1, c2⟩, mo_lp_inrS (by unfold b_Guess_isPartOfVague_2; rw [if_neg c1, if_neg c2])⟩
  unfold o_Guess_isPartOfVague w_Guess_isPartOfVague_2
  rcases run n 0 (Nat.zero_add n) (fun j hj => absurd hj (Nat.not_lt_zero j)) with ⟨h1, h2⟩ | ⟨h1, h2⟩
  · exact Or.inl ⟨h1, by rw [h2]; rfl⟩
  · exact Or.inr ⟨h1, by rw [h2]; rfl⟩
