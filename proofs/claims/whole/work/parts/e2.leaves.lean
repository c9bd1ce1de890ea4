/-! Whether names leave one unknown, told. -/
/-- whether with these other men the one who is asked about has a choice -/
def tPk (R : Nat → Nat → Nat) (L : Nat → Nat → Int64) (g n : Nat) (ms : Nat → Nat) (x z y : Nat) : Bool := !y.testBit z && !decide (o_Guess_hasChoice R L g n ms (mo_dif ((2 ^ n) - 1) x) (mo_dif (mo_dif ((2 ^ n) - 1) (2 ^ z)) y) z = 0)
theorem lz_is {s : Int64} {k : Nat} (hs : ¬ lg_cmp s 0 = 0) (hk : k < 64) (e : o_Long_numberOfTrailingZeros s = nI k) : mo_lz s = k := by
  have h := mo_lzx hs
  rw [e] at h
  exact ((nI_eq (by omega) (by omega)).mp h.1).symm
theorem lv_run {R : Nat → Nat → Nat} {L : Nat → Nat → Int64} {g n : Nat} {ms : Nat → Nat} {x z w : Nat} : ∀ m i s, i + m = 64 → (∀ b, b < i → mo_lbt s b = false) → ((∃ b, b < 64 ∧ mo_lbt s b = true ∧ tPk R L g n ms x z (w * 64 + b) = true) ∧ mo_lp (b_Guess_leavesUnknown_36 R L g n ms x z w) m i s = .inr (.inr 1)) ∨ ((∀ b, b < 64 → mo_lbt s b = true → tPk R L g n ms x z (w * 64 + b) = false) ∧ ∃ u, mo_lp (b_Guess_leavesUnknown_36 R L g n ms x z w) m i s = .inl u ∨ mo_lp (b_Guess_leavesUnknown_36 R L g n ms x z w) m i s = .inr (.inl u)) := by
  intro m
  induction m with
  | zero =>
    intro i s hi h
    exact Or.inr ⟨fun b hb hz => (by rw [h b (by omega)] at hz; cases hz), s, Or.inl rfl⟩
  | succ m ih =>
    intro i s hi h
    by_cases c0 : lg_cmp s 0 = 0
    · refine Or.inr ⟨fun b _ hz => ?_, s, Or.inr (mo_lp_inrS (by unfold b_Guess_leavesUnknown_36; rw [if_pos c0]))⟩
      rw [lc_eq0.mp c0, lbt_0] at hz
      cases hz
    · obtain ⟨k, hk, ho, hk1, hk2, hk3⟩ := lbt_low (fun z => c0 (lc_eq0.mpr z))
      have hlz := lz_is c0 hk ho
      have hik : i ≤ k := Nat.not_lt.mp (fun z => by rw [h k z] at hk1; cases hk1)
      cases hP : tPk R L g n ms x z (w * 64 + k) with
      | true =>
        refine Or.inl ⟨⟨k, hk, hk1, hP⟩, mo_lp_inrS ?_⟩
        unfold tPk at hP
        rw [Bool.and_eq_true] at hP
        unfold b_Guess_leavesUnknown_36
        rw [if_neg c0, hlz, if_neg (by have := hP.1; intro y; rw [y] at this; cases this), if_neg (by have := hP.2; intro y; rw [decide_eq_true y] at this; cases this)]
      | false =>
        have hb : b_Guess_leavesUnknown_36 R L g n ms x z w i s = .inl (s &&& (s - 1)) := by
          unfold tPk at hP
          unfold b_Guess_leavesUnknown_36
          rw [if_neg c0, hlz]
          by_cases c1 : (w * 64 + k).testBit z = true
          · rw [if_pos c1]
          · rw [if_neg c1]
            rw [bit_f c1, Bool.not_false, Bool.true_and] at hP
            by_cases c2 : o_Guess_hasChoice R L g n ms (mo_dif ((2 ^ n) - 1) x) (mo_dif (mo_dif ((2 ^ n) - 1) (2 ^ z)) (w * 64 + k)) z = 0
            · rw [if_pos c2]
            · rw [decide_eq_false c2] at hP; cases hP
        rw [mo_lp_inlS hb]
        rcases ih (i + 1) (s &&& (s - 1)) (by omega) (fun b hb2 => by
          rw [hk3 b]
          by_cases e : b = k
          · rw [decide_eq_true e, Bool.not_true, Bool.and_false]
          · by_cases e2 : b < i
            · rw [h b e2, Bool.false_and]
            · rw [hk2 b (by omega), Bool.false_and]) with ⟨⟨b, h1, h2, h3⟩, h4⟩ | ⟨h1, h2⟩
        · rw [hk3 b, Bool.and_eq_true] at h2
          exact Or.inl ⟨⟨b, h1, h2.1, h3⟩, h4⟩
        · refine Or.inr ⟨fun b hb2 hz => ?_, h2⟩
          by_cases e : b = k
          · rw [e]; exact hP
          · exact h1 b hb2 (by rw [hk3 b, hz, decide_eq_false e]; rfl)
theorem leaves_r {R : Nat → Nat → Nat} {L : Nat → Nat → Int64} {g n : Nat} {ms : Nat → Nat} {x z : Nat} : ((∃ y, y < 256 ∧ fB (L (R (R g 4) 6)) x y = true ∧ tPk R L g n ms x z y = true) ∧ o_Guess_leavesUnknown R L g n ms x z = 1) ∨ ((∀ y, y < 256 → fB (L (R (R g 4) 6)) x y = true → tPk R L g n ms x z y = false) ∧ o_Guess_leavesUnknown R L g n ms x z = 0) := by
  have run : ∀ m i, i + m = 4 → (∀ y, y < i * 64 → fB (L (R (R g 4) 6)) x y = true → tPk R L g n ms x z y = false) → ((∃ y, y < 256 ∧ fB (L (R (R g 4) 6)) x y = true ∧ tPk R L g n ms x z y = true) ∧ mo_lp (b_Guess_leavesUnknown_14 R L g n ms x z) m i () = .inr 1) ∨ ((∀ y, y < 256 → fB (L (R (R g 4) 6)) x y = true → tPk R L g n ms x z y = false) ∧ mo_lp (b_Guess_leavesUnknown_14 R L g n ms x z) m i () = .inl ()) := fun m => by
    induction m with
    | zero => intro i hi h; exact Or.inr ⟨fun y hy => h y (by omega), rfl⟩
    | succ m ih =>
      intro i hi h
      have fb : ∀ b, b < 64 → fB (L (R (R g 4) 6)) x (i * 64 + b) = mo_lbt (L (R (R g 4) 6) (x * 4 + i)) b := fun b hb => by
        unfold fB
        rw [show (i * 64 + b) / 64 = i by omega, show (i * 64 + b) % 64 = b by omega]
      rcases lv_run (R := R) (L := L) (g := g) (n := n) (ms := ms) (x := x) (z := z) (w := i) 64 0 (L (R (R g 4) 6) (x * 4 + i)) (by decide) (fun b hb => absurd hb (Nat.not_lt_zero b)) with ⟨⟨b, h1, h2, h3⟩, h4⟩ | ⟨h1, u, h2⟩
      · refine Or.inl ⟨⟨i * 64 + b, by omega, by rw [fb b h1]; exact h2, h3⟩, mo_lp_inrS ?_⟩
        unfold b_Guess_leavesUnknown_14 w_Guess_leavesUnknown_36
        rw [h4]
        rfl
      · have hb : b_Guess_leavesUnknown_14 R L g n ms x z i () = .inl () := by
          unfold b_Guess_leavesUnknown_14 w_Guess_leavesUnknown_36
          rcases h2 with h2 | h2
          · rw [h2]; rfl
          · rw [h2]; rfl
        rw [mo_lp_inlS hb]
        refine ih (i + 1) (by omega) (fun y hy hf => ?_)
        by_cases c : y < i * 64
        · exact h y c hf
        · have e : y = i * 64 + (y - i * 64) := by omega
          rw [e] at hf ⊢
          rw [fb _ (by omega)] at hf
          exact h1 _ (by omega) hf
  unfold o_Guess_leavesUnknown w_Guess_leavesUnknown_14
  rcases run 4 0 (by decide) (fun y hy => absurd hy (by omega)) with ⟨h1, h2⟩ | ⟨h1, h2⟩
  · exact Or.inl ⟨h1, by rw [h2]; rfl⟩
  · exact Or.inr ⟨h1, by rw [h2]; rfl⟩
