/-! What is vague, told. -/
/-- whether some set of names that has all of these leaves him unknown -/
def tVg (n : Nat) (lv : Nat → Bool) (x : Nat) : Bool := (List.range (2 ^ n)).any (fun y => decide (∀ i, i < n → x.testBit i = true → y.testBit i = true) && lv y)
theorem tVg_iff {n : Nat} {lv : Nat → Bool} {x : Nat} : tVg n lv x = true ↔ ∃ y, y < 2 ^ n ∧ (∀ i, i < n → x.testBit i = true → y.testBit i = true) ∧ lv y = true := by
  unfold tVg
  rw [List.any_eq_true]
  constructor
  · rintro ⟨y, h1, h2⟩
    rw [Bool.and_eq_true] at h2
    exact ⟨y, List.mem_range.mp h1, of_decide_eq_true h2.1, h2.2⟩
  · rintro ⟨y, h1, h2, h3⟩
    exact ⟨y, List.mem_range.mpr h1, by rw [decide_eq_true h2, h3]; rfl⟩
theorem tVg_step {n : Nat} {lv : Nat → Bool} {x : Nat} (hx : x < 2 ^ n) : tVg n lv x = true ↔ (lv x = true ∨ ∃ i, i < n ∧ x.testBit i = false ∧ tVg n lv (x ||| 2 ^ i) = true) := by
  rw [tVg_iff]
  constructor
  · rintro ⟨y, h1, h2, h3⟩
    by_cases e : y = x
    · rw [e] at h3; exact Or.inl h3
    · refine Or.inr ?_
      have : ∃ i, i < n ∧ x.testBit i = false ∧ y.testBit i = true := Classical.byContradiction (fun hn => e (by
        apply Nat.eq_of_testBit_eq
        intro i
        by_cases c : i < n
        · cases hxi : x.testBit i with
          | true => rw [h2 i c hxi]
          | false =>
            cases hyi : y.testBit i with
            | false => rfl
            | true => exact absurd ⟨i, c, hxi, hyi⟩ hn
        · rw [bit_ge hx (by omega), bit_ge h1 (by omega)]))
      obtain ⟨i, hi, hxi, hyi⟩ := this
      refine ⟨i, hi, hxi, tVg_iff.mpr ⟨y, h1, fun j hj hz => ?_, h3⟩⟩
      rw [Nat.testBit_or, Nat.testBit_two_pow, Bool.or_eq_true] at hz
      rcases hz with hz | hz
      · exact h2 j hj hz
      · rw [← of_decide_eq_true hz]; exact hyi
  · rintro (h | ⟨i, hi, hxi, h⟩)
    · exact ⟨x, hx, fun _ _ z => z, h⟩
    · obtain ⟨y, h1, h2, h3⟩ := tVg_iff.mp h
      exact ⟨y, h1, fun j hj hz => h2 j hj (by rw [Nat.testBit_or, hz, Bool.true_or]), h3⟩
/-- the least number among the fewest bits that is not vague, of those from a number on -/
def tFw (n : Nat) (vg : Nat → Bool) (b x : Nat) : Nat := if vg x = true then b else if mo_pc b < mo_pc x then b else x
theorem fewest_r {R : Nat → Nat → Nat} {I : Nat → Nat → Int32} {L : Nat → Nat → Int64} {g n : Nat} {ms : Nat → Nat} {z : Nat} : ∀ i, i ≤ 2 ^ n → (∀ x, 2 ^ n - i ≤ x → x < 2 ^ n → (mo_it (b_Guess_fewestAbout_14 R I L g n ms z) i 0 (2 ^ n - 1, I (R (R g 4) 7))).2 x = if tVg n (fun y => !decide (o_Guess_leavesUnknown R (w_Guess_fillFits_17 R L g n ms) g n ms y z = 0)) x = true then 1 else 0) ∧ (mo_it (b_Guess_fewestAbout_14 R I L g n ms z) i 0 (2 ^ n - 1, I (R (R g 4) 7))).1 = mo_it (fun k b => tFw n (tVg n (fun y => !decide (o_Guess_leavesUnknown R (w_Guess_fillFits_17 R L g n ms) g n ms y z = 0))) b (2 ^ n - k - 1)) i 0 (2 ^ n - 1) := by
  intro i
  generalize hlv : (fun y => !decide (o_Guess_leavesUnknown R (w_Guess_fillFits_17 R L g n ms) g n ms y z = 0)) = lv
  induction i with
  | zero => intro _; exact ⟨fun x h1 h2 => by omega, rfl⟩
  | succ i ih =>
    intro hi
    obtain ⟨h1, h2⟩ := ih (by omega)
    rw [mo_it_last, mo_it_last, Nat.zero_add, ← h2]
    generalize mo_it (b_Guess_fewestAbout_14 R I L g n ms z) i 0 (2 ^ n - 1, I (R (R g 4) 7)) = s at h1 h2 ⊢
    generalize hX : 2 ^ n - i - 1 = X
    have hXn : X < 2 ^ n := by omega
    have hpart := part_r (R := R) (I := mo_rw I (R (R g 4) 7) s.2) (g := g) (n := n) (x := X)
    rw [mo_rw_at] at hpart
    have hlX : lv X = !decide (o_Guess_leavesUnknown R (w_Guess_fillFits_17 R L g n ms) g n ms X z = 0) := by rw [← hlv]
    have hsup : ∀ j, j < n → X.testBit j = false → (s.2 (X ||| 2 ^ j) = 0 ↔ ¬ tVg n lv (X ||| 2 ^ j) = true) := fun j hj hb => by
      rw [h1 _ (by have := mo_or_gt hb; omega) (Nat.or_lt_two_pow hXn (Nat.pow_lt_pow_right (by decide) hj))]
      by_cases c : tVg n lv (X ||| 2 ^ j) = true
      · rw [if_pos c]; exact ⟨fun e => absurd e (by decide), fun e => absurd c e⟩
      · rw [if_neg c]; exact ⟨fun _ => c, fun _ => rfl⟩
    have body : b_Guess_fewestAbout_14 R I L g n ms z i s = (tFw n (tVg n lv) s.1 X, va_up s.2 X (if tVg n lv X = true then 1 else 0)) := by
      unfold b_Guess_fewestAbout_14 tFw
      rw [hX]
      rcases hpart with ⟨⟨j, hj, hb, hv⟩, hp⟩ | ⟨hall, hp⟩
      · have hvg : tVg n lv X = true := (tVg_step hXn).mpr (Or.inr ⟨j, hj, hb, Classical.byContradiction (fun e => hv ((hsup j hj hb).mpr e))⟩)
        rw [hp, if_neg (by decide), va_up_self, if_pos hvg, if_pos hvg, if_neg (by decide)]
      · rw [hp, if_pos rfl]
        have hno : ∀ j, j < n → X.testBit j = false → ¬ tVg n lv (X ||| 2 ^ j) = true := fun j hj hb => (hsup j hj hb).mp (hall j hj hb)
        by_cases c : o_Guess_leavesUnknown R (w_Guess_fillFits_17 R L g n ms) g n ms X z = 0
        · have hvg : ¬ tVg n lv X = true := fun e => by
            rcases (tVg_step hXn).mp e with w | ⟨j, hj, hb, w⟩
            · rw [hlX, decide_eq_true c] at w; cases w
            · exact hno j hj hb w
          rw [if_pos c, va_up_self, if_pos rfl, if_neg hvg, if_neg hvg]
          by_cases c2 : mo_pc s.1 < mo_pc X
          · rw [if_pos c2, if_pos c2]
          · rw [if_neg c2, if_neg c2]
        · have hvg : tVg n lv X = true := (tVg_step hXn).mpr (Or.inl (by rw [hlX, decide_eq_false c]; rfl))
          rw [if_neg c, va_up_self, if_pos hvg, if_pos hvg, if_neg (by decide)]
    rw [body]
    refine ⟨fun x hx1 hx2 => ?_, by rw [← hX]⟩
    show va_up s.2 X _ x = _
    by_cases e : x = X
    · rw [e, va_up_self]
    · rw [va_up_ne _ _ e]
      exact h1 x (by omega) hx2
