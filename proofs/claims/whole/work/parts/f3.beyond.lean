/-! No men beyond those there are fit. -/
theorem addH_hi {R : Nat → Nat → Nat} {L : Nat → Nat → Int64} {g n x y z : Nat} (hn : n ≤ 8) (hx : x < 2 ^ n) (hy : y < 2 ^ n) (hxy : x ≠ y) (hz : z < n) (hF : ∀ x' y', x' < 2 ^ n → 2 ^ n ≤ y' → y' < 256 → fB (L (R (R g 4) 6)) x' y' = false) : ∀ x' y', x' < 2 ^ n → 2 ^ n ≤ y' → y' < 256 → fB (w_Guess_addHolder_12 R L g n x y z (R (R g 4) 6)) x' y' = false := by
  have hp8 := mo_p8 hn
  have hlast : (2 ^ n - 1) / 64 + 1 ≤ 4 := by omega
  by_cases c6 : z < 6
  · have key := mo_it_inv (f := b_Guess_addHolder_12 R g x y z) (fun j s => j ≤ (2 ^ n - 1) / 64 + 1 ∧ (∀ q, q ≠ R (R g 4) 6 → s q = L q) ∧ ∀ w k, k < 4 → s (R (R g 4) 6) (w * 4 + k) = if w = y ∧ k < j then L (R (R g 4) 6) (y * 4 + k) ||| ((L (R (R g 4) 6) (x * 4 + k) &&& mo_wit z) <<< (Int32.toInt64 (nI (2 ^ z)) &&& 63)) else L (R (R g 4) 6) (w * 4 + k)) (k := (2 ^ n - 1) / 64 + 1) (i := 0) (s := L) ⟨Nat.zero_le _, fun _ _ => rfl, fun w k _ => by rw [if_neg (fun z => absurd z.2 (Nat.not_lt_zero k))]⟩ (fun j s _ hj hP => by
      obtain ⟨_, h1, h2⟩ := hP
      have hj4 : j < 4 := by omega
      unfold b_Guess_addHolder_12
      rw [if_neg (by omega)]
      refine ⟨by omega, fun q hq => by rw [mo_upR hq]; exact h1 q hq, fun w k hk => ?_⟩
      by_cases e : w * 4 + k = y * 4 + j
      · have e1 : w = y := by omega
        have e2 : k = j := by omega
        rw [e, mo_upA, if_pos ⟨e1, by omega⟩, e2, h2 y j hj4, if_neg (fun z => absurd z.2 (Nat.lt_irrefl j)), h2 x j hj4, if_neg (fun z => hxy z.1)]
      · rw [mo_upK _ _ _ e, h2 w k hk]
        by_cases c : w = y ∧ k < j
        · rw [if_pos c, if_pos ⟨c.1, by omega⟩]
        · rw [if_neg c, if_neg (fun z => c ⟨z.1, by omega⟩)])
    rw [Nat.zero_add] at key
    obtain ⟨_, k1, k2⟩ := key
    intro x' y' hx' hy1 hy2
    have hup : 2 ^ n ≤ y' ^^^ 2 ^ z ∧ y' ^^^ 2 ^ z < 256 := ⟨Nat.not_lt.mp (fun e => by
      have e2 := Nat.xor_lt_two_pow e (Nat.pow_lt_pow_right (show 1 < 2 by decide) hz)
      rw [Nat.xor_assoc, Nat.xor_self, Nat.xor_zero] at e2
      omega), Nat.xor_lt_two_pow (n := 8) hy2 (Nat.pow_lt_pow_right (show 1 < 2 by decide) (by omega))⟩
    have f1 := hF x' y' hx' hy1 hy2
    have f2 := hF y y' hy hy1 hy2
    have f3 := hF x _ hx hup.1 hup.2
    have ht := List.all_eq_true.mp (List.all_eq_true.mp yx_all z (List.mem_range.mpr (by omega))) y' (List.mem_range.mpr (by omega))
    rw [if_pos c6, Bool.and_eq_true, Bool.and_eq_true] at ht
    have t1 := of_decide_eq_true ht.1.1
    have t2 := of_decide_eq_true ht.1.2
    have t3 := of_decide_eq_true ht.2
    unfold fB at f1 f2 f3 ⊢
    rw [t2, t3] at f3
    have k3 : w_Guess_addHolder_12 R L g n x y z (R (R g 4) 6) (x' * 4 + y' / 64) = _ := k2 x' (y' / 64) (by omega)
    rw [k3]
    by_cases e : x' = y ∧ y' / 64 < (2 ^ n - 1) / 64 + 1
    · rw [if_pos e, lbt_or, lbt_more c6 (Nat.mod_lt _ (by decide)), f2, f3, Bool.and_false]
      rfl
    · rw [if_neg e, f1]
  · have hm : z - 6 < 2 := by omega
    have hn7 : 2 ^ (z + 1) ≤ 2 ^ n := Nat.pow_le_pow_right (by decide) (by omega)
    have ox : ∀ k j, k < 4 → j < 4 → j.testBit (z - 6) = false → ((k = j ||| 2 ^ (z - 6)) ↔ (k.testBit (z - 6) = true ∧ k ^^^ 2 ^ (z - 6) = j)) := fun k j hk hj hb => by
      have := List.all_eq_true.mp (List.all_eq_true.mp (List.all_eq_true.mp orx_all (z - 6) (List.mem_range.mpr hm)) k (List.mem_range.mpr hk)) j (List.mem_range.mpr hj)
      rw [if_neg (by rw [hb]; decide)] at this
      exact of_decide_eq_true this
    have key := mo_it_inv (f := b_Guess_addHolder_12 R g x y z) (fun j s => j ≤ (2 ^ n - 1) / 64 + 1 ∧ (∀ q, q ≠ R (R g 4) 6 → s q = L q) ∧ ∀ w k, k < 4 → s (R (R g 4) 6) (w * 4 + k) = if w = y ∧ k.testBit (z - 6) = true ∧ k ^^^ 2 ^ (z - 6) < j then L (R (R g 4) 6) (y * 4 + k) ||| L (R (R g 4) 6) (x * 4 + (k ^^^ 2 ^ (z - 6))) else L (R (R g 4) 6) (w * 4 + k)) (k := (2 ^ n - 1) / 64 + 1) (i := 0) (s := L) ⟨Nat.zero_le _, fun _ _ => rfl, fun w k _ => by rw [if_neg (fun z => absurd z.2.2 (Nat.not_lt_zero _))]⟩ (fun j s _ hj hP => by
      obtain ⟨_, h1, h2⟩ := hP
      have hj4 : j < 4 := by omega
      unfold b_Guess_addHolder_12
      rw [if_pos (by omega)]
      by_cases cb : j.testBit (z - 6) = true
      · rw [if_pos cb]
        refine ⟨by omega, h1, fun w k hk => ?_⟩
        rw [h2 w k hk]
        by_cases c : w = y ∧ k.testBit (z - 6) = true ∧ k ^^^ 2 ^ (z - 6) < j
        · rw [if_pos c, if_pos ⟨c.1, c.2.1, by omega⟩]
        · rw [if_neg c, if_neg (fun w1 => c ⟨w1.1, w1.2.1, by
            have hne : k ^^^ 2 ^ (z - 6) ≠ j := fun e => by
              have h5 : (k ^^^ 2 ^ (z - 6)).testBit (z - 6) = false := by rw [Nat.testBit_xor, Nat.testBit_two_pow_self, w1.2.1]; rfl
              rw [e, cb] at h5
              cases h5
            have := w1.2.2
            omega⟩)]
      · have cb := bit_f cb
        rw [if_neg (by rw [cb]; decide)]
        have hor := mo_or4 hj4 hm
        refine ⟨by omega, fun q hq => by rw [mo_upR hq]; exact h1 q hq, fun w k hk => ?_⟩
        by_cases e : w * 4 + k = y * 4 + (j ||| 2 ^ (z - 6))
        · have e1 : w = y := by omega
          have e2 : k = j ||| 2 ^ (z - 6) := by omega
          have o := (ox k j hk hj4 cb).mp e2
          rw [e, mo_upA, if_pos ⟨e1, o.1, by omega⟩, ← e2, o.2, h2 y k hk, if_neg (fun w1 => by have := w1.2.2; omega), h2 x j hj4, if_neg (fun w1 => hxy w1.1)]
        · rw [mo_upK _ _ _ e, h2 w k hk]
          by_cases c : w = y ∧ k.testBit (z - 6) = true ∧ k ^^^ 2 ^ (z - 6) < j
          · rw [if_pos c, if_pos ⟨c.1, c.2.1, by omega⟩]
          · rw [if_neg c, if_neg (fun w1 => c ⟨w1.1, w1.2.1, by
              have hne : k ^^^ 2 ^ (z - 6) ≠ j := fun e3 => e (by rw [w1.1, (ox k j hk hj4 cb).mpr ⟨w1.2.1, e3⟩])
              have := w1.2.2
              omega⟩)])
    rw [Nat.zero_add] at key
    obtain ⟨_, k1, k2⟩ := key
    intro x' y' hx' hy1 hy2
    have hup : 2 ^ n ≤ y' ^^^ 2 ^ z ∧ y' ^^^ 2 ^ z < 256 := ⟨Nat.not_lt.mp (fun e => by
      have e2 := Nat.xor_lt_two_pow e (Nat.pow_lt_pow_right (show 1 < 2 by decide) hz)
      rw [Nat.xor_assoc, Nat.xor_self, Nat.xor_zero] at e2
      omega), Nat.xor_lt_two_pow (n := 8) hy2 (Nat.pow_lt_pow_right (show 1 < 2 by decide) (by omega))⟩
    have f1 := hF x' y' hx' hy1 hy2
    have f2 := hF y y' hy hy1 hy2
    have f3 := hF x _ hx hup.1 hup.2
    have ht := List.all_eq_true.mp (List.all_eq_true.mp yx_all z (List.mem_range.mpr (by omega))) y' (List.mem_range.mpr (by omega))
    rw [if_neg c6, Bool.and_eq_true, Bool.and_eq_true] at ht
    have t1 := of_decide_eq_true ht.1.1
    have t2 := of_decide_eq_true ht.1.2
    have t3 := of_decide_eq_true ht.2
    have k3 : w_Guess_addHolder_12 R L g n x y z (R (R g 4) 6) (x' * 4 + y' / 64) = _ := k2 x' (y' / 64) (by omega)
    unfold fB at f1 f2 f3 ⊢
    rw [t2, t3] at f3
    rw [k3]
    by_cases e : x' = y ∧ (y' / 64).testBit (z - 6) = true ∧ (y' / 64) ^^^ 2 ^ (z - 6) < (2 ^ n - 1) / 64 + 1
    · rw [if_pos e, lbt_or, f2, f3]
      rfl
    · rw [if_neg e, f1]
theorem fill_hi {R : Nat → Nat → Nat} {L : Nat → Nat → Int64} {g n : Nat} {ms : Nat → Nat} (hn : n ≤ 8) : ∀ x y, x < 2 ^ n → 2 ^ n ≤ y → y < 256 → fB (w_Guess_fillFits_17 R L g n ms (R (R g 4) 6)) x y = false := by
  have hp8 := mo_p8 hn
  have hp := Nat.two_pow_pos n
  have key := mo_it_inv (f := b_Guess_fillFits_17 R g n ms) (fun i s => i ≤ 2 ^ n - 1 ∧ ∀ x y, x < 2 ^ n → 2 ^ n ≤ y → y < 256 → fB (s (R (R g 4) 6)) x y = false) (k := 2 ^ n - 1) (i := 0) (s := mo_up (mo_fi L (R (R g 4) 6) 0 1024 (fun _ => 0)) (R (R g 4) 6) 0 1) ⟨Nat.zero_le _, fun x y hx hy1 hy2 => by
      have ht := of_decide_eq_true (List.all_eq_true.mp one_all y (List.mem_range.mpr hy2))
      show mo_lbt (mo_up (mo_fi L (R (R g 4) 6) 0 1024 (fun _ => 0)) (R (R g 4) 6) 0 1 (R (R g 4) 6) (x * 4 + y / 64)) (y % 64) = false
      by_cases c : x * 4 + y / 64 = 0
      · rw [if_pos (by omega), decide_eq_false (by omega)] at ht
        rw [c, mo_upA]; exact ht
      · rw [mo_upK _ _ _ c, mo_fiZ (by omega)]; exact lbt_0 _⟩ (fun i s _ hi hP => by
    obtain ⟨_, h1⟩ := hP
    have hM : 1 + i < 2 ^ n := by omega
    have htz := mo_tzx hn (by omega : 0 < 1 + i) hM
    have hless : mo_dif (1 + i) (2 ^ mo_tz (1 + i)) < 1 + i := by rw [dif_x htz.2.2]; exact mo_xor_lt htz.2.2
    refine ⟨by omega, ?_⟩
    show ∀ x y, x < 2 ^ n → 2 ^ n ≤ y → y < 256 → fB (mo_it (b_Guess_fillFits_32 R g n ms i) n 0 s (R (R g 4) 6)) x y = false
    refine mo_it_inv (f := b_Guess_fillFits_32 R g n ms i) (fun _ w => ∀ x y, x < 2 ^ n → 2 ^ n ≤ y → y < 256 → fB (w (R (R g 4) 6)) x y = false) h1 (fun j w _ hj hw => ?_)
    unfold b_Guess_fillFits_32
    by_cases c : (ms (mo_tz (1 + i))).testBit j = true
    · rw [if_pos c]
      exact addH_hi hn (by omega) hM (by omega) (by omega) hw
    · rw [if_neg c]; exact hw)
  rw [Nat.zero_add] at key
  exact key.2
