/-! Sets of men that fit, told: one man more. -/
def mo_lbt (x : Int64) (k : Nat) : Bool := x.toBitVec.getLsbD k
theorem wit_all : (List.range 6).all (fun j => (List.range 64).all (fun b => decide (mo_lbt (mo_wit j) b = !b.testBit j) && decide ((decide (2 ^ j ≤ b) && !(b - 2 ^ j).testBit j) = b.testBit j) && (!b.testBit j || decide (b - 2 ^ j = b ^^^ 2 ^ j)))) = true := by decide +kernel
theorem shf_all : (List.range 6).all (fun j => decide ((Int32.toInt64 (nI (2 ^ j)) &&& 63).toBitVec.smod 64 = BitVec.ofNat 64 (2 ^ j))) = true := by decide +kernel
theorem lbt_or {x y : Int64} {k : Nat} : mo_lbt (x ||| y) k = (mo_lbt x k || mo_lbt y k) := by
  unfold mo_lbt
  rw [Int64.toBitVec_or, BitVec.getLsbD_or]
theorem lbt_and {x y : Int64} {k : Nat} : mo_lbt (x &&& y) k = (mo_lbt x k && mo_lbt y k) := by
  unfold mo_lbt
  rw [Int64.toBitVec_and, BitVec.getLsbD_and]
theorem lbt_shl {s : Int64} {j b : Nat} (hj : j < 6) (hb : b < 64) : mo_lbt (s <<< (Int32.toInt64 (nI (2 ^ j)) &&& 63)) b = (decide (2 ^ j ≤ b) && mo_lbt s (b - 2 ^ j)) := by
  have e := of_decide_eq_true (List.all_eq_true.mp shf_all j (List.mem_range.mpr hj))
  have hp : 2 ^ j < 2 ^ 64 := Nat.pow_lt_pow_right (by decide) (by omega)
  unfold mo_lbt
  show (s.toBitVec <<< ((Int32.toInt64 (nI (2 ^ j)) &&& 63).toBitVec.smod 64)).getLsbD b = _
  rw [e, BitVec.shiftLeft_eq', BitVec.toNat_ofNat, Nat.mod_eq_of_lt hp, BitVec.getLsbD_shiftLeft, decide_eq_true hb, Bool.true_and]
  by_cases c : b < 2 ^ j
  · rw [decide_eq_true c, decide_eq_false (show ¬ 2 ^ j ≤ b by omega)]; rfl
  · rw [decide_eq_false c, decide_eq_true (show 2 ^ j ≤ b by omega)]; rfl
/-- the sets with the j-th man, of those without him -/
theorem lbt_more {s : Int64} {j b : Nat} (hj : j < 6) (hb : b < 64) : mo_lbt ((s &&& mo_wit j) <<< (Int32.toInt64 (nI (2 ^ j)) &&& 63)) b = (b.testBit j && mo_lbt s (b ^^^ 2 ^ j)) := by
  have k := List.all_eq_true.mp (List.all_eq_true.mp wit_all j (List.mem_range.mpr hj)) b (List.mem_range.mpr hb)
  rw [Bool.and_eq_true, Bool.and_eq_true] at k
  rw [lbt_shl hj hb, lbt_and]
  by_cases c : 2 ^ j ≤ b
  · have k2 := List.all_eq_true.mp (List.all_eq_true.mp wit_all j (List.mem_range.mpr hj)) (b - 2 ^ j) (List.mem_range.mpr (Nat.lt_of_le_of_lt (Nat.sub_le b _) hb))
    rw [Bool.and_eq_true, Bool.and_eq_true] at k2
    have w := of_decide_eq_true k2.1.1
    have v := of_decide_eq_true k.1.2
    rw [decide_eq_true c, Bool.true_and] at v
    rw [decide_eq_true c, Bool.true_and, w, v]
    cases e : b.testBit j with
    | false => rw [Bool.and_false, Bool.false_and]
    | true =>
      have u := k.2
      rw [e] at u
      have u := of_decide_eq_true u
      rw [u, Bool.and_true, Bool.true_and]
  · have v := of_decide_eq_true k.1.2
    rw [decide_eq_false c, Bool.false_and] at v
    rw [decide_eq_false c, ← v]
    rfl
/-- whether just these men can have just these names, as the row tells it -/
def fB (r : Nat → Int64) (x y : Nat) : Bool := mo_lbt (r (x * 4 + y / 64)) (y % 64)
theorem yx_all : (List.range 8).all (fun z => (List.range 256).all (fun y => if z < 6 then (decide (y.testBit z = (y % 64).testBit z) && decide ((y ^^^ 2 ^ z) / 64 = y / 64) && decide ((y ^^^ 2 ^ z) % 64 = (y % 64) ^^^ 2 ^ z)) else (decide (y.testBit z = (y / 64).testBit (z - 6)) && decide ((y ^^^ 2 ^ z) / 64 = (y / 64) ^^^ 2 ^ (z - 6)) && decide ((y ^^^ 2 ^ z) % 64 = y % 64)))) = true := by decide +kernel
theorem orx_all : (List.range 2).all (fun m => (List.range 4).all (fun k => (List.range 4).all (fun j => if j.testBit m then true else decide ((k = j ||| 2 ^ m) ↔ (k.testBit m = true ∧ k ^^^ 2 ^ m = j))))) = true := by decide +kernel
theorem addH_r {R : Nat → Nat → Nat} {L : Nat → Nat → Int64} {g n x y z : Nat} (hn : n ≤ 8) (hx : x < 2 ^ n) (hy : y < 2 ^ n) (hxy : x ≠ y) (hz : z < n) : (∀ q, q ≠ R (R g 4) 6 → w_Guess_addHolder_12 R L g n x y z q = L q) ∧ ∀ x' y', y' < 2 ^ n → fB (w_Guess_addHolder_12 R L g n x y z (R (R g 4) 6)) x' y' = if x' = y then (fB (L (R (R g 4) 6)) y y' || (y'.testBit z && fB (L (R (R g 4) 6)) x (y' ^^^ 2 ^ z))) else fB (L (R (R g 4) 6)) x' y' := by
  have hp8 := mo_p8 hn
  have hlast : (2 ^ n - 1) / 64 + 1 ≤ 4 := by omega
  by_cases c6 : z < 6
  · have key := mo_it_inv (f := b_Guess_addHolder_12 R g x y z) (fun j s => j ≤ (2 ^ n - 1) / 64 + 1 ∧ (∀ q, q ≠ R (R g 4) 6 → s q = L q) ∧ ∀ w k, k < 4 → s (R (R g 4) 6) (w * 4 + k) = if w = y ∧ k < j then L (R (R g 4) 6) (y * 4 + k) ||| ((L (R (R g 4) 6) (x * 4 + k) &&& mo_wit z) <<< (Int32.toInt64 (nI (2 ^ z)) &&& 63)) else L (R (R g 4) 6) (w * 4 + k)) (k := (2 ^ n - 1) / 64 + 1) (i := 0) (s := L) ⟨Nat.zero_le _, fun _ _ => rfl, fun w k _ => by rw [if_neg (fun z => absurd z.2 (Nat.not_lt_zero k))]⟩ (fun j s _ hj hP => by
      obtain ⟨_, h1, h2⟩ := hP
      have hj4 : j < 4 := by omega
      unfold b_Guess_addHolder_12
      rw [if_neg (by omega)]
      refine ⟨by omega, fun q hq => by rw [mo_upR hq]; exact h1 q hq, fun w k hk => ?_⟩
      by_cases e : w * 4 + k = y * 4 + j
      · have e1 : w = y := by omega
        have e2 : k = j := by omega
        rw [e, mo_upA, if_pos ⟨e1, by omega⟩, e2, h2 y j hj4, if_neg (fun z => absurd z.2 (Nat.lt_irrefl j)), h2 x j hj4, if_neg (fun z => hxy z.1)]
      · rw [mo_upK _ _ _ e, h2 w k hk]
        by_cases c : w = y ∧ k < j
        · rw [if_pos c, if_pos ⟨c.1, by omega⟩]
        · rw [if_neg c, if_neg (fun z => c ⟨z.1, by omega⟩)])
    rw [Nat.zero_add] at key
    obtain ⟨_, k1, k2⟩ := key
    refine ⟨k1, fun x' y' hy' => ?_⟩
    have ht := List.all_eq_true.mp (List.all_eq_true.mp yx_all z (List.mem_range.mpr (by omega))) y' (List.mem_range.mpr (by omega))
    rw [if_pos c6, Bool.and_eq_true, Bool.and_eq_true] at ht
    have t1 := of_decide_eq_true ht.1.1
    have t2 := of_decide_eq_true ht.1.2
    have t3 := of_decide_eq_true ht.2
    unfold fB
    show mo_lbt (w_Guess_addHolder_12 R L g n x y z (R (R g 4) 6) (x' * 4 + y' / 64)) (y' % 64) = _
    have k3 : w_Guess_addHolder_12 R L g n x y z (R (R g 4) 6) (x' * 4 + y' / 64) = _ := k2 x' (y' / 64) (by omega)
    rw [k3, t1, t2, t3]
    by_cases e : x' = y
    · rw [if_pos ⟨e, by omega⟩, if_pos e, lbt_or, lbt_more c6 (Nat.mod_lt _ (by decide))]
    · rw [if_neg (fun z => e z.1), if_neg e]
  · have hm : z - 6 < 2 := by omega
    have hn7 : 2 ^ (z + 1) ≤ 2 ^ n := Nat.pow_le_pow_right (by decide) (by omega)
    have ox : ∀ k j, k < 4 → j < 4 → j.testBit (z - 6) = false → ((k = j ||| 2 ^ (z - 6)) ↔ (k.testBit (z - 6) = true ∧ k ^^^ 2 ^ (z - 6) = j)) := fun k j hk hj hb => by
      have := List.all_eq_true.mp (List.all_eq_true.mp (List.all_eq_true.mp orx_all (z - 6) (List.mem_range.mpr hm)) k (List.mem_range.mpr hk)) j (List.mem_range.mpr hj)
      rw [if_neg (by rw [hb]; decide)] at this
      exact of_decide_eq_true this
    have key := mo_it_inv (f := b_Guess_addHolder_12 R g x y z) (fun j s => j ≤ (2 ^ n - 1) / 64 + 1 ∧ (∀ q, q ≠ R (R g 4) 6 → s q = L q) ∧ ∀ w k, k < 4 → s (R (R g 4) 6) (w * 4 + k) = if w = y ∧ k.testBit (z - 6) = true ∧ k ^^^ 2 ^ (z - 6) < j then L (R (R g 4) 6) (y * 4 + k) ||| L (R (R g 4) 6) (x * 4 + (k ^^^ 2 ^ (z - 6))) else L (R (R g 4) 6) (w * 4 + k)) (k := (2 ^ n - 1) / 64 + 1) (i := 0) (s := L) ⟨Nat.zero_le _, fun _ _ => rfl, fun w k _ => by rw [if_neg (fun z => absurd z.2.2 (Nat.not_lt_zero _))]⟩ (fun j s _ hj hP => by
      obtain ⟨_, h1, h2⟩ := hP
      have hj4 : j < 4 := by omega
      unfold b_Guess_addHolder_12
      rw [if_pos (by omega)]
      by_cases cb : j.testBit (z - 6) = true
      · rw [if_pos cb]
        refine ⟨by omega, h1, fun w k hk => ?_⟩
        rw [h2 w k hk]
        by_cases c : w = y ∧ k.testBit (z - 6) = true ∧ k ^^^ 2 ^ (z - 6) < j
        · rw [if_pos c, if_pos ⟨c.1, c.2.1, by omega⟩]
        · rw [if_neg c, if_neg (fun w1 => c ⟨w1.1, w1.2.1, by
            have hne : k ^^^ 2 ^ (z - 6) ≠ j := fun e => by
              have h5 : (k ^^^ 2 ^ (z - 6)).testBit (z - 6) = false := by rw [Nat.testBit_xor, Nat.testBit_two_pow_self, w1.2.1]; rfl
              rw [e, cb] at h5
              cases h5
            have := w1.2.2
            omega⟩)]
      · have cb := bit_f cb
        rw [if_neg (by rw [cb]; decide)]
        have hor := mo_or4 hj4 hm
        refine ⟨by omega, fun q hq => by rw [mo_upR hq]; exact h1 q hq, fun w k hk => ?_⟩
        by_cases e : w * 4 + k = y * 4 + (j ||| 2 ^ (z - 6))
        · have e1 : w = y := by omega
          have e2 : k = j ||| 2 ^ (z - 6) := by omega
          have o := (ox k j hk hj4 cb).mp e2
          rw [e, mo_upA, if_pos ⟨e1, o.1, by omega⟩, ← e2, o.2, h2 y k hk, if_neg (fun w1 => by have := w1.2.2; omega), h2 x j hj4, if_neg (fun w1 => hxy w1.1)]
        · rw [mo_upK _ _ _ e, h2 w k hk]
          by_cases c : w = y ∧ k.testBit (z - 6) = true ∧ k ^^^ 2 ^ (z - 6) < j
          · rw [if_pos c, if_pos ⟨c.1, c.2.1, by omega⟩]
          · rw [if_neg c, if_neg (fun w1 => c ⟨w1.1, w1.2.1, by
              have hne : k ^^^ 2 ^ (z - 6) ≠ j := fun e3 => e (by rw [w1.1, (ox k j hk hj4 cb).mpr ⟨w1.2.1, e3⟩])
              have := w1.2.2
              omega⟩)])
    rw [Nat.zero_add] at key
    obtain ⟨_, k1, k2⟩ := key
    refine ⟨k1, fun x' y' hy' => ?_⟩
    have ht := List.all_eq_true.mp (List.all_eq_true.mp yx_all z (List.mem_range.mpr (by omega))) y' (List.mem_range.mpr (by omega))
    rw [if_neg c6, Bool.and_eq_true, Bool.and_eq_true] at ht
    have t1 := of_decide_eq_true ht.1.1
    have t2 := of_decide_eq_true ht.1.2
    have t3 := of_decide_eq_true ht.2
    have k3 : w_Guess_addHolder_12 R L g n x y z (R (R g 4) 6) (x' * 4 + y' / 64) = _ := k2 x' (y' / 64) (by omega)
    unfold fB
    rw [k3, t1, t2, t3]
    by_cases e : x' = y
    · rw [if_pos e]
      by_cases cb : (y' / 64).testBit (z - 6) = true
      · have hlt : (y' / 64) ^^^ 2 ^ (z - 6) < (2 ^ n - 1) / 64 + 1 := by
          have h6 : (y' / 64) ^^^ 2 ^ (z - 6) < y' / 64 := mo_xor_lt cb
          omega
        rw [if_pos ⟨e, cb, hlt⟩, lbt_or, cb, Bool.true_and]
      · rw [if_neg (fun w1 => cb w1.2.1), bit_f cb, Bool.false_and, Bool.or_false, e]
    · rw [if_neg (fun w1 => e w1.1), if_neg e]
