/-! Fits, told: which men can have just which names. -/
/-- whether those of a list, each told by whom it may have, can have just the men of a set -/
def fx (n : Nat) : List (Nat → Bool) → Nat → Bool
  | [], y => decide (y = 0)
  | a :: as, y => (List.range n).any (fun j => y.testBit j && a j && fx n as (y ^^^ 2 ^ j))
def nl (n x : Nat) : List Nat := (List.range n).filter (fun i => x.testBit i)
theorem tz_least {n x : Nat} (hn : n ≤ 8) (h0 : 0 < x) (hx : x < 2 ^ n) : ∀ k, k < mo_tz x → x.testBit k = false := fun k hk => by
  have h := mo_tzx hn h0 hx
  cases e : mo_ff (fun k => x.testBit k) 8 with
  | none =>
    have h1 := ff_none e (c := mo_tz x) (by omega)
    rw [h.2.2] at h1
    cases h1
  | some t =>
    have h1 := mo_ff_lt e
    have h2 : mo_tz x = t := by
      show (mo_ff (fun k => x.testBit k) 8).getD 8 = t
      rw [e]
      rfl
    rw [h2] at hk
    exact h1.2.2 k hk
theorem nl_tz {n x : Nat} (hn : n ≤ 8) (h0 : 0 < x) (hx : x < 2 ^ n) : nl n x = mo_tz x :: nl n (x ^^^ 2 ^ mo_tz x) := by
  have h := mo_tzx hn h0 hx
  have hl := tz_least hn h0 hx
  have hb : ∀ k, (x ^^^ 2 ^ mo_tz x).testBit k = (x.testBit k && !decide (k = mo_tz x)) := fun k => by
    rw [Nat.testBit_xor, Nat.testBit_two_pow]
    by_cases e : k = mo_tz x
    · rw [decide_eq_true e, decide_eq_true e.symm, e, h.2.2]; rfl
    · rw [decide_eq_false e, decide_eq_false (fun z => e z.symm), Bool.xor_false, Bool.not_false, Bool.and_true]
  refine ln_uniq (lt := fun a b => a < b) (fun a b h1 h2 => by omega) (List.Pairwise.filter _ List.pairwise_lt_range) ?_ (fun k => ?_)
  · rw [List.pairwise_cons]
    refine ⟨fun k hk => ?_, List.Pairwise.filter _ List.pairwise_lt_range⟩
    have hk2 := (List.mem_filter.mp hk).2
    rw [hb k, Bool.and_eq_true] at hk2
    have hne : k ≠ mo_tz x := by simpa using hk2.2
    apply Classical.byContradiction
    intro z
    have := hl k (by omega)
    rw [hk2.1] at this
    cases this
  · unfold nl
    rw [List.mem_cons, List.mem_filter, List.mem_filter, List.mem_range, hb k, Bool.and_eq_true]
    constructor
    · rintro ⟨h1, h2⟩
      by_cases e : k = mo_tz x
      · exact Or.inl e
      · exact Or.inr ⟨h1, h2, by simp [e]⟩
    · rintro (e | ⟨h1, h2, _⟩)
      · rw [e]; exact ⟨h.2.1, h.2.2⟩
      · exact ⟨h1, h2⟩
theorem nl_0 (n : Nat) : nl n 0 = [] := List.filter_eq_nil_iff.mpr (fun k _ => by rw [Nat.zero_testBit]; decide)
theorem one_all : (List.range 256).all (fun y => decide ((if y / 64 = 0 then mo_lbt 1 (y % 64) else mo_lbt 0 (y % 64)) = decide (y = 0))) = true := by decide +kernel
theorem lbt_0 (k : Nat) : mo_lbt 0 k = false := by
  unfold mo_lbt
  exact BitVec.getLsbD_zero
theorem fill_r {R : Nat → Nat → Nat} {L : Nat → Nat → Int64} {g n : Nat} {ms : Nat → Nat} (hn : n ≤ 8) : (∀ q, q ≠ R (R g 4) 6 → w_Guess_fillFits_17 R L g n ms q = L q) ∧ ∀ x y, x < 2 ^ n → y < 2 ^ n → fB (w_Guess_fillFits_17 R L g n ms (R (R g 4) 6)) x y = fx n ((nl n x).map (fun i j => (ms i).testBit j)) y := by
  have hp8 := mo_p8 hn
  have hp := Nat.two_pow_pos n
  have key := mo_it_inv (f := b_Guess_fillFits_17 R g n ms) (fun i s => i ≤ 2 ^ n - 1 ∧ (∀ q, q ≠ R (R g 4) 6 → s q = L q) ∧ (∀ x y, x < 1 + i → y < 2 ^ n → fB (s (R (R g 4) 6)) x y = fx n ((nl n x).map (fun i j => (ms i).testBit j)) y) ∧ ∀ x y, 1 + i ≤ x → x < 2 ^ n → y < 2 ^ n → fB (s (R (R g 4) 6)) x y = false) (k := 2 ^ n - 1) (i := 0) (s := mo_up (mo_fi L (R (R g 4) 6) 0 1024 (fun _ => 0)) (R (R g 4) 6) 0 1) ⟨Nat.zero_le _, fun q hq => by rw [mo_upR hq, mo_fiR hq], fun x y hx hy => by
      have e : x = 0 := by omega
      rw [e, nl_0]
      show mo_lbt _ (y % 64) = decide (y = 0)
      have ht := of_decide_eq_true (List.all_eq_true.mp one_all y (List.mem_range.mpr (by omega)))
      rw [← ht]
      by_cases c : y / 64 = 0
      · rw [if_pos c, c, mo_upA]
      · rw [if_neg c, mo_upK _ _ _ (by omega), mo_fiZ (by omega)], fun x y hx hx2 hy => by
      show mo_lbt _ (y % 64) = false
      rw [mo_upK _ _ _ (by omega), mo_fiZ (by omega)]
      exact lbt_0 _⟩ (fun i s _ hi hP => by
    obtain ⟨_, h1, h2, h3⟩ := hP
    have hM : 1 + i < 2 ^ n := by omega
    have htz := mo_tzx hn (by omega : 0 < 1 + i) hM
    have hless : mo_dif (1 + i) (2 ^ mo_tz (1 + i)) < 1 + i := by rw [dif_x htz.2.2]; exact mo_xor_lt htz.2.2
    have inner : ∀ j, j ≤ n → (∀ q, q ≠ R (R g 4) 6 → mo_it (b_Guess_fillFits_32 R g n ms i) j 0 s q = L q) ∧ (∀ x y, x < 2 ^ n → y < 2 ^ n → fB (mo_it (b_Guess_fillFits_32 R g n ms i) j 0 s (R (R g 4) 6)) x y = if x = 1 + i then (List.range j).any (fun j' => y.testBit j' && (ms (mo_tz (1 + i))).testBit j' && fB (s (R (R g 4) 6)) (mo_dif (1 + i) (2 ^ mo_tz (1 + i))) (y ^^^ 2 ^ j')) else fB (s (R (R g 4) 6)) x y) := fun j => by
      induction j with
      | zero =>
        intro _
        refine ⟨h1, fun x y hx hy => ?_⟩
        by_cases e : x = 1 + i
        · rw [if_pos e, e]; exact h3 (1 + i) y (Nat.le_refl _) hM hy
        · rw [if_neg e]; rfl
      | succ j ih =>
        intro hj
        obtain ⟨g1, g2⟩ := ih (by omega)
        rw [mo_it_last, Nat.zero_add]
        generalize mo_it (b_Guess_fillFits_32 R g n ms i) j 0 s = w at g1 g2 ⊢
        have any_s : ∀ (p : Nat → Bool), (List.range (j + 1)).any p = ((List.range j).any p || p j) := fun p => by rw [List.range_succ, List.any_append]; simp
        unfold b_Guess_fillFits_32
        by_cases c : (ms (mo_tz (1 + i))).testBit j = true
        · rw [if_pos c]
          have ha := addH_r (R := R) (L := w) (g := g) hn (x := mo_dif (1 + i) (2 ^ mo_tz (1 + i))) (y := 1 + i) (z := j) (by omega) hM (by omega) (by omega)
          refine ⟨fun q hq => (ha.1 q hq).trans (g1 q hq), fun x y hx hy => ?_⟩
          rw [ha.2 x y hy]
          have hyx : y ^^^ 2 ^ j < 2 ^ n := Nat.xor_lt_two_pow hy (Nat.pow_lt_pow_right (by decide) (by omega))
          by_cases e : x = 1 + i
          · rw [if_pos e, if_pos e, g2 (1 + i) y hM hy, if_pos rfl, g2 _ _ (by omega) hyx, if_neg (by omega), any_s, c, Bool.and_true]
          · rw [if_neg e, if_neg e, g2 x y hx hy, if_neg e]
        · rw [if_neg c]
          refine ⟨g1, fun x y hx hy => ?_⟩
          rw [g2 x y hx hy]
          by_cases e : x = 1 + i
          · rw [if_pos e, if_pos e, any_s, bit_f c, Bool.and_false, Bool.false_and, Bool.or_false]
          · rw [if_neg e, if_neg e]
    obtain ⟨g1, g2⟩ := inner n (Nat.le_refl n)
    refine ⟨by omega, g1, fun x y hx hy => ?_, fun x y hx hx2 hy => ?_⟩
    · show fB (mo_it (b_Guess_fillFits_32 R g n ms i) n 0 s (R (R g 4) 6)) x y = _
      rw [g2 x y (by omega) hy]
      by_cases e : x = 1 + i
      · rw [if_pos e, e, nl_tz hn (by omega) hM, List.map_cons]
        show _ = (List.range n).any (fun j => y.testBit j && (ms (mo_tz (1 + i))).testBit j && fx n ((nl n ((1 + i) ^^^ 2 ^ mo_tz (1 + i))).map (fun i j => (ms i).testBit j)) (y ^^^ 2 ^ j))
        apply Bool.eq_iff_iff.mpr
        rw [List.any_eq_true, List.any_eq_true]
        have hj : ∀ j, j ∈ List.range n → fB (s (R (R g 4) 6)) (mo_dif (1 + i) (2 ^ mo_tz (1 + i))) (y ^^^ 2 ^ j) = fx n ((nl n ((1 + i) ^^^ 2 ^ mo_tz (1 + i))).map (fun i j => (ms i).testBit j)) (y ^^^ 2 ^ j) := fun j hj => by
          rw [h2 _ _ hless (Nat.xor_lt_two_pow hy (Nat.pow_lt_pow_right (by decide) (List.mem_range.mp hj))), dif_x htz.2.2]
        constructor
        · rintro ⟨j, h5, h6⟩; exact ⟨j, h5, by rw [← hj j h5]; exact h6⟩
        · rintro ⟨j, h5, h6⟩; exact ⟨j, h5, by rw [hj j h5]; exact h6⟩
      · rw [if_neg e]; exact h2 x y (by omega) hy
    · show fB (mo_it (b_Guess_fillFits_32 R g n ms i) n 0 s (R (R g 4) 6)) x y = _
      rw [g2 x y hx2 hy, if_neg (by omega)]
      exact h3 x y (by omega) hx2 hy)
  rw [Nat.zero_add] at key
  exact ⟨key.2.1, fun x y hx hy => key.2.2.1 x y (by omega) hy⟩
