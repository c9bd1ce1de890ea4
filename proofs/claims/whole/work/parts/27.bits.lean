/-! Sets as numbers. -/
/-- the set of those below n that have p, as a number -/
def mo_bs (p : Nat → Bool) : Nat → Nat
  | 0 => 0
  | n + 1 => if p n = true then mo_bs p n + 2 ^ n else mo_bs p n
theorem mo_bs_lt (p : Nat → Bool) : ∀ n, mo_bs p n < 2 ^ n
  | 0 => Nat.zero_lt_one
  | n + 1 => by
    have h := mo_bs_lt p n
    unfold mo_bs
    have h2 : 2 ^ (n + 1) = 2 ^ n + 2 ^ n := by rw [Nat.pow_succ]; omega
    split <;> omega
theorem mo_bs_congr {p q : Nat → Bool} : ∀ {n : Nat}, (∀ k, k < n → p k = q k) → mo_bs p n = mo_bs q n
  | 0, _ => rfl
  | n + 1, h => by
    unfold mo_bs
    rw [h n (by omega), mo_bs_congr (n := n) (fun k hk => h k (by omega))]
theorem mo_bs_bit (p : Nat → Bool) : ∀ n k, (mo_bs p n).testBit k = (decide (k < n) && p k)
  | 0, k => by simp [mo_bs]
  | n + 1, k => by
    have ih := mo_bs_bit p n
    have hl := mo_bs_lt p n
    unfold mo_bs
    by_cases hp : p n = true
    · rw [if_pos hp, Nat.add_comm]
      by_cases e : k = n
      · subst e
        rw [Nat.testBit_two_pow_add_eq, ih k]
        simp [hp]
      · rcases Nat.lt_or_gt_of_ne e with h | h
        · rw [Nat.testBit_two_pow_add_gt h, ih k]
          simp [h, Nat.lt_succ_of_lt h]
        · have h3 : 2 ^ n + mo_bs p n < 2 ^ k := Nat.lt_of_lt_of_le (show 2 ^ n + mo_bs p n < 2 ^ (n + 1) by rw [Nat.pow_succ]; omega) (Nat.pow_le_pow_right (by decide) h)
          rw [Nat.testBit_lt_two_pow h3]
          simp [show ¬ k < n + 1 by omega]
    · rw [if_neg hp, ih k]
      by_cases e : k = n
      · subst e; simp [hp]
      · by_cases h : k < n
        · simp [h, Nat.lt_succ_of_lt h]
        · simp [h, show ¬ k < n + 1 by omega]
theorem mo_or_n {k x : Nat} (hk : k < 12) (hx : x < 2 ^ k) : nI x ||| ((1 : Int32) <<< (nI k &&& 31)) = nI (x + 2 ^ k) :=
  of_decide_eq_true (List.all_eq_true.mp (List.all_eq_true.mp mo_or_all k (List.mem_range.mpr hk)) x (List.mem_range.mpr hx))
/-- a walk that puts in those that have p -/
theorem mo_it_last {S : Type} (f : Nat → S → S) : ∀ k i s, mo_it f (k + 1) i s = f (i + k) (mo_it f k i s)
  | 0, i, s => rfl
  | k + 1, i, s => by
    show mo_it f (k + 1) (i + 1) (f i s) = _
    rw [mo_it_last f k (i + 1) (f i s), show i + 1 + k = i + (k + 1) by omega]
    rfl
theorem mo_it_congr {S : Type} {f g : Nat → S → S} : ∀ {k i : Nat} {s : S}, (∀ j, i ≤ j → j < i + k → ∀ t, f j t = g j t) → mo_it f k i s = mo_it g k i s
  | 0, _, _, _ => rfl
  | k + 1, i, s, h => by
    show mo_it f k (i + 1) (f i s) = mo_it g k (i + 1) (g i s)
    rw [h i (Nat.le_refl i) (by omega)]
    exact mo_it_congr (fun j h1 h2 t => h j (by omega) (by omega) t)
/-- what holds at the start and is kept holds at the end -/
theorem mo_it_inv {S : Type} {f : Nat → S → S} (P : Nat → S → Prop) : ∀ {k i : Nat} {s : S}, P i s → (∀ j t, i ≤ j → j < i + k → P j t → P (j + 1) (f j t)) → P (i + k) (mo_it f k i s)
  | 0, _, _, h, _ => h
  | k + 1, i, s, h, hs => by
    have := mo_it_inv (f := f) P (k := k) (i := i + 1) (s := f i s) (hs i s (Nat.le_refl i) (by omega) h) (fun j t h1 h2 => hs j t (by omega) (by omega))
    rw [show i + 1 + k = i + (k + 1) by omega] at this
    exact this
theorem mo_it_set {f : Nat → Int32 → Int32} {p : Nat → Bool} {n : Nat} (hn : n ≤ 12) (h : ∀ k s, k < n → f k s = if p k = true then s ||| ((1 : Int32) <<< (nI k &&& 31)) else s) : mo_it f n 0 0 = nI (mo_bs p n) := by
  have := mo_it_inv (f := f) (fun k s => s = nI (mo_bs p k)) (k := n) (i := 0) (s := 0) rfl (fun j t _ h2 ht => by
    show f j t = nI (mo_bs p (j + 1))
    rw [h j t (by omega), ht]
    show _ = nI (if p j = true then mo_bs p j + 2 ^ j else mo_bs p j)
    by_cases hp : p j = true
    · rw [if_pos hp, if_pos hp, mo_or_n (by omega) (mo_bs_lt p j)]
    · rw [if_neg hp, if_neg hp])
  rw [Nat.zero_add] at this
  exact this
theorem mo_bit_n {k x : Nat} (hk : k < 12) (hx : x < 4096) : (((nI x >>> (nI k &&& 31)) &&& 1 = 1) ↔ x.testBit k = true) ∧ ((((nI x).toUInt32 >>> ((nI k).toUInt32 &&& Int32.toUInt32 31)).toInt32 &&& 1 = 0) ↔ ¬ x.testBit k = true) := by
  have h := List.all_eq_true.mp (List.all_eq_true.mp mo_bit_all k (List.mem_range.mpr hk)) x (List.mem_range.mpr hx)
  rw [Bool.and_eq_true] at h
  exact ⟨of_decide_eq_true h.1, of_decide_eq_true h.2⟩
theorem mo_bitT {k x : Nat} (hk : k < 12) (hx : x < 4096) : mo_bit (nI x) (nI k) = x.testBit k := by
  unfold mo_bit
  have h := (mo_bit_n hk hx).2
  cases e : x.testBit k with
  | true => rw [decide_eq_false (fun z => h.mp z e)]; rfl
  | false => rw [decide_eq_true (h.mpr (by rw [e]; decide))]; rfl
