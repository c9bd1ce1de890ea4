/-! Ways ahead and behind, and the tallies, told as numbers. -/
theorem bit0_all : (List.range 8).all (fun j => (List.range 256).all (fun x => decide ((((nI x >>> (nI j &&& 31)) &&& 1) = 0) ↔ ¬ x.testBit j = true))) = true := by decide +kernel
theorem bit0 {x j : Nat} (hx : x < 256) (hj : j < 8) : (((nI x >>> (nI j &&& 31)) &&& 1) = 0) ↔ ¬ x.testBit j = true := of_decide_eq_true (List.all_eq_true.mp (List.all_eq_true.mp bit0_all j (List.mem_range.mpr hj)) x (List.mem_range.mpr hx))
theorem pc_ct (x : Nat) : mo_pc x = lo_ct (fun k => x.testBit k) 12 := (lo_ct_len 12).symm
theorem lo_ct_more {p : Nat → Bool} {n : Nat} : ∀ {k : Nat}, n ≤ k → (∀ j, n ≤ j → j < k → p j = false) → lo_ct p k = lo_ct p n
  | 0, h, _ => by rw [Nat.le_zero.mp h]
  | k + 1, h, e => by
    by_cases c : n = k + 1
    · rw [c]
    · show lo_ct p k + (if p k = true then 1 else 0) = lo_ct p n
      rw [lo_ct_more (by omega) (fun j h1 h2 => e j h1 (by omega)), e k (by omega) (by omega)]
      rfl
theorem lo_ct_not {p : Nat → Bool} : ∀ n, lo_ct p n + lo_ct (fun k => !p k) n = n
  | 0 => rfl
  | n + 1 => by
    have := lo_ct_not (p := p) n
    show (lo_ct p n + (if p n = true then 1 else 0)) + (lo_ct (fun k => !p k) n + (if (!p n) = true then 1 else 0)) = n + 1
    cases p n
    · simp; omega
    · simp; omega
theorem bit_ge {x n k : Nat} (hx : x < 2 ^ n) (hk : n ≤ k) : x.testBit k = false := Nat.testBit_lt_two_pow (Nat.lt_of_lt_of_le hx (Nat.pow_le_pow_right (by decide) hk))
theorem pc_fr {n x : Nat} (hn : n ≤ 12) (hx : x < 2 ^ n) : mo_pc x + lo_fr n x = n := by
  rw [pc_ct, lo_ct_more hn (fun j h1 _ => bit_ge hx h1)]
  exact lo_ct_not n
theorem dif_x {x j : Nat} (h : x.testBit j = true) : mo_dif x (2 ^ j) = x ^^^ 2 ^ j := by
  unfold mo_dif
  congr 1
  apply Nat.eq_of_testBit_eq
  intro i
  rw [Nat.testBit_and, Nat.testBit_two_pow]
  by_cases e : j = i
  · subst e; rw [h, decide_eq_true rfl]; rfl
  · rw [decide_eq_false e, Bool.and_false]
theorem pc_x {n x j : Nat} (hn : n ≤ 12) (hx : x < 2 ^ n) (hj : j < n) (h : x.testBit j = true) : mo_pc x = mo_pc (x ^^^ 2 ^ j) + 1 ∧ x ^^^ 2 ^ j < 2 ^ n := by
  have h1 : x ^^^ 2 ^ j < 2 ^ n := Nat.xor_lt_two_pow hx (Nat.pow_lt_pow_right (by decide) hj)
  have h2 := pc_fr hn hx
  have h3 := pc_fr hn h1
  have hb : (x ^^^ 2 ^ j).testBit j = false := by rw [Nat.testBit_xor, Nat.testBit_two_pow_self, h]; rfl
  have h4 := lo_fr_or hj hb
  rw [lo_or_x h] at h4
  exact ⟨by omega, h1⟩
theorem pc_or {n x j : Nat} (hn : n ≤ 12) (hx : x < 2 ^ n) (hj : j < n) (h : x.testBit j = false) : mo_pc (x ||| 2 ^ j) = mo_pc x + 1 ∧ x ||| 2 ^ j < 2 ^ n := by
  have h1 : x ||| 2 ^ j < 2 ^ n := Nat.or_lt_two_pow hx (Nat.pow_lt_pow_right (by decide) hj)
  have h2 := pc_fr hn hx
  have h3 := pc_fr hn h1
  have h4 := lo_fr_or hj h
  exact ⟨by omega, h1⟩
theorem mo_it_nsum {f : Nat → Int32 → Int32} {g : Nat → Nat} : ∀ {k : Nat}, (∀ j t, j < k → f j t = t + nI (g j)) → mo_it f k 0 0 = nI (mo_sm g k)
  | 0, _ => rfl
  | k + 1, h => by
    rw [mo_it_last, Nat.zero_add, mo_it_nsum (fun j t hj => h j t (by omega)), h k _ (Nat.lt_succ_self k), nI_add]
    rfl
/-- ways in which just these men have the first names -/
def tWa (n : Nat) (ms : Nat → Nat) (S : Nat) : Nat := mo_wy n (fun i j => (ms i).testBit j) (mo_pc S) S
/-- ways in which all but these men have the names behind those -/
def tWb (n : Nat) (ms : Nat → Nat) (S : Nat) : Nat := lo_cn n ((List.range' (mo_pc S) (n - mo_pc S)).map (fun i j => (ms i).testBit j)) S
theorem ahead_r {n : Nat} {ms : Nat → Nat} {s0 : Nat → Int32} (hn : n ≤ 8) (hm : ∀ i, i < n → ms i < 2 ^ n) (h0 : s0 0 = 1) : ∀ S, S < 2 ^ n → mo_it (b_Guess_countAhead_9 n ms) (2 ^ n - 1) 0 s0 S = nI (tWa n ms S) := by
  have hp := Nat.two_pow_pos n
  have hp8 := mo_p8 hn
  have key := mo_it_inv (f := b_Guess_countAhead_9 n ms) (fun i s => i ≤ 2 ^ n - 1 ∧ ∀ S, S < 1 + i → s S = nI (tWa n ms S)) (k := 2 ^ n - 1) (i := 0) (s := s0) ⟨Nat.zero_le _, fun S hS => by
      rw [show S = 0 by omega, h0]
      rfl⟩ (fun i s _ hi hP => by
    obtain ⟨_, hP⟩ := hP
    have hM : 1 + i < 2 ^ n := by omega
    have hpc := mo_pcb hn hM
    refine ⟨by omega, fun S hS => ?_⟩
    unfold b_Guess_countAhead_9
    by_cases e : S = 1 + i
    · rw [e, va_up_self]
      unfold w_Guess_countAhead_36
      have hmi : ms (mo_pc (1 + i) - 1) < 2 ^ n := hm _ (by have := hpc.1; have := hpc.2.1 (by omega); omega)
      rw [mo_it_nsum (g := fun j => if ((1 + i).testBit j && (ms (mo_pc (1 + i) - 1)).testBit j) = true then mo_wy n (fun i j => (ms i).testBit j) (mo_pc (1 + i) - 1) ((1 + i) ^^^ 2 ^ j) else 0) (fun j t hj => by
        unfold b_Guess_countAhead_36
        have hb := bit0 (x := (1 + i) &&& ms (mo_pc (1 + i) - 1)) (j := j) (Nat.lt_of_le_of_lt Nat.and_le_left (by omega)) (by omega)
        rw [Nat.testBit_and] at hb
        by_cases c : ((1 + i).testBit j && (ms (mo_pc (1 + i) - 1)).testBit j) = true
        · rw [if_neg (fun z => (hb.mp z) c), if_pos c]
          rw [Bool.and_eq_true] at c
          have hx := pc_x (by omega) hM hj c.1
          rw [dif_x c.1, hP _ (by have := mo_xor_lt c.1; omega)]
          unfold tWa
          rw [show mo_pc (1 + i) - 1 = mo_pc ((1 + i) ^^^ 2 ^ j) by omega]
        · rw [if_pos (hb.mpr c), if_neg c]
          exact (Int32.add_zero t).symm)]
      have hpos := hpc.2.1 (by omega)
      unfold tWa
      conv => rhs; rw [show mo_pc (1 + i) = (mo_pc (1 + i) - 1) + 1 by omega]
      rfl
    · rw [va_up_ne _ _ e]
      exact hP S (by omega))
  intro S hS
  exact key.2 S (by omega)
theorem behind_r {n : Nat} {ms : Nat → Nat} {s0 : Nat → Int32} (hn : n ≤ 8) (hm : ∀ i, i < n → ms i < 2 ^ n) (h0 : s0 (2 ^ n - 1) = 1) : ∀ S, S < 2 ^ n → mo_it (b_Guess_countBehind_17 n ms) (2 ^ n - 1) 0 s0 S = nI (tWb n ms S) := by
  have hp := Nat.two_pow_pos n
  have hp8 := mo_p8 hn
  have hfull : mo_pc (2 ^ n - 1) = n := by
    have h1 := pc_fr (n := n) (by omega) (x := 2 ^ n - 1) (by omega)
    have h2 : lo_fr n (2 ^ n - 1) = 0 := mo_sm_zero (fun k hk => by show (if (!(2 ^ n - 1).testBit k) = true then 1 else 0) = 0; rw [Nat.testBit_two_pow_sub_one, decide_eq_true hk]; rfl)
    omega
  have key := mo_it_inv (f := b_Guess_countBehind_17 n ms) (fun i s => i ≤ 2 ^ n - 1 ∧ ∀ S, S < 2 ^ n → 2 ^ n - 1 - i ≤ S → s S = nI (tWb n ms S)) (k := 2 ^ n - 1) (i := 0) (s := s0) ⟨Nat.zero_le _, fun S hS hS2 => by
      rw [show S = 2 ^ n - 1 by omega, h0]
      unfold tWb
      rw [hfull, Nat.sub_self]
      rfl⟩ (fun i s _ hi hP => by
    obtain ⟨_, hP⟩ := hP
    generalize hMe : 2 ^ n - 1 - i - 1 = M at *
    have hM : M < 2 ^ n - 1 := by omega
    have hpc := (mo_pcb hn (x := M) (by omega)).2.2 hM
    refine ⟨by omega, fun S hS hS2 => ?_⟩
    unfold b_Guess_countBehind_17
    rw [hMe]
    by_cases e : S = M
    · rw [e, va_up_self]
      unfold w_Guess_countBehind_40
      have hmi : ms (mo_pc M) < 2 ^ n := hm _ hpc
      rw [mo_it_nsum (g := fun j => if (!M.testBit j && (ms (mo_pc M)).testBit j) = true then lo_cn n ((List.range' (mo_pc M + 1) (n - mo_pc M - 1)).map (fun i j => (ms i).testBit j)) (M ||| 2 ^ j) else 0) (fun j t hj => by
        unfold b_Guess_countBehind_40
        rw [hMe]
        have hd : mo_dif (ms (mo_pc M)) M < 256 := by
          have : mo_dif (ms (mo_pc M)) M < 2 ^ n := Nat.xor_lt_two_pow hmi (Nat.lt_of_le_of_lt Nat.and_le_left hmi)
          omega
        have hb := bit0 (x := mo_dif (ms (mo_pc M)) M) (j := j) hd (by omega)
        rw [mo_dif_bit, Bool.and_comm] at hb
        by_cases c : (!M.testBit j && (ms (mo_pc M)).testBit j) = true
        · rw [if_neg (fun z => (hb.mp z) c), if_pos c]
          rw [Bool.and_eq_true] at c
          have hbj : M.testBit j = false := by simpa using c.1
          have ho := pc_or (n := n) (by omega) (x := M) (by omega) hj hbj
          have hgt := mo_or_gt hbj
          rw [hP _ ho.2 (by omega)]
          unfold tWb
          rw [ho.1, show n - (mo_pc M + 1) = n - mo_pc M - 1 by omega]
        · rw [if_pos (hb.mpr c), if_neg c]
          exact (Int32.add_zero t).symm)]
      unfold tWb
      conv => rhs; rw [show n - mo_pc M = (n - mo_pc M - 1) + 1 by omega, List.range'_succ, List.map_cons]
      rfl
    · rw [va_up_ne _ _ e]
      exact hP S hS (by omega))
  intro S hS
  exact key.2 S hS (by omega)
theorem wy_congr {N : Nat} {al bl : Nat → Nat → Bool} : ∀ i, (∀ r, r < i → ∀ k, k < N → al r k = bl r k) → ∀ t, mo_wy N al i t = mo_wy N bl i t
  | 0, _, _ => rfl
  | i + 1, h, t => mo_sm_congr (fun k hk => by rw [h i (Nat.lt_succ_self i) k hk, wy_congr i (fun r hr => h r (by omega))])
theorem cn_congr {N : Nat} {al bl : Nat → Nat → Bool} : ∀ (X : List Nat), (∀ r, r ∈ X → ∀ k, k < N → al r k = bl r k) → ∀ u, lo_cn N (X.map al) u = lo_cn N (X.map bl) u
  | [], _, _ => rfl
  | x :: X, h, u => mo_sm_congr (fun k hk => by
    rw [h x List.mem_cons_self k hk]
    show (if (!u.testBit k && bl x k) = true then lo_cn N (X.map al) (u ||| 2 ^ k) else 0) = (if (!u.testBit k && bl x k) = true then lo_cn N (X.map bl) (u ||| 2 ^ k) else 0)
    rw [cn_congr X (fun r hr => h r (List.mem_cons_of_mem _ hr))])
/-- the holds in which the x-th name is the j-th man's, counted through the sets ahead -/
theorem tally_n {n x j : Nat} {ms : Nat → Nat} (hn : n ≤ 8) (hx : x < n) (hj : j < n) : mo_sm (fun S => if (decide (mo_pc S = x) && (!S.testBit j && (ms x).testBit j)) = true then tWa n ms S * tWb n ms (S ||| 2 ^ j) else 0) (2 ^ n) = if (ms x).testBit j = true then lo_cn n (((List.range n).filter (fun r => !(2 ^ x).testBit r)).map (fun i j => (ms i).testBit j)) (2 ^ j) else 0 := by
  rw [← lo_row1 (n := n) (j := x) (i := j) (A := fun i j => (ms i).testBit j) (al := fun i k => if i = x then ((ms x).testBit k && decide (k = j)) else (ms i).testBit k) hx hj (fun r hr => funext (fun k => if_neg hr)) (fun k _ => if_pos rfl), ← lo_lots]
  have h := lo_wy_cn (N := n) (al := fun i k => if i = x then ((ms x).testBit k && decide (k = j)) else (ms i).testBit k) (n - x) x
  rw [show x + (n - x) = n by omega] at h
  rw [← h]
  refine mo_sm_congr (fun S hS => ?_)
  rw [wy_congr (bl := fun i j => (ms i).testBit j) x (fun r hr k _ => if_neg (by omega))]
  have hpf := pc_fr (n := n) (by omega) hS
  have e1 : lo_cn n ((List.range' x (n - x)).map (fun i k => if i = x then ((ms x).testBit k && decide (k = j)) else (ms i).testBit k)) S = if (!S.testBit j && (ms x).testBit j) = true then lo_cn n ((List.range' (x + 1) (n - x - 1)).map (fun i j => (ms i).testBit j)) (S ||| 2 ^ j) else 0 := by
    rw [show n - x = (n - x - 1) + 1 by omega, List.range'_succ, List.map_cons]
    show mo_sm (fun k => if (!S.testBit k && (if x = x then ((ms x).testBit k && decide (k = j)) else (ms x).testBit k)) = true then lo_cn n ((List.range' (x + 1) (n - x - 1)).map (fun i k => if i = x then ((ms x).testBit k && decide (k = j)) else (ms i).testBit k)) (S ||| 2 ^ k) else 0) n = _
    rw [mo_sm_one (c := j) hj (fun k _ hk => by rw [if_pos rfl, decide_eq_false hk, Bool.and_false, Bool.and_false]; rfl), if_pos rfl, decide_eq_true rfl, Bool.and_true, cn_congr (bl := fun i j => (ms i).testBit j) _ (fun r hr k _ => if_neg (by have := List.mem_range'_1.mp hr; omega))]
    rfl
  rw [e1]
  by_cases c : (!S.testBit j && (ms x).testBit j) = true
  · rw [c, Bool.and_true, if_pos rfl]
    by_cases c2 : mo_pc S = x
    · rw [decide_eq_true c2, if_pos rfl]
      rw [Bool.and_eq_true] at c
      have ho := pc_or (n := n) (by omega) hS hj (by simpa using c.1)
      unfold tWa tWb
      rw [ho.1, c2, show n - (x + 1) = n - x - 1 by omega]
    · rw [decide_eq_false c2, if_neg (by decide)]
      have : mo_wy n (fun i j => (ms i).testBit j) x S = 0 := Classical.byContradiction (fun z => c2 (by have := wy_supp x S z; omega))
      rw [this, Nat.zero_mul]
  · rw [Bool.eq_false_iff.mpr c, Bool.and_false, if_neg (by decide), if_neg (by decide), Nat.mul_zero]
theorem cn_le (N : Nat) : ∀ (X : List (Nat → Bool)) (u : Nat), lo_cn N X u ≤ N ^ X.length
  | [], _ => Nat.le_refl 1
  | a :: X, u => by
    rw [List.length_cons, Nat.pow_succ, Nat.mul_comm]
    refine mo_sm_le (fun k _ => ?_)
    by_cases c : (!u.testBit k && a k) = true
    · rw [if_pos c]; exact cn_le N X _
    · rw [if_neg c]; exact Nat.zero_le _
theorem tally_r {R : Nat → Nat → Nat} {I : Nat → Nat → Int32} {g n x : Nat} {ms : Nat → Nat} (hn : n ≤ 8) (hx : x < n) (hm : ms x < 2 ^ n) (ha : ∀ S, S < 2 ^ n → I (R (R g 4) 3) S = nI (tWa n ms S)) (hb : ∀ S, S < 2 ^ n → I (R (R g 4) 4) S = nI (tWb n ms S)) {j : Nat} (hj : j < n) : w_Guess_countHolders_10 R I g n ms x j = nI (if (ms x).testBit j = true then lo_cn n (((List.range n).filter (fun r => !(2 ^ x).testBit r)).map (fun i j => (ms i).testBit j)) (2 ^ j) else 0) := by
  rw [← tally_n hn hx hj]
  unfold w_Guess_countHolders_10
  have key := mo_it_inv (f := b_Guess_countHolders_10 R I g n ms x) (fun i s => i ≤ 2 ^ n ∧ ∀ j, j < n → s j = nI (mo_sm (fun S => if (decide (mo_pc S = x) && (!S.testBit j && (ms x).testBit j)) = true then tWa n ms S * tWb n ms (S ||| 2 ^ j) else 0) i)) (k := 2 ^ n) (i := 0) (s := (mo_fi I (R (R g 4) 5) 0 8 (fun _ => 0)) (R (R g 4) 5)) ⟨Nat.zero_le _, fun j hj => mo_fiZ (by omega)⟩ (fun S s _ hS hP => by
    obtain ⟨_, hP⟩ := hP
    have hS' : S < 2 ^ n := by omega
    refine ⟨by omega, fun j hj => ?_⟩
    show b_Guess_countHolders_10 R I g n ms x S s j = nI (mo_sm (fun S => if (decide (mo_pc S = x) && (!S.testBit j && (ms x).testBit j)) = true then tWa n ms S * tWb n ms (S ||| 2 ^ j) else 0) S + (if (decide (mo_pc S = x) && (!S.testBit j && (ms x).testBit j)) = true then tWa n ms S * tWb n ms (S ||| 2 ^ j) else 0))
    rw [← nI_add, ← hP j hj]
    unfold b_Guess_countHolders_10
    by_cases c1 : mo_pc S = x
    · rw [if_pos c1, decide_eq_true c1, Bool.true_and, ha S hS']
      have hlt : tWa n ms S < 2147483648 := by
        have h1 := mo_wy_le n (fun i j => (ms i).testBit j) (mo_pc S) S
        have h2 : n ^ mo_pc S ≤ 8 ^ mo_pc S := Nat.pow_le_pow_left hn _
        have h3 : 8 ^ mo_pc S ≤ 8 ^ 8 := Nat.pow_le_pow_right (by decide) (by omega)
        have h4 : 8 ^ 8 < 2147483648 := by decide
        unfold tWa
        omega
      by_cases c2 : nI (tWa n ms S) ≤ 0
      · rw [if_pos c2]
        have hz : tWa n ms S = 0 := by
          have := (nI_leI (a := tWa n ms S) (b := 0) hlt (by decide)).mp c2
          omega
        rw [hz, Nat.zero_mul, ite_self]
        exact (Int32.add_zero _).symm
      · rw [if_neg c2]
        unfold w_Guess_countHolders_37
        have inner : ∀ k, k ≤ n → ∀ j, mo_it (b_Guess_countHolders_37 R I g ms x S) k 0 s j = if j < k then s j + nI (if (!S.testBit j && (ms x).testBit j) = true then tWa n ms S * tWb n ms (S ||| 2 ^ j) else 0) else s j := fun k => by
          induction k with
          | zero => intro _ j; rw [if_neg (Nat.not_lt_zero j)]; rfl
          | succ k ih =>
            intro hk j
            rw [mo_it_last, Nat.zero_add]
            have ihk := ih (by omega)
            generalize mo_it (b_Guess_countHolders_37 R I g ms x S) k 0 s = w at ihk ⊢
            unfold b_Guess_countHolders_37
            rw [mo_dif_bit, Bool.and_comm]
            by_cases c3 : (!S.testBit k && (ms x).testBit k) = true
            · rw [if_pos c3]
              by_cases e : j = k
              · have hbk : S.testBit k = false := by rw [Bool.and_eq_true] at c3; simpa using c3.1
                rw [e, va_up_self, ihk k, if_neg (Nat.lt_irrefl k), if_pos (Nat.lt_succ_self k), if_pos c3, ha S hS', hb _ (pc_or (n := n) (by omega) hS' (by omega) hbk).2, pk_mul]
              · rw [va_up_ne _ _ e, ihk j]
                by_cases c4 : j < k
                · rw [if_pos c4, if_pos (show j < k + 1 by omega)]
                · rw [if_neg c4, if_neg (show ¬ j < k + 1 by omega)]
            · rw [if_neg c3, ihk j]
              by_cases e : j = k
              · rw [e, if_neg (Nat.lt_irrefl k), if_pos (Nat.lt_succ_self k), if_neg c3]
                exact (Int32.add_zero _).symm
              · by_cases c4 : j < k
                · rw [if_pos c4, if_pos (show j < k + 1 by omega)]
                · rw [if_neg c4, if_neg (show ¬ j < k + 1 by omega)]
        rw [inner n (Nat.le_refl n) j, if_pos hj]
    · rw [if_neg c1, decide_eq_false c1, Bool.false_and, if_neg (by decide)]
      exact (Int32.add_zero _).symm)
  have := key.2 j hj
  rw [Nat.zero_add] at this
  exact this
