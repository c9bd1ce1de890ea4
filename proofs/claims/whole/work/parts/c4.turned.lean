/-! Holds: rows and columns may be changed. -/
theorem mo_sm_pos {g : Nat → Nat} : ∀ {n : Nat}, mo_sm g n ≠ 0 → ∃ k, k < n ∧ g k ≠ 0
  | 0, h => absurd rfl h
  | n + 1, h => by
    by_cases c : g n = 0
    · have : mo_sm g n ≠ 0 := fun z => h (by show mo_sm g n + g n = 0; omega)
      obtain ⟨k, hk, e⟩ := mo_sm_pos this
      exact ⟨k, by omega, e⟩
    · exact ⟨n, Nat.lt_succ_self n, c⟩
theorem mo_sm_split {g : Nat → Nat} {n c : Nat} (hc : c < n) : mo_sm g n = g c + mo_sm (fun k => if k = c then 0 else g k) n := by
  have h1 : mo_sm (fun k => if k = c then g k else 0) n = g c := by
    rw [mo_sm_one (c := c) hc (fun k _ hk => if_neg hk), if_pos rfl]
  rw [← h1]
  refine mo_sm_add (fun k _ => ?_)
  by_cases e : k = c
  · rw [if_pos e, if_pos e]; rfl
  · rw [if_neg e, if_neg e, Nat.zero_add]
theorem mo_sm_sum {h : Nat → Nat → Nat} {n : Nat} : ∀ (X : List Nat), mo_sm (fun k => (X.map (fun y => h y k)).sum) n = (X.map (fun y => mo_sm (h y) n)).sum
  | [] => mo_sm_zero (fun _ _ => rfl)
  | x :: X => by
    rw [List.map_cons, List.sum_cons, ← mo_sm_sum X]
    exact mo_sm_add (fun k _ => by rw [List.map_cons, List.sum_cons])
theorem sum_filter {f : Nat → Nat} {p : Nat → Bool} : ∀ n, (((List.range n).filter p).map f).sum = mo_sm (fun x => if p x = true then f x else 0) n
  | 0 => rfl
  | n + 1 => by
    rw [List.range_succ, List.filter_append, List.map_append, List.sum_append_nat, sum_filter n]
    show _ = mo_sm (fun x => if p x = true then f x else 0) n + (if p n = true then f n else 0)
    congr 1
    by_cases c : p n = true
    · rw [if_pos c, List.filter_cons_of_pos c]; simp
    · rw [if_neg c, List.filter_cons_of_neg c]; simp
theorem sum_congr {f h : Nat → Nat} : ∀ {X : List Nat}, (∀ x, x ∈ X → f x = h x) → (X.map f).sum = (X.map h).sum := fun e => by rw [List.map_congr_left e]
theorem sum_zero : ∀ (X : List Nat), (X.map (fun _ => 0)).sum = 0
  | [] => rfl
  | _ :: X => by rw [List.map_cons, List.sum_cons, sum_zero X]
theorem lo_or_comm3 {u a b : Nat} : u ||| 2 ^ a ||| 2 ^ b = u ||| 2 ^ b ||| 2 ^ a := by rw [Nat.or_assoc, Nat.or_comm (2 ^ a), ← Nat.or_assoc]
theorem bit_f {u k : Nat} (h : ¬ u.testBit k = true) : u.testBit k = false := by cases e : u.testBit k <;> simp_all
theorem lo_col {n : Nat} {A : Nat → Nat → Bool} : ∀ (X : List Nat) (u c : Nat), X.Nodup → c < n → u.testBit c = false → X.length = lo_fr n u → lo_cn n (X.map A) u = (X.map (fun x => if A x c = true then lo_cn n ((X.filter (fun y => !decide (y = x))).map A) (u ||| 2 ^ c) else 0)).sum
  | [], u, c, _, hc, hu, hl => by
    have := lo_fr_or hc hu
    rw [List.length_nil] at hl
    omega
  | x :: X, u, c, hd, hc, hu, hl => by
    rw [List.nodup_cons] at hd
    rw [List.length_cons] at hl
    have hx : (x :: X).filter (fun y => !decide (y = x)) = X := by
      rw [List.filter_cons_of_neg (by simp), List.filter_eq_self.mpr (fun y hy => by
        have : y ≠ x := fun z => hd.1 (z ▸ hy)
        simp [this])]
    have hy : ∀ y, y ∈ X → (x :: X).filter (fun z => !decide (z = y)) = x :: X.filter (fun z => !decide (z = y)) := fun y hy => by
      have : x ≠ y := fun z => hd.1 (z ▸ hy)
      rw [List.filter_cons_of_pos (by simp [this])]
    rw [List.map_cons (f := fun x' => if A x' c = true then lo_cn n (((x :: X).filter (fun y => !decide (y = x'))).map A) (u ||| 2 ^ c) else 0), List.sum_cons, hx]
    show mo_sm (fun k => if (!u.testBit k && A x k) = true then lo_cn n (X.map A) (u ||| 2 ^ k) else 0) n = _
    rw [mo_sm_split hc]
    congr 1
    · rw [hu, Bool.not_false, Bool.true_and]
    · have e1 : mo_sm (fun k => if k = c then 0 else (if (!u.testBit k && A x k) = true then lo_cn n (X.map A) (u ||| 2 ^ k) else 0)) n = mo_sm (fun k => (X.map (fun y => if (!decide (k = c) && (!u.testBit k && A x k) && A y c) = true then lo_cn n ((X.filter (fun z => !decide (z = y))).map A) (u ||| 2 ^ c ||| 2 ^ k) else 0)).sum) n := mo_sm_congr (fun k hk => by
        by_cases e : k = c
        · rw [if_pos e, sum_congr (h := fun _ => 0) (fun y _ => by rw [decide_eq_true e]; rfl), sum_zero]
        · rw [if_neg e]
          by_cases c2 : (!u.testBit k && A x k) = true
          · have huk : u.testBit k = false := by
              rw [Bool.and_eq_true] at c2
              cases h : u.testBit k
              · rfl
              · rw [h] at c2; exact absurd c2.1 (by decide)
            have hfr := lo_fr_or hk huk
            rw [if_pos c2, lo_col X (u ||| 2 ^ k) c hd.2 hc (by rw [Nat.testBit_or, hu, Nat.testBit_two_pow, decide_eq_false e]; rfl) (by omega)]
            refine sum_congr (fun y _ => ?_)
            rw [decide_eq_false e, c2, Bool.not_false, Bool.true_and, Bool.true_and, lo_or_comm3]
          · rw [if_neg c2, sum_congr (h := fun _ => 0) (fun y _ => by rw [Bool.eq_false_iff.mpr c2, Bool.and_false, Bool.false_and]; rfl), sum_zero])
      rw [e1, mo_sm_sum]
      refine sum_congr (fun y hyX => ?_)
      rw [hy y hyX]
      by_cases c3 : A y c = true
      · rw [if_pos c3]
        show _ = mo_sm (fun k => if (!(u ||| 2 ^ c).testBit k && A x k) = true then lo_cn n ((X.filter (fun z => !decide (z = y))).map A) (u ||| 2 ^ c ||| 2 ^ k) else 0) n
        refine mo_sm_congr (fun k _ => ?_)
        rw [c3, Bool.and_true, lo_or_bit]
        cases u.testBit k <;> cases decide (k = c) <;> cases A x k <;> rfl
      · rw [if_neg c3]
        exact mo_sm_zero (fun k _ => by rw [Bool.eq_false_iff.mpr c3, Bool.and_false]; rfl)
theorem lo_fr_len {n u : Nat} : lo_fr n u = ((List.range n).filter (fun c => !u.testBit c)).length := lo_ct_len n
theorem lo_tr {n : Nat} {A : Nat → Nat → Bool} : ∀ (Y : List Nat) (u v : Nat), Y = (List.range n).filter (fun c => !u.testBit c) → lo_fr n u = lo_fr n v → lo_cn n (((List.range n).filter (fun x => !v.testBit x)).map A) u = lo_cn n (Y.map (fun c x => A x c)) v
  | [], u, v, hY, hl => by
    rw [lo_fr_len, lo_fr_len, ← hY, List.length_nil] at hl
    rw [List.length_eq_zero_iff.mp hl.symm]
    rfl
  | c :: Y, u, v, hY, hl => by
    have hc : c ∈ (List.range n).filter (fun c => !u.testBit c) := by rw [← hY]; exact List.mem_cons_self
    have hc := List.mem_filter.mp hc
    have hcn := List.mem_range.mp hc.1
    have hcu : u.testBit c = false := by simpa using hc.2
    have hnd : (c :: Y).Nodup := by rw [hY]; exact List.Pairwise.filter _ List.nodup_range
    rw [List.nodup_cons] at hnd
    have hY2 : Y = (List.range n).filter (fun x => !(u ||| 2 ^ c).testBit x) := by
      have : (List.range n).filter (fun x => !(u ||| 2 ^ c).testBit x) = ((List.range n).filter (fun c => !u.testBit c)).filter (fun x => !decide (x = c)) := by
        rw [List.filter_filter]
        exact List.filter_congr (fun x _ => by rw [lo_or_bit, Bool.and_comm])
      rw [this, ← hY, List.filter_cons_of_neg (by simp), List.filter_eq_self.mpr (fun y hy => by
        have : y ≠ c := fun z => hnd.1 (z ▸ hy)
        simp [this])]
    have hfu := lo_fr_or hcn hcu
    rw [lo_col _ u c (List.Pairwise.filter _ List.nodup_range) hcn hcu (by rw [← lo_fr_len]; exact hl.symm), sum_filter]
    show _ = mo_sm (fun x => if (!v.testBit x && A x c) = true then lo_cn n (Y.map (fun c x => A x c)) (v ||| 2 ^ x) else 0) n
    refine mo_sm_congr (fun x hx => ?_)
    by_cases cv : v.testBit x = true
    · rw [cv]; rfl
    · have cv := bit_f cv
      rw [cv, Bool.not_false, Bool.true_and, if_pos rfl]
      by_cases ca : A x c = true
      · rw [if_pos ca, if_pos ca]
        have hfv := lo_fr_or hx cv
        rw [← lo_tr Y (u ||| 2 ^ c) (v ||| 2 ^ x) hY2 (by omega), List.filter_filter]
        congr 2
        exact List.filter_congr (fun y _ => by rw [lo_or_bit, Bool.and_comm])
      · rw [if_neg ca, if_neg ca]
theorem wy_supp {N : Nat} {al : Nat → Nat → Bool} : ∀ i t, mo_wy N al i t ≠ 0 → lo_fr N t + i = N
  | 0, t, h => by
    have h : (if t = 0 then 1 else 0) ≠ 0 := h
    by_cases c : t = 0
    · rw [c, lo_fr_0]; omega
    · rw [if_neg c] at h; exact absurd rfl h
  | i + 1, t, h => by
    obtain ⟨k, hk, e⟩ := mo_sm_pos h
    by_cases c : (t.testBit k && al i k) = true
    · rw [if_pos c] at e
      rw [Bool.and_eq_true] at c
      have ih := wy_supp i _ e
      have hb : (t ^^^ 2 ^ k).testBit k = false := by rw [Nat.testBit_xor, Nat.testBit_two_pow_self, c.1]; rfl
      have := lo_fr_or hk hb
      rw [lo_or_x c.1] at this
      omega
    · rw [if_neg c] at e; exact absurd rfl e
theorem fr_full {N t : Nat} (ht : t < 2 ^ N) (h : lo_fr N t = 0) : t = 2 ^ N - 1 := by
  apply Nat.eq_of_testBit_eq
  intro k
  rw [Nat.testBit_two_pow_sub_one]
  by_cases c : k < N
  · rw [decide_eq_true c]
    apply Classical.byContradiction
    intro z
    have := lo_fr_or c (bit_f z)
    omega
  · rw [decide_eq_false c]
    exact Nat.testBit_lt_two_pow (Nat.lt_of_lt_of_le ht (Nat.pow_le_pow_right (by decide) (by omega)))
theorem wy_full {N : Nat} {al : Nat → Nat → Bool} : mo_wy N al N (2 ^ N - 1) = lo_cn N ((List.range' 0 N).map al) 0 := by
  have hp := Nat.two_pow_pos N
  rw [← lo_lots, mo_sm_one (c := 2 ^ N - 1) (by omega) (fun t ht hne => Classical.byContradiction (fun z => hne (fr_full ht (by have := wy_supp N t z; omega))))]
theorem rng_split {n j : Nat} (hj : j < n) : List.range' 0 n = List.range' 0 j ++ j :: List.range' (j + 1) (n - j - 1) := by
  have h := List.range'_append (s := 0) (m := j) (n := n - j) (step := 1)
  rw [Nat.one_mul, Nat.zero_add, show j + (n - j) = n by omega] at h
  rw [← h]
  conv => lhs; rw [show n - j = (n - j - 1) + 1 by omega, List.range'_succ]
theorem rng_out {n j : Nat} (hj : j < n) : List.range' 0 j ++ List.range' (j + 1) (n - j - 1) = (List.range n).filter (fun x => !(2 ^ j).testBit x) := by
  rw [List.range_eq_range', rng_split hj, List.filter_append, List.filter_cons_of_neg (by rw [Nat.testBit_two_pow_self]; decide), List.filter_eq_self.mpr (fun x hx => ?_), List.filter_eq_self.mpr (fun x hx => ?_)]
  · have := List.mem_range'_1.mp hx
    rw [Nat.testBit_two_pow, decide_eq_false (by omega)]; rfl
  · have := List.mem_range'_1.mp hx
    rw [Nat.testBit_two_pow, decide_eq_false (by omega)]; rfl
/-- a row that may have one alone -/
theorem lo_row1 {n j i : Nat} {A al : Nat → Nat → Bool} (hj : j < n) (hi : i < n) (h1 : ∀ x, x ≠ j → al x = A x) (h2 : ∀ k, k < n → al j k = (A j k && decide (k = i))) : lo_cn n ((List.range' 0 n).map al) 0 = if A j i = true then lo_cn n (((List.range n).filter (fun x => !(2 ^ j).testBit x)).map A) (2 ^ i) else 0 := by
  have e : ∀ (X : List Nat), (∀ x, x ∈ X → x ≠ j) → X.map al = X.map A := fun X hX => List.map_congr_left (fun x hx => h1 x (hX x hx))
  rw [rng_split hj, List.map_append, List.map_cons, e _ (fun x hx => by have := List.mem_range'_1.mp hx; omega), e _ (fun x hx => by have := List.mem_range'_1.mp hx; omega)]
  by_cases c : A j i = true
  · rw [if_pos c, lo_fix hi (fun k hk => by
      rw [h2 k hk]
      by_cases z : k = i
      · rw [z, c]; rfl
      · rw [decide_eq_false z, Bool.and_false]), Nat.zero_testBit, if_neg (by decide), Nat.zero_or, ← List.map_append, rng_out hj]
  · rw [if_neg c]
    refine lo_none (fun k hk => ?_) _ _
    rw [h2 k hk]
    by_cases z : k = i
    · rw [z, Bool.eq_false_iff.mpr c, Bool.false_and]
    · rw [decide_eq_false z, Bool.and_false]
theorem lo_tr0 {n : Nat} {A : Nat → Nat → Bool} : lo_cn n ((List.range' 0 n).map A) 0 = lo_cn n ((List.range' 0 n).map (fun c x => A x c)) 0 := by
  have hr : (List.range n).filter (fun x => !(0 : Nat).testBit x) = List.range' 0 n := by
    rw [List.range_eq_range']
    exact List.filter_eq_self.mpr (fun x _ => by rw [Nat.zero_testBit]; rfl)
  have := lo_tr (n := n) (A := A) (List.range' 0 n) 0 0 hr.symm rfl
  rw [hr] at this
  exact this
theorem lo_tr1 {n i j : Nat} {A : Nat → Nat → Bool} (hi : i < n) (hj : j < n) : lo_cn n (((List.range n).filter (fun x => !(2 ^ j).testBit x)).map A) (2 ^ i) = lo_cn n (((List.range n).filter (fun x => !(2 ^ i).testBit x)).map (fun c x => A x c)) (2 ^ j) := by
  have h1 := lo_fr_or hi (Nat.zero_testBit i)
  have h2 := lo_fr_or hj (Nat.zero_testBit j)
  rw [Nat.zero_or] at h1 h2
  exact lo_tr _ _ _ rfl (by omega)
