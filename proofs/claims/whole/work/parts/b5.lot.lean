/-! Lots: the ways counted, by a rule of numbers. -/
theorem mo_sm_mul {g : Nat → Nat} {c : Nat} : ∀ n, mo_sm (fun k => c * g k) n = c * mo_sm g n
  | 0 => (Nat.mul_zero c).symm
  | n + 1 => by
    show mo_sm (fun k => c * g k) n + c * g n = c * (mo_sm g n + g n)
    rw [mo_sm_mul n, Nat.mul_add]
theorem mo_sm_swap {f : Nat → Nat → Nat} : ∀ a b, mo_sm (fun i => mo_sm (fun j => f i j) b) a = mo_sm (fun j => mo_sm (fun i => f i j) a) b
  | 0, b => (mo_sm_zero (fun _ _ => rfl)).symm
  | a + 1, b => by
    show mo_sm (fun i => mo_sm (fun j => f i j) b) a + mo_sm (fun j => f a j) b = _
    rw [mo_sm_swap a b]
    exact (mo_sm_add (fun k _ => rfl)).symm
theorem mo_sm_list {g : Nat → Nat} : ∀ n, mo_sm g n = ((List.range n).map g).sum
  | 0 => rfl
  | n + 1 => by
    rw [List.range_succ, List.map_append, List.sum_append_nat, ← mo_sm_list n]
    show mo_sm g n + g n = mo_sm g n + (g n + 0)
    rfl
theorem mo_sm_one {g : Nat → Nat} {c : Nat} : ∀ {n}, c < n → (∀ k, k < n → k ≠ c → g k = 0) → mo_sm g n = g c
  | 0, h, _ => absurd h (Nat.not_lt_zero c)
  | n + 1, h, e => by
    show mo_sm g n + g n = g c
    by_cases hc : c = n
    · subst hc
      rw [mo_sm_zero (fun k hk => e k (by omega) (by omega)), Nat.zero_add]
    · rw [mo_sm_one (n := n) (c := c) (by omega) (fun k hk => e k (by omega)), e n (by omega) (fun z => hc z.symm), Nat.add_zero]
theorem lo_flip {g : Nat → Nat} {n N : Nat} (hn : n < N) : mo_sm (fun t => if t.testBit n = true then g (t ^^^ 2 ^ n) else 0) (2 ^ N) = mo_sm (fun t => if t.testBit n = true then 0 else g t) (2 ^ N) := by
  have hx : ∀ t, (t ^^^ 2 ^ n).testBit n = !t.testBit n := fun t => by rw [Nat.testBit_xor, Nat.testBit_two_pow_self, Bool.xor_true]
  have hxx : ∀ t, (t ^^^ 2 ^ n) ^^^ 2 ^ n = t := fun t => by rw [Nat.xor_assoc, Nat.xor_self, Nat.xor_zero]
  have hlt : ∀ t, t < 2 ^ N → t ^^^ 2 ^ n < 2 ^ N := fun t ht => Nat.xor_lt_two_pow ht (Nat.pow_lt_pow_right (by decide) hn)
  have e1 : mo_sm (fun t => if t.testBit n = true then g (t ^^^ 2 ^ n) else 0) (2 ^ N) = mo_sm (fun t => (fun s => if s.testBit n = true then 0 else g s) (t ^^^ 2 ^ n)) (2 ^ N) := mo_sm_congr (fun t _ => by
    show _ = if (t ^^^ 2 ^ n).testBit n = true then 0 else g (t ^^^ 2 ^ n)
    rw [hx t]
    cases t.testBit n <;> rfl)
  rw [e1, mo_sm_list, mo_sm_list]
  show (List.map ((fun s => if s.testBit n = true then 0 else g s) ∘ (fun t => t ^^^ 2 ^ n)) (List.range (2 ^ N))).sum = _
  rw [← List.map_map]
  apply List.Perm.sum_nat
  apply List.Perm.map
  refine (List.perm_ext_iff_of_nodup ?_ List.nodup_range).mpr (fun x => ?_)
  · refine List.Pairwise.map _ (fun a b hab z => hab ?_) (List.nodup_range (n := 2 ^ N))
    rw [← hxx a, ← hxx b]
    exact congrArg (fun y => y ^^^ 2 ^ n) z
  · rw [List.mem_map, List.mem_range]
    constructor
    · rintro ⟨y, hy, e⟩
      rw [← e]
      exact hlt y (List.mem_range.mp hy)
    · intro hx2
      exact ⟨x ^^^ 2 ^ n, List.mem_range.mpr (hlt x hx2), hxx x⟩
/-- ways to give each of a list, told by what he may have, a name of his own, none of a set -/
def lo_cn (N : Nat) : List (Nat → Bool) → Nat → Nat
  | [], _ => 1
  | a :: as, u => mo_sm (fun n => if (!u.testBit n && a n) = true then lo_cn N as (u ||| 2 ^ n) else 0) N
theorem lo_or_x {t n : Nat} (h : t.testBit n = true) : (t ^^^ 2 ^ n) ||| 2 ^ n = t := ((mo_or_xor (c := t ^^^ 2 ^ n) (t := t) (n := n)).mpr ⟨h, rfl⟩).2.symm
theorem lo_wy_cn {N : Nat} {al : Nat → Nat → Bool} : ∀ j i, mo_sm (fun t => mo_wy N al i t * lo_cn N ((List.range' i j).map al) t) (2 ^ N) = mo_sm (mo_wy N al (i + j)) (2 ^ N)
  | 0, i => mo_sm_congr (fun t _ => Nat.mul_one _)
  | j + 1, i => by
    rw [show i + (j + 1) = i + 1 + j by omega, ← lo_wy_cn j (i + 1), List.range'_succ, List.map_cons]
    have e1 : mo_sm (fun t => mo_wy N al i t * lo_cn N (al i :: (List.range' (i + 1) j).map al) t) (2 ^ N) = mo_sm (fun t => mo_sm (fun n => mo_wy N al i t * (if (!t.testBit n && al i n) = true then lo_cn N ((List.range' (i + 1) j).map al) (t ||| 2 ^ n) else 0)) N) (2 ^ N) := mo_sm_congr (fun t _ => (mo_sm_mul N).symm)
    have e2 : mo_sm (fun t => mo_wy N al (i + 1) t * lo_cn N ((List.range' (i + 1) j).map al) t) (2 ^ N) = mo_sm (fun t => mo_sm (fun n => lo_cn N ((List.range' (i + 1) j).map al) t * (if (t.testBit n && al i n) = true then mo_wy N al i (t ^^^ 2 ^ n) else 0)) N) (2 ^ N) := mo_sm_congr (fun t _ => by
      rw [Nat.mul_comm]
      exact (mo_sm_mul N).symm)
    rw [e1, e2]
    refine (mo_sm_swap _ _).trans (Eq.trans ?_ (mo_sm_swap _ _).symm)
    refine mo_sm_congr (fun n hn => ?_)
    have k := lo_flip (g := fun t => if al i n = true then mo_wy N al i t * lo_cn N ((List.range' (i + 1) j).map al) (t ||| 2 ^ n) else 0) hn
    refine Eq.trans (mo_sm_congr (fun t _ => ?_)) (k.symm.trans (mo_sm_congr (fun t _ => ?_)))
    · cases t.testBit n <;> cases al i n <;> simp
    · cases h : t.testBit n
      · simp
      · cases al i n
        · simp
        · simp only [if_true, Bool.and_true, lo_or_x h]
          rw [Nat.mul_comm]
theorem lo_lots {N : Nat} {al : Nat → Nat → Bool} (k : Nat) : mo_sm (mo_wy N al k) (2 ^ N) = lo_cn N ((List.range' 0 k).map al) 0 := by
  have h := lo_wy_cn (N := N) (al := al) k 0
  rw [Nat.zero_add] at h
  rw [← h, mo_sm_one (c := 0) (Nat.two_pow_pos N) (fun t _ ht => by
    show (if t = 0 then 1 else 0) * _ = 0
    rw [if_neg ht, Nat.zero_mul])]
  show (if 0 = 0 then 1 else 0) * _ = _
  rw [if_pos rfl, Nat.one_mul]
/-- of those below N, how many -/
def lo_ct (p : Nat → Bool) (N : Nat) : Nat := mo_sm (fun n => if p n = true then 1 else 0) N
theorem lo_ct_congr {p q : Nat → Bool} {N : Nat} (h : ∀ n, n < N → p n = q n) : lo_ct p N = lo_ct q N := mo_sm_congr (fun n hn => by rw [h n hn])
theorem lo_ct_out {p : Nat → Bool} {N m : Nat} (hm : m < N) : lo_ct p N = lo_ct (fun n => p n && !decide (n = m)) N + (if p m = true then 1 else 0) := by
  have h1 : mo_sm (fun n => if (p n && decide (n = m)) = true then 1 else 0) N = if p m = true then 1 else 0 := by
    rw [mo_sm_one (c := m) hm (fun k _ hk => by rw [decide_eq_false hk, Bool.and_false]; rfl), decide_eq_true rfl, Bool.and_true]
  rw [← h1]
  refine mo_sm_add (fun k _ => ?_)
  show (if p k = true then 1 else 0) = (if (p k && !decide (k = m)) = true then 1 else 0) + (if (p k && decide (k = m)) = true then 1 else 0)
  cases p k <;> cases decide (k = m) <;> rfl
theorem lo_ct_all (N : Nat) : lo_ct (fun _ => true) N = N := by
  show mo_sm (fun _ => 1) N = N
  induction N with
  | zero => rfl
  | succ n ih => show mo_sm (fun _ => 1) n + 1 = n + 1; rw [ih]
def lo_sz (g : Nat → Int) : Nat → Int
  | 0 => 0
  | n + 1 => lo_sz g n + g n
theorem lo_sz_cast {g : Nat → Nat} : ∀ n, ((mo_sm g n : Nat) : Int) = lo_sz (fun k => (g k : Int)) n
  | 0 => rfl
  | n + 1 => by
    show ((mo_sm g n + g n : Nat) : Int) = lo_sz (fun k => (g k : Int)) n + (g n : Int)
    rw [← lo_sz_cast n, Int.natCast_add]
theorem lo_sz_congr {g h : Nat → Int} : ∀ {n : Nat}, (∀ k, k < n → g k = h k) → lo_sz g n = lo_sz h n
  | 0, _ => rfl
  | n + 1, e => by
    show lo_sz g n + g n = lo_sz h n + h n
    rw [lo_sz_congr (fun k hk => e k (by omega)), e n (by omega)]
theorem lo_sz_two {p q : Nat → Bool} {A B : Int} : ∀ n, lo_sz (fun k => if p k = true then (if q k = true then A else B) else 0) n = (lo_ct (fun k => p k && q k) n : Int) * A + (lo_ct (fun k => p k && !q k) n : Int) * B
  | 0 => by show (0 : Int) = 0 * A + 0 * B; rw [Int.zero_mul, Int.zero_mul]; rfl
  | n + 1 => by
    show lo_sz (fun k => if p k = true then (if q k = true then A else B) else 0) n + (if p n = true then (if q n = true then A else B) else 0) = ((lo_ct (fun k => p k && q k) n + (if (p n && q n) = true then 1 else 0) : Nat) : Int) * A + ((lo_ct (fun k => p k && !q k) n + (if (p n && !q n) = true then 1 else 0) : Nat) : Int) * B
    rw [lo_sz_two n, Int.natCast_add, Int.natCast_add, Int.add_mul, Int.add_mul]
    cases p n <;> cases q n <;> simp <;> omega
/-- F (F - 1) .. : k of them -/
def lo_ff (F : Int) : Nat → Int
  | 0 => 1
  | k + 1 => F * lo_ff (F - 1) k
/-- ways for k to have one of F names each, b of them barred each from one -/
def lo_W (k : Nat) (F : Int) : Nat → Int
  | 0 => lo_ff F k
  | b + 1 => lo_W k F b - lo_W (k - 1) (F - 1) b
theorem lo_A : ∀ b k F, b ≤ k → lo_W (k + 1) F b = (F - b) * lo_W k (F - 1) b + b * lo_W k (F - 1) (b - 1)
  | 0, k, F, _ => by
    show F * lo_ff (F - 1) k = (F - (0 : Nat)) * lo_ff (F - 1) k + ((0 : Nat) : Int) * _
    rw [Int.natCast_zero, Int.zero_mul, Int.add_zero, Int.sub_zero]
  | b + 1, 0, F, h => absurd h (by omega)
  | b + 1, k + 1, F, h => by
    have h1 := lo_A b (k + 1) F (by omega)
    have h2 := lo_A b k (F - 1) (by omega)
    show lo_W (k + 2) F b - lo_W (k + 1) (F - 1) b = (F - ((b + 1 : Nat) : Int)) * (lo_W (k + 1) (F - 1) b - lo_W k (F - 1 - 1) b) + ((b + 1 : Nat) : Int) * lo_W (k + 1) (F - 1) b
    rw [Int.natCast_add]
    cases b with
    | zero =>
      simp only [Int.natCast_zero] at h1 h2 ⊢
      grind
    | succ c =>
      have h3 : lo_W (k + 1) (F - 1) (c + 1) = lo_W (k + 1) (F - 1) c - lo_W k (F - 1 - 1) c := rfl
      have e1 : c + 1 - 1 = c := rfl
      rw [e1] at h1 h2
      grind
theorem lo_B {b k : Nat} {F : Int} (h : b ≤ k) : lo_W (k + 1) F (b + 1) = (F - 1 - b) * lo_W k (F - 1) b + b * lo_W k (F - 1) (b - 1) := by
  have h1 := lo_A b k F h
  show lo_W (k + 1) F b - lo_W k (F - 1) b = _
  rw [h1]
  grind
/-- those free of a set -/
def lo_fr (N u : Nat) : Nat := lo_ct (fun n => !u.testBit n) N
def lo_br (N : Nat) (os : List Nat) (u : Nat) : Nat := lo_ct (fun n => !u.testBit n && decide (n ∈ os)) N
theorem lo_or_bit {u m n : Nat} : (!(u ||| 2 ^ m).testBit n) = (!u.testBit n && !decide (n = m)) := by
  rw [Nat.testBit_or, Nat.testBit_two_pow, Bool.not_or]
  congr 2
  exact decide_eq_decide.mpr ⟨Eq.symm, Eq.symm⟩
theorem lo_fr_or {N u m : Nat} (hm : m < N) (h : u.testBit m = false) : lo_fr N u = lo_fr N (u ||| 2 ^ m) + 1 := by
  unfold lo_fr
  rw [lo_ct_out hm, if_pos (by rw [h]; rfl)]
  congr 1
  exact lo_ct_congr (fun n _ => lo_or_bit.symm)
theorem lo_br_or {N u m : Nat} {os : List Nat} (hm : m < N) (h : u.testBit m = false) : lo_br N os u = lo_br N os (u ||| 2 ^ m) + (if m ∈ os then 1 else 0) := by
  unfold lo_br
  rw [lo_ct_out hm]
  congr 1
  · refine lo_ct_congr (fun n _ => ?_)
    rw [lo_or_bit]
    cases u.testBit n <;> cases decide (n ∈ os) <;> cases decide (n = m) <;> rfl
  · rw [h]
    by_cases c : m ∈ os <;> simp [c]
theorem lo_br_cons {N u o : Nat} {os : List Nat} (ho : o < N) (h : o ∉ os) : lo_br N (o :: os) u = lo_br N os u + (if u.testBit o = true then 0 else 1) := by
  unfold lo_br
  rw [lo_ct_out ho]
  congr 1
  · refine lo_ct_congr (fun n _ => ?_)
    by_cases c : n = o
    · subst c; simp [h]
    · simp [c]
  · cases u.testBit o <;> simp
theorem lo_br_le {N u : Nat} : ∀ {os : List Nat}, os.Nodup → (∀ o ∈ os, o < N) → lo_br N os u ≤ os.length
  | [], _, _ => by
    unfold lo_br
    have : lo_ct (fun n => !u.testBit n && decide (n ∈ ([] : List Nat))) N = 0 := mo_sm_zero (fun n _ => by simp)
    rw [this]
    exact Nat.zero_le _
  | o :: os, hd, hl => by
    rw [List.nodup_cons] at hd
    rw [lo_br_cons (hl o List.mem_cons_self) hd.1, List.length_cons]
    have := lo_br_le (N := N) (u := u) hd.2 (fun x hx => hl x (List.mem_cons_of_mem _ hx))
    cases u.testBit o <;> simp <;> omega
theorem lo_count {N : Nat} : ∀ (os : List Nat) (u : Nat), os.Nodup → (∀ o ∈ os, o < N) → (lo_cn N (os.map (fun o n => !decide (o = n))) u : Int) = lo_W os.length (lo_fr N u) (lo_br N os u)
  | [], u, _, _ => by
    have : lo_br N [] u = 0 := mo_sm_zero (fun n _ => by simp)
    rw [this]
    rfl
  | o :: os, u, hd, hl => by
    rw [List.nodup_cons] at hd
    have hl' : ∀ x ∈ os, x < N := fun x hx => hl x (List.mem_cons_of_mem _ hx)
    have ho := hl o List.mem_cons_self
    have hb := lo_br_le (N := N) (u := u) hd.2 hl'
    have e1 : (lo_cn N ((o :: os).map (fun o n => !decide (o = n))) u : Int) = lo_sz (fun n => if (!u.testBit n && !decide (n = o)) = true then (if decide (n ∈ os) = true then lo_W os.length ((lo_fr N u : Int) - 1) (lo_br N os u - 1) else lo_W os.length ((lo_fr N u : Int) - 1) (lo_br N os u)) else 0) N := by
      show ((mo_sm (fun n => if (!u.testBit n && !decide (o = n)) = true then lo_cn N (os.map (fun o n => !decide (o = n))) (u ||| 2 ^ n) else 0) N : Nat) : Int) = _
      rw [lo_sz_cast]
      refine lo_sz_congr (fun n hn => ?_)
      rw [show decide (n = o) = decide (o = n) from decide_eq_decide.mpr ⟨Eq.symm, Eq.symm⟩]
      by_cases c : (!u.testBit n && !decide (o = n)) = true
      · rw [if_pos c, if_pos c, lo_count os (u ||| 2 ^ n) hd.2 hl']
        have hf : u.testBit n = false := by
          rw [Bool.and_eq_true] at c
          cases h : u.testBit n
          · rfl
          · rw [h] at c; exact absurd c.1 (by decide)
        have h1 := lo_fr_or hn hf
        have h2 := lo_br_or (os := os) hn hf
        rw [show ((lo_fr N (u ||| 2 ^ n) : Nat) : Int) = (lo_fr N u : Int) - 1 by omega]
        by_cases c2 : n ∈ os
        · rw [if_pos c2] at h2
          rw [decide_eq_true c2, if_pos rfl, show lo_br N os (u ||| 2 ^ n) = lo_br N os u - 1 by omega]
        · rw [if_neg c2] at h2
          rw [decide_eq_false c2, if_neg (by decide), show lo_br N os (u ||| 2 ^ n) = lo_br N os u by omega]
      · rw [if_neg c, if_neg c]
        rfl
    have c1 : lo_ct (fun n => (!u.testBit n && !decide (n = o)) && decide (n ∈ os)) N = lo_br N os u := lo_ct_congr (fun n _ => by
      by_cases c : n = o
      · subst c; simp [hd.1]
      · simp [c])
    have c2 : lo_ct (fun n => (!u.testBit n && !decide (n = o)) && !decide (n ∈ os)) N + lo_br N os u + (if u.testBit o = true then 0 else 1) = lo_fr N u := by
      rw [← c1, lo_fr, lo_ct_out (p := fun n => !u.testBit n) ho]
      congr 1
      · refine (mo_sm_add (fun k _ => ?_)).symm
        show (if (!u.testBit k && !decide (k = o)) = true then 1 else 0) = (if (!u.testBit k && !decide (k = o) && !decide (k ∈ os)) = true then 1 else 0) + (if (!u.testBit k && !decide (k = o) && decide (k ∈ os)) = true then 1 else 0)
        cases u.testBit k <;> cases decide (k = o) <;> cases decide (k ∈ os) <;> rfl
      · cases u.testBit o <;> rfl
    rw [e1, lo_sz_two, c1, lo_br_cons ho hd.1, List.length_cons]
    by_cases c : u.testBit o = true
    · rw [if_pos c] at c2 ⊢
      show _ = lo_W (os.length + 1) (lo_fr N u) (lo_br N os u)
      rw [lo_A _ _ _ hb, show ((lo_ct (fun n => (!u.testBit n && !decide (n = o)) && !decide (n ∈ os)) N : Nat) : Int) = (lo_fr N u : Int) - (lo_br N os u : Int) by omega, Int.add_comm]
    · rw [if_neg c] at c2 ⊢
      rw [lo_B hb, show ((lo_ct (fun n => (!u.testBit n && !decide (n = o)) && !decide (n ∈ os)) N : Nat) : Int) = (lo_fr N u : Int) - 1 - (lo_br N os u : Int) by omega, Int.add_comm]
theorem lo_fix {N q : Nat} {post : List (Nat → Bool)} {fx : Nat → Bool} (hq : q < N) (hf : ∀ n, n < N → fx n = decide (n = q)) : ∀ (pre : List (Nat → Bool)) (u : Nat), lo_cn N (pre ++ fx :: post) u = if u.testBit q = true then 0 else lo_cn N (pre ++ post) (u ||| 2 ^ q)
  | [], u => by
    show mo_sm (fun n => if (!u.testBit n && fx n) = true then lo_cn N post (u ||| 2 ^ n) else 0) N = _
    rw [mo_sm_one (c := q) hq (fun k hk hne => by rw [hf k hk, decide_eq_false hne, Bool.and_false]; rfl), hf q hq, decide_eq_true rfl, Bool.and_true]
    show _ = if u.testBit q = true then 0 else lo_cn N post (u ||| 2 ^ q)
    cases u.testBit q <;> rfl
  | a :: pre, u => by
    show mo_sm (fun n => if (!u.testBit n && a n) = true then lo_cn N (pre ++ fx :: post) (u ||| 2 ^ n) else 0) N = if u.testBit q = true then 0 else mo_sm (fun n => if (!(u ||| 2 ^ q).testBit n && a n) = true then lo_cn N (pre ++ post) (u ||| 2 ^ q ||| 2 ^ n) else 0) N
    by_cases c : u.testBit q = true
    · rw [if_pos c]
      refine mo_sm_zero (fun n _ => ?_)
      rw [lo_fix hq hf pre (u ||| 2 ^ n), Nat.testBit_or, c, Bool.true_or, if_pos rfl, ite_self]
    · rw [if_neg c]
      refine mo_sm_congr (fun n _ => ?_)
      rw [lo_fix hq hf pre (u ||| 2 ^ n), lo_or_bit, Nat.testBit_or, Nat.testBit_two_pow]
      have c' : u.testBit q = false := by cases h : u.testBit q <;> simp_all
      rw [c', Bool.false_or, show u ||| 2 ^ q ||| 2 ^ n = u ||| 2 ^ n ||| 2 ^ q by rw [Nat.or_assoc, Nat.or_comm (2 ^ q), ← Nat.or_assoc]]
      by_cases e : n = q
      · rw [decide_eq_true e]
        simp
      · rw [decide_eq_false e]
        simp
