/-! Ways, counted in place over sets. -/
def mo_sm (g : Nat → Nat) : Nat → Nat
  | 0 => 0
  | n + 1 => mo_sm g n + g n
theorem mo_sm_congr {g h : Nat → Nat} : ∀ {n : Nat}, (∀ k, k < n → g k = h k) → mo_sm g n = mo_sm h n
  | 0, _ => rfl
  | n + 1, e => by
    show mo_sm g n + g n = mo_sm h n + h n
    rw [mo_sm_congr (fun k hk => e k (by omega)), e n (by omega)]
theorem mo_sm_add {g h f : Nat → Nat} : ∀ {n : Nat}, (∀ k, k < n → f k = g k + h k) → mo_sm f n = mo_sm g n + mo_sm h n
  | 0, _ => rfl
  | n + 1, e => by
    show mo_sm f n + f n = mo_sm g n + g n + (mo_sm h n + h n)
    rw [mo_sm_add (g := g) (h := h) (fun k hk => e k (by omega)), e n (by omega)]
    omega
theorem mo_sm_zero {g : Nat → Nat} : ∀ {n : Nat}, (∀ k, k < n → g k = 0) → mo_sm g n = 0
  | 0, _ => rfl
  | n + 1, e => by
    show mo_sm g n + g n = 0
    rw [mo_sm_zero (fun k hk => e k (by omega)), e n (by omega)]
theorem mo_sm_le {g : Nat → Nat} {b : Nat} : ∀ {n : Nat}, (∀ k, k < n → g k ≤ b) → mo_sm g n ≤ n * b
  | 0, _ => by rw [Nat.zero_mul]; exact Nat.le_refl 0
  | n + 1, e => by
    have h1 := mo_sm_le (b := b) (fun k hk => e k (Nat.lt_succ_of_lt hk)) (n := n)
    have h2 := e n (Nat.lt_succ_self n)
    show mo_sm g n + g n ≤ (n + 1) * b
    rw [Nat.succ_mul]
    omega
theorem mo_or_gt {c n : Nat} (h : c.testBit n = false) : c < c ||| 2 ^ n := by
  refine Nat.lt_of_le_of_ne Nat.left_le_or (fun e => ?_)
  have := congrArg (fun z => z.testBit n) e
  simp [h] at this
theorem mo_or_xor {c t n : Nat} : (c.testBit n = false ∧ t = c ||| 2 ^ n) ↔ (t.testBit n = true ∧ t ^^^ 2 ^ n = c) := by
  constructor
  · rintro ⟨h, e⟩
    refine ⟨by rw [e]; simp, ?_⟩
    rw [e]
    apply Nat.eq_of_testBit_eq
    intro i
    by_cases hi : n = i
    · subst hi; simp [h]
    · simp [Nat.testBit_two_pow, hi]
  · rintro ⟨h, e⟩
    refine ⟨by rw [← e]; simp [h], ?_⟩
    rw [← e]
    apply Nat.eq_of_testBit_eq
    intro i
    by_cases hi : n = i
    · subst hi; simp [h]
    · simp [Nat.testBit_two_pow, hi]
theorem mo_xor_lt {t n : Nat} (h : t.testBit n = true) : t ^^^ 2 ^ n < t := by
  have h1 := (mo_or_xor (c := t ^^^ 2 ^ n) (t := t) (n := n)).mpr ⟨h, rfl⟩
  have h2 := mo_or_gt h1.1
  rw [← h1.2] at h2
  exact h2
/-- ways in which i have just the names of a set, each one that he may -/
def mo_wy (N : Nat) (al : Nat → Nat → Bool) : Nat → Nat → Nat
  | 0, t => if t = 0 then 1 else 0
  | i + 1, t => mo_sm (fun n => if (t.testBit n && al i n) = true then mo_wy N al i (t ^^^ 2 ^ n) else 0) N
theorem mo_wy_le (N : Nat) (al : Nat → Nat → Bool) : ∀ i t, mo_wy N al i t ≤ N ^ i
  | 0, t => by
    show (if t = 0 then 1 else 0) ≤ 1
    by_cases c : t = 0
    · rw [if_pos c]; exact Nat.le_refl 1
    · rw [if_neg c]; exact Nat.zero_le 1
  | i + 1, t => by
    rw [Nat.pow_succ, Nat.mul_comm]
    refine mo_sm_le (fun k hk => ?_)
    by_cases c : (t.testBit k && al i k) = true
    · rw [if_pos c]; exact mo_wy_le N al i _
    · rw [if_neg c]; exact Nat.zero_le _
theorem mo_wy_lt {N : Nat} (hN : N ≤ 12) (al : Nat → Nat → Bool) {i : Nat} (hi : i ≤ 8) (t : Nat) : mo_wy N al i t < 2 ^ 63 := by
  have h1 := mo_wy_le N al i t
  have h2 : N ^ i ≤ 12 ^ i := Nat.pow_le_pow_left hN i
  have h3 : 12 ^ i ≤ 12 ^ 8 := Nat.pow_le_pow_right (by decide) hi
  have h4 : 12 ^ 8 < 2 ^ 63 := by decide
  omega
theorem mo_lp_inlS {S ρ : Type} {body : Nat → S → S ⊕ ρ} {k i : Nat} {s s' : S} (e : body i s = .inl s') : mo_lp body (k + 1) i s = mo_lp body k (i + 1) s' := by
  show (match body i s with | .inl s' => mo_lp body k (i + 1) s' | .inr r => .inr r) = _
  rw [e]
theorem mo_lp_inrS {S ρ : Type} {body : Nat → S → S ⊕ ρ} {k i : Nat} {s : S} {r : ρ} (e : body i s = .inr r) : mo_lp body (k + 1) i s = .inr r := by
  show (match body i s with | .inl s' => mo_lp body k (i + 1) s' | .inr r => .inr r) = _
  rw [e]
/-- one set's ways go to the greater sets -/
def mo_gb (q c : Nat) (v : Int64) (al : Nat → Bool) (n : Nat) (s : Nat → Nat → Int64) : (Nat → Nat → Int64) ⊕ (Nat → Nat → Int64) := if lg_cmp v 0 ≤ 0 then .inr s else if c.testBit n = true then .inl s else if al n = true then .inl (mo_up s q (c ||| 2 ^ n) (s q (c ||| 2 ^ n) + v)) else .inl s
def mo_gw (q N : Nat) (al : Nat → Bool) (c : Nat) (s : Nat → Nat → Int64) : Nat → Nat → Int64 := Sum.elim (fun z => z) (fun r => r) (mo_lp (mo_gb q c (s q c) al) N 0 (mo_up s q c 0))
def mo_ga (al : Nat → Bool) (c V t n : Nat) : Nat := if (!c.testBit n && al n && decide (t = c ||| 2 ^ n)) = true then V else 0
theorem mo_gb_run {q c V : Nat} {al : Nat → Bool} (hV : 0 < V) (hV2 : V < 2 ^ 63) {H : Nat → Nat → Int64} : ∀ k i s, (∀ x, x ≠ q → s x = H x) → (∀ t, s q t = H q t + lN (mo_sm (mo_ga al c V t) i)) → ∃ s', mo_lp (mo_gb q c (lN V) al) k i s = .inl s' ∧ (∀ x, x ≠ q → s' x = H x) ∧ ∀ t, s' q t = H q t + lN (mo_sm (mo_ga al c V t) (i + k))
  | 0, i, s, h1, h2 => ⟨s, rfl, h1, h2⟩
  | k + 1, i, s, h1, h2 => by
    have hv : ¬ lg_cmp (lN V) 0 ≤ 0 := fun z => lc_le0.mp z (show lN V > lN 0 from (pk_lLT (by decide) hV2).mpr hV)
    have step : ∃ s1, mo_gb q c (lN V) al i s = .inl s1 ∧ (∀ x, x ≠ q → s1 x = H x) ∧ ∀ t, s1 q t = H q t + lN (mo_sm (mo_ga al c V t) (i + 1)) := by
      unfold mo_gb
      rw [if_neg hv]
      by_cases c1 : c.testBit i = true
      · rw [if_pos c1]
        refine ⟨s, rfl, h1, fun t => ?_⟩
        rw [h2 t]
        show _ = _ + lN (mo_sm (mo_ga al c V t) i + mo_ga al c V t i)
        rw [show mo_ga al c V t i = 0 from if_neg (by simp [c1])]
        rfl
      · rw [if_neg c1]
        have c1' : c.testBit i = false := by cases e : c.testBit i <;> simp_all
        by_cases c2 : al i = true
        · rw [if_pos c2]
          refine ⟨_, rfl, fun x hx => by rw [mo_upR hx]; exact h1 x hx, fun t => ?_⟩
          show _ = _ + lN (mo_sm (mo_ga al c V t) i + mo_ga al c V t i)
          by_cases c3 : t = c ||| 2 ^ i
          · rw [c3, mo_upA, h2, show mo_ga al c V (c ||| 2 ^ i) i = V from if_pos (by rw [c1', c2, decide_eq_true rfl]; rfl), ← lN_add, Int64.add_assoc]
          · rw [mo_upK _ _ _ c3, h2, show mo_ga al c V t i = 0 from if_neg (by rw [decide_eq_false c3, Bool.and_false]; decide)]
            rfl
        · rw [if_neg c2]
          refine ⟨s, rfl, h1, fun t => ?_⟩
          rw [h2 t]
          show _ = _ + lN (mo_sm (mo_ga al c V t) i + mo_ga al c V t i)
          have c2' : al i = false := by cases e : al i <;> simp_all
          rw [show mo_ga al c V t i = 0 from if_neg (by rw [c2', Bool.and_false, Bool.false_and]; decide)]
          rfl
    obtain ⟨s1, e1, g1, g2⟩ := step
    obtain ⟨s', e2, g3, g4⟩ := mo_gb_run hV hV2 k (i + 1) s1 g1 g2
    refine ⟨s', ?_, g3, fun t => ?_⟩
    · rw [mo_lp_inlS e1]
      exact e2
    · rw [show i + (k + 1) = i + 1 + k by omega]
      exact g4 t
theorem mo_gw_eq {q N c V : Nat} {al : Nat → Bool} {s : Nat → Nat → Int64} (hV2 : V < 2 ^ 63) (e : s q c = lN V) : (∀ x, x ≠ q → mo_gw q N al c s x = s x) ∧ ∀ t, mo_gw q N al c s q t = (if t = c then 0 else s q t) + lN (mo_sm (mo_ga al c V t) N) := by
  have hb : ∀ t, mo_up s q c 0 q t = (if t = c then 0 else s q t) := fun t => by
    by_cases h : t = c
    · rw [h, mo_upA, if_pos rfl]
    · rw [mo_upK _ _ _ h, if_neg h]
  rcases Nat.eq_zero_or_pos V with h0 | h0
  · have h1 : mo_gw q N al c s = mo_up s q c 0 := by
      unfold mo_gw
      rw [e, h0]
      cases N with
      | zero => rfl
      | succ k =>
        rw [mo_lp_inrS (show mo_gb q c (lN 0) al 0 (mo_up s q c 0) = .inr (mo_up s q c 0) from if_pos (by decide))]
        rfl
    rw [h1]
    refine ⟨fun x hx => mo_upR hx, fun t => ?_⟩
    rw [hb t, mo_sm_zero (fun k _ => by unfold mo_ga; rw [h0]; exact ite_self 0)]
    exact (Int64.add_zero _).symm
  · obtain ⟨s', e1, g1, g2⟩ := mo_gb_run (q := q) (c := c) (al := al) h0 hV2 (H := mo_up s q c 0) N 0 (mo_up s q c 0) (fun x _ => rfl) (fun t => (Int64.add_zero _).symm)
    have h1 : mo_gw q N al c s = s' := by
      unfold mo_gw
      rw [e, e1]
      rfl
    rw [h1]
    refine ⟨fun x hx => by rw [g1 x hx]; exact mo_upR hx, fun t => ?_⟩
    rw [g2 t, hb t, Nat.zero_add]
theorem mo_gd_eq {q N : Nat} {al : Nat → Bool} {s0 : Nat → Nat → Int64} {old : Nat → Nat} {f : Nat → (Nat → Nat → Int64) → Nat → Nat → Int64} (hf : ∀ j s, j < 2 ^ N → f j s = mo_gw q N al (2 ^ N - j - 1) s) (ho : ∀ t, t < 2 ^ N → s0 q t = lN (old t)) (hb : ∀ t, old t < 2 ^ 63) : (∀ x, x ≠ q → mo_it f (2 ^ N) 0 s0 x = s0 x) ∧ ∀ t, t < 2 ^ N → mo_it f (2 ^ N) 0 s0 q t = lN (mo_sm (fun n => if (t.testBit n && al n) = true then old (t ^^^ 2 ^ n) else 0) N) := by
  have key := mo_it_inv (f := f) (fun j s => j ≤ 2 ^ N ∧ (∀ x, x ≠ q → s x = s0 x) ∧ ∀ t, t < 2 ^ N → s q t = lN (if 2 ^ N - j ≤ t then mo_sm (fun n => if (t.testBit n && al n && decide (2 ^ N - j ≤ t ^^^ 2 ^ n)) = true then old (t ^^^ 2 ^ n) else 0) N else old t)) (k := 2 ^ N) (i := 0) (s := s0) ⟨Nat.zero_le _, fun _ _ => rfl, fun t ht => by rw [if_neg (by omega)]; exact ho t ht⟩ (fun j s _ hj hP => by
    obtain ⟨_, hP1, hP2⟩ := hP
    have hj' : j < 2 ^ N := by omega
    have hc : 2 ^ N - j - 1 < 2 ^ N := by omega
    have ev : s q (2 ^ N - j - 1) = lN (old (2 ^ N - j - 1)) := by rw [hP2 _ hc, if_neg (by omega)]
    obtain ⟨g1, g2⟩ := mo_gw_eq (N := N) (al := al) (hb (2 ^ N - j - 1)) ev
    rw [hf j s hj']
    refine ⟨by omega, fun x hx => by rw [g1 x hx]; exact hP1 x hx, fun t ht => ?_⟩
    rw [g2 t]
    rcases Nat.lt_trichotomy t (2 ^ N - j - 1) with c | c | c
    · rw [if_neg (by omega), hP2 t ht, if_neg (by omega), if_neg (by omega), mo_sm_zero (g := mo_ga al (2 ^ N - j - 1) (old (2 ^ N - j - 1)) t) (fun k _ => if_neg (by
        intro z
        simp only [Bool.and_eq_true, decide_eq_true_eq] at z
        have := Nat.left_le_or (n := 2 ^ N - j - 1) (m := 2 ^ k)
        omega))]
      exact Int64.add_zero _
    · rw [if_pos c, if_pos (by omega), mo_sm_zero (g := mo_ga al (2 ^ N - j - 1) (old (2 ^ N - j - 1)) t) (fun k _ => if_neg (by
        intro z
        simp only [Bool.and_eq_true, decide_eq_true_eq, Bool.not_eq_true'] at z
        have := mo_or_gt z.1.1
        omega)), mo_sm_zero (fun k _ => if_neg (by
        intro z
        simp only [Bool.and_eq_true, decide_eq_true_eq] at z
        have := mo_xor_lt z.1.1
        omega))]
      rfl
    · rw [if_neg (by omega), hP2 t ht, if_pos (by omega), if_pos (by omega), lN_add]
      refine congrArg lN (Eq.symm (mo_sm_add (fun k _ => ?_)))
      unfold mo_ga
      by_cases h1 : t.testBit k = true
      · by_cases h2 : al k = true
        · by_cases h3 : t ^^^ 2 ^ k = 2 ^ N - j - 1
          · have h4 := mo_or_xor.mpr ⟨h1, h3⟩
            rw [if_pos (by rw [h1, h2, decide_eq_true (by omega)]; rfl), if_neg (by rw [decide_eq_false (by omega), Bool.and_false]; decide), if_pos (by rw [h4.1, h2, decide_eq_true h4.2]; rfl), h3, Nat.zero_add]
          · have h4 : ¬ (!(2 ^ N - j - 1).testBit k && al k && decide (t = 2 ^ N - j - 1 ||| 2 ^ k)) = true := by
              intro z
              simp only [Bool.and_eq_true, decide_eq_true_eq, Bool.not_eq_true'] at z
              exact h3 (mo_or_xor.mp ⟨z.1.1, z.2⟩).2
            rw [if_neg h4]
            by_cases h5 : 2 ^ N - j ≤ t ^^^ 2 ^ k
            · rw [if_pos (by rw [h1, h2, decide_eq_true (by omega)]; rfl), if_pos (by rw [h1, h2, decide_eq_true h5]; rfl)]
              try rfl
            · rw [if_neg (by rw [decide_eq_false (show ¬ 2 ^ N - (j + 1) ≤ t ^^^ 2 ^ k by omega), Bool.and_false]; decide), if_neg (by rw [decide_eq_false h5, Bool.and_false]; decide)]
              try rfl
        · have h2' : al k = false := by cases e : al k <;> simp_all
          rw [h2', Bool.and_false, Bool.false_and, Bool.false_and, Bool.and_false, Bool.false_and]
          rfl
      · have h1' : t.testBit k = false := by cases e : t.testBit k <;> simp_all
        have h4 : ¬ (!(2 ^ N - j - 1).testBit k && al k && decide (t = 2 ^ N - j - 1 ||| 2 ^ k)) = true := by
          intro z
          simp only [Bool.and_eq_true, decide_eq_true_eq, Bool.not_eq_true'] at z
          exact h1 (mo_or_xor.mp ⟨z.1.1, z.2⟩).1
        rw [h1', if_neg h4, Bool.false_and, Bool.false_and, Bool.false_and]
        rfl)
  refine ⟨key.2.1, fun t ht => ?_⟩
  have := key.2.2 t ht
  rw [this, if_pos (by omega)]
  refine congrArg lN (mo_sm_congr (fun k _ => ?_))
  rw [decide_eq_true (show 2 ^ N - (0 + 2 ^ N) ≤ t ^^^ 2 ^ k by omega), Bool.and_true]
