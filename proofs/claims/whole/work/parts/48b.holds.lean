/-! Holds, told as numbers. -/
/-- what the i-th may have, one man perhaps one place alone -/
def mo_hm (p : Int32) (y : Nat) (cs : List Nat) (i : Nat) : Nat := if nI i = p then cs.getD i 0 &&& 2 ^ y else cs.getD i 0
def mo_hal (p : Int32) (y : Nat) (cs : List Nat) (i k : Nat) : Bool := (mo_hm p y cs i).testBit k
/-- ways in which all places are held -/
def tHo (n : Nat) (cs : List Nat) (p : Int32) (y : Nat) : Nat := mo_wy n (mo_hal p y cs) n (2 ^ n - 1)
theorem tHo_lt {n : Nat} (h : n ≤ 8) (cs : List Nat) (p : Int32) (y : Nat) : tHo n cs p y < 2147483648 := by
  have h1 := mo_wy_le n (mo_hal p y cs) n (2 ^ n - 1)
  have h2 : n ^ n ≤ 8 ^ n := Nat.pow_le_pow_left h n
  have h3 : 8 ^ n ≤ 8 ^ 8 := Nat.pow_le_pow_right (by decide) h
  have h4 : 8 ^ 8 < 2147483648 := by decide
  unfold tHo
  omega
theorem mo_hold85 {R : Nat → Nat → Nat} {a y n : Nat} {cs : List Nat} {i j : Nat} {s : Nat → Nat → Int64} : b_Model_holdsBy_85 R a y n cs i j s = mo_gw (R a 32) n (fun k => (cs.getD i 0 &&& 2 ^ y).testBit k) (2 ^ n - j - 1) s := by
  unfold b_Model_holdsBy_85 w_Model_holdsBy_110 mo_gw
  rw [mo_lp_congr (g := mo_gb (R a 32) (2 ^ n - j - 1) (s (R a 32) (2 ^ n - j - 1)) (fun k => (cs.getD i 0 &&& 2 ^ y).testBit k))]
  intro k _ _ t
  unfold b_Model_holdsBy_110 mo_gb
  by_cases c1 : lg_cmp (s (R a 32) (2 ^ n - j - 1)) 0 ≤ 0
  · rw [if_pos c1, if_pos c1]
  · rw [if_neg c1, if_neg c1]
    by_cases c2 : (2 ^ n - j - 1).testBit k = true
    · rw [if_pos c2, if_pos c2]; exact ite_self _
    · rw [if_neg c2, if_neg c2]
theorem mo_hold85x {R : Nat → Nat → Nat} {a n : Nat} {cs : List Nat} {i j : Nat} {s : Nat → Nat → Int64} : b_Model_holdsBy_85x R a n cs i j s = mo_gw (R a 32) n (fun k => (cs.getD i 0).testBit k) (2 ^ n - j - 1) s := by
  unfold b_Model_holdsBy_85x w_Model_holdsBy_110x mo_gw
  rw [mo_lp_congr (g := mo_gb (R a 32) (2 ^ n - j - 1) (s (R a 32) (2 ^ n - j - 1)) (fun k => (cs.getD i 0).testBit k))]
  intro k _ _ t
  unfold b_Model_holdsBy_110x mo_gb
  by_cases c1 : lg_cmp (s (R a 32) (2 ^ n - j - 1)) 0 ≤ 0
  · rw [if_pos c1, if_pos c1]
  · rw [if_neg c1, if_neg c1]
    by_cases c2 : (2 ^ n - j - 1).testBit k = true
    · rw [if_pos c2, if_pos c2]; exact ite_self _
    · rw [if_neg c2, if_neg c2]
theorem mo_hold42 {R : Nat → Nat → Nat} {L : Nat → Nat → Int64} {a : Nat} {p : Int32} {y n : Nat} {cs : List Nat} (hn : n ≤ 8) : (∀ x, x ≠ R a 32 → w_Model_holdsBy_42 R L a p y n cs x = L x) ∧ ∀ t, t < 2 ^ n → w_Model_holdsBy_42 R L a p y n cs (R a 32) t = lN (mo_wy n (mo_hal p y cs) n t) := by
  have e10 : w_Model_holdsBy_10 R L a n = mo_fi L (R a 32) 0 (2 ^ n) (fun k => lN (if k = 0 then 1 else 0)) := by
    unfold w_Model_holdsBy_10
    refine mo_it_fill (fun k s _ _ => ?_)
    unfold b_Model_holdsBy_10
    rw [Nat.zero_add]
    by_cases c : k = 0
    · rw [if_pos c, if_pos c]; rfl
    · rw [if_neg c, if_neg c]; rfl
  have key := mo_it_inv (f := b_Model_holdsBy_42 R a p y n cs) (fun i s => i ≤ n ∧ (∀ x, x ≠ R a 32 → s x = L x) ∧ ∀ t, t < 2 ^ n → s (R a 32) t = lN (mo_wy n (mo_hal p y cs) i t)) (k := n) (i := 0) (s := w_Model_holdsBy_10 R L a n) ⟨Nat.zero_le _, fun x hx => by rw [e10]; exact mo_fiR hx, fun t ht => by rw [e10]; exact mo_fiZ ht⟩ (fun i s _ hi hP => by
    obtain ⟨_, hP1, hP2⟩ := hP
    unfold b_Model_holdsBy_42
    by_cases c : nI i = p
    · rw [if_pos c]
      have hg := mo_gd_eq (q := R a 32) (N := n) (al := fun k => (cs.getD i 0 &&& 2 ^ y).testBit k) (s0 := s) (old := mo_wy n (mo_hal p y cs) i) (f := b_Model_holdsBy_85 R a y n cs i) (fun j s' _ => mo_hold85) hP2 (fun t => mo_wy_lt (by omega) _ (by omega) t)
      refine ⟨by omega, fun x hx => (hg.1 x hx).trans (hP1 x hx), fun t ht => (hg.2 t ht).trans ?_⟩
      have e : ∀ k, mo_hal p y cs i k = (cs.getD i 0 &&& 2 ^ y).testBit k := fun k => by unfold mo_hal mo_hm; rw [if_pos c]
      show _ = lN (mo_sm (fun k => if (t.testBit k && mo_hal p y cs i k) = true then mo_wy n (mo_hal p y cs) i (t ^^^ 2 ^ k) else 0) n)
      simp only [e]
    · rw [if_neg c]
      have hg := mo_gd_eq (q := R a 32) (N := n) (al := fun k => (cs.getD i 0).testBit k) (s0 := s) (old := mo_wy n (mo_hal p y cs) i) (f := b_Model_holdsBy_85x R a n cs i) (fun j s' _ => mo_hold85x) hP2 (fun t => mo_wy_lt (by omega) _ (by omega) t)
      refine ⟨by omega, fun x hx => (hg.1 x hx).trans (hP1 x hx), fun t ht => (hg.2 t ht).trans ?_⟩
      have e : ∀ k, mo_hal p y cs i k = (cs.getD i 0).testBit k := fun k => by unfold mo_hal mo_hm; rw [if_neg c]
      show _ = lN (mo_sm (fun k => if (t.testBit k && mo_hal p y cs i k) = true then mo_wy n (mo_hal p y cs) i (t ^^^ 2 ^ k) else 0) n)
      simp only [e])
  rw [Nat.zero_add] at key
  exact ⟨key.2.1, key.2.2⟩
def tHH (R : Nat → Nat → Nat) (L : Nat → Nat → Int64) (a : Nat) (p : Int32) (y n : Nat) (cs : List Nat) : Nat → Nat → Int64 := w_Model_holdsBy_42 R L a p y n cs
theorem C_holdsBy (l : Launch) (K : mo_K) (R : Nat → Nat → Nat) (I : Nat → Nat → Int32) (L : Nat → Nat → Int64) (a : Nat) (p : Int32) (y n : Nat) (cs : List Nat) (h : mo_md K R a) (hy : y < 8) (hn : I a 37 = nI n) (hn8 : n ≤ 8) (hc : ∀ k, k < n → I (R a 36) k = nI (cs.getD k 0) ∧ cs.getD k 0 < 256) : mo_D l mm_Model_holdsBy 1 [.ref a, .int p, .int (nI y)] (K, R, I, L, 0) (some (.int (nI (tHo n cs p y)))) (K, R, I, tHH R L a p y n cs, 0) := by
  refine mo_D_eq (C_Model_holdsBy l K R I L a p y n cs h hy hn hn8 hc) ?_ rfl
  unfold o_Model_holdsBy
  have hp := Nat.two_pow_pos n
  show some (Value.int ((w_Model_holdsBy_42 R L a p y n cs) (R a 32) ((2 ^ n) - 1)).toInt32) = _
  rw [(mo_hold42 hn8).2 _ (by omega), lN_i]
  rfl
theorem mo_lp_ff {f : Nat → Unit → Unit ⊕ Int32} {c : Nat → Bool} {N : Nat} (h : ∀ j u, j < N → f j u = if c j = true then .inr (nI j) else .inl ()) : Sum.elim (fun _ => -1) (fun r => r) (mo_lp f N 0 ()) = mo_oi (mo_ff c N) := by
  cases e : mo_ff c N with
  | none =>
    have hh : ∀ k i, i + k = N → mo_lp f k i () = .inl () := by
      intro k
      induction k with
      | zero => intro i _; rfl
      | succ k ih =>
        intro i hi
        have hc : ¬ c i = true := by
          unfold mo_ff at e
          exact List.find?_eq_none.mp e i (List.mem_range.mpr (by omega))
        rw [mo_lp_inlS (show f i () = .inl () by rw [h i () (by omega), if_neg hc])]
        exact ih (i + 1) (by omega)
    rw [hh N 0 (Nat.zero_add _)]
    rfl
  | some j =>
    have hj := mo_ff_lt e
    have hh : ∀ k i, i + k = N → i ≤ j → mo_lp f k i () = .inr (nI j) := by
      intro k
      induction k with
      | zero => intro i h1 h2; have := hj.1; omega
      | succ k ih =>
        intro i hi h2
        by_cases c1 : i = j
        · exact mo_lp_inrS (by rw [h i () (by omega), c1, if_pos hj.2.1])
        · have hc : ¬ c i = true := by
            have := hj.2.2 i (by omega)
            simpa using this
          rw [mo_lp_inlS (show f i () = .inl () by rw [h i () (by omega), if_neg hc])]
          exact ih (i + 1) (by omega) (by omega)
    rw [hh N 0 (Nat.zero_add _) (Nat.zero_le _)]
    rfl
