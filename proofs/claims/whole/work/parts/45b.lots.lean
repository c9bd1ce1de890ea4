/-! Lots, told as numbers. -/
theorem mo_lp_congr {S ρ : Type} {f g : Nat → S → S ⊕ ρ} : ∀ {k i : Nat} {s : S}, (∀ j, i ≤ j → j < i + k → ∀ t, f j t = g j t) → mo_lp f k i s = mo_lp g k i s
  | 0, i, s, _ => rfl
  | k + 1, i, s, h => by
    show (match f i s with | .inl s' => mo_lp f k (i + 1) s' | .inr r => .inr r) = (match g i s with | .inl s' => mo_lp g k (i + 1) s' | .inr r => .inr r)
    rw [h i (Nat.le_refl i) (by omega) s]
    cases g i s with
    | inl s' => exact mo_lp_congr (fun j h1 h2 => h j (by omega) (by omega))
    | inr r => rfl
theorem mo_it_sum {f : Nat → Int64 → Int64} {g : Nat → Nat} : ∀ {k : Nat} {s : Nat}, (∀ j t, j < k → f j t = t + lN (g j)) → mo_it f k 0 (lN s) = lN (s + mo_sm g k) := fun {k s} h => by
  have := mo_it_inv (f := f) (fun j t => t = lN (s + mo_sm g j)) (k := k) (i := 0) (s := lN s) rfl (fun j t _ hj ht => by
    rw [h j t (by omega), ht, lN_add, Nat.add_assoc]
    rfl)
  rw [Nat.zero_add] at this
  exact this
/-- the names that the i-th of a row may have by a lot, one man perhaps one name alone -/
def tAl (T : mo_Tn) (rs : List Nat) (p q : Int32) (i n : Nat) : Bool := !decide (tOwn T (rs.getD i 0) = n) && (!decide (nI (rs.getD i 0) = p) || decide (nI n = q))
/-- ways of a lot -/
def tLots (T : mo_Tn) (dd p q : Int32) : Nat := mo_sm (mo_wy (tNames T) (tAl T (tRow T dd (-1)) p q) (tRow T dd (-1)).length) (2 ^ tNames T)
theorem mo_lots90 {R : Nat → Nat → Nat} {a : Nat} {T : mo_Tn} {dd p q : Int32} {i j : Nat} {s : Nat → Nat → Int64} : b_Model_lotsBy_65 R a T dd p q i j s = mo_gw (R a 32) (tNames T) (tAl T (tRow T dd (-1)) p q i) (2 ^ tNames T - j - 1) s := by
  unfold b_Model_lotsBy_65 w_Model_lotsBy_90 mo_gw
  rw [mo_lp_congr (g := mo_gb (R a 32) (2 ^ tNames T - j - 1) (s (R a 32) (2 ^ tNames T - j - 1)) (tAl T (tRow T dd (-1)) p q i))]
  intro n _ _ t
  unfold b_Model_lotsBy_90 mo_gb tAl
  by_cases c1 : lg_cmp (s (R a 32) (2 ^ tNames T - j - 1)) 0 ≤ 0
  · rw [if_pos c1, if_pos c1]
  · rw [if_neg c1, if_neg c1]
    by_cases c2 : (2 ^ tNames T - j - 1).testBit n = true
    · rw [if_pos c2, if_pos c2]
    · rw [if_neg c2, if_neg c2]
      by_cases c3 : tOwn T ((tRow T dd (-1)).getD i 0) = n
      · rw [if_pos c3, if_neg (by rw [decide_eq_true c3]; intro z; cases z)]
      · rw [if_neg c3, decide_eq_false c3]
        by_cases c4 : nI ((tRow T dd (-1)).getD i 0) = p
        · rw [if_pos c4, decide_eq_true c4]
          by_cases c5 : nI n = q
          · rw [if_pos c5, if_pos (by rw [decide_eq_true c5]; rfl)]
          · rw [if_neg c5, if_neg (by rw [decide_eq_false c5]; decide)]
        · rw [if_neg c4, decide_eq_false c4]; exact (if_pos rfl).symm
theorem mo_lots50 {R : Nat → Nat → Nat} {L : Nat → Nat → Int64} {a : Nat} {T : mo_Tn} {dd p q : Int32} (hv : mo_vT T) : (∀ x, x ≠ R a 32 → w_Model_lotsBy_50 R L a T dd p q x = mo_fi L (R a 25) 0 (tNames T) (tW T dd) x) ∧ ∀ t, t < 2 ^ tNames T → w_Model_lotsBy_50 R L a T dd p q (R a 32) t = lN (mo_wy (tNames T) (tAl T (tRow T dd (-1)) p q) (tRow T dd (-1)).length t) := by
  have hb := vT_tMen hv
  have hn := vT_tNames hv
  have hr := tRow_len T dd (-1)
  have e17 : w_Model_lotsBy_17 R L a T dd = mo_fi (mo_fi L (R a 25) 0 (tNames T) (tW T dd)) (R a 32) 0 (2 ^ tNames T) (fun k => lN (if k = 0 then 1 else 0)) := by
    unfold w_Model_lotsBy_17
    refine mo_it_fill (fun k s _ _ => ?_)
    unfold b_Model_lotsBy_17
    rw [Nat.zero_add]
    by_cases c : k = 0
    · rw [if_pos c, if_pos c]; rfl
    · rw [if_neg c, if_neg c]; rfl
  have key := mo_it_inv (f := b_Model_lotsBy_50 R a T dd p q) (fun i s => i ≤ (tRow T dd (-1)).length ∧ (∀ x, x ≠ R a 32 → s x = mo_fi L (R a 25) 0 (tNames T) (tW T dd) x) ∧ ∀ t, t < 2 ^ tNames T → s (R a 32) t = lN (mo_wy (tNames T) (tAl T (tRow T dd (-1)) p q) i t)) (k := (tRow T dd (-1)).length) (i := 0) (s := w_Model_lotsBy_17 R L a T dd) ⟨Nat.zero_le _, fun x hx => by rw [e17]; exact mo_fiR hx, fun t ht => by rw [e17]; exact mo_fiZ ht⟩ (fun i s _ hi hP => by
    obtain ⟨_, hP1, hP2⟩ := hP
    have hg := mo_gd_eq (q := R a 32) (N := tNames T) (al := tAl T (tRow T dd (-1)) p q i) (s0 := s) (old := mo_wy (tNames T) (tAl T (tRow T dd (-1)) p q) i) (f := b_Model_lotsBy_65 R a T dd p q i) (fun j s' _ => mo_lots90) hP2 (fun t => mo_wy_lt hn _ (by omega) t)
    exact ⟨by omega, fun x hx => (hg.1 x hx).trans (hP1 x hx), fun t ht => hg.2 t ht⟩)
  rw [Nat.zero_add] at key
  exact ⟨key.2.1, key.2.2⟩
theorem mo_lots193 {R : Nat → Nat → Nat} {L : Nat → Nat → Int64} {a : Nat} {T : mo_Tn} {dd p q : Int32} (hv : mo_vT T) : w_Model_lotsBy_193 R L a T dd p q = lN (tLots T dd p q) := by
  unfold w_Model_lotsBy_193 tLots
  have := mo_it_sum (f := b_Model_lotsBy_193 R L a T dd p q) (g := mo_wy (tNames T) (tAl T (tRow T dd (-1)) p q) (tRow T dd (-1)).length) (k := 2 ^ tNames T) (s := 0) (fun j t hj => by
    unfold b_Model_lotsBy_193
    rw [(mo_lots50 hv).2 j hj])
  rw [Nat.zero_add] at this
  exact this
def tLH (R : Nat → Nat → Nat) (L : Nat → Nat → Int64) (a : Nat) (T : mo_Tn) (dd p q : Int32) : Nat → Nat → Int64 := w_Model_lotsBy_50 R L a T dd p q
theorem C_lotsBy (l : Launch) (K : mo_K) (R : Nat → Nat → Nat) (I : Nat → Nat → Int32) (L : Nat → Nat → Int64) (a : Nat) (T : mo_Tn) (dd p q : Int32) (h : mo_md K R a) (hN : mo_now (I (R a 14)) T) : mo_D l mm_Model_lotsBy 3 [.ref a, .int dd, .int p, .int q] (K, R, I, L, 0) (some (.long (lN (tLots T dd p q)))) (K, R, mo_l1 I a 29 (R a 26) (tRow T dd (-1)), tLH R L a T dd p q, 0) := by
  rw [← mo_lots193 (R := R) (L := L) (a := a) (now_v hN)]
  exact C_Model_lotsBy l K R I L a T dd p q h hN
theorem tLots_lt {T : mo_Tn} (hv : mo_vT T) (dd p q : Int32) : tLots T dd p q < 2 ^ 42 := by
  have hb := vT_tMen hv
  have hn := vT_tNames hv
  have hr := tRow_len T dd (-1)
  have h1 : tLots T dd p q ≤ 2 ^ tNames T * (12 ^ 8) := mo_sm_le (fun k _ => by
    have h1 := mo_wy_le (tNames T) (tAl T (tRow T dd (-1)) p q) (tRow T dd (-1)).length k
    have h2 : tNames T ^ (tRow T dd (-1)).length ≤ 12 ^ (tRow T dd (-1)).length := Nat.pow_le_pow_left hn _
    have h3 : 12 ^ (tRow T dd (-1)).length ≤ 12 ^ 8 := Nat.pow_le_pow_right (by decide) (by omega)
    omega)
  have h2 := mo_p12' hn
  have h3 : 2 ^ tNames T * (12 ^ 8) ≤ 4096 * 12 ^ 8 := Nat.mul_le_mul_right _ h2
  have h4 : 4096 * 12 ^ 8 < 2 ^ 42 := by decide
  omega
theorem mo_l1U {I : Nat → Nat → Int32} {a f q k : Nat} {v : Int32} {xs : List Nat} (h : q ≠ a) (hk : k ≠ f) : mo_l1 (mo_up I a k v) a f q xs = mo_up (mo_l1 I a f q xs) a k v := by
  unfold mo_l1
  rw [← mo_lwU h.symm]
  funext x y
  by_cases c1 : x = a
  · subst c1
    by_cases c2 : y = f
    · subst c2; rw [mo_upA, mo_upK _ _ _ (fun z => hk z.symm), mo_upA]
    · rw [mo_upK _ _ _ c2]
      by_cases c3 : y = k
      · subst c3; rw [mo_upA, mo_upA]
      · rw [mo_upK _ _ _ c3, mo_upK _ _ _ c3, mo_upK _ _ _ c2]
  · rw [mo_upQ _ _ _ c1, mo_upQ _ _ _ c1, mo_upQ _ _ _ c1, mo_upQ _ _ _ c1]
theorem mo_l1I {I : Nat → Nat → Int32} {a f q : Nat} {xs : List Nat} (h : q ≠ a) : mo_l1 (mo_l1 I a f q xs) a f q xs = mo_l1 I a f q xs := by
  funext x y
  by_cases c1 : x = a
  · subst c1
    by_cases c2 : y = f
    · subst c2; rw [mo_l1C, mo_l1C]
    · rw [mo_l1F h.symm c2]
  · by_cases c2 : x = q
    · subst c2
      by_cases c3 : y < xs.length
      · rw [mo_l1A h c3, mo_l1A h c3]
      · unfold mo_l1 mo_lw
        rw [mo_upQ _ _ _ c1, mo_upQ _ _ _ c1, if_neg (fun z => c3 z.2)]
    · rw [mo_l1Q c2 c1]
theorem mo_lpos {X : Nat} (h : ¬ lg_cmp (lN X) 0 = 0) : 0 < X * 27720 := by
  rcases Nat.eq_zero_or_pos X with z | z
  · rw [z] at h; exact absurd rfl h
  · omega
