/-! The reference: all holds are gone through. -/
def oA (R : Nat → Nat → Nat) (a z n : Nat) (cs : Nat → Nat) : Nat → Nat → Nat → (Nat → Nat → Int32) → (Nat → Nat → Int32)
  | 0, _, _, I => o_leaf R I a z n cs (fun k => (I (R a 39) k).toNatClampNeg) (fun k => (I (R a 40) k).toNatClampNeg)
  | m + 1, i, u, I => o_node R I a i u n cs (oA R a z n cs m (i + 1))
/-- the holders that have been laid so far -/
def oI (R : Nat → Nat → Nat) (a n : Nat) (cs : Nat → Nat) (i u : Nat) (I : Nat → Nat → Int32) : Prop := I a 37 = nI n ∧ (∀ k, k < n → I (R a 36) k = nI (cs k)) ∧ u < 2 ^ n ∧ ∃ f : Nat → Nat, (∀ k, k < i → I (R a 39) k = nI (f k) ∧ f k < n ∧ (cs k).testBit (f k) = true ∧ u.testBit (f k) = true ∧ I (R a 40) (f k) = nI k) ∧ ∀ j, j < n → u.testBit j = true → ∃ k, k < i ∧ f k = j
theorem md_ne {K : mo_K} {R : Nat → Nat → Nat} {a : Nat} (h : mo_md K R a) : R a 39 ≠ R a 38 ∧ R a 40 ≠ R a 38 ∧ R a 40 ≠ R a 39 ∧ R a 36 ≠ R a 38 ∧ R a 36 ≠ R a 39 ∧ R a 36 ≠ R a 40 :=
  ⟨h.2.2 (39, 100, 8) (by decide) (38, 103, 256) (by decide) (by decide), h.2.2 (40, 100, 8) (by decide) (38, 103, 256) (by decide) (by decide), h.2.2 (40, 100, 8) (by decide) (39, 100, 8) (by decide) (by decide), h.2.2 (36, 100, 8) (by decide) (38, 103, 256) (by decide) (by decide), h.2.2 (36, 100, 8) (by decide) (39, 100, 8) (by decide) (by decide), h.2.2 (36, 100, 8) (by decide) (40, 100, 8) (by decide) (by decide)⟩
theorem md_na {K : mo_K} {R : Nat → Nat → Nat} {a : Nat} (h : mo_md K R a) : a ≠ R a 38 ∧ a ≠ R a 39 ∧ a ≠ R a 40 :=
  ⟨mo_nekd h.1 (mo_mk38 h) (by decide), mo_nekd h.1 (mo_mk39 h) (by decide), mo_nekd h.1 (mo_mk40 h) (by decide)⟩
theorem leaf_q {R : Nat → Nat → Nat} {I : Nat → Nat → Int32} {a z n : Nat} {cs hs rs : Nat → Nat} {q : Nat} (hq : q ≠ R a 38) : o_leaf R I a z n cs hs rs q = I q := by
  unfold o_leaf w_leaf_11
  refine mo_it_inv (f := b_leaf_11 R a z n cs hs rs) (fun _ s => s q = I q) rfl (fun j s _ _ hs => ?_)
  show b_leaf_11 R a z n cs _ rs j s q = I q
  unfold b_leaf_11
  by_cases c : (s (R a 38) j) = 0
  · rw [if_pos c, mo_upR hq]; exact hs
  · rw [if_neg c]; exact hs
theorem oA_keep {K : mo_K} {R : Nat → Nat → Nat} {a z n : Nat} {cs : Nat → Nat} (h : mo_md K R a) : ∀ m i u I, (∀ q, q ≠ R a 38 → q ≠ R a 39 → q ≠ R a 40 → oA R a z n cs m i u I q = I q) ∧ (∀ k, k < i → oA R a z n cs m i u I (R a 39) k = I (R a 39) k) ∧ ∀ j, u.testBit j = true → oA R a z n cs m i u I (R a 40) j = I (R a 40) j := by
  intro m
  induction m with
  | zero =>
    intro i u I
    refine ⟨fun q h1 _ _ => leaf_q h1, fun k _ => ?_, fun j _ => ?_⟩
    · show o_leaf R I a z n cs _ _ (R a 39) k = _
      rw [leaf_q (md_ne h).1]
    · show o_leaf R I a z n cs _ _ (R a 40) j = _
      rw [leaf_q (md_ne h).2.1]
  | succ m ih =>
    intro i u I
    show (∀ q, q ≠ R a 38 → q ≠ R a 39 → q ≠ R a 40 → o_node R I a i u n cs (oA R a z n cs m (i + 1)) q = I q) ∧ (∀ k, k < i → o_node R I a i u n cs (oA R a z n cs m (i + 1)) (R a 39) k = I (R a 39) k) ∧ ∀ j, u.testBit j = true → o_node R I a i u n cs (oA R a z n cs m (i + 1)) (R a 40) j = I (R a 40) j
    unfold o_node w_node_56
    refine mo_it_inv (f := b_node_56 R a i u cs (oA R a z n cs m (i + 1))) (fun _ s => (∀ q, q ≠ R a 38 → q ≠ R a 39 → q ≠ R a 40 → s q = I q) ∧ (∀ k, k < i → s (R a 39) k = I (R a 39) k) ∧ ∀ j, u.testBit j = true → s (R a 40) j = I (R a 40) j) ⟨fun _ _ _ _ => rfl, fun _ _ => rfl, fun _ _ => rfl⟩ (fun j s _ _ hs => ?_)
    unfold b_node_56
    by_cases c1 : Nat.testBit u j = true
    · rw [if_pos c1]; exact hs
    · rw [if_neg c1]
      by_cases c2 : Nat.testBit (cs i) j = true
      · rw [if_pos c2]
        obtain ⟨g1, g2, g3⟩ := ih (i + 1) (u ||| (2 ^ j)) (mo_up (mo_up s (R a 39) i (nI j)) (R a 40) j (nI i))
        refine ⟨fun q q1 q2 q3 => ?_, fun k hk => ?_, fun j2 hj2 => ?_⟩
        · rw [g1 q q1 q2 q3, mo_upR q3, mo_upR q2]
          exact hs.1 q q1 q2 q3
        · rw [g2 k (by omega), mo_upR (md_ne h).2.2.1.symm]
          unfold mo_up
          rw [if_neg (by omega)]
          exact hs.2.1 k hk
        · rw [g3 j2 (by rw [Nat.testBit_or, hj2, Bool.true_or])]
          show mo_up (mo_up s (R a 39) i (nI j)) (R a 40) j (nI i) (R a 40) j2 = _
          have hne : j2 ≠ j := fun e => c1 (by rw [← e]; exact hj2)
          have e1 : mo_up (mo_up s (R a 39) i (nI j)) (R a 40) j (nI i) (R a 40) j2 = mo_up s (R a 39) i (nI j) (R a 40) j2 := if_neg (fun z => hne z.2)
          rw [e1, mo_upR (md_ne h).2.2.1]
          exact hs.2.2 j2 hj2
      · rw [if_neg c2]; exact hs
theorem oI_keep {K : mo_K} {R : Nat → Nat → Nat} {a n : Nat} {cs : Nat → Nat} {i u : Nat} {I I2 : Nat → Nat → Int32} (h : mo_md K R a) (hi : oI R a n cs i u I) (h1 : ∀ q, q ≠ R a 38 → q ≠ R a 39 → q ≠ R a 40 → I2 q = I q) (h2 : ∀ k, k < i → I2 (R a 39) k = I (R a 39) k) (h3 : ∀ j, u.testBit j = true → I2 (R a 40) j = I (R a 40) j) : oI R a n cs i u I2 := by
  obtain ⟨e1, e2, e3, f, e4, e5⟩ := hi
  have ha := md_na h
  have hn := md_ne h
  refine ⟨by rw [h1 a ha.1 ha.2.1 ha.2.2]; exact e1, fun k hk => by rw [h1 _ hn.2.2.2.1 hn.2.2.2.2.1 hn.2.2.2.2.2]; exact e2 k hk, e3, f, fun k hk => ?_, e5⟩
  obtain ⟨g1, g2, g3, g4, g5⟩ := e4 k hk
  exact ⟨by rw [h2 k hk]; exact g1, g2, g3, g4, by rw [h3 _ g4]; exact g5⟩
theorem oI_up {K : mo_K} {R : Nat → Nat → Nat} {a n : Nat} {cs : Nat → Nat} {i u j : Nat} {I : Nat → Nat → Int32} (h : mo_md K R a) (hi : oI R a n cs i u I) (hj : j < n) (c1 : ¬ Nat.testBit u j = true) (c2 : Nat.testBit (cs i) j = true) : oI R a n cs (i + 1) (u ||| (2 ^ j)) (mo_up (mo_up I (R a 39) i (nI j)) (R a 40) j (nI i)) := by
  obtain ⟨e1, e2, e3, f, e4, e5⟩ := hi
  have ha := md_na h
  have hn := md_ne h
  refine ⟨by rw [mo_upR ha.2.2, mo_upR ha.2.1]; exact e1, fun k hk => by rw [mo_upR hn.2.2.2.2.2, mo_upR hn.2.2.2.2.1]; exact e2 k hk, Nat.or_lt_two_pow e3 (Nat.pow_lt_pow_right (by decide) hj), fun k => if k = i then j else f k, fun k hk => ?_, fun j2 hj2 hb => ?_⟩
  · show mo_up (mo_up I (R a 39) i (nI j)) (R a 40) j (nI i) (R a 39) k = nI (if k = i then j else f k) ∧ (if k = i then j else f k) < n ∧ (cs k).testBit (if k = i then j else f k) = true ∧ (u ||| (2 ^ j)).testBit (if k = i then j else f k) = true ∧ mo_up (mo_up I (R a 39) i (nI j)) (R a 40) j (nI i) (R a 40) (if k = i then j else f k) = nI k
    rw [mo_upR hn.2.2.1.symm]
    by_cases c : k = i
    · rw [if_pos c, c, mo_up_at, mo_up_at]
      exact ⟨rfl, hj, c2, by rw [Nat.testBit_or, Nat.testBit_two_pow, decide_eq_true rfl, Bool.or_true], rfl⟩
    · rw [if_neg c]
      obtain ⟨g1, g2, g3, g4, g5⟩ := e4 k (by omega)
      have hne : f k ≠ j := fun e => c1 (by rw [← e]; exact g4)
      have x1 : mo_up I (R a 39) i (nI j) (R a 39) k = I (R a 39) k := if_neg (fun z => c z.2)
      have x2 : mo_up (mo_up I (R a 39) i (nI j)) (R a 40) j (nI i) (R a 40) (f k) = mo_up I (R a 39) i (nI j) (R a 40) (f k) := if_neg (fun z => hne z.2)
      rw [x1, x2, mo_upR hn.2.2.1]
      exact ⟨g1, g2, g3, by rw [Nat.testBit_or, g4, Bool.true_or], g5⟩
  · rw [Nat.testBit_or, Nat.testBit_two_pow, Bool.or_eq_true] at hb
    show ∃ k, k < i + 1 ∧ (if k = i then j else f k) = j2
    rcases hb with hb | hb
    · obtain ⟨k, hk, e⟩ := e5 j2 hj2 hb
      exact ⟨k, by omega, by rw [if_neg (by omega)]; exact e⟩
    · exact ⟨i, by omega, by rw [if_pos rfl]; exact of_decide_eq_true hb⟩
/-- at the end the rows are a hold and its inverse -/
theorem oI_end {R : Nat → Nat → Nat} {a n : Nat} {cs : Nat → Nat} {u : Nat} {I : Nat → Nat → Int32} (hn8 : n ≤ 8) (hi : oI R a n cs n u I) : (∀ k, k < n → I (R a 39) k = nI (I (R a 39) k).toNatClampNeg ∧ (I (R a 39) k).toNatClampNeg < n) ∧ (∀ k, k < n → I (R a 40) k = nI (I (R a 40) k).toNatClampNeg ∧ (I (R a 40) k).toNatClampNeg < n) ∧ hd n (fun k j => (cs k).testBit j) (fun k => (I (R a 40) k).toNatClampNeg) ∧ ∀ k, k < n → (I (R a 39) k).toNatClampNeg < n ∧ (I (R a 40) (I (R a 39) k).toNatClampNeg).toNatClampNeg = k := by
  obtain ⟨e1, e2, e3, f, e4, e5⟩ := hi
  have hcl : ∀ v, v < n → (nI v).toNatClampNeg = v := fun v hv => nI_clamp (by omega)
  have h39 : ∀ k, k < n → (I (R a 39) k).toNatClampNeg = f k := fun k hk => by rw [(e4 k hk).1, hcl _ (e4 k hk).2.1]
  have hinj : ∀ i j, i < n → j < n → f i = f j → i = j := fun i j h1 h2 e => by
    have g1 := (e4 i h1).2.2.2.2
    rw [e, (e4 j h2).2.2.2.2] at g1
    have g2 := congrArg Int32.toNatClampNeg g1
    rw [hcl j h2, hcl i h1] at g2
    exact g2.symm
  have hsur : ∀ j, j < n → ∃ k, k < n ∧ f k = j := fun j hj => by
    obtain ⟨k, h1, _, h3⟩ := pg_on (D := fun _ => true) (f := f) (fun k hk _ => ⟨(e4 k hk).2.1, rfl⟩) (fun i j hi hj _ _ => hinj i j hi hj) hj rfl
    exact ⟨k, h1, h3⟩
  have h40 : ∀ k, k < n → (I (R a 40) (f k)).toNatClampNeg = k := fun k hk => by rw [(e4 k hk).2.2.2.2, hcl k hk]
  refine ⟨fun k hk => ?_, fun j hj => ?_, ⟨fun j hj => ?_, fun i j h1 h2 e => ?_⟩, fun k hk => ?_⟩
  · rw [h39 k hk]; exact ⟨(e4 k hk).1, (e4 k hk).2.1⟩
  · obtain ⟨k, hk, e⟩ := hsur j hj
    rw [← e, h40 k hk]
    exact ⟨(e4 k hk).2.2.2.2, hk⟩
  · obtain ⟨k, hk, e⟩ := hsur j hj
    show (I (R a 40) j).toNatClampNeg < n ∧ (cs (I (R a 40) j).toNatClampNeg).testBit j = true
    rw [← e, h40 k hk]
    exact ⟨hk, (e4 k hk).2.2.1⟩
  · obtain ⟨k, hk, ek⟩ := hsur i h1
    obtain ⟨k2, hk2, ek2⟩ := hsur j h2
    have e' : (I (R a 40) i).toNatClampNeg = (I (R a 40) j).toNatClampNeg := e
    rw [← ek, ← ek2, h40 k hk, h40 k2 hk2] at e'
    rw [← ek, ← ek2, e']
  · rw [h39 k hk]
    exact ⟨(e4 k hk).2.1, h40 k hk⟩
theorem C_openAll (l : Launch) (K : mo_K) (R : Nat → Nat → Nat) (L : Nat → Nat → Int64) (a z n : Nat) (cs : Nat → Nat) (h : mo_md K R a) (hz : z < n) (hn8 : n ≤ 8) (hcs : ∀ k, k < n → cs k < 2 ^ n) : ∀ m i u I, i + m = n → oI R a n cs i u I → mo_D l mm_Model_openAll (m + 2) [.ref a, .int (nI i), .int (nI u), .int (nI z)] (K, R, I, L, 0) none (K, R, oA R a z n cs m i u I, L, 0) := by
  intro m
  induction m with
  | zero =>
    intro i u I hi hI
    have ei : i = n := by omega
    subst ei
    obtain ⟨g1, g2, _, _⟩ := oI_end hn8 hI
    exact C_leaf l K R I L a z u i cs (fun k => (I (R a 39) k).toNatClampNeg) (fun k => (I (R a 40) k).toNatClampNeg) h hz hI.1 hn8 (fun k hk => ⟨hI.2.1 k hk, hcs k hk⟩) g1 g2
  | succ m ih =>
    intro i u I hi hI
    refine C_node l K R I L a (m + 2) i z u n cs (oA R a z n cs m (i + 1)) (oI R a n cs i u) h (by omega) hz hn8 hI.2.2.1 (hcs i (by omega)) hI (fun I2 hI2 => ⟨hI2.1, hI2.2.1 i (by omega)⟩) (fun I2 j hI2 hj c1 c2 => ?_)
    have hup := oI_up h hI2 hj c1 c2
    refine ⟨ih (i + 1) _ _ (by omega) hup, ?_⟩
    obtain ⟨k1, k2, k3⟩ := oA_keep (z := z) (n := n) (cs := cs) h m (i + 1) (u ||| (2 ^ j)) (mo_up (mo_up I2 (R a 39) i (nI j)) (R a 40) j (nI i))
    refine oI_keep h hI2 (fun q q1 q2 q3 => by rw [k1 q q1 q2 q3, mo_upR q3, mo_upR q2]) (fun k hk => ?_) (fun j2 hj2 => ?_)
    · rw [k2 k (by omega), mo_upR (md_ne h).2.2.1.symm]
      exact if_neg (fun z => by have := z.2; omega)
    · rw [k3 j2 (by rw [Nat.testBit_or, hj2, Bool.true_or])]
      have hne : j2 ≠ j := fun e => c1 (by rw [← e]; exact hj2)
      have e1 : mo_up (mo_up I2 (R a 39) i (nI j)) (R a 40) j (nI i) (R a 40) j2 = mo_up I2 (R a 39) i (nI j) (R a 40) j2 := if_neg (fun z => hne z.2)
      rw [e1, mo_upR (md_ne h).2.2.1]
