/-! The reference: what is open, told. -/
theorem hq_congr {n : Nat} {A : Nat → Nat → Bool} {z x : Nat} {r r2 : Nat → Nat} (h : ∀ j, j < n → r j = r2 j) (hr : hq n A z x r) : hq n A z x r2 := by
  obtain ⟨r', h1, h2, w, h3, h4, h5⟩ := hr
  exact ⟨r', h1, fun j hj hx => by rw [h2 j hj hx, h j hj], w, h3, by rw [← h w h3]; exact h4, h5⟩
theorem leaf_r {R : Nat → Nat → Nat} {I : Nat → Nat → Int32} {a z n : Nat} {cs hs rs : Nat → Nat} {x : Nat} (hx : x < 2 ^ n) (h01 : o_Model_goesRound z x n cs hs rs = 1 ∨ o_Model_goesRound z x n cs hs rs = 0) : ¬ o_leaf R I a z n cs hs rs (R a 38) x = 0 ↔ (¬ I (R a 38) x = 0 ∨ o_Model_goesRound z x n cs hs rs = 1) := by
  have key := mo_it_inv (f := b_leaf_11 R a z n cs hs rs) (fun i s => (i ≤ x → s (R a 38) x = I (R a 38) x) ∧ (x < i → (¬ s (R a 38) x = 0 ↔ (¬ I (R a 38) x = 0 ∨ o_Model_goesRound z x n cs hs rs = 1)))) (k := 2 ^ n) (i := 0) (s := I) ⟨fun _ => rfl, fun e => absurd e (Nat.not_lt_zero x)⟩ (fun j s _ _ h => by
    unfold b_leaf_11
    have off : ∀ v, x ≠ j → mo_up s (R a 38) j v (R a 38) x = s (R a 38) x := fun v hne => if_neg (fun z => hne z.2)
    refine ⟨fun hj => ?_, fun hj => ?_⟩
    · by_cases c : (s (R a 38) j) = 0
      · rw [if_pos c, off _ (by omega)]; exact h.1 (by omega)
      · rw [if_neg c]; exact h.1 (by omega)
    · by_cases e : x = j
      · rw [← e]
        by_cases c : (s (R a 38) x) = 0
        · rw [if_pos c, mo_up_at]
          have hI := h.1 (by omega)
          rw [← hI, c]
          rcases h01 with h1 | h1
          · rw [h1]; exact ⟨fun _ => Or.inr rfl, fun _ => by decide⟩
          · rw [h1]; exact ⟨fun e => absurd rfl e, fun e => by rcases e with e | e; exact absurd rfl e; exact absurd e (by decide)⟩
        · rw [if_neg c]
          have hI := h.1 (by omega)
          rw [hI] at c ⊢
          exact ⟨fun e => Or.inl e, fun _ => c⟩
      · by_cases c : (s (R a 38) j) = 0
        · rw [if_pos c, off _ e]; exact h.2 (by omega)
        · rw [if_neg c]; exact h.2 (by omega))
  rw [Nat.zero_add] at key
  exact key.2 hx
/-- a hold is one in which those laid so far hold what they were given -/
def ext (R : Nat → Nat → Nat) (a n i : Nat) (I : Nat → Nat → Int32) (r : Nat → Nat) : Prop := ∀ k, k < i → ∃ j, j < n ∧ I (R a 39) k = nI j ∧ r j = k
theorem oA_r {K : mo_K} {R : Nat → Nat → Nat} {a z n : Nat} {cs : Nat → Nat} (h : mo_md K R a) (hz : z < n) (hn8 : n ≤ 8) (hcs : ∀ k, k < n → cs k < 2 ^ n) {x : Nat} (hx : x < 2 ^ n) : ∀ m i u I, i + m = n → oI R a n cs i u I → (¬ oA R a z n cs m i u I (R a 38) x = 0 ↔ (¬ I (R a 38) x = 0 ∨ ∃ r, hd n (fun k j => (cs k).testBit j) r ∧ ext R a n i I r ∧ hq n (fun k j => (cs k).testBit j) z x r)) := by
  have inj : ∀ j j2, j < n → j2 < n → nI j = nI j2 → j = j2 := fun j j2 h1 h2 e => (nI_eq (by omega) (by omega)).mp e
  intro m
  induction m with
  | zero =>
    intro i u I hi hI
    have ei : i = n := by omega
    subst ei
    obtain ⟨g1, g2, g3, g4⟩ := oI_end hn8 hI
    have hrr := round_r (x := x) hn8 g3 hcs g4 hz
    have hl := leaf_r (R := R) (I := I) (a := a) (z := z) (cs := cs) (hs := fun k => (I (R a 39) k).toNatClampNeg) (rs := fun k => (I (R a 40) k).toNatClampNeg) hx (by rcases hrr with ⟨_, e⟩ | ⟨_, e⟩; exact Or.inl e; exact Or.inr e)
    refine hl.trans (or_congr Iff.rfl ⟨fun e => ?_, ?_⟩)
    · rcases hrr with ⟨e1, _⟩ | ⟨_, e1⟩
      · exact ⟨_, g3, fun k hk => ⟨(I (R a 39) k).toNatClampNeg, (g1 k hk).2, (g1 k hk).1, (g4 k hk).2⟩, e1⟩
      · rw [e1] at e; exact absurd e (by decide)
    · rintro ⟨r, h1, h2, h3⟩
      rcases hrr with ⟨_, e1⟩ | ⟨e1, _⟩
      · exact e1
      · refine absurd (hq_congr (fun j hj => ?_) h3) e1
        obtain ⟨j', hj', e2, e3⟩ := h2 (r j) (h1.1 j hj).1
        have e4 := h1.2 j' j hj' hj e3
        rw [e4] at e2
        have e5 := (g4 (r j) (h1.1 j hj).1).2
        rw [e2, nI_clamp (by omega)] at e5
        exact e5.symm
  | succ m ih =>
    intro i u I hi hI
    obtain ⟨f, hf1, hf2⟩ := hI.2.2.2
    have key := mo_it_inv (f := b_node_56 R a i u cs (oA R a z n cs m (i + 1))) (fun jj s => oI R a n cs i u s ∧ (∀ k, k < i → s (R a 39) k = I (R a 39) k) ∧ (¬ s (R a 38) x = 0 ↔ (¬ I (R a 38) x = 0 ∨ ∃ r, (hd n (fun k j => (cs k).testBit j) r ∧ ext R a n i I r ∧ hq n (fun k j => (cs k).testBit j) z x r) ∧ ∃ j, j < jj ∧ r j = i))) (k := n) (i := 0) (s := I) ⟨hI, fun _ _ => rfl, ⟨fun e => Or.inl e, fun e => by
        rcases e with e | ⟨r, _, j, hj, _⟩
        · exact e
        · omega⟩⟩ (fun j s _ hj hs => by
      obtain ⟨s1, s2, s3⟩ := hs
      have same : (∀ r, hd n (fun k j => (cs k).testBit j) r → ext R a n i I r → r j ≠ i) → (¬ s (R a 38) x = 0 ↔ (¬ I (R a 38) x = 0 ∨ ∃ r, (hd n (fun k j => (cs k).testBit j) r ∧ ext R a n i I r ∧ hq n (fun k j => (cs k).testBit j) z x r) ∧ ∃ j2, j2 < j + 1 ∧ r j2 = i)) := fun hno => by
        refine s3.trans (or_congr Iff.rfl ⟨?_, ?_⟩)
        · rintro ⟨r, h1, j2, h2, h3⟩
          exact ⟨r, h1, j2, by omega, h3⟩
        · rintro ⟨r, h1, j2, h2, h3⟩
          by_cases e : j2 = j
          · rw [e] at h3; exact absurd h3 (hno r h1.1 h1.2.1)
          · exact ⟨r, h1, j2, by omega, h3⟩
      unfold b_node_56
      by_cases c1 : Nat.testBit u j = true
      · rw [if_pos c1]
        refine ⟨s1, s2, same (fun r hr he e => ?_)⟩
        obtain ⟨k, hk, ek⟩ := hf2 j (by omega) c1
        obtain ⟨j', hj', e2, e3⟩ := he k hk
        rw [(hf1 k hk).1, ek] at e2
        have := inj j j' (by omega) hj' e2
        rw [← this, e] at e3
        omega
      · rw [if_neg c1]
        by_cases c2 : Nat.testBit (cs i) j = true
        · rw [if_pos c2]
          have hup := oI_up h s1 (show j < n by omega) c1 c2
          obtain ⟨k1, k2, k3⟩ := oA_keep (z := z) (n := n) (cs := cs) h m (i + 1) (u ||| (2 ^ j)) (mo_up (mo_up s (R a 39) i (nI j)) (R a 40) j (nI i))
          have r39 : ∀ k, k < i → (mo_up (mo_up s (R a 39) i (nI j)) (R a 40) j (nI i)) (R a 39) k = s (R a 39) k := fun k hk => by
            rw [mo_upR (md_ne h).2.2.1.symm]
            exact if_neg (fun z => by have := z.2; omega)
          refine ⟨?_, fun k hk => by rw [k2 k (by omega), r39 k hk]; exact s2 k hk, ?_⟩
          · refine oI_keep h s1 (fun q q1 q2 q3 => by rw [k1 q q1 q2 q3, mo_upR q3, mo_upR q2]) (fun k hk => by rw [k2 k (by omega), r39 k hk]) (fun j2 hj2 => ?_)
            rw [k3 j2 (by rw [Nat.testBit_or, hj2, Bool.true_or])]
            have hne : j2 ≠ j := fun e => c1 (by rw [← e]; exact hj2)
            have e1 : mo_up (mo_up s (R a 39) i (nI j)) (R a 40) j (nI i) (R a 40) j2 = mo_up s (R a 39) i (nI j) (R a 40) j2 := if_neg (fun z => hne z.2)
            rw [e1, mo_upR (md_ne h).2.2.1]
          · have hih := ih (i + 1) (u ||| (2 ^ j)) (mo_up (mo_up s (R a 39) i (nI j)) (R a 40) j (nI i)) (by omega) hup
            have e38 : (mo_up (mo_up s (R a 39) i (nI j)) (R a 40) j (nI i)) (R a 38) x = s (R a 38) x := by
              rw [mo_upR (md_ne h).2.1.symm, mo_upR (md_ne h).1.symm]
            rw [e38] at hih
            have ext1 : ∀ r, ext R a n (i + 1) (mo_up (mo_up s (R a 39) i (nI j)) (R a 40) j (nI i)) r ↔ (ext R a n i I r ∧ r j = i) := fun r => by
              constructor
              · intro he
                refine ⟨fun k hk => ?_, ?_⟩
                · obtain ⟨j', h1, h2, h3⟩ := he k (by omega)
                  rw [r39 k hk, s2 k hk] at h2
                  exact ⟨j', h1, h2, h3⟩
                · obtain ⟨j', h1, h2, h3⟩ := he i (by omega)
                  rw [mo_upR (md_ne h).2.2.1.symm, mo_up_at] at h2
                  rw [inj j j' (by omega) h1 h2]
                  exact h3
              · rintro ⟨he, hj2⟩ k hk
                by_cases e : k = i
                · refine ⟨j, by omega, ?_, by rw [e]; exact hj2⟩
                  rw [e, mo_upR (md_ne h).2.2.1.symm, mo_up_at]
                · obtain ⟨j', h1, h2, h3⟩ := he k (by omega)
                  exact ⟨j', h1, by rw [r39 k (by omega), s2 k (by omega)]; exact h2, h3⟩
            refine hih.trans ⟨?_, ?_⟩
            · rintro (e | ⟨r, h1, h2, h3⟩)
              · rcases s3.mp e with e | ⟨r, h1, j2, h2, h3⟩
                · exact Or.inl e
                · exact Or.inr ⟨r, h1, j2, by omega, h3⟩
              · obtain ⟨h4, h5⟩ := (ext1 r).mp h2
                exact Or.inr ⟨r, ⟨h1, h4, h3⟩, j, by omega, h5⟩
            · rintro (e | ⟨r, h1, j2, h2, h3⟩)
              · exact Or.inl (s3.mpr (Or.inl e))
              · by_cases e : j2 = j
                · rw [e] at h3
                  exact Or.inr ⟨r, h1.1, (ext1 r).mpr ⟨h1.2.1, h3⟩, h1.2.2⟩
                · exact Or.inl (s3.mpr (Or.inr ⟨r, h1, j2, by omega, h3⟩))
        · rw [if_neg c2]
          refine ⟨s1, s2, same (fun r hr _ e => c2 ?_)⟩
          have := (hr.1 j (by omega)).2
          rw [e] at this
          exact this)
    rw [Nat.zero_add] at key
    refine key.2.2.trans (or_congr Iff.rfl ⟨?_, ?_⟩)
    · rintro ⟨r, h1, _⟩
      exact ⟨r, h1⟩
    · rintro ⟨r, h1⟩
      obtain ⟨j, hj, e⟩ := hd_on h1.1 (show i < n by omega)
      exact ⟨r, h1, j, hj, e⟩
/-- two holds are alike at the asked names and not at the man -/
def amb (n : Nat) (A : Nat → Nat → Bool) (z x : Nat) : Prop := ∃ r, hd n A r ∧ hq n A z x r
theorem oA_all {K : mo_K} {R : Nat → Nat → Nat} {a z n : Nat} {cs : Nat → Nat} (h : mo_md K R a) (hz : z < n) (hn8 : n ≤ 8) (hcs : ∀ k, k < n → cs k < 2 ^ n) {x : Nat} (hx : x < 2 ^ n) {I : Nat → Nat → Int32} (hI : oI R a n cs 0 0 I) (h0 : I (R a 38) x = 0) : ¬ oA R a z n cs n 0 0 I (R a 38) x = 0 ↔ amb n (fun k j => (cs k).testBit j) z x := by
  refine (oA_r h hz hn8 hcs hx n 0 0 I (Nat.zero_add n) hI).trans ⟨?_, ?_⟩
  · rintro (e | ⟨r, h1, _, h2⟩)
    · exact absurd h0 e
    · exact ⟨r, h1, h2⟩
  · rintro ⟨r, h1, h2⟩
    exact Or.inr ⟨r, h1, fun k hk => absurd hk (Nat.not_lt_zero k), h2⟩
