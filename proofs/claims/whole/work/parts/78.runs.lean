/-! Runs of the class and of the reference are the same. -/
/-- a word of k letters -/
def tkWb (k : Nat) (v : Int32) (w : Int64) : Prop := ∃ n, v = nI n ∧ w = lN (mo_F27 n) ∧ mo_vw n ∧ n < 32 ^ k
theorem tkWb_Wd {k : Nat} {v : Int32} {w : Int64} (h : tkWb k v w) : tkWd v w := by
  obtain ⟨n, h1, h2, h3, _⟩ := h
  exact ⟨n, h1, h2, h3⟩
theorem mo_toL {n : Nat} (h : n < 2147483648) : Int32.toInt64 (nI n) = lN n := by
  apply Int64.toInt_inj.mp
  rw [Int32.toInt_toInt64, show (lN n).toInt = (n : Int) from Int64.toInt_ofNat_of_lt (by omega)]
  exact Int32.toInt_ofNat_of_lt (by omega)
theorem tkWb_step {k : Nat} {v : Int32} {w : Int64} {c : Nat} (h : tkWb k v w) (hk : k + 1 ≤ 6) (h1 : 97 ≤ c) (h2 : c ≤ 122) : tkWb (k + 1) ((v <<< (5 &&& 31)) ||| nI (c - 96)) (27 * w + Int32.toInt64 (nI c) - 96) := by
  obtain ⟨n, e1, e2, hv, hn⟩ := h
  have hp : (32 : Nat) ^ k ≤ 32 ^ 5 := Nat.pow_le_pow_right (by decide) (by omega)
  have hn5 : n < 33554432 := by have : (32 : Nat) ^ 5 = 33554432 := rfl; omega
  have hF := mo_F_step (x := c - 96) hn5 hv (by omega)
  refine ⟨32 * n + (c - 96), ?_, ?_, hF.2, ?_⟩
  · rw [e1]
    exact mo_shl5 hn5 (by omega)
  · rw [e2, mo_toL (by omega), hF.1]
    rw [show (27 : Int64) = lN 27 from rfl, show (96 : Int64) = lN 96 from rfl]
    have a1 : lN 27 * lN (mo_F27 n) = lN (27 * mo_F27 n) := (Int64.ofNat_mul _ _).symm
    have a2 : lN (27 * mo_F27 n) + lN c = lN (27 * mo_F27 n + c) := (Int64.ofNat_add _ _).symm
    have a3 : lN (27 * mo_F27 n + c) = lN (27 * mo_F27 n + (c - 96)) + lN 96 := by
      rw [show 27 * mo_F27 n + c = (27 * mo_F27 n + (c - 96)) + 96 by omega]
      exact Int64.ofNat_add _ _
    rw [a1, a2, a3, Int64.add_sub_cancel]
  · rw [Nat.pow_succ]
    omega
theorem run_L {a : Nat} {L : Nat → Nat → Int64} {xs : List Nat} {q : Nat} (hq : q ≤ xs.length) (hb : ∀ k, k < xs.length → xs.getD k 0 < 256) : ∀ (k i lt dg : Nat) (v u : Int32) (w : Int64) (good : Int32), i + k = xs.length - q → lt + dg = i → (good = 1 ∧ dg = 0 ∨ good = 0 ∧ 0 < dg) → (dg = 0 → lt ≤ 6 → tkWb lt v w) → (lt = 0 → dg ≤ 2 → u = v) → ∃ (lt' dg' : Nat) (v' u' : Int32) (w' : Int64) (good' : Int32), Sum.elim (fun z => z) (fun z => z) (mo_lp (b_Tape_takeRun_4 xs) k i (lt, dg, q + i, v)) = (lt', dg', q + (lt' + dg'), v') ∧ mo_lp (b_gorun_197 a xs q) (k + 1) i (good, q + i, u, mo_up L a 12 w) = .inr (good', q + (lt' + dg'), u', mo_up L a 12 w') ∧ ((lt ≤ lt' ∧ dg ≤ dg') ∧ (q + i < xs.length → (97 ≤ xs.getD (q + i) 0 ∧ xs.getD (q + i) 0 ≤ 122 → lt < lt') ∧ (48 ≤ xs.getD (q + i) 0 ∧ xs.getD (q + i) 0 ≤ 57 → dg < dg'))) ∧ (good' = 1 ∧ dg' = 0 ∨ good' = 0 ∧ 0 < dg') ∧ (dg' = 0 → lt' ≤ 6 → tkWb lt' v' w') ∧ (lt' = 0 → dg' ≤ 2 → u' = v')
  | 0, i, lt, dg, v, u, w, good, hk, hs, hg, hw, hu => by
    refine ⟨lt, dg, v, u, w, good, ?_, ?_, ⟨⟨Nat.le_refl _, Nat.le_refl _⟩, fun z => absurd z (by omega)⟩, hg, hw, hu⟩
    · rw [hs]; rfl
    · rw [mo_lp_inrS (r := (good, q + i, u, mo_up L a 12 w)) (by unfold b_gorun_197; rw [if_neg (show ¬ q + i < xs.length by omega)]), hs]
  | k + 1, i, lt, dg, v, u, w, good, hk, hs, hg, hw, hu => by
    have hlt : q + i < xs.length := by omega
    have hc := hb (q + i) hlt
    obtain ⟨⟨s1, s2⟩, ⟨s3, s4⟩, ⟨s5, s6⟩, _⟩ := mo_sxc hc
    have hsub : q + i - q = i := by omega
    by_cases cl : 97 ≤ xs.getD (q + i) 0 ∧ xs.getD (q + i) 0 ≤ 122
    · -- a letter
      have e1 : b_Tape_takeRun_4 xs i (lt, dg, q + i, v) = .inl (lt + 1, dg, q + i + 1, (v <<< (5 &&& 31)) ||| (mo_sx (xs.getD (q + i) 0) &&& 31)) := by
        unfold b_Tape_takeRun_4
        rw [if_neg (by rw [s1]; omega), if_neg (by rw [s2]; omega)]
      obtain ⟨u2, w2, g2, e2, hg2, hw2, hu2⟩ : ∃ u2 w2 g2, b_gorun_197 a xs q i (good, q + i, u, mo_up L a 12 w) = .inl (g2, q + i + 1, u2, mo_up L a 12 w2) ∧ (g2 = 1 ∧ dg = 0 ∨ g2 = 0 ∧ 0 < dg) ∧ (dg = 0 → lt + 1 ≤ 6 → tkWb (lt + 1) ((v <<< (5 &&& 31)) ||| (mo_sx (xs.getD (q + i) 0) &&& 31)) w2) ∧ (lt + 1 = 0 → dg ≤ 2 → u2 = (v <<< (5 &&& 31)) ||| (mo_sx (xs.getD (q + i) 0) &&& 31)) := by
        have hstep : dg = 0 → lt + 1 ≤ 6 → tkWb (lt + 1) ((v <<< (5 &&& 31)) ||| (mo_sx (xs.getD (q + i) 0) &&& 31)) (27 * w + Int32.toInt64 (nI (xs.getD (q + i) 0)) - 96) := fun hd h6 => by
          rw [s6 cl]
          exact tkWb_step (hw hd (by omega)) (by omega) cl.1 cl.2
        unfold b_gorun_197
        rw [if_pos hlt, if_pos cl]
        simp only [hsub, mo_upA, mo_upU]
        by_cases c6 : 6 ≤ i
        · by_cases cg : good = 0
          · rw [if_pos cg, if_pos c6]
            by_cases c2 : 2 ≤ i
            · rw [if_pos c2]
              exact ⟨_, w, 0, rfl, by exact hg.elim (fun z => absurd (cg ▸ z.1 : (0 : Int32) = 1) (by decide)) (fun z => Or.inr ⟨rfl, z.2⟩), fun hd h6 => absurd h6 (by omega), fun z => absurd z (by omega)⟩
            · rw [if_neg c2]
              exact ⟨_, w, 0, rfl, by exact hg.elim (fun z => absurd (cg ▸ z.1 : (0 : Int32) = 1) (by decide)) (fun z => Or.inr ⟨rfl, z.2⟩), fun hd h6 => absurd h6 (by omega), fun z => absurd z (by omega)⟩
          · rw [if_neg cg, if_pos c6]
            by_cases c2 : 2 ≤ i
            · rw [if_pos c2]
              exact ⟨_, w, _, rfl, by exact hg.elim (fun z => Or.inl ⟨rfl, z.2⟩) (fun z => absurd z.1 cg), fun hd h6 => absurd h6 (by omega), fun z => absurd z (by omega)⟩
            · rw [if_neg c2]
              exact ⟨_, w, _, rfl, by exact hg.elim (fun z => Or.inl ⟨rfl, z.2⟩) (fun z => absurd z.1 cg), fun hd h6 => absurd h6 (by omega), fun z => absurd z (by omega)⟩
        · by_cases cg : good = 0
          · rw [if_pos cg, if_neg c6]
            by_cases c2 : 2 ≤ i
            · rw [if_pos c2]
              exact ⟨_, _, 0, rfl, by exact hg.elim (fun z => absurd (cg ▸ z.1 : (0 : Int32) = 1) (by decide)) (fun z => Or.inr ⟨rfl, z.2⟩), hstep, fun z => absurd z (by omega)⟩
            · rw [if_neg c2]
              exact ⟨_, _, 0, rfl, by exact hg.elim (fun z => absurd (cg ▸ z.1 : (0 : Int32) = 1) (by decide)) (fun z => Or.inr ⟨rfl, z.2⟩), hstep, fun z => absurd z (by omega)⟩
          · rw [if_neg cg, if_neg c6]
            by_cases c2 : 2 ≤ i
            · rw [if_pos c2]
              exact ⟨_, _, _, rfl, by exact hg.elim (fun z => Or.inl ⟨rfl, z.2⟩) (fun z => absurd z.1 cg), hstep, fun z => absurd z (by omega)⟩
            · rw [if_neg c2]
              exact ⟨_, _, _, rfl, by exact hg.elim (fun z => Or.inl ⟨rfl, z.2⟩) (fun z => absurd z.1 cg), hstep, fun z => absurd z (by omega)⟩
      rw [mo_lp_inlS e1, mo_lp_inlS e2]
      obtain ⟨lt', dg', v', u', w', good', r1, r2, ⟨⟨r3, r3'⟩, _⟩, r4⟩ := run_L (a := a) (L := L) hq hb k (i + 1) (lt + 1) dg _ u2 w2 g2 (by omega) (by omega) hg2 hw2 hu2
      exact ⟨lt', dg', v', u', w', good', r1, r2, ⟨⟨by omega, by omega⟩, fun _ => ⟨fun z => by omega, fun z => by omega⟩⟩, r4⟩
    · by_cases cd : 48 ≤ xs.getD (q + i) 0 ∧ xs.getD (q + i) 0 ≤ 57
      · -- a digit
        have e1 : b_Tape_takeRun_4 xs i (lt, dg, q + i, v) = .inl (lt, dg + 1, q + i + 1, v * 10 + mo_sx (xs.getD (q + i) 0) - 48) := by
          unfold b_Tape_takeRun_4
          rw [if_pos (by rw [s1]; omega), if_neg (by rw [s3]; omega), if_neg (by rw [s4]; omega)]
        obtain ⟨u2, w2, g2, e2, hg2, hw2, hu2⟩ : ∃ u2 w2 g2, b_gorun_197 a xs q i (good, q + i, u, mo_up L a 12 w) = .inl (g2, q + i + 1, u2, mo_up L a 12 w2) ∧ (g2 = 1 ∧ dg + 1 = 0 ∨ g2 = 0 ∧ 0 < dg + 1) ∧ (dg + 1 = 0 → lt ≤ 6 → tkWb lt (v * 10 + mo_sx (xs.getD (q + i) 0) - 48) w2) ∧ (lt = 0 → dg + 1 ≤ 2 → u2 = v * 10 + mo_sx (xs.getD (q + i) 0) - 48) := by
          have hstep : lt = 0 → dg + 1 ≤ 2 → 10 * u + nI (xs.getD (q + i) 0) - 48 = v * 10 + mo_sx (xs.getD (q + i) 0) - 48 := fun hl h2 => by
            rw [hu hl (by omega), s5 (by omega), Int32.mul_comm]
          unfold b_gorun_197
          rw [if_pos hlt, if_neg cl, if_pos cd]
          simp only [hsub, mo_upA, mo_upU]
          by_cases c6 : 6 ≤ i
          · by_cases cg : good = 0
            · rw [if_pos cg, if_pos c6]
              by_cases c2 : 2 ≤ i
              · rw [if_pos c2]
                exact ⟨_, w, 0, rfl, by exact Or.inr ⟨rfl, by omega⟩, fun z => absurd z (by omega), fun hl h2 => absurd h2 (by omega)⟩
              · rw [if_neg c2]
                exact ⟨_, w, 0, rfl, by exact Or.inr ⟨rfl, by omega⟩, fun z => absurd z (by omega), hstep⟩
            · rw [if_neg cg, if_pos c6]
              by_cases c2 : 2 ≤ i
              · rw [if_pos c2]
                exact ⟨_, w, _, rfl, by exact Or.inr ⟨rfl, by omega⟩, fun z => absurd z (by omega), fun hl h2 => absurd h2 (by omega)⟩
              · rw [if_neg c2]
                exact ⟨_, w, _, rfl, by exact Or.inr ⟨rfl, by omega⟩, fun z => absurd z (by omega), hstep⟩
          · by_cases cg : good = 0
            · rw [if_pos cg, if_neg c6]
              by_cases c2 : 2 ≤ i
              · rw [if_pos c2]
                exact ⟨_, _, 0, rfl, by exact Or.inr ⟨rfl, by omega⟩, fun z => absurd z (by omega), fun hl h2 => absurd h2 (by omega)⟩
              · rw [if_neg c2]
                exact ⟨_, _, 0, rfl, by exact Or.inr ⟨rfl, by omega⟩, fun z => absurd z (by omega), hstep⟩
            · rw [if_neg cg, if_neg c6]
              by_cases c2 : 2 ≤ i
              · rw [if_pos c2]
                exact ⟨_, _, _, rfl, by exact Or.inr ⟨rfl, by omega⟩, fun z => absurd z (by omega), fun hl h2 => absurd h2 (by omega)⟩
              · rw [if_neg c2]
                exact ⟨_, _, _, rfl, by exact Or.inr ⟨rfl, by omega⟩, fun z => absurd z (by omega), hstep⟩
        rw [mo_lp_inlS e1, mo_lp_inlS e2]
        obtain ⟨lt', dg', v', u', w', good', r1, r2, ⟨⟨r3, r3'⟩, _⟩, r4⟩ := run_L (a := a) (L := L) hq hb k (i + 1) lt (dg + 1) _ u2 w2 g2 (by omega) (by omega) hg2 hw2 hu2
        exact ⟨lt', dg', v', u', w', good', r1, r2, ⟨⟨by omega, by omega⟩, fun _ => ⟨fun z => by omega, fun z => by omega⟩⟩, r4⟩
      · -- neither
        have e1 : b_Tape_takeRun_4 xs i (lt, dg, q + i, v) = .inr (lt, dg, q + i, v) := by
          unfold b_Tape_takeRun_4
          by_cases c1 : mo_sx (xs.getD (q + i) 0) < 97
          · rw [if_pos c1]
            by_cases c2 : mo_sx (xs.getD (q + i) 0) < 48
            · rw [if_pos c2]
            · rw [if_neg c2, if_pos (by rw [s4]; rw [s1] at c1; rw [s3] at c2; omega)]
          · rw [if_neg c1, if_pos (by rw [s2]; rw [s1] at c1; omega), if_neg (by rw [s3]; rw [s1] at c1; omega), if_pos (by rw [s4]; rw [s1] at c1; omega)]
        have e2 : b_gorun_197 a xs q i (good, q + i, u, mo_up L a 12 w) = .inr (good, q + i, u, mo_up L a 12 w) := by
          unfold b_gorun_197
          rw [if_pos hlt, if_neg cl, if_neg cd]
        rw [mo_lp_inrS e1, mo_lp_inrS e2]
        exact ⟨lt, dg, v, u, w, good, by rw [hs]; rfl, by rw [hs], ⟨⟨Nat.le_refl _, Nat.le_refl _⟩, fun _ => ⟨fun z => absurd z cl, fun z => absurd z cd⟩⟩, hg, hw, hu⟩
theorem run_D {a : Nat} {L : Nat → Nat → Int64} {xs : List Nat} {q : Nat} (hq : q ≤ xs.length) (hb : ∀ k, k < xs.length → xs.getD k 0 < 256) : ∀ (k i lt dg : Nat) (v u : Int32) (w : Int64) (good : Int32), i + k = xs.length - q → lt + dg = i → (good = 1 ∧ lt = 0 ∨ good = 0 ∧ 0 < lt) → (dg = 0 → lt ≤ 6 → tkWb lt v w) → (lt = 0 → dg ≤ 2 → u = v) → ∃ (lt' dg' : Nat) (v' u' : Int32) (w' : Int64) (good' : Int32), Sum.elim (fun z => z) (fun z => z) (mo_lp (b_Tape_takeRun_4 xs) k i (lt, dg, q + i, v)) = (lt', dg', q + (lt' + dg'), v') ∧ mo_lp (b_gorun_197x a xs q) (k + 1) i (good, q + i, u, mo_up L a 12 w) = .inr (good', q + (lt' + dg'), u', mo_up L a 12 w') ∧ ((lt ≤ lt' ∧ dg ≤ dg') ∧ (q + i < xs.length → (97 ≤ xs.getD (q + i) 0 ∧ xs.getD (q + i) 0 ≤ 122 → lt < lt') ∧ (48 ≤ xs.getD (q + i) 0 ∧ xs.getD (q + i) 0 ≤ 57 → dg < dg'))) ∧ (good' = 1 ∧ lt' = 0 ∨ good' = 0 ∧ 0 < lt') ∧ (dg' = 0 → lt' ≤ 6 → tkWb lt' v' w') ∧ (lt' = 0 → dg' ≤ 2 → u' = v')
  | 0, i, lt, dg, v, u, w, good, hk, hs, hg, hw, hu => by
    refine ⟨lt, dg, v, u, w, good, ?_, ?_, ⟨⟨Nat.le_refl _, Nat.le_refl _⟩, fun z => absurd z (by omega)⟩, hg, hw, hu⟩
    · rw [hs]; rfl
    · rw [mo_lp_inrS (r := (good, q + i, u, mo_up L a 12 w)) (by unfold b_gorun_197x; rw [if_neg (show ¬ q + i < xs.length by omega)]), hs]
  | k + 1, i, lt, dg, v, u, w, good, hk, hs, hg, hw, hu => by
    have hlt : q + i < xs.length := by omega
    have hc := hb (q + i) hlt
    obtain ⟨⟨s1, s2⟩, ⟨s3, s4⟩, ⟨s5, s6⟩, _⟩ := mo_sxc hc
    have hsub : q + i - q = i := by omega
    by_cases cl : 97 ≤ xs.getD (q + i) 0 ∧ xs.getD (q + i) 0 ≤ 122
    · -- a letter
      have e1 : b_Tape_takeRun_4 xs i (lt, dg, q + i, v) = .inl (lt + 1, dg, q + i + 1, (v <<< (5 &&& 31)) ||| (mo_sx (xs.getD (q + i) 0) &&& 31)) := by
        unfold b_Tape_takeRun_4
        rw [if_neg (by rw [s1]; omega), if_neg (by rw [s2]; omega)]
      obtain ⟨u2, w2, g2, e2, hg2, hw2, hu2⟩ : ∃ u2 w2 g2, b_gorun_197x a xs q i (good, q + i, u, mo_up L a 12 w) = .inl (g2, q + i + 1, u2, mo_up L a 12 w2) ∧ (g2 = 1 ∧ lt + 1 = 0 ∨ g2 = 0 ∧ 0 < lt + 1) ∧ (dg = 0 → lt + 1 ≤ 6 → tkWb (lt + 1) ((v <<< (5 &&& 31)) ||| (mo_sx (xs.getD (q + i) 0) &&& 31)) w2) ∧ (lt + 1 = 0 → dg ≤ 2 → u2 = (v <<< (5 &&& 31)) ||| (mo_sx (xs.getD (q + i) 0) &&& 31)) := by
        have hstep : dg = 0 → lt + 1 ≤ 6 → tkWb (lt + 1) ((v <<< (5 &&& 31)) ||| (mo_sx (xs.getD (q + i) 0) &&& 31)) (27 * w + Int32.toInt64 (nI (xs.getD (q + i) 0)) - 96) := fun hd h6 => by
          rw [s6 cl]
          exact tkWb_step (hw hd (by omega)) (by omega) cl.1 cl.2
        unfold b_gorun_197x
        rw [if_pos hlt, if_pos cl]
        simp only [hsub, mo_upA, mo_upU]
        by_cases c6 : 6 ≤ i
        · by_cases cg : good = 0
          · rw [if_pos cg, if_pos c6]
            by_cases c2 : 2 ≤ i
            · rw [if_pos c2]
              exact ⟨_, w, 0, rfl, by exact Or.inr ⟨rfl, by omega⟩, fun hd h6 => absurd h6 (by omega), fun z => absurd z (by omega)⟩
            · rw [if_neg c2]
              exact ⟨_, w, 0, rfl, by exact Or.inr ⟨rfl, by omega⟩, fun hd h6 => absurd h6 (by omega), fun z => absurd z (by omega)⟩
          · rw [if_neg cg, if_pos c6]
            by_cases c2 : 2 ≤ i
            · rw [if_pos c2]
              exact ⟨_, w, _, rfl, by exact Or.inr ⟨rfl, by omega⟩, fun hd h6 => absurd h6 (by omega), fun z => absurd z (by omega)⟩
            · rw [if_neg c2]
              exact ⟨_, w, _, rfl, by exact Or.inr ⟨rfl, by omega⟩, fun hd h6 => absurd h6 (by omega), fun z => absurd z (by omega)⟩
        · by_cases cg : good = 0
          · rw [if_pos cg, if_neg c6]
            by_cases c2 : 2 ≤ i
            · rw [if_pos c2]
              exact ⟨_, _, 0, rfl, by exact Or.inr ⟨rfl, by omega⟩, hstep, fun z => absurd z (by omega)⟩
            · rw [if_neg c2]
              exact ⟨_, _, 0, rfl, by exact Or.inr ⟨rfl, by omega⟩, hstep, fun z => absurd z (by omega)⟩
          · rw [if_neg cg, if_neg c6]
            by_cases c2 : 2 ≤ i
            · rw [if_pos c2]
              exact ⟨_, _, _, rfl, by exact Or.inr ⟨rfl, by omega⟩, hstep, fun z => absurd z (by omega)⟩
            · rw [if_neg c2]
              exact ⟨_, _, _, rfl, by exact Or.inr ⟨rfl, by omega⟩, hstep, fun z => absurd z (by omega)⟩
      rw [mo_lp_inlS e1, mo_lp_inlS e2]
      obtain ⟨lt', dg', v', u', w', good', r1, r2, ⟨⟨r3, r3'⟩, _⟩, r4⟩ := run_D (a := a) (L := L) hq hb k (i + 1) (lt + 1) dg _ u2 w2 g2 (by omega) (by omega) hg2 hw2 hu2
      exact ⟨lt', dg', v', u', w', good', r1, r2, ⟨⟨by omega, by omega⟩, fun _ => ⟨fun z => by omega, fun z => by omega⟩⟩, r4⟩
    · by_cases cd : 48 ≤ xs.getD (q + i) 0 ∧ xs.getD (q + i) 0 ≤ 57
      · -- a digit
        have e1 : b_Tape_takeRun_4 xs i (lt, dg, q + i, v) = .inl (lt, dg + 1, q + i + 1, v * 10 + mo_sx (xs.getD (q + i) 0) - 48) := by
          unfold b_Tape_takeRun_4
          rw [if_pos (by rw [s1]; omega), if_neg (by rw [s3]; omega), if_neg (by rw [s4]; omega)]
        obtain ⟨u2, w2, g2, e2, hg2, hw2, hu2⟩ : ∃ u2 w2 g2, b_gorun_197x a xs q i (good, q + i, u, mo_up L a 12 w) = .inl (g2, q + i + 1, u2, mo_up L a 12 w2) ∧ (g2 = 1 ∧ lt = 0 ∨ g2 = 0 ∧ 0 < lt) ∧ (dg + 1 = 0 → lt ≤ 6 → tkWb lt (v * 10 + mo_sx (xs.getD (q + i) 0) - 48) w2) ∧ (lt = 0 → dg + 1 ≤ 2 → u2 = v * 10 + mo_sx (xs.getD (q + i) 0) - 48) := by
          have hstep : lt = 0 → dg + 1 ≤ 2 → 10 * u + nI (xs.getD (q + i) 0) - 48 = v * 10 + mo_sx (xs.getD (q + i) 0) - 48 := fun hl h2 => by
            rw [hu hl (by omega), s5 (by omega), Int32.mul_comm]
          unfold b_gorun_197x
          rw [if_pos hlt, if_neg cl, if_pos cd]
          simp only [hsub, mo_upA, mo_upU]
          by_cases c6 : 6 ≤ i
          · by_cases cg : good = 0
            · rw [if_pos cg, if_pos c6]
              by_cases c2 : 2 ≤ i
              · rw [if_pos c2]
                exact ⟨_, w, 0, rfl, by exact hg.elim (fun z => absurd (cg ▸ z.1 : (0 : Int32) = 1) (by decide)) (fun z => Or.inr ⟨rfl, z.2⟩), fun z => absurd z (by omega), fun hl h2 => absurd h2 (by omega)⟩
              · rw [if_neg c2]
                exact ⟨_, w, 0, rfl, by exact hg.elim (fun z => absurd (cg ▸ z.1 : (0 : Int32) = 1) (by decide)) (fun z => Or.inr ⟨rfl, z.2⟩), fun z => absurd z (by omega), hstep⟩
            · rw [if_neg cg, if_pos c6]
              by_cases c2 : 2 ≤ i
              · rw [if_pos c2]
                exact ⟨_, w, _, rfl, by exact hg.elim (fun z => Or.inl ⟨rfl, z.2⟩) (fun z => absurd z.1 cg), fun z => absurd z (by omega), fun hl h2 => absurd h2 (by omega)⟩
              · rw [if_neg c2]
                exact ⟨_, w, _, rfl, by exact hg.elim (fun z => Or.inl ⟨rfl, z.2⟩) (fun z => absurd z.1 cg), fun z => absurd z (by omega), hstep⟩
          · by_cases cg : good = 0
            · rw [if_pos cg, if_neg c6]
              by_cases c2 : 2 ≤ i
              · rw [if_pos c2]
                exact ⟨_, _, 0, rfl, by exact hg.elim (fun z => absurd (cg ▸ z.1 : (0 : Int32) = 1) (by decide)) (fun z => Or.inr ⟨rfl, z.2⟩), fun z => absurd z (by omega), fun hl h2 => absurd h2 (by omega)⟩
              · rw [if_neg c2]
                exact ⟨_, _, 0, rfl, by exact hg.elim (fun z => absurd (cg ▸ z.1 : (0 : Int32) = 1) (by decide)) (fun z => Or.inr ⟨rfl, z.2⟩), fun z => absurd z (by omega), hstep⟩
            · rw [if_neg cg, if_neg c6]
              by_cases c2 : 2 ≤ i
              · rw [if_pos c2]
                exact ⟨_, _, _, rfl, by exact hg.elim (fun z => Or.inl ⟨rfl, z.2⟩) (fun z => absurd z.1 cg), fun z => absurd z (by omega), fun hl h2 => absurd h2 (by omega)⟩
              · rw [if_neg c2]
                exact ⟨_, _, _, rfl, by exact hg.elim (fun z => Or.inl ⟨rfl, z.2⟩) (fun z => absurd z.1 cg), fun z => absurd z (by omega), hstep⟩
        rw [mo_lp_inlS e1, mo_lp_inlS e2]
        obtain ⟨lt', dg', v', u', w', good', r1, r2, ⟨⟨r3, r3'⟩, _⟩, r4⟩ := run_D (a := a) (L := L) hq hb k (i + 1) lt (dg + 1) _ u2 w2 g2 (by omega) (by omega) hg2 hw2 hu2
        exact ⟨lt', dg', v', u', w', good', r1, r2, ⟨⟨by omega, by omega⟩, fun _ => ⟨fun z => by omega, fun z => by omega⟩⟩, r4⟩
      · -- neither
        have e1 : b_Tape_takeRun_4 xs i (lt, dg, q + i, v) = .inr (lt, dg, q + i, v) := by
          unfold b_Tape_takeRun_4
          by_cases c1 : mo_sx (xs.getD (q + i) 0) < 97
          · rw [if_pos c1]
            by_cases c2 : mo_sx (xs.getD (q + i) 0) < 48
            · rw [if_pos c2]
            · rw [if_neg c2, if_pos (by rw [s4]; rw [s1] at c1; rw [s3] at c2; omega)]
          · rw [if_neg c1, if_pos (by rw [s2]; rw [s1] at c1; omega), if_neg (by rw [s3]; rw [s1] at c1; omega), if_pos (by rw [s4]; rw [s1] at c1; omega)]
        have e2 : b_gorun_197x a xs q i (good, q + i, u, mo_up L a 12 w) = .inr (good, q + i, u, mo_up L a 12 w) := by
          unfold b_gorun_197x
          rw [if_pos hlt, if_neg cl, if_neg cd]
        rw [mo_lp_inrS e1, mo_lp_inrS e2]
        exact ⟨lt, dg, v, u, w, good, by rw [hs]; rfl, by rw [hs], ⟨⟨Nat.le_refl _, Nat.le_refl _⟩, fun _ => ⟨fun z => absurd z cl, fun z => absurd z cd⟩⟩, hg, hw, hu⟩
