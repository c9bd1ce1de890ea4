/-! A town as it is read: the class's rows against the reference's. -/
theorem up_ne {α : Type} {f : Nat → Nat → α} {a k : Nat} {v : α} {x y : Nat} (h : ¬ (x = a ∧ y = k)) : mo_up f a k v x y = f x y := if_neg h
theorem mo_ffN {p : Nat → Bool} {n : Nat} (h : mo_ff p n = none) : ∀ j, j < n → p j = false := fun j hj => by
  unfold mo_ff at h
  rw [List.find?_range_eq_none] at h
  have := h j hj
  cases e : p j with
  | false => rfl
  | true => rw [e] at this; exact absurd this (by decide)
def rdC (I : Nat → Nat → Int32) (b : Nat) (ρ : Nat → Int32) (M N C G Z : Nat) : Prop :=
  ((I (b + 1) 5 = nI M ∧ I (b + 1) 6 = nI N ∧ I (b + 7) 5 = nI C ∧ I (b + 13) 3 = nI G ∧ I (b + 17) 4 = nI Z) ∧ I b 5 = 0 ∧ I (b + 22) 2 = 0) ∧
  (∀ m, m < M → I (b + 2) m = ρ (8 + 3 * m) ∧ I (b + 3) m = ρ (8 + 3 * m + 1) ∧ I (b + 4) m = ρ (8 + 3 * m + 2)) ∧
  (∀ n, n < N → I (b + 6) n = mo_oi (mo_ff (fun c => decide (ρ (8 + 3 * c) = nI n)) M)) ∧
  (∀ m, m < C → I (b + 8) m = ρ (32 + 4 * m) ∧ I (b + 9) m = ρ (32 + 4 * m + 1) ∧ I (b + 10) m = ρ (32 + 4 * m + 2) ∧ I (b + 11) m = ρ (32 + 4 * m + 3) ∧ I (b + 12) m = -1) ∧
  (∀ m, m < G → I (b + 14) m = ρ (192 + 5 * m) ∧ I (b + 15) m = ρ (192 + 5 * m + 1) ∧ I (b + 16) m = ρ (192 + 5 * m + 2) * (ρ (192 + 5 * m + 3) * (27720 / ρ (192 + 5 * m + 4)))) ∧
  (∀ m, m < Z → I (b + 18) m = ρ (392 + 4 * m) ∧ I (b + 19) m = ρ (392 + 4 * m + 1) ∧ I (b + 20) m = ρ (392 + 4 * m + 2) ∧ I (b + 21) m = ρ (392 + 4 * m + 3))
/-- what holds of the reference's row as far as it is read -/
def rdM (ρ : Nat → Int32) (M N C G Z : Nat) : Prop :=
  ((ρ 0 = nI M ∧ M ≤ 8) ∧ (ρ 1 = nI N ∧ N ≤ 12) ∧ (ρ 2 = nI C ∧ C ≤ 40) ∧ (ρ 3 = nI G ∧ G ≤ 40) ∧ ρ 4 = nI Z ∧ Z ≤ 40) ∧
  (∀ m, m < M → (∃ x, x < N ∧ ρ (8 + 3 * m) = nI x) ∧ ∃ z, z < 2 ^ M ∧ ρ (8 + 3 * m + 2) = nI z) ∧
  (∀ m m', m < M → m' < M → ρ (8 + 3 * m) = ρ (8 + 3 * m') → m = m') ∧
  (∀ m, m < C → ∃ x d i o, x < M ∧ d < 30 ∧ i ≤ o ∧ o < 100 ∧ ρ (32 + 4 * m) = nI x ∧ ρ (32 + 4 * m + 1) = nI d ∧ ρ (32 + 4 * m + 2) = nI i ∧ ρ (32 + 4 * m + 3) = nI o) ∧
  (∀ m m', m < C → m' < C → ρ (32 + 4 * m) = ρ (32 + 4 * m') → ρ (32 + 4 * m + 1) = ρ (32 + 4 * m' + 1) → m = m') ∧
  (∀ m, m < G → ∃ x d v k o, x < N ∧ d < 30 ∧ v ≤ 99 ∧ k ≤ o ∧ 1 ≤ o ∧ o ≤ 12 ∧ ρ (192 + 5 * m) = nI x ∧ ρ (192 + 5 * m + 1) = nI d ∧ (ρ (192 + 5 * m + 2) = nI v ∨ ρ (192 + 5 * m + 2) = -(nI v)) ∧ ρ (192 + 5 * m + 3) = nI k ∧ ρ (192 + 5 * m + 4) = nI o) ∧
  (∀ m, m < Z → ∃ x y d v, x < N ∧ y < N ∧ d < 30 ∧ v ≤ 99 ∧ ρ (392 + 4 * m) = nI x ∧ ρ (392 + 4 * m + 1) = nI y ∧ ρ (392 + 4 * m + 2) = nI d ∧ ρ (392 + 4 * m + 3) = nI v)
/-- foes are of both, and the pairs are counted -/
def rdP (I : Nat → Nat → Int32) (b : Nat) (ρ : Nat → Int32) (M : Nat) : Prop := (∀ m m', m < M → m' < M → (ρ (8 + 3 * m + 2)).toNatClampNeg.testBit m' = (ρ (8 + 3 * m' + 2)).toNatClampNeg.testBit m) ∧ ∃ k, I (b + 1) 7 = nI k ∧ mo_sm (fun m => mo_pc (ρ (8 + 3 * m + 2)).toNatClampNeg) M = 2 * k
def rdA (I : Nat → Nat → Int32) (b : Nat) (ρ : Nat → Int32) (ν : Nat → Int64) (M N C G Z : Nat) : Prop := rdC I b ρ M N C G Z ∧ rdM ρ M N C G Z ∧ rdP I b ρ M ∧ mo_ws_ (I (b + 5)) ν N
theorem rdP_fr {I I' : Nat → Nat → Int32} {b : Nat} {ρ ρ' : Nat → Int32} {M : Nat} (h : rdP I b ρ M) (e : I' (b + 1) 7 = I (b + 1) 7) (r : ∀ m, m < M → ρ' (8 + 3 * m + 2) = ρ (8 + 3 * m + 2)) : rdP I' b ρ' M := by
  obtain ⟨h1, k, h2, h3⟩ := h
  refine ⟨fun m m' hm hm' => ?_, k, e.trans h2, ?_⟩
  · rw [r m hm, r m' hm']; exact h1 m m' hm hm'
  · rw [← h3]
    refine mo_sm_congr (fun m hm => ?_)
    show mo_pc (ρ' (8 + 3 * m + 2)).toNatClampNeg = mo_pc (ρ (8 + 3 * m + 2)).toNatClampNeg
    rw [r m hm]
section A
variable {I I' : Nat → Nat → Int32} {b : Nat} {ρ ρ' : Nat → Int32} {ν ν' : Nat → Int64} {M N C G Z : Nat}
/-- one coming more -/
theorem rd_come {x d i o : Nat} (h : rdA I b ρ ν M N C G Z) (hC : C < 40) (hx : x < M) (hd : d < 30) (hi : i ≤ o) (ho : o < 100) (hu : ∀ m, m < C → ¬ (ρ (32 + 4 * m) = nI x ∧ ρ (32 + 4 * m + 1) = nI d))
    (e1 : ∀ q k, ¬ (k = C ∧ b + 8 ≤ q ∧ q ≤ b + 12) → ¬ (q = b + 7 ∧ k = 5) → I' q k = I q k) (e2 : I' (b + 7) 5 = nI (C + 1)) (e3 : I' (b + 8) C = nI x ∧ I' (b + 9) C = nI d ∧ I' (b + 10) C = nI i ∧ I' (b + 11) C = nI o ∧ I' (b + 12) C = -1)
    (r1 : ∀ k, ¬ (32 + 4 * C ≤ k ∧ k < 36 + 4 * C) → k ≠ 2 → ρ' k = ρ k) (r2 : ρ' 2 = nI (C + 1)) (r3 : ρ' (32 + 4 * C) = nI x ∧ ρ' (32 + 4 * C + 1) = nI d ∧ ρ' (32 + 4 * C + 2) = nI i ∧ ρ' (32 + 4 * C + 3) = nI o) : rdA I' b ρ' ν M N (C + 1) G Z := by
  obtain ⟨⟨⟨⟨c1, c2, c3, c4, c5⟩, z1, z2⟩, h2, h3, h4, h5, h6⟩, ⟨⟨g1, g2, g3, g4, g5⟩, m2, m3, m4, m5, m6, m7⟩, hP, hw⟩ := h
  refine ⟨⟨⟨⟨?_, ?_, e2, ?_, ?_⟩, ?_, ?_⟩, ?_, ?_, ?_, ?_, ?_⟩, ⟨⟨?_, ?_, ⟨r2, by omega⟩, ?_, ?_⟩, ?_, ?_, ?_, ?_, ?_, ?_⟩, rdP_fr hP (e1 _ _ (by omega) (by omega)) (fun m hm => r1 _ (by omega) (by omega)), fun c hc => ?_⟩
  · rw [e1] <;> first | exact c1 | omega
  · rw [e1] <;> first | exact c2 | omega
  · rw [e1] <;> first | exact c4 | omega
  · rw [e1] <;> first | exact c5 | omega
  · rw [e1] <;> first | exact z1 | omega
  · rw [e1] <;> first | exact z2 | omega
  · intro m hm
    rw [e1, e1, e1, r1, r1, r1] <;> first | exact h2 m hm | omega
  · intro n hn
    rw [e1 (b + 6) n (by omega) (by omega), h3 n hn]
    exact congrArg mo_oi (mo_ff_congr (fun c hc => by rw [r1 (8 + 3 * c) (by omega) (by omega)]))
  · intro m hm
    by_cases e : m = C
    · subst e
      rw [r3.1, r3.2.1, r3.2.2.1, r3.2.2.2]; exact e3
    · rw [e1, e1, e1, e1, e1, r1, r1, r1, r1] <;> first | exact h4 m (by omega) | omega
  · intro m hm
    rw [e1, e1, e1, r1, r1, r1, r1, r1] <;> first | exact h5 m hm | omega
  · intro m hm
    rw [e1, e1, e1, e1, r1, r1, r1, r1] <;> first | exact h6 m hm | omega
  · rw [r1] <;> first | exact g1 | omega
  · rw [r1] <;> first | exact g2 | omega
  · rw [r1] <;> first | exact g4 | omega
  · rw [r1] <;> first | exact g5 | omega
  · intro m hm
    rw [r1, r1] <;> first | exact m2 m hm | omega
  · intro m m' hm hm'
    rw [r1, r1] <;> first | exact m3 m m' hm hm' | omega
  · intro m hm
    by_cases e : m = C
    · subst e
      exact ⟨x, d, i, o, hx, hd, hi, ho, r3⟩
    · rw [r1, r1, r1, r1] <;> first | exact m4 m (by omega) | omega
  · intro m m' hm hm' z1 z2
    by_cases e : m = C
    · by_cases e' : m' = C
      · omega
      · subst e
        rw [r3.1, r1 (32 + 4 * m') (by omega) (by omega)] at z1
        rw [r3.2.1, r1 (32 + 4 * m' + 1) (by omega) (by omega)] at z2
        exact absurd ⟨z1.symm, z2.symm⟩ (hu m' (by omega))
    · by_cases e' : m' = C
      · subst e'
        rw [r3.1, r1 (32 + 4 * m) (by omega) (by omega)] at z1
        rw [r3.2.1, r1 (32 + 4 * m + 1) (by omega) (by omega)] at z2
        exact absurd ⟨z1, z2⟩ (hu m (by omega))
      · rw [r1 (32 + 4 * m) (by omega) (by omega), r1 (32 + 4 * m') (by omega) (by omega)] at z1
        rw [r1 (32 + 4 * m + 1) (by omega) (by omega), r1 (32 + 4 * m' + 1) (by omega) (by omega)] at z2
        exact m5 m m' (by omega) (by omega) z1 z2
  · intro m hm
    rw [r1, r1, r1, r1, r1] <;> first | exact m6 m hm | omega
  · intro m hm
    rw [r1, r1, r1, r1] <;> first | exact m7 m hm | omega
  · rw [e1 (b + 5) c (by omega) (by omega)]; exact hw c hc
/-- one gain more -/
theorem rd_brg {x d v k o : Nat} {g : Int32} (h : rdA I b ρ ν M N C G Z) (hG : G < 40) (hx : x < N) (hd : d < 30) (hv : v ≤ 99) (hk : k ≤ o) (ho : 1 ≤ o) (ho2 : o ≤ 12) (hg : g = nI v ∨ g = -(nI v))
    (e1 : ∀ q j, ¬ (j = G ∧ b + 14 ≤ q ∧ q ≤ b + 16) → ¬ (q = b + 13 ∧ j = 3) → I' q j = I q j) (e2 : I' (b + 13) 3 = nI (G + 1)) (e3 : I' (b + 14) G = nI x ∧ I' (b + 15) G = nI d ∧ I' (b + 16) G = g * (nI k * (27720 / nI o)))
    (r1 : ∀ j, ¬ (192 + 5 * G ≤ j ∧ j < 197 + 5 * G) → j ≠ 3 → ρ' j = ρ j) (r2 : ρ' 3 = nI (G + 1)) (r3 : ρ' (192 + 5 * G) = nI x ∧ ρ' (192 + 5 * G + 1) = nI d ∧ ρ' (192 + 5 * G + 2) = g ∧ ρ' (192 + 5 * G + 3) = nI k ∧ ρ' (192 + 5 * G + 4) = nI o) : rdA I' b ρ' ν M N C (G + 1) Z := by
  obtain ⟨⟨⟨⟨c1, c2, c3, c4, c5⟩, z1, z2⟩, h2, h3, h4, h5, h6⟩, ⟨⟨g1, g2, g3, g4, g5⟩, m2, m3, m4, m5, m6, m7⟩, hP, hw⟩ := h
  refine ⟨⟨⟨⟨?_, ?_, ?_, e2, ?_⟩, ?_, ?_⟩, ?_, ?_, ?_, ?_, ?_⟩, ⟨⟨?_, ?_, ?_, ⟨r2, by omega⟩, ?_⟩, ?_, ?_, ?_, ?_, ?_, ?_⟩, rdP_fr hP (e1 _ _ (by omega) (by omega)) (fun m hm => r1 _ (by omega) (by omega)), fun c hc => ?_⟩
  · rw [e1] <;> first | exact c1 | omega
  · rw [e1] <;> first | exact c2 | omega
  · rw [e1] <;> first | exact c3 | omega
  · rw [e1] <;> first | exact c5 | omega
  · rw [e1] <;> first | exact z1 | omega
  · rw [e1] <;> first | exact z2 | omega
  · intro m hm
    rw [e1, e1, e1, r1, r1, r1] <;> first | exact h2 m hm | omega
  · intro n hn
    rw [e1 (b + 6) n (by omega) (by omega), h3 n hn]
    exact congrArg mo_oi (mo_ff_congr (fun c hc => by rw [r1 (8 + 3 * c) (by omega) (by omega)]))
  · intro m hm
    rw [e1, e1, e1, e1, e1, r1, r1, r1, r1] <;> first | exact h4 m hm | omega
  · intro m hm
    by_cases e : m = G
    · subst e
      rw [r3.1, r3.2.1, r3.2.2.1, r3.2.2.2.1, r3.2.2.2.2]; exact e3
    · rw [e1, e1, e1, r1, r1, r1, r1, r1] <;> first | exact h5 m (by omega) | omega
  · intro m hm
    rw [e1, e1, e1, e1, r1, r1, r1, r1] <;> first | exact h6 m hm | omega
  · rw [r1] <;> first | exact g1 | omega
  · rw [r1] <;> first | exact g2 | omega
  · rw [r1] <;> first | exact g3 | omega
  · rw [r1] <;> first | exact g5 | omega
  · intro m hm
    rw [r1, r1] <;> first | exact m2 m hm | omega
  · intro m m' hm hm'
    rw [r1, r1] <;> first | exact m3 m m' hm hm' | omega
  · intro m hm
    rw [r1, r1, r1, r1] <;> first | exact m4 m hm | omega
  · intro m m' hm hm'
    rw [r1 (32 + 4 * m) (by omega) (by omega), r1 (32 + 4 * m') (by omega) (by omega), r1 (32 + 4 * m + 1) (by omega) (by omega), r1 (32 + 4 * m' + 1) (by omega) (by omega)]
    exact m5 m m' hm hm'
  · intro m hm
    by_cases e : m = G
    · subst e
      refine ⟨x, d, v, k, o, hx, hd, hv, hk, ho, ho2, r3.1, r3.2.1, ?_, r3.2.2.2⟩
      rw [r3.2.2.1]; exact hg
    · rw [r1, r1, r1, r1, r1] <;> first | exact m6 m (by omega) | omega
  · intro m hm
    rw [r1, r1, r1, r1] <;> first | exact m7 m hm | omega
  · rw [e1 (b + 5) c (by omega) (by omega)]; exact hw c hc
/-- one debt more -/
theorem rd_owe {x y d v : Nat} (h : rdA I b ρ ν M N C G Z) (hZ : Z < 40) (hx : x < N) (hy : y < N) (hd : d < 30) (hv : v ≤ 99)
    (e1 : ∀ q j, ¬ (j = Z ∧ b + 18 ≤ q ∧ q ≤ b + 21) → ¬ (q = b + 17 ∧ j = 4) → I' q j = I q j) (e2 : I' (b + 17) 4 = nI (Z + 1)) (e3 : I' (b + 18) Z = nI x ∧ I' (b + 19) Z = nI y ∧ I' (b + 20) Z = nI d ∧ I' (b + 21) Z = nI v)
    (r1 : ∀ j, ¬ (392 + 4 * Z ≤ j ∧ j < 396 + 4 * Z) → j ≠ 4 → ρ' j = ρ j) (r2 : ρ' 4 = nI (Z + 1)) (r3 : ρ' (392 + 4 * Z) = nI x ∧ ρ' (392 + 4 * Z + 1) = nI y ∧ ρ' (392 + 4 * Z + 2) = nI d ∧ ρ' (392 + 4 * Z + 3) = nI v) : rdA I' b ρ' ν M N C G (Z + 1) := by
  obtain ⟨⟨⟨⟨c1, c2, c3, c4, c5⟩, z1, z2⟩, h2, h3, h4, h5, h6⟩, ⟨⟨g1, g2, g3, g4, g5⟩, m2, m3, m4, m5, m6, m7⟩, hP, hw⟩ := h
  refine ⟨⟨⟨⟨?_, ?_, ?_, ?_, e2⟩, ?_, ?_⟩, ?_, ?_, ?_, ?_, ?_⟩, ⟨⟨?_, ?_, ?_, ?_, r2, by omega⟩, ?_, ?_, ?_, ?_, ?_, ?_⟩, rdP_fr hP (e1 _ _ (by omega) (by omega)) (fun m hm => r1 _ (by omega) (by omega)), fun c hc => ?_⟩
  · rw [e1] <;> first | exact c1 | omega
  · rw [e1] <;> first | exact c2 | omega
  · rw [e1] <;> first | exact c3 | omega
  · rw [e1] <;> first | exact c4 | omega
  · rw [e1] <;> first | exact z1 | omega
  · rw [e1] <;> first | exact z2 | omega
  · intro m hm
    rw [e1, e1, e1, r1, r1, r1] <;> first | exact h2 m hm | omega
  · intro n hn
    rw [e1 (b + 6) n (by omega) (by omega), h3 n hn]
    exact congrArg mo_oi (mo_ff_congr (fun c hc => by rw [r1 (8 + 3 * c) (by omega) (by omega)]))
  · intro m hm
    rw [e1, e1, e1, e1, e1, r1, r1, r1, r1] <;> first | exact h4 m hm | omega
  · intro m hm
    rw [e1, e1, e1, r1, r1, r1, r1, r1] <;> first | exact h5 m hm | omega
  · intro m hm
    by_cases e : m = Z
    · subst e
      rw [r3.1, r3.2.1, r3.2.2.1, r3.2.2.2]; exact e3
    · rw [e1, e1, e1, e1, r1, r1, r1, r1] <;> first | exact h6 m (by omega) | omega
  · rw [r1] <;> first | exact g1 | omega
  · rw [r1] <;> first | exact g2 | omega
  · rw [r1] <;> first | exact g3 | omega
  · rw [r1] <;> first | exact g4 | omega
  · intro m hm
    rw [r1, r1] <;> first | exact m2 m hm | omega
  · intro m m' hm hm'
    rw [r1, r1] <;> first | exact m3 m m' hm hm' | omega
  · intro m hm
    rw [r1, r1, r1, r1] <;> first | exact m4 m hm | omega
  · intro m m' hm hm'
    rw [r1 (32 + 4 * m) (by omega) (by omega), r1 (32 + 4 * m') (by omega) (by omega), r1 (32 + 4 * m + 1) (by omega) (by omega), r1 (32 + 4 * m' + 1) (by omega) (by omega)]
    exact m5 m m' hm hm'
  · intro m hm
    rw [r1, r1, r1, r1, r1] <;> first | exact m6 m hm | omega
  · intro m hm
    by_cases e : m = Z
    · subst e
      exact ⟨x, y, d, v, hx, hy, hd, hv, r3⟩
    · rw [r1, r1, r1, r1] <;> first | exact m7 m (by omega) | omega
  · rw [e1 (b + 5) c (by omega) (by omega)]; exact hw c hc
/-- one name more, of no man -/
theorem rd_name (h : rdA I b ρ ν M N C G Z) (hN : N < 12)
    (e1 : ∀ q j, ¬ (j = N ∧ b + 5 ≤ q ∧ q ≤ b + 6) → ¬ (q = b + 1 ∧ j = 6) → I' q j = I q j) (e2 : I' (b + 1) 6 = nI (N + 1)) (e3 : I' (b + 6) N = -1)
    (r1 : ∀ j, j ≠ 1 → ρ' j = ρ j) (r2 : ρ' 1 = nI (N + 1)) (v1 : ∀ j, j ≠ N → ν' j = ν j) (v2 : tkWd (I' (b + 5) N) (ν' N)) : rdA I' b ρ' ν' M (N + 1) C G Z := by
  obtain ⟨⟨⟨⟨c1, c2, c3, c4, c5⟩, z1, z2⟩, h2, h3, h4, h5, h6⟩, ⟨⟨g1, g2, g3, g4, g5⟩, m2, m3, m4, m5, m6, m7⟩, hP, hw⟩ := h
  refine ⟨⟨⟨⟨?_, e2, ?_, ?_, ?_⟩, ?_, ?_⟩, ?_, ?_, ?_, ?_, ?_⟩, ⟨⟨?_, ⟨r2, by omega⟩, ?_, ?_, ?_⟩, ?_, ?_, ?_, ?_, ?_, ?_⟩, rdP_fr hP (e1 _ _ (by omega) (by omega)) (fun m hm => r1 _ (by omega)), fun c hc => ?_⟩
  · rw [e1] <;> first | exact c1 | omega
  · rw [e1] <;> first | exact c3 | omega
  · rw [e1] <;> first | exact c4 | omega
  · rw [e1] <;> first | exact c5 | omega
  · rw [e1] <;> first | exact z1 | omega
  · rw [e1] <;> first | exact z2 | omega
  · intro m hm
    rw [e1, e1, e1, r1, r1, r1] <;> first | exact h2 m hm | omega
  · intro n hn
    by_cases e : n = N
    · subst e
      have hn0 : mo_ff (fun c => decide (ρ' (8 + 3 * c) = nI n)) M = none := mo_ff_none (fun c hc => decide_eq_false (fun z => by
        obtain ⟨x, hx, ex⟩ := (m2 c hc).1
        rw [r1 (8 + 3 * c) (by omega), ex] at z
        have := (nI_eq (a := x) (b := n) (by omega) (by omega)).mp z
        omega))
      rw [e3, hn0]
      rfl
    · rw [e1 (b + 6) n (by omega) (by omega), h3 n (by omega)]
      exact congrArg mo_oi (mo_ff_congr (fun c hc => by rw [r1 (8 + 3 * c) (by omega)]))
  · intro m hm
    rw [e1, e1, e1, e1, e1, r1, r1, r1, r1] <;> first | exact h4 m hm | omega
  · intro m hm
    rw [e1, e1, e1, r1, r1, r1, r1, r1] <;> first | exact h5 m hm | omega
  · intro m hm
    rw [e1, e1, e1, e1, r1, r1, r1, r1] <;> first | exact h6 m hm | omega
  · rw [r1] <;> first | exact g1 | omega
  · rw [r1] <;> first | exact g3 | omega
  · rw [r1] <;> first | exact g4 | omega
  · rw [r1] <;> first | exact g5 | omega
  · intro m hm
    rw [r1 (8 + 3 * m) (by omega), r1 (8 + 3 * m + 2) (by omega)]
    obtain ⟨⟨x, hx, ex⟩, k⟩ := m2 m hm
    exact ⟨⟨x, by omega, ex⟩, k⟩
  · intro m m' hm hm'
    rw [r1 (8 + 3 * m) (by omega), r1 (8 + 3 * m') (by omega)]
    exact m3 m m' hm hm'
  · intro m hm
    rw [r1, r1, r1, r1] <;> first | exact m4 m hm | omega
  · intro m m' hm hm'
    rw [r1 (32 + 4 * m) (by omega), r1 (32 + 4 * m') (by omega), r1 (32 + 4 * m + 1) (by omega), r1 (32 + 4 * m' + 1) (by omega)]
    exact m5 m m' hm hm'
  · intro m hm
    rw [r1 (192 + 5 * m) (by omega), r1 (192 + 5 * m + 1) (by omega), r1 (192 + 5 * m + 2) (by omega), r1 (192 + 5 * m + 3) (by omega), r1 (192 + 5 * m + 4) (by omega)]
    obtain ⟨x, d, v, k, o, hx, hr⟩ := m6 m hm
    exact ⟨x, d, v, k, o, by omega, hr⟩
  · intro m hm
    rw [r1 (392 + 4 * m) (by omega), r1 (392 + 4 * m + 1) (by omega), r1 (392 + 4 * m + 2) (by omega), r1 (392 + 4 * m + 3) (by omega)]
    obtain ⟨x, y, d, v, hx, hy, hr⟩ := m7 m hm
    exact ⟨x, y, d, v, by omega, by omega, hr⟩
  · by_cases e : c = N
    · subst e; exact v2
    · rw [e1 (b + 5) c (by omega) (by omega), v1 c e]; exact hw c (by omega)
theorem pc0 : mo_pc 0 = 0 := by decide +kernel
/-- one man more, and his name -/
theorem rd_man {pu : Int32} (h : rdA I b ρ ν M N C G Z) (hM : M < 8) (hN : N < 12)
    (e1 : ∀ q j, ¬ (j = N ∧ b + 5 ≤ q ∧ q ≤ b + 6) → ¬ (j = M ∧ b + 2 ≤ q ∧ q ≤ b + 4) → ¬ (q = b + 1 ∧ (j = 5 ∨ j = 6)) → I' q j = I q j) (e2 : I' (b + 1) 6 = nI (N + 1) ∧ I' (b + 1) 5 = nI (M + 1)) (e3 : I' (b + 6) N = nI M) (e4 : I' (b + 2) M = nI N ∧ I' (b + 3) M = pu ∧ I' (b + 4) M = 0)
    (r1 : ∀ j, j ≠ 0 → j ≠ 1 → ¬ (8 + 3 * M ≤ j ∧ j < 11 + 3 * M) → ρ' j = ρ j) (r2 : ρ' 0 = nI (M + 1) ∧ ρ' 1 = nI (N + 1)) (r3 : ρ' (8 + 3 * M) = nI N ∧ ρ' (8 + 3 * M + 1) = pu ∧ ρ' (8 + 3 * M + 2) = 0) (v1 : ∀ j, j ≠ N → ν' j = ν j) (v2 : tkWd (I' (b + 5) N) (ν' N)) : rdA I' b ρ' ν' (M + 1) (N + 1) C G Z := by
  obtain ⟨⟨⟨⟨c1, c2, c3, c4, c5⟩, z1, z2⟩, h2, h3, h4, h5, h6⟩, ⟨⟨g1, g2, g3, g4, g5⟩, m2, m3, m4, m5, m6, m7⟩, hP, hw⟩ := h
  have hz : ∀ m, m < M → ∃ z, z < 2 ^ M ∧ ρ (8 + 3 * m + 2) = nI z ∧ (ρ (8 + 3 * m + 2)).toNatClampNeg = z := fun m hm => by
    obtain ⟨z, hz, e⟩ := (m2 m hm).2
    have := mo_p8 (k := M) (by omega)
    exact ⟨z, hz, e, by rw [e]; exact nI_clamp (by omega)⟩
  have c0 : (ρ' (8 + 3 * M + 2)).toNatClampNeg = 0 := by rw [r3.2.2]; rfl
  refine ⟨⟨⟨⟨e2.2, e2.1, ?_, ?_, ?_⟩, ?_, ?_⟩, ?_, ?_, ?_, ?_, ?_⟩, ⟨⟨⟨r2.1, by omega⟩, ⟨r2.2, by omega⟩, ?_, ?_, ?_⟩, ?_, ?_, ?_, ?_, ?_, ?_⟩, ?_, fun c hc => ?_⟩
  · rw [e1] <;> first | exact c3 | omega
  · rw [e1] <;> first | exact c4 | omega
  · rw [e1] <;> first | exact c5 | omega
  · rw [e1] <;> first | exact z1 | omega
  · rw [e1] <;> first | exact z2 | omega
  · intro m hm
    by_cases e : m = M
    · subst e
      rw [e4.1, e4.2.1, e4.2.2, r3.1, r3.2.1, r3.2.2]
      exact ⟨rfl, rfl, rfl⟩
    · rw [e1 (b + 2) m (by omega) (by omega) (by omega), e1 (b + 3) m (by omega) (by omega) (by omega), e1 (b + 4) m (by omega) (by omega) (by omega), r1 (8 + 3 * m) (by omega) (by omega) (by omega), r1 (8 + 3 * m + 1) (by omega) (by omega) (by omega), r1 (8 + 3 * m + 2) (by omega) (by omega) (by omega)]
      exact h2 m (by omega)
  · intro n hn
    by_cases e : n = N
    · subst e
      have hn0 : mo_ff (fun c => decide (ρ' (8 + 3 * c) = nI n)) (M + 1) = some M := mo_ff_some (Nat.lt_succ_self M) (decide_eq_true r3.1) (fun c hc => decide_eq_false (fun z => by
        obtain ⟨x, hx, ex⟩ := (m2 c hc).1
        rw [r1 (8 + 3 * c) (by omega) (by omega) (by omega), ex] at z
        have := (nI_eq (a := x) (b := n) (by omega) (by omega)).mp z
        omega))
      rw [e3, hn0]
      rfl
    · rw [e1 (b + 6) n (by omega) (by omega) (by omega), h3 n (by omega)]
      refine congrArg mo_oi ?_
      cases ef : mo_ff (fun c => decide (ρ (8 + 3 * c) = nI n)) M with
      | some c =>
        obtain ⟨a1, a2, a3⟩ := mo_ff_lt ef
        refine (mo_ff_some (c := c) (by omega) ?_ (fun j hj => ?_)).symm
        · show decide (ρ' (8 + 3 * c) = nI n) = true
          rw [r1 (8 + 3 * c) (by omega) (by omega) (by omega)]; exact a2
        · show decide (ρ' (8 + 3 * j) = nI n) = false
          rw [r1 (8 + 3 * j) (by omega) (by omega) (by omega)]; exact a3 j hj
      | none =>
        refine (mo_ff_none (fun j hj => ?_)).symm
        show decide (ρ' (8 + 3 * j) = nI n) = false
        by_cases ej : j = M
        · subst ej
          rw [r3.1]
          refine decide_eq_false (fun z => ?_)
          have := (nI_eq (a := N) (b := n) (by omega) (by omega)).mp z
          omega
        · rw [r1 (8 + 3 * j) (by omega) (by omega) (by omega)]
          exact mo_ffN ef j (by omega)
  · intro m hm
    rw [e1, e1, e1, e1, e1, r1, r1, r1, r1] <;> first | exact h4 m hm | omega
  · intro m hm
    rw [e1, e1, e1, r1, r1, r1, r1, r1] <;> first | exact h5 m hm | omega
  · intro m hm
    rw [e1, e1, e1, e1, r1, r1, r1, r1] <;> first | exact h6 m hm | omega
  · rw [r1] <;> first | exact g3 | omega
  · rw [r1] <;> first | exact g4 | omega
  · rw [r1] <;> first | exact g5 | omega
  · intro m hm
    by_cases e : m = M
    · subst e
      exact ⟨⟨N, by omega, r3.1⟩, 0, Nat.two_pow_pos _, r3.2.2⟩
    · rw [r1 (8 + 3 * m) (by omega) (by omega) (by omega), r1 (8 + 3 * m + 2) (by omega) (by omega) (by omega)]
      obtain ⟨⟨x, hx, ex⟩, z, hz, ez⟩ := m2 m (by omega)
      exact ⟨⟨x, by omega, ex⟩, z, by rw [Nat.pow_succ]; omega, ez⟩
  · intro m m' hm hm' z
    have key : ∀ c, c < M → ¬ ρ' (8 + 3 * c) = nI N := fun c hc z => by
      obtain ⟨x, hx, ex⟩ := (m2 c hc).1
      rw [r1 (8 + 3 * c) (by omega) (by omega) (by omega), ex] at z
      have := (nI_eq (a := x) (b := N) (by omega) (by omega)).mp z
      omega
    by_cases e : m = M
    · by_cases e' : m' = M
      · omega
      · subst e
        exact absurd (z.symm.trans r3.1) (key m' (by omega))
    · by_cases e' : m' = M
      · subst e'
        exact absurd (z.trans r3.1) (key m (by omega))
      · rw [r1 (8 + 3 * m) (by omega) (by omega) (by omega), r1 (8 + 3 * m') (by omega) (by omega) (by omega)] at z
        exact m3 m m' (by omega) (by omega) z
  · intro m hm
    rw [r1 (32 + 4 * m) (by omega) (by omega) (by omega), r1 (32 + 4 * m + 1) (by omega) (by omega) (by omega), r1 (32 + 4 * m + 2) (by omega) (by omega) (by omega), r1 (32 + 4 * m + 3) (by omega) (by omega) (by omega)]
    obtain ⟨x, d, i, o, hx, hr⟩ := m4 m hm
    exact ⟨x, d, i, o, by omega, hr⟩
  · intro m m' hm hm'
    rw [r1 (32 + 4 * m) (by omega) (by omega) (by omega), r1 (32 + 4 * m') (by omega) (by omega) (by omega), r1 (32 + 4 * m + 1) (by omega) (by omega) (by omega), r1 (32 + 4 * m' + 1) (by omega) (by omega) (by omega)]
    exact m5 m m' hm hm'
  · intro m hm
    rw [r1 (192 + 5 * m) (by omega) (by omega) (by omega), r1 (192 + 5 * m + 1) (by omega) (by omega) (by omega), r1 (192 + 5 * m + 2) (by omega) (by omega) (by omega), r1 (192 + 5 * m + 3) (by omega) (by omega) (by omega), r1 (192 + 5 * m + 4) (by omega) (by omega) (by omega)]
    obtain ⟨x, d, v, k, o, hx, hr⟩ := m6 m hm
    exact ⟨x, d, v, k, o, by omega, hr⟩
  · intro m hm
    rw [r1 (392 + 4 * m) (by omega) (by omega) (by omega), r1 (392 + 4 * m + 1) (by omega) (by omega) (by omega), r1 (392 + 4 * m + 2) (by omega) (by omega) (by omega), r1 (392 + 4 * m + 3) (by omega) (by omega) (by omega)]
    obtain ⟨x, y, d, v, hx, hy, hr⟩ := m7 m hm
    exact ⟨x, y, d, v, by omega, by omega, hr⟩
  · obtain ⟨p1, k, p2, p3⟩ := hP
    have cb : ∀ c, c < M → (ρ' (8 + 3 * c + 2)).toNatClampNeg = (ρ (8 + 3 * c + 2)).toNatClampNeg := fun c hc => by
      rw [r1 (8 + 3 * c + 2) (by omega) (by omega) (by omega)]
    refine ⟨fun m m' hm hm' => ?_, k, (e1 _ _ (by omega) (by omega) (by omega)).trans p2, ?_⟩
    · by_cases e : m = M
      · subst e
        rw [c0, Nat.zero_testBit]
        by_cases e' : m' = m
        · subst e'; rw [c0, Nat.zero_testBit]
        · obtain ⟨z, hz1, _, hz2⟩ := hz m' (by omega)
          rw [cb m' (by omega), hz2]
          exact (Nat.testBit_lt_two_pow hz1).symm
      · by_cases e' : m' = M
        · subst e'
          obtain ⟨z, hz1, _, hz2⟩ := hz m (by omega)
          rw [c0, Nat.zero_testBit, cb m (by omega), hz2]
          exact Nat.testBit_lt_two_pow hz1
        · rw [cb m (by omega), cb m' (by omega)]
          exact p1 m m' (by omega) (by omega)
    · show mo_sm (fun m => mo_pc (ρ' (8 + 3 * m + 2)).toNatClampNeg) M + mo_pc (ρ' (8 + 3 * M + 2)).toNatClampNeg = 2 * k
      rw [c0, pc0, Nat.add_zero, ← p3]
      exact mo_sm_congr (fun c hc => congrArg mo_pc (cb c hc))
  · by_cases e : c = N
    · subst e; exact v2
    · rw [e1 (b + 5) c (by omega) (by omega) (by omega), v1 c e]; exact hw c (by omega)
/-- one pair of foes more -/
theorem rd_foe {x y zx zy : Nat} (h : rdA I b ρ ν M N C G Z) (hx : x < M) (hy : y < M) (hxy : x ≠ y) (ex : ρ (8 + 3 * x + 2) = nI zx) (hzx : zx < 2 ^ M) (ey : ρ (8 + 3 * y + 2) = nI zy) (hzy : zy < 2 ^ M) (hb : zx.testBit y = false)
    (e1 : ∀ q j, ¬ (q = b + 4 ∧ (j = x ∨ j = y)) → ¬ (q = b + 1 ∧ j = 7) → I' q j = I q j) (e2 : I' (b + 1) 7 = I (b + 1) 7 + 1) (e3 : I' (b + 4) x = nI (zx ||| 2 ^ y) ∧ I' (b + 4) y = nI (zy ||| 2 ^ x))
    (r1 : ∀ j, j ≠ 8 + 3 * x + 2 → j ≠ 8 + 3 * y + 2 → ρ' j = ρ j) (r3 : ρ' (8 + 3 * x + 2) = nI (zx ||| 2 ^ y) ∧ ρ' (8 + 3 * y + 2) = nI (zy ||| 2 ^ x)) : rdA I' b ρ' ν M N C G Z := by
  obtain ⟨⟨⟨⟨c1, c2, c3, c4, c5⟩, z1, z2⟩, h2, h3, h4, h5, h6⟩, ⟨⟨⟨g1, g1'⟩, g2, g3, g4, g5⟩, m2, m3, m4, m5, m6, m7⟩, ⟨p1, k, p2, p3⟩, hw⟩ := h
  have h8 := mo_p8 g1'
  have hb' : zy.testBit x = false := by
    have := p1 x y hx hy
    rw [ex, ey, nI_clamp (by omega), nI_clamp (by omega), hb] at this
    exact this.symm
  obtain ⟨px, px'⟩ := pc_or (n := M) (by omega) hzx hy hb
  obtain ⟨py, py'⟩ := pc_or (n := M) (by omega) hzy hx hb'
  have key : ∀ m, m < M → ∃ z z', z' < 2 ^ M ∧ ρ (8 + 3 * m + 2) = nI z ∧ ρ' (8 + 3 * m + 2) = nI z' ∧ (ρ (8 + 3 * m + 2)).toNatClampNeg = z ∧ (ρ' (8 + 3 * m + 2)).toNatClampNeg = z' ∧ mo_pc z' = mo_pc z + ((if m = x then 1 else 0) + (if m = y then 1 else 0)) ∧ ∀ j, z'.testBit j = (z.testBit j || (decide (m = x ∧ j = y) || decide (m = y ∧ j = x))) := fun m hm => by
    by_cases e : m = x
    · subst e
      refine ⟨zx, zx ||| 2 ^ y, px', ex, r3.1, by rw [ex]; exact nI_clamp (by omega), by rw [r3.1]; exact nI_clamp (by omega), ?_, fun j => ?_⟩
      · rw [if_pos rfl, if_neg hxy]; omega
      · rw [Nat.testBit_or, Nat.testBit_two_pow, decide_eq_false (p := m = y ∧ j = m) (fun z => hxy z.1), Bool.or_false]
        exact congrArg (fun b => zx.testBit j || b) (decide_eq_decide.mpr ⟨fun z => ⟨rfl, z.symm⟩, fun z => z.2.symm⟩)
    · by_cases e' : m = y
      · subst e'
        refine ⟨zy, zy ||| 2 ^ x, py', ey, r3.2, by rw [ey]; exact nI_clamp (by omega), by rw [r3.2]; exact nI_clamp (by omega), ?_, fun j => ?_⟩
        · rw [if_neg e, if_pos rfl]; omega
        · rw [Nat.testBit_or, Nat.testBit_two_pow, decide_eq_false (p := m = x ∧ j = m) (fun z => e z.1), Bool.false_or]
          exact congrArg (fun b => zy.testBit j || b) (decide_eq_decide.mpr ⟨fun z => ⟨rfl, z.symm⟩, fun z => z.2.symm⟩)
      · obtain ⟨z, hz, ez⟩ := (m2 m hm).2
        have er := r1 (8 + 3 * m + 2) (by omega) (by omega)
        refine ⟨z, z, hz, ez, er.trans ez, by rw [ez]; exact nI_clamp (by omega), by rw [er, ez]; exact nI_clamp (by omega), ?_, fun j => ?_⟩
        · simp [e, e']
        · rw [decide_eq_false (p := m = x ∧ j = y) (fun z => e z.1), decide_eq_false (p := m = y ∧ j = x) (fun z => e' z.1), Bool.or_false, Bool.or_false]
  refine ⟨⟨⟨⟨?_, ?_, ?_, ?_, ?_⟩, ?_, ?_⟩, ?_, ?_, ?_, ?_, ?_⟩, ⟨⟨⟨?_, g1'⟩, ?_, ?_, ?_, ?_⟩, ?_, ?_, ?_, ?_, ?_, ?_⟩, ⟨fun m m' hm hm' => ?_, k + 1, ?_, ?_⟩, fun c hc => ?_⟩
  · rw [e1] <;> first | exact c1 | omega
  · rw [e1] <;> first | exact c2 | omega
  · rw [e1] <;> first | exact c3 | omega
  · rw [e1] <;> first | exact c4 | omega
  · rw [e1] <;> first | exact c5 | omega
  · rw [e1] <;> first | exact z1 | omega
  · rw [e1] <;> first | exact z2 | omega
  · intro m hm
    rw [e1 (b + 2) m (by omega) (by omega), e1 (b + 3) m (by omega) (by omega), r1 (8 + 3 * m) (by omega) (by omega), r1 (8 + 3 * m + 1) (by omega) (by omega)]
    obtain ⟨k1, k2, k3⟩ := h2 m hm
    refine ⟨k1, k2, ?_⟩
    by_cases e : m = x
    · subst e; rw [e3.1, r3.1]
    · by_cases e' : m = y
      · subst e'; rw [e3.2, r3.2]
      · rw [e1 (b + 4) m (by omega) (by omega), r1 (8 + 3 * m + 2) (by omega) (by omega)]; exact k3
  · intro n hn
    rw [e1 (b + 6) n (by omega) (by omega), h3 n hn]
    exact congrArg mo_oi (mo_ff_congr (fun c hc => by rw [r1 (8 + 3 * c) (by omega) (by omega)]))
  · intro m hm
    rw [e1, e1, e1, e1, e1, r1, r1, r1, r1] <;> first | exact h4 m hm | omega
  · intro m hm
    rw [e1, e1, e1, r1, r1, r1, r1, r1] <;> first | exact h5 m hm | omega
  · intro m hm
    rw [e1, e1, e1, e1, r1, r1, r1, r1] <;> first | exact h6 m hm | omega
  · rw [r1] <;> first | exact g1 | omega
  · rw [r1] <;> first | exact g2 | omega
  · rw [r1] <;> first | exact g3 | omega
  · rw [r1] <;> first | exact g4 | omega
  · rw [r1] <;> first | exact g5 | omega
  · intro m hm
    obtain ⟨z, z', hz', _, ez', _⟩ := key m hm
    rw [r1 (8 + 3 * m) (by omega) (by omega)]
    exact ⟨(m2 m hm).1, z', hz', ez'⟩
  · intro m m' hm hm'
    rw [r1 (8 + 3 * m) (by omega) (by omega), r1 (8 + 3 * m') (by omega) (by omega)]
    exact m3 m m' hm hm'
  · intro m hm
    rw [r1, r1, r1, r1] <;> first | exact m4 m hm | omega
  · intro m m' hm hm'
    rw [r1 (32 + 4 * m) (by omega) (by omega), r1 (32 + 4 * m') (by omega) (by omega), r1 (32 + 4 * m + 1) (by omega) (by omega), r1 (32 + 4 * m' + 1) (by omega) (by omega)]
    exact m5 m m' hm hm'
  · intro m hm
    rw [r1, r1, r1, r1, r1] <;> first | exact m6 m hm | omega
  · intro m hm
    rw [r1, r1, r1, r1] <;> first | exact m7 m hm | omega
  · obtain ⟨z, z', _, _, _, a1, a2, _, a3⟩ := key m hm
    obtain ⟨w, w', _, _, _, b1, b2, _, b3⟩ := key m' hm'
    have := p1 m m' hm hm'
    rw [a1, b1] at this
    have d1 : decide (m = y ∧ m' = x) = decide (m' = x ∧ m = y) := decide_eq_decide.mpr ⟨fun z => ⟨z.2, z.1⟩, fun z => ⟨z.2, z.1⟩⟩
    have d2 : decide (m = x ∧ m' = y) = decide (m' = y ∧ m = x) := decide_eq_decide.mpr ⟨fun z => ⟨z.2, z.1⟩, fun z => ⟨z.2, z.1⟩⟩
    rw [a2, b2, a3 m', b3 m, this, d1, d2, Bool.or_comm (decide (m' = y ∧ m = x))]
  · rw [e2, p2, nI_succ]
  · have s1 : mo_sm (fun m => mo_pc (ρ' (8 + 3 * m + 2)).toNatClampNeg) M = mo_sm (fun m => mo_pc (ρ (8 + 3 * m + 2)).toNatClampNeg) M + mo_sm (fun m => (if m = x then 1 else 0) + (if m = y then 1 else 0)) M := mo_sm_add (fun m hm => by
      obtain ⟨z, z', _, _, _, a1, a2, a4, _⟩ := key m hm
      show mo_pc (ρ' (8 + 3 * m + 2)).toNatClampNeg = mo_pc (ρ (8 + 3 * m + 2)).toNatClampNeg + ((if m = x then 1 else 0) + (if m = y then 1 else 0))
      rw [a1, a2]; exact a4)
    have s2 : mo_sm (fun m => (if m = x then 1 else 0) + (if m = y then 1 else 0)) M = mo_sm (fun m => if m = x then 1 else 0) M + mo_sm (fun m => if m = y then 1 else 0) M := mo_sm_add (fun _ _ => rfl)
    have s3 : mo_sm (fun m => if m = x then 1 else 0) M = 1 := (mo_sm_one (g := fun m => if m = x then 1 else 0) (c := x) hx (fun j _ hj => if_neg hj)).trans (if_pos rfl)
    have s4 : mo_sm (fun m => if m = y then 1 else 0) M = 1 := (mo_sm_one (g := fun m => if m = y then 1 else 0) (c := y) hy (fun j _ hj => if_neg hj)).trans (if_pos rfl)
    omega
  · rw [e1 (b + 5) c (by omega) (by omega)]; exact hw c hc
end A
