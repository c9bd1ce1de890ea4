/-! Fractions: the greatest common divisor, by both. -/
theorem lc_le0 {x : Int64} : lg_cmp x 0 ≤ 0 ↔ ¬ x > 0 := by
  unfold lg_cmp
  by_cases h : x > 0
  · rw [if_pos h]; exact ⟨fun z => absurd z (by decide), fun z => absurd h z⟩
  · rw [if_neg h]
    refine ⟨fun _ => h, fun _ => ?_⟩
    split <;> decide
theorem lc_eq0 {x y : Int64} : lg_cmp x y = 0 ↔ x = y := by
  unfold lg_cmp
  by_cases h : x > y
  · rw [if_pos h]; exact ⟨fun z => absurd z (by decide), fun z => absurd h (by rw [z]; exact Int64.lt_irrefl)⟩
  · rw [if_neg h]
    by_cases e : x = y
    · rw [if_pos e]; exact ⟨fun _ => e, fun _ => rfl⟩
    · rw [if_neg e]; exact ⟨fun z => absurd z (by decide), fun z => absurd z e⟩
theorem lc_lt0 {x y : Int64} : lg_cmp x y < 0 ↔ x < y := by
  unfold lg_cmp
  by_cases h : x > y
  · rw [if_pos h]; exact ⟨fun z => absurd z (by decide), fun z => absurd z (Int64.lt_asymm h)⟩
  · rw [if_neg h]
    by_cases e : x = y
    · rw [if_pos e]; exact ⟨fun z => absurd z (by decide), fun z => absurd z (by rw [e]; exact Int64.lt_irrefl)⟩
    · rw [if_neg e]; exact ⟨fun _ => by
        rw [Int64.lt_iff_toInt_lt]
        have h1 : ¬ y.toInt < x.toInt := fun z => h (Int64.lt_iff_toInt_lt.mpr z)
        have h2 : ¬ x.toInt = y.toInt := fun z => e (Int64.toInt_inj.mp z)
        omega, fun _ => by decide⟩
theorem lc_ge0 {x : Int64} : 0 ≤ lg_cmp x 0 ↔ ¬ x < 0 := by
  rw [← lc_lt0, Int32.not_lt]
theorem mo_lpL {S ρ : Type} {f : Nat → S → S ⊕ ρ} {n i : Nat} {s s' : S} (e : f i s = .inl s') : mo_lp f (n + 1) i s = mo_lp f n (i + 1) s' := by
  simp only [mo_lp, e]
theorem mo_lpR {S ρ : Type} {f : Nat → S → S ⊕ ρ} {n i : Nat} {s : S} {r : ρ} (e : f i s = .inr r) : mo_lp f (n + 1) i s = .inr r := by
  simp only [mo_lp, e]
theorem mo_gcd_run {f : Nat → Int64 × Int64 → (Int64 × Int64) ⊕ (Int64 × Int64)} (hz : ∀ i A, A < 2 ^ 63 → f i (lN A, lN 0) = .inr (lN A, lN 0)) (hs : ∀ i A B, 0 < B → A < 2 ^ 63 → B < 2 ^ 63 → f i (lN A, lN B) = .inl (lN B, lN (A % B))) :
    ∀ (k n i A B : Nat), B < 2 ^ k → 2 * k + 1 ≤ n → A < 2 ^ 63 → B < 2 ^ 63 → mo_lp f n i (lN A, lN B) = .inr (lN (Nat.gcd A B), lN 0)
  | 0, n, i, A, B, hB, hn, hA, _ => by
    have e : B = 0 := by omega
    subst e
    obtain ⟨n, rfl⟩ := Nat.exists_eq_add_of_le hn
    rw [show 2 * 0 + 1 + n = n + 1 by omega, mo_lpR (hz i A hA), Nat.gcd_zero_right]
  | k + 1, n, i, A, B, hB, hn, hA, hB2 => by
    obtain ⟨n, rfl⟩ := Nat.exists_eq_add_of_le hn
    rw [show 2 * (k + 1) + 1 + n = (2 * k + 1 + n + 1) + 1 by omega]
    rcases Nat.eq_zero_or_pos B with e | h0
    · subst e
      rw [mo_lpR (hz i A hA), Nat.gcd_zero_right]
    · rw [mo_lpL (hs i A B h0 hA hB2)]
      have hm := Nat.mod_lt A h0
      rcases Nat.eq_zero_or_pos (A % B) with e | h1
      · rw [e, mo_lpR (hz _ B hB2), Nat.gcd_comm, Nat.gcd_rec, e, Nat.gcd_zero_left]
      · rw [mo_lpL (hs _ B (A % B) h1 hB2 (by omega))]
        have h2 := Nat.mod_lt B h1
        have h3 : B % (A % B) < 2 ^ k := by
          have h4 : B = (A % B) * (B / (A % B)) + B % (A % B) := (Nat.div_add_mod B (A % B)).symm
          have h5 : 1 ≤ B / (A % B) := Nat.div_pos (by omega) h1
          have h6 : (A % B) * 1 ≤ (A % B) * (B / (A % B)) := Nat.mul_le_mul_left _ h5
          have h7 : 2 ^ (k + 1) = 2 * 2 ^ k := by rw [Nat.pow_succ]; omega
          omega
        rw [mo_gcd_run hz hs k _ _ (A % B) (B % (A % B)) h3 (by omega) (by omega) (by omega)]
        rw [Nat.gcd_comm A B, Nat.gcd_rec B A, Nat.gcd_rec (A % B) B, Nat.gcd_comm (A % B) (B % (A % B))]
/-- a fraction in lowest terms: above or below -/
def mo_fr (g : Nat) (up below : Int64) (w : Int32) : Int64 := if w = 0 then up / lN g else below / lN g
theorem lN_ne0 {n : Nat} (h0 : 0 < n) (h : n < 2 ^ 63) : ¬ lN n = 0 := fun e => by
  have := (pk_lEQ h (by decide)).mp (show lN n = lN 0 from e)
  omega

def b_Gate_commonDivisor_9 (i9 : Nat) (s9 : Int64 × Int64) : (Int64 × Int64) ⊕ (Int64 × Int64) := (if (lg_cmp s9.2 0) = 0 then .inr (s9.1, s9.2) else .inl (s9.2, s9.1 - ((s9.1 / s9.2) * s9.2)))
def w_Gate_commonDivisor_9 (x : Int64) (y : Int64) : (Int64 × Int64) ⊕ (Int64 × Int64) := mo_lp b_Gate_commonDivisor_9 128 0 (x, y)
def o_Gate_commonDivisor (x : Int64) (y : Int64) : Int64 := (Sum.elim (fun z9 => z9.1) (fun r9 => r9.1) (w_Gate_commonDivisor_9 x y))
theorem C_Gate_commonDivisor (l : Launch) (K : mo_K) (R : Nat → Nat → Nat) (I : Nat → Nat → Int32) (L : Nat → Nat → Int64) (x : Int64) (y : Int64)  : mo_D l mm_Gate_commonDivisor 0 [.long x, .long y] (K, R, I, L, 0) (some (.long (o_Gate_commonDivisor x y))) (K, R, I, L, 0) :=
  mo_D_of (by decide +kernel) (Nat.le_of_ble_eq_true rfl) (fun Ψ hΨ => mo_J_run ok_Gate_commonDivisor (fun z => by cases z) [9] 400 _ (show mo_J l mm_Gate_commonDivisor 0 0 0 false (K, R, I, L, 0) Ψ (9, [some (.long x), none, some (.long y), none, some (.long x), none, some (.long y), none, some (.int 0), none, none], [], (K, R, I, L, 0)) from mo_J_le (mo_leN (mo_leN (mo_leN (mo_leN (mo_leS (mo_leN (mo_leS (mo_leN (mo_leS (mo_leN (mo_leN mo_le0))))))))))) (mo_lpJ (J := mo_J l mm_Gate_commonDivisor 0 0 0 false (K, R, I, L, 0) Ψ) (N := 128) (body := b_Gate_commonDivisor_9) (head := fun i9 s9 => (9, [none, none, none, none, some (.long s9.1), none, some (.long s9.2), none, some (.int (nI i9)), none, none], [], (K, R, I, L, 0))) (Inv := fun i9 s9 => True) (JR := fun (r9 : Int64 × Int64) => mo_J l mm_Gate_commonDivisor 0 0 0 false (K, R, I, L, 0) Ψ (45, [none, none, none, none, some (.long r9.1), none, none, none, none, none, none], [], (K, R, I, L, 0))) (fun (i9 : Nat) (s9 : Int64 × Int64) hi9 hv9 kc9 kr9 => (mo_J_run ok_Gate_commonDivisor (fun z => by cases z) [9, 45] 400 _ (show ((128 ≤ (nI i9)) → mo_J l mm_Gate_commonDivisor 0 0 0 false (K, R, I, L, 0) Ψ (45, [none, none, none, none, some (.long s9.1), none, some (.long s9.2), none, some (.int (nI i9)), none, none], [], (K, R, I, L, 0))) ∧ (¬ (128 ≤ (nI i9)) → (((lg_cmp s9.2 0) = 0) → mo_J l mm_Gate_commonDivisor 0 0 0 false (K, R, I, L, 0) Ψ (45, [none, none, none, none, some (.long s9.1), none, some (.long s9.2), none, some (.int (nI i9)), none, none], [], (K, R, I, L, 0))) ∧ (¬ ((lg_cmp s9.2 0) = 0) → ¬ s9.2 = 0 ∧ mo_J l mm_Gate_commonDivisor 0 0 0 false (K, R, I, L, 0) Ψ (9, [none, none, none, none, some (.long s9.2), none, some (.long (s9.1 - ((s9.1 / s9.2) * s9.2))), none, some (.int ((nI i9) + 1)), some (.long (s9.1 - ((s9.1 / s9.2) * s9.2))), none], [], (K, R, I, L, 0)))) from ⟨fun c1 => (have d1 : (128 ≤ i9) := (mo_cLE (show (128 : Int32) = nI 128 from rfl) (Eq.refl (nI i9)) (by omega) (by omega)).mp c1; absurd d1 (by omega)), fun c1 => (have d1 : ¬ (128 ≤ i9) := (fun z => c1 ((mo_cLE (show (128 : Int32) = nI 128 from rfl) (Eq.refl (nI i9)) (by omega) (by omega)).mpr z)); ⟨fun c2 => (mo_J_le (mo_leN (mo_leN (mo_leN (mo_leN (mo_leS (mo_leN (mo_leN (mo_leN (mo_leN (mo_leN (mo_leN mo_le0))))))))))) (kr9 (s9.1, s9.2) ((if_pos c2).trans rfl))), fun c2 => (⟨(fun z => c2 (lc_eq0.mpr z)), (by rw [show ((nI i9) + 1 : Int32) = nI (i9 + 1) from (mo_nadd (Eq.refl (nI i9)) (show (1 : Int32) = nI 1 from rfl))]; exact mo_J_le (mo_leN (mo_leN (mo_leN (mo_leN (mo_leS (mo_leN (mo_leS (mo_leN (mo_leS (mo_leN (mo_leN mo_le0))))))))))) (kc9 (s9.2, s9.1 - ((s9.1 / s9.2) * s9.2)) ((if_neg c2).trans rfl) (trivial)))⟩)⟩)⟩))) 128 0 (x, y) (Nat.zero_add _) (trivial) (fun (z9 : Int64 × Int64) e9 hx9 => mo_J_run ok_Gate_commonDivisor (fun z => by cases z) [9] 400 _ (show ((128 ≤ (nI 128)) → mo_J l mm_Gate_commonDivisor 0 0 0 false (K, R, I, L, 0) Ψ (47, [none, none, none, none, some (.long z9.1), none, some (.long z9.2), none, some (.int (nI 128)), none, none], [.long z9.1], (K, R, I, L, 0))) ∧ (¬ (128 ≤ (nI 128)) → (((lg_cmp z9.2 0) = 0) → mo_J l mm_Gate_commonDivisor 0 0 0 false (K, R, I, L, 0) Ψ (47, [none, none, none, none, some (.long z9.1), none, some (.long z9.2), none, some (.int (nI 128)), none, none], [.long z9.1], (K, R, I, L, 0))) ∧ (¬ ((lg_cmp z9.2 0) = 0) → ¬ z9.2 = 0 ∧ mo_J l mm_Gate_commonDivisor 0 0 0 false (K, R, I, L, 0) Ψ (9, [none, none, none, none, some (.long z9.2), none, some (.long (z9.1 - ((z9.1 / z9.2) * z9.2))), none, some (.int ((nI 128) + 1)), some (.long (z9.1 - ((z9.1 / z9.2) * z9.2))), none], [], (K, R, I, L, 0)))) from ⟨fun c3 => (have d3 : (128 ≤ 128) := (mo_cLE (show (128 : Int32) = nI 128 from rfl) (Eq.refl (nI 128)) (by omega) (by omega)).mp c3; mo_lr ok_Gate_commonDivisor rfl rfl ((by have e : o_Gate_commonDivisor x y = z9.1 := ((mo_sumL e9).trans rfl); rw [e] at hΨ; exact hΨ))), fun c3 => (have d3 : ¬ (128 ≤ 128) := (fun z => c3 ((mo_cLE (show (128 : Int32) = nI 128 from rfl) (Eq.refl (nI 128)) (by omega) (by omega)).mpr z)); absurd d3 (by omega))⟩)) (fun (r9 : Int64 × Int64) e9 => mo_J_run ok_Gate_commonDivisor (fun z => by cases z) [9] 400 _ (show mo_J l mm_Gate_commonDivisor 0 0 0 false (K, R, I, L, 0) Ψ (47, [none, none, none, none, some (.long r9.1), none, none, none, none, none, none], [.long r9.1], (K, R, I, L, 0)) from mo_lr ok_Gate_commonDivisor rfl rfl ((by have e : o_Gate_commonDivisor x y = r9.1 := ((mo_sumR e9).trans rfl); rw [e] at hΨ; exact hΨ)))))))
theorem o_cd_eq {A B : Nat} (hA : A < 2 ^ 63) (hB : B < 2 ^ 62) : o_Gate_commonDivisor (lN A) (lN B) = lN (Nat.gcd A B) := by
  have h : w_Gate_commonDivisor_9 (lN A) (lN B) = .inr (lN (Nat.gcd A B), lN 0) := by
    refine mo_gcd_run (f := b_Gate_commonDivisor_9) (fun i A hA => ?_) (fun i A B h0 hA hB => ?_) 62 128 0 A B hB (by decide) hA (by omega)
    · unfold b_Gate_commonDivisor_9
      exact if_pos (lc_eq0.mpr rfl)
    · unfold b_Gate_commonDivisor_9
      dsimp only
      rw [if_neg (show ¬ lg_cmp (lN B) 0 = 0 from fun z => absurd ((pk_lEQ hB (by decide)).mp (show lN B = lN 0 from lc_eq0.mp z)) (by omega)), pk_lRem hA h0 hB]
  unfold o_Gate_commonDivisor
  rw [h]; rfl
theorem C_part (l : Launch) (K : mo_K) (R : Nat → Nat → Nat) (I : Nat → Nat → Int32) (L : Nat → Nat → Int64) (A B : Nat) (up : Int64) (w : Int32) (hB : B < 2 ^ 62) (hA : A < 2 ^ 63) (h0 : 0 < B) (hu : up = lN A ∨ (up < 0 ∧ -up = lN A)) : mo_D l mm_Model_part 0 [.long up, .long (lN B), .int w] (K, R, I, L, 0) (some (.long (mo_fr (Nat.gcd A B) up (lN B) w))) (K, R, I, L, 0) := by
  refine mo_D_of (by decide +kernel) (Nat.le_of_ble_eq_true rfl) (fun Ψ hΨ => ?_)
  have hg : 0 < Nat.gcd A B := Nat.gcd_pos_of_pos_right _ h0
  have hg2 : Nat.gcd A B < 2 ^ 63 := Nat.lt_of_le_of_lt (Nat.gcd_le_right _ h0) (by omega)
  have hx : mo_J l mm_Model_part 0 0 0 false (K, R, I, L, 0) Ψ (17, [some (.long up), none, some (.long (lN B)), none, some (.int w), some (.long (lN (Nat.gcd A B))), none, some (.long (lN 0)), none, none, none], [], (K, R, I, L, 0)) :=
    mo_J_run ok_Model_part (fun z => by cases z) [17] 400 _ (show (((lg_cmp (lN 0) 0) ≤ 0) → ((w = 0) → ¬ lN (Nat.gcd A B) = 0 ∧ mo_J l mm_Model_part 0 0 0 false (K, R, I, L, 0) Ψ (55, [some (.long up), none, some (.long (lN B)), none, some (.int w), some (.long (lN (Nat.gcd A B))), none, some (.long (lN 0)), none, none, none], [.long (up / lN (Nat.gcd A B))], (K, R, I, L, 0))) ∧ (¬ (w = 0) → ¬ lN (Nat.gcd A B) = 0 ∧ mo_J l mm_Model_part 0 0 0 false (K, R, I, L, 0) Ψ (55, [some (.long up), none, some (.long (lN B)), none, some (.int w), some (.long (lN (Nat.gcd A B))), none, some (.long (lN 0)), none, none, none], [.long (lN B / lN (Nat.gcd A B))], (K, R, I, L, 0)))) ∧ (¬ ((lg_cmp (lN 0) 0) ≤ 0) → ¬ lN 0 = 0 ∧ mo_J l mm_Model_part 0 0 0 false (K, R, I, L, 0) Ψ (17, [some (.long up), none, some (.long (lN B)), none, some (.int w), some (.long (lN 0)), none, some (.long (lN (Nat.gcd A B) - lN (Nat.gcd A B) / lN 0 * lN 0)), none, some (.long (lN (Nat.gcd A B) - lN (Nat.gcd A B) / lN 0 * lN 0)), none], [], (K, R, I, L, 0))) from
      ⟨fun _ => ⟨fun c => ⟨lN_ne0 hg hg2, mo_lr ok_Model_part rfl rfl (by rw [mo_fr, if_pos c] at hΨ; exact hΨ)⟩, fun c => ⟨lN_ne0 hg hg2, mo_lr ok_Model_part rfl rfl (by rw [mo_fr, if_neg c] at hΨ; exact hΨ)⟩⟩, fun c => absurd (by decide) c⟩)
  have loop : ∀ b a : Nat, a < 2 ^ 63 → b < 2 ^ 63 → Nat.gcd a b = Nat.gcd A B → mo_J l mm_Model_part 0 0 0 false (K, R, I, L, 0) Ψ (17, [some (.long up), none, some (.long (lN B)), none, some (.int w), some (.long (lN a)), none, some (.long (lN b)), none, none, none], [], (K, R, I, L, 0)) := by
    intro b
    induction b using Nat.strongRecOn with
    | ind b ih =>
      intro a ha hb hgab
      rcases Nat.eq_zero_or_pos b with e | h
      · subst e
        rw [Nat.gcd_zero_right] at hgab
        rw [hgab]; exact hx
      · have hm := Nat.mod_lt a h
        have g := ih (a % b) hm b hb (by omega) (by rw [← hgab, Nat.gcd_comm a b, Nat.gcd_rec b a, Nat.gcd_comm])
        refine mo_J_run ok_Model_part (fun z => by cases z) [17] 400 _ (show (((lg_cmp (lN b) 0) ≤ 0) → ((w = 0) → ¬ lN a = 0 ∧ mo_J l mm_Model_part 0 0 0 false (K, R, I, L, 0) Ψ (55, [some (.long up), none, some (.long (lN B)), none, some (.int w), some (.long (lN a)), none, some (.long (lN b)), none, none, none], [.long (up / lN a)], (K, R, I, L, 0))) ∧ (¬ (w = 0) → ¬ lN a = 0 ∧ mo_J l mm_Model_part 0 0 0 false (K, R, I, L, 0) Ψ (55, [some (.long up), none, some (.long (lN B)), none, some (.int w), some (.long (lN a)), none, some (.long (lN b)), none, none, none], [.long (lN B / lN a)], (K, R, I, L, 0)))) ∧ (¬ ((lg_cmp (lN b) 0) ≤ 0) → ¬ lN b = 0 ∧ mo_J l mm_Model_part 0 0 0 false (K, R, I, L, 0) Ψ (17, [some (.long up), none, some (.long (lN B)), none, some (.int w), some (.long (lN b)), none, some (.long (lN a - lN a / lN b * lN b)), none, some (.long (lN a - lN a / lN b * lN b)), none], [], (K, R, I, L, 0))) from
          ⟨fun c => absurd (show lN b > lN 0 from (pk_lLT (by decide) hb).mpr h) (lc_le0.mp c), fun _ => ⟨lN_ne0 h hb, ?_⟩⟩)
        rw [pk_lRem ha h hb]
        exact mo_J_le (mo_leS (mo_leS (mo_leS (mo_leS (mo_leS (mo_leS (mo_leS (mo_leS (mo_leS (mo_leN (mo_leS mo_le0))))))))))) g
  have hl := loop B A hA (by omega) rfl
  refine mo_J_run ok_Model_part (fun z => by cases z) [17] 400 _ (show ((0 ≤ (lg_cmp up 0)) → mo_J l mm_Model_part 0 0 0 false (K, R, I, L, 0) Ψ (17, [some (.long up), none, some (.long (lN B)), none, some (.int w), some (.long up), none, some (.long (lN B)), none, none, none], [], (K, R, I, L, 0))) ∧ (¬ (0 ≤ (lg_cmp up 0)) → mo_J l mm_Model_part 0 0 0 false (K, R, I, L, 0) Ψ (17, [some (.long up), none, some (.long (lN B)), none, some (.int w), some (.long (-up)), none, some (.long (lN B)), none, none, none], [], (K, R, I, L, 0))) from ⟨fun c => ?_, fun c => ?_⟩)
  · rcases hu with e | ⟨e, _⟩
    · have e3 : ∀ z : Int64, z = lN A → mo_J l mm_Model_part 0 0 0 false (K, R, I, L, 0) Ψ (17, [some (.long up), none, some (.long (lN B)), none, some (.int w), some (.long z), none, some (.long (lN B)), none, none, none], [], (K, R, I, L, 0)) := fun z hz => by rw [hz]; exact hl
      exact e3 up e
    · exact absurd e (lc_ge0.mp c)
  · rcases hu with e | ⟨_, e⟩
    · exact absurd (lc_ge0.mpr (fun z => by rw [e] at z; exact absurd ((pk_lLT hA (by decide)).mp (show lN A < lN 0 from z)) (Nat.not_lt_zero _))) c
    · rw [e]; exact hl
