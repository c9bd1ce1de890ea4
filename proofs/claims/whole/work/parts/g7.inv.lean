/-! The law's invariant, and what keeps it. -/
/-- a town told alike by both: class at t, reference by its row and its names -/
def wTn (I : Nat → Nat → Int32) (R : Nat → Nat → Nat) (t : Nat) (ρ : Nat → Int32) (ν : Nat → Int64) (T : mo_Tn) : Prop := mo_ct I R t T ∧ mo_now ρ T ∧ mo_fT T ∧ mo_vF T ∧ mo_gT T ∧ mo_sT T ∧ I (R t 0) 7 = w_Model_count_71 T / 2 ∧ mo_ws_ (I (R (R t 0) 3)) ν (tNames T)
def wKp (I : Nat → Nat → Int32) (L : Nat → Nat → Int64) (s : Bool) (k : Nat) : Prop := (((((I 1 13).toUInt32 >>> ((nI k).toUInt32 &&& Int32.toUInt32 31)).toInt32) &&& 1) = 0 ↔ I 135 k = 0) ∧ (¬ I 135 k = 0 → ∃ Tk, wTn I (wR s) (6 + 25 * k) (fun i => I 131 (842 * k + i)) (fun i => L 134 (12 * k + i)) Tk)
def wInv (s : Bool) (I : Nat → Nat → Int32) (L : Nat → Nat → Int64) (T : mo_Tn) (xs : List Nat) : Prop := wTn I (wR s) (wT s) (I 128) (L 132) T ∧ (mo_xp I (wR s) 3 xs ∧ mo_li I 126 2 127 xs) ∧ I 2 1 = I 126 10 ∧ ((∀ m, m < 8 → I 70 m = if I 126 30 = 0 then -1 else I 140 m) ∧ ∀ m, m < 8 → I 71 m = if I 126 31 = 0 then -1 else I 141 m) ∧ wKp I L s 0 ∧ wKp I L s 1
theorem wTn_fr {I J : Nat → Nat → Int32} {R : Nat → Nat → Nat} {t : Nat} {ρ ρ' : Nat → Int32} {ν ν' : Nat → Int64} {T : mo_Tn} (h : wTn I R t ρ ν T) (e : ∀ x ∈ mo_tA R t, J x = I x) (hρ : ρ' = ρ) (hν : ν' = ν) : wTn J R t ρ' ν' T := by
  subst hρ
  subst hν
  obtain ⟨h1, h2, h3, h4, h5, h6, h7, h8⟩ := h
  refine ⟨ct_fr h1 e, h2, h3, h4, h5, h6, ?_, ?_⟩
  · rw [e (R t 0) (List.mem_of_getElem? (i := 1) rfl)]; exact h7
  · rw [e (R (R t 0) 3) (List.mem_of_getElem? (i := 9) rfl)]; exact h8
set_option maxRecDepth 100000 in
theorem w_tA (s : Bool) : ∀ b ∈ [6, 31, 76, 101], ∀ x ∈ mo_tA (wR s) b, b ≤ x ∧ x < b + 25 := by cases s <;> decide +kernel
theorem wS_d : ∀ q, q < 126 → (6 ≤ q ∧ q < 56) ∨ (76 ≤ q ∧ q < 126) → ([56, 58, 59, 60, 61, 62, 63, 64, 65, 66, 67, 69, 72, 73, 74, 129, 130, 136, 139, 143, 144, 145, 146, 147, 148].contains q) = false ∧ (q == 126) = false ∧ (q == 3) = false := by decide +kernel
theorem wS_t (s : Bool) {q : Nat} (h : (6 ≤ q ∧ q < 56) ∨ (wT s ≤ q ∧ q < wT s + 25)) (k : Nat) : wS s q k = false := by
  have hq : ¬ (wD s ≤ q ∧ q < wD s + 25) ∧ q < 126 ∧ ((6 ≤ q ∧ q < 56) ∨ (76 ≤ q ∧ q < 126)) := by
    cases s
    · have h : (6 ≤ q ∧ q < 56) ∨ (76 ≤ q ∧ q < 76 + 25) := h
      show ¬ (101 ≤ q ∧ q < 101 + 25) ∧ _
      omega
    · have h : (6 ≤ q ∧ q < 56) ∨ (101 ≤ q ∧ q < 101 + 25) := h
      show ¬ (76 ≤ q ∧ q < 76 + 25) ∧ _
      omega
  obtain ⟨h1, h2, h3⟩ := hq
  obtain ⟨g1, g2, g3⟩ := wS_d q h2 h3
  unfold wS
  rw [decide_eq_false h1, g1, g2, g3]
  rfl
section F
variable {s : Bool} {I J : Nat → Nat → Int32} {L M : Nat → Nat → Int64} {T : mo_Tn} {xs : List Nat}
theorem FR.row {q : Nat} (hF : FR (wS s) I J) (h : ∀ k, wS s q k = false) : J q = I q := funext (fun k => hF q k (h k))
theorem FR.town {b : Nat} (hF : FR (wS s) I J) (hb : b ∈ [6, 31, 76, 101]) (h : b = 6 ∨ b = 31 ∨ b = wT s) : ∀ x ∈ mo_tA (wR s) b, J x = I x := fun x hx => by
  have := w_tA s b hb x hx
  refine hF.row (wS_t s ?_)
  rcases h with h | h | h
  · left; omega
  · left; omega
  · right; rw [← h]; exact this
theorem wT_in (s : Bool) : wT s ∈ [6, 31, 76, 101] := by cases s <;> decide
theorem wInv_fr (hI : wInv s I L T xs) (hF : FR (wS s) I J) (hL : FL wSL L M) : wInv s J M T xs := by
  obtain ⟨h1, ⟨h2, h3⟩, h4, ⟨h5, h6⟩, ⟨k0, k0'⟩, ⟨k1, k1'⟩⟩ := hI
  have r : ∀ q, (∀ k, wS s q k = false) → J q = I q := fun q h => hF.row h
  have e128 : J 128 = I 128 := r 128 (fun k => by cases s <;> rfl)
  have e127 : J 127 = I 127 := r 127 (fun k => by cases s <;> rfl)
  have e131 : J 131 = I 131 := r 131 (fun k => by cases s <;> rfl)
  have e135 : J 135 = I 135 := r 135 (fun k => by cases s <;> rfl)
  have e140 : J 140 = I 140 := r 140 (fun k => by cases s <;> rfl)
  have e141 : J 141 = I 141 := r 141 (fun k => by cases s <;> rfl)
  have e70 : J 70 = I 70 := r 70 (fun k => by cases s <;> rfl)
  have e71 : J 71 = I 71 := r 71 (fun k => by cases s <;> rfl)
  have e4 : J 4 = I 4 := r 4 (fun k => by cases s <;> rfl)
  have e1 : J 1 = I 1 := r 1 (fun k => by cases s <;> rfl)
  have e2 : J 2 = I 2 := r 2 (fun k => by cases s <;> rfl)
  have f2 : J 126 2 = I 126 2 := hF 126 2 (by cases s <;> rfl)
  have f10 : J 126 10 = I 126 10 := hF 126 10 (by cases s <;> rfl)
  have f30 : J 126 30 = I 126 30 := hF 126 30 (by cases s <;> rfl)
  have f31 : J 126 31 = I 126 31 := hF 126 31 (by cases s <;> rfl)
  have f3 : J 3 1 = I 3 1 := hF 3 1 (by cases s <;> rfl)
  have l132 : M 132 = L 132 := hL 132 rfl
  have l134 : M 134 = L 134 := hL 134 rfl
  have w4 : wR s 3 0 = 4 := w_V s (3, 0, 4) (by decide)
  refine ⟨wTn_fr h1 (hF.town (wT_in s) (Or.inr (Or.inr rfl))) e128 l132, ⟨⟨?_, h2.2.1, ?_⟩, ?_, ?_⟩, ?_, ⟨?_, ?_⟩, ⟨?_, ?_⟩, ⟨?_, ?_⟩⟩
  · rw [f3]; exact h2.1
  · intro k hk
    have := h2.2.2 k hk
    rw [w4] at this ⊢
    rw [e4]; exact this
  · rw [f2]; exact h3.1
  · intro k hk; rw [e127]; exact h3.2 k hk
  · rw [e2, f10]; exact h4
  · intro m hm; rw [e70, f30, e140]; exact h5 m hm
  · intro m hm; rw [e71, f31, e141]; exact h6 m hm
  · rw [e1, e135]; exact k0
  · rw [e135]
    intro z
    obtain ⟨Tk, hk⟩ := k0' z
    exact ⟨Tk, wTn_fr hk (hF.town (b := 6) (by decide) (Or.inl rfl)) (by rw [e131]) (by rw [l134])⟩
  · rw [e1, e135]; exact k1
  · rw [e135]
    intro z
    obtain ⟨Tk, hk⟩ := k1' z
    exact ⟨Tk, wTn_fr hk (hF.town (b := 31) (by decide) (Or.inr (Or.inl rfl))) (by rw [e131]) (by rw [l134])⟩
theorem wN (hI : wInv s I L T xs) : mo_now (I (wR s 126 14)) T := by
  rw [w_V s (126, 14, 128) (by decide)]
  exact hI.1.2.1
theorem wX (hI : wInv s I L T xs) : mo_li I 126 2 (wR s 126 1) xs := by
  rw [w_V s (126, 1, 127) (by decide)]
  exact hI.2.1.2
theorem wC (hI : wInv s I L T xs) : mo_ct I (wR s) (wT s) T := hI.1.1
theorem wv (hI : wInv s I L T xs) : mo_vT T := hI.1.2.1.1
theorem wF (hI : wInv s I L T xs) : mo_fT T := hI.1.2.2.1
end F
/-- of what kind an answer is -/
def tyOK (r : Option ClassFile.FieldType) (v : Value) : Prop := match r with
  | some .long => ∃ x, v = .long x
  | _ => ∃ x, v = .int x
/-- a call of both: the class first, then the reference, with one answer -/
def wPair (l : Launch) (Mg : mo_M) (dg : Nat) (ag : List Value) (Mm : mo_M) (dm : Nat) (am : List Value) (s : Bool) (I : Nat → Nat → Int32) (L : Nat → Nat → Int64) : Prop :=
  ∃ Ψ1 : Option Value → mo_S → Prop, mo_C l Mg dg 0 0 false ag (wK, wR s, I, L, 0) Ψ1 ∧ ∀ r1 K1 R1 I1 L1 x1, Ψ1 r1 (K1, R1, I1, L1, x1) → ∃ (v : Value) (s1 : Bool), r1 = some v ∧ tyOK Mg.2.2.2 v ∧ K1 = wK ∧ R1 = wR s1 ∧ x1 = 0 ∧
    ∃ Ψ2 : Option Value → mo_S → Prop, mo_C l Mm dm 0 0 false am (wK, wR s1, I1, L1, 0) Ψ2 ∧ ∀ r2 K2 R2 I2 L2 x2, Ψ2 r2 (K2, R2, I2, L2, x2) → r2 = some v ∧ K2 = wK ∧ R2 = wR s1 ∧ x2 = 0 ∧ ∃ T xs, wInv s1 I2 L2 T xs
theorem wPair_D {l : Launch} {Mg Mm : mo_M} {dg dm : Nat} {ag am : List Value} {s s1 : Bool} {I I1 I2 : Nat → Nat → Int32} {L L1 L2 : Nat → Nat → Int64} {v v' : Value} {T : mo_Tn} {xs : List Nat} (c1 : mo_D l Mg dg ag (wK, wR s, I, L, 0) (some v) (wK, wR s1, I1, L1, 0)) (c2 : mo_D l Mm dm am (wK, wR s1, I1, L1, 0) (some v') (wK, wR s1, I2, L2, 0)) (hv : v = v') (hI : wInv s1 I2 L2 T xs) (ht : tyOK Mg.2.2.2 v := by exact ⟨_, rfl⟩) : wPair l Mg dg ag Mm dm am s I L := by
  subst hv
  refine ⟨_, c1, fun r1 K1 R1 J1 M1 x1 h => ?_⟩
  obtain ⟨h, rfl⟩ := h
  cases h
  refine ⟨v, s1, rfl, ht, rfl, rfl, rfl, _, c2, fun r2 K2 R2 J2 M2 x2 h => ?_⟩
  obtain ⟨h, rfl⟩ := h
  cases h
  exact ⟨rfl, rfl, rfl, rfl, T, xs, hI⟩
