/-! Sights that were read are told alike. -/
/-- a town with these sights -/
def tSee (T : mo_Tn) (q : Nat) (a : Nat → Int32) : mo_Tn := (fun k => if k = 6 then q else T.1 k, fun f m => if f = 16 then (a (3 * m)).toNatClampNeg else T.2.1 f m, fun f m => if f = 17 then a (3 * m + 1) else if f = 18 then a (3 * m + 2) else T.2.2.1 f m, T.2.2.2)
theorem see_v {T : mo_Tn} (hv : mo_vT T) {q : Nat} {a : Nat → Int32} (hq : q ≤ 16) (ha : ∀ k, k < q → (a (3 * k)).toNatClampNeg < tNames T) : mo_vT (tSee T q a) := by
  obtain ⟨h1, h2, h3, h4, h5, h6, h7, h8, h9, h10, h11, h12, h13, h14, h15, h16, h17, h18, h19, h20, h21, h22⟩ := hv
  exact ⟨h1, h2, h3, h4, h5, h6, hq, h8, h9, h10, h11, h12, h13, h14, h15, h16, h17, h18, h19, h20, ha, h22⟩
theorem see_71 {T : mo_Tn} {q : Nat} {a : Nat → Int32} : w_Model_count_71 (tSee T q a) = w_Model_count_71 T := by
  unfold w_Model_count_71
  show mo_it (b_Model_count_71 (tSee T q a)) (tMen T) 0 0 = _
  exact mo_it_congr (fun j _ _ t => rfl)
theorem see_T {s : Bool} {t : Nat} (ht : t ∈ [6, 31, 76, 101]) {I F : Nat → Nat → Int32} {ρ ρ' a : Nat → Int32} {ν : Nat → Int64} {T : mo_Tn} {q : Nat} (hT : wTn I (wR s) t ρ ν T) (hq : q ≤ 16) (row : ∀ x, t ≤ x → x < t + 22 → F x = I x) (e22 : F (t + 22) 2 = nI q)
    (hs : ∀ k, k < q → ∃ n m, n < tNames T ∧ m < 256 ∧ F (t + 23) k = nI n ∧ a (3 * k) = nI n ∧ a (3 * k + 2) = nI m ∧ ((a (3 * k + 1) = 1 ∧ F (t + 24) k = nI m) ∨ (a (3 * k + 1) = 0 ∧ F (t + 24) k = nI m ^^^ (-1))))
    (r1 : ∀ j, j < 793 → ρ' j = ρ j) (r2 : ρ' 793 = nI q) (r3 : ∀ j, j < 3 * q → ρ' (794 + j) = a j) : wTn F (wR s) t ρ' ν (tSee T q a) := by
  obtain ⟨hc, hn, hf, hF, hg, _, h7, hw⟩ := hT
  have hv := hn.1
  have b0 := vT_tMen hv; have b1 := vT_tNames hv; have b2 := vT_tComs hv; have b3 := vT_tBrs hv; have b4 := vT_tOws hv
  have hv' : mo_vT (tSee T q a) := see_v hv hq (fun k hk => by
    obtain ⟨n, m, k1, k2, k3, k4, k5⟩ := hs k hk
    rw [mo_ncl k4 (by omega)]; exact k1)
  unfold mo_ct at hc
  rw [wb0 s ht, wb1 s ht, wb2 s ht, wb3 s ht, wb4 s ht, wb5 s ht, wb6 s ht, wb7 s ht, wb9 s ht, wb10 s ht, wb11 s ht, wb12 s ht, wb13 s ht, wb14 s ht, wb15 s ht, wb16 s ht, wb17 s ht, wb18 s ht, wb19 s ht, wb20 s ht, wb21 s ht, wb22 s ht, wb23 s ht] at hc
  rw [wb0 s ht] at h7
  rw [wb0 s ht, wb8 s ht] at hw
  obtain ⟨_, a1, a2, a3, a4, a5, a6, _, a8, a9, a10, a11, a12, a13, a14, a15, a16, a17, a18, a19, a20, a21, a22, a23, _⟩ := hc
  obtain ⟨_, n1, n2, n3, n4, n5, n6, _, n8, n9, n10, n11, n12, n13, n14, n15, n16, n17, n18, n19, n20, n21, n22, n23, _, _, _, n27⟩ := hn
  refine ⟨?_, ?_, hf, hF, hg, ?_, ?_, ?_⟩
  · unfold mo_ct
    rw [wb0 s ht, wb1 s ht, wb2 s ht, wb3 s ht, wb4 s ht, wb5 s ht, wb6 s ht, wb7 s ht, wb9 s ht, wb10 s ht, wb11 s ht, wb12 s ht, wb13 s ht, wb14 s ht, wb15 s ht, wb16 s ht, wb17 s ht, wb18 s ht, wb19 s ht, wb20 s ht, wb21 s ht, wb22 s ht, wb23 s ht, row t (by omega) (by omega), row (t + 1) (by omega) (by omega), row (t + 7) (by omega) (by omega), row (t + 13) (by omega) (by omega), row (t + 17) (by omega) (by omega), row (t + 2) (by omega) (by omega), row (t + 3) (by omega) (by omega), row (t + 4) (by omega) (by omega), row (t + 6) (by omega) (by omega), row (t + 8) (by omega) (by omega), row (t + 9) (by omega) (by omega), row (t + 10) (by omega) (by omega), row (t + 11) (by omega) (by omega), row (t + 12) (by omega) (by omega), row (t + 14) (by omega) (by omega), row (t + 15) (by omega) (by omega), row (t + 16) (by omega) (by omega), row (t + 18) (by omega) (by omega), row (t + 19) (by omega) (by omega), row (t + 20) (by omega) (by omega), row (t + 21) (by omega) (by omega)]
    refine ⟨hv', a1, a2, a3, a4, a5, a6, e22, a8, a9, a10, a11, a12, a13, a14, a15, a16, a17, a18, a19, a20, a21, a22, a23, fun m hm => ?_, fun m hm => ?_⟩
    · obtain ⟨n, z, k1, k2, k3, k4, k5⟩ := hs m hm
      show F (t + 23) m = nI (a (3 * m)).toNatClampNeg
      rw [mo_ncl k4 (by omega)]; exact k3
    · obtain ⟨n, z, k1, k2, k3, k4, k5, k6⟩ := hs m hm
      show F (t + 24) m = if a (3 * m + 1) = 1 then a (3 * m + 2) else a (3 * m + 2) ^^^ (-1)
      rcases k6 with ⟨k6, k7⟩ | ⟨k6, k7⟩
      · rw [if_pos k6, k5]; exact k7
      · rw [if_neg (by rw [k6]; decide), k5]; exact k7
  · refine ⟨hv', (r1 0 (by omega)).trans n1, (r1 1 (by omega)).trans n2, (r1 2 (by omega)).trans n3, (r1 3 (by omega)).trans n4, (r1 4 (by omega)).trans n5, (r1 552 (by omega)).trans n6, r2, fun m (hm : m < tMen T) => (r1 _ (by omega)).trans (n8 m hm), fun m (hm : m < tMen T) => (r1 _ (by omega)).trans (n9 m hm), fun m (hm : m < tMen T) => (r1 _ (by omega)).trans (n10 m hm), fun m (hm : m < tComs T) => (r1 _ (by omega)).trans (n11 m hm), fun m (hm : m < tComs T) => (r1 _ (by omega)).trans (n12 m hm), fun m (hm : m < tComs T) => (r1 _ (by omega)).trans (n13 m hm), fun m (hm : m < tComs T) => (r1 _ (by omega)).trans (n14 m hm), fun m (hm : m < tBrs T) => (r1 _ (by omega)).trans (n15 m hm), fun m (hm : m < tBrs T) => (r1 _ (by omega)).trans (n16 m hm), fun m (hm : m < tBrs T) => (r1 _ (by omega)).trans (n17 m hm), fun m (hm : m < tBrs T) => (r1 _ (by omega)).trans (n18 m hm), fun m (hm : m < tBrs T) => (r1 _ (by omega)).trans (n19 m hm), fun m (hm : m < tOws T) => (r1 _ (by omega)).trans (n20 m hm), fun m (hm : m < tOws T) => (r1 _ (by omega)).trans (n21 m hm), fun m (hm : m < tOws T) => (r1 _ (by omega)).trans (n22 m hm), fun m (hm : m < tOws T) => (r1 _ (by omega)).trans (n23 m hm), fun m (hm : m < q) => ?_, fun m (hm : m < q) => r3 (3 * m + 1) (by omega), fun m (hm : m < q) => r3 (3 * m + 2) (by omega), fun d m hd hm => (r1 _ (by omega)).trans (n27 d m hd hm)⟩
    obtain ⟨n, z, k1, k2, k3, k4, k5⟩ := hs m hm
    exact (r3 (3 * m) (by omega)).trans (rd_cl k4 (by omega))
  · intro k hk
    obtain ⟨n, z, k1, k2, k3, k4, k5, k6⟩ := hs k hk
    exact ⟨z, k2, k5⟩
  · rw [wb0 s ht, see_71, row (t + 1) (by omega) (by omega)]; exact h7
  · rw [wb0 s ht, wb8 s ht, row (t + 5) (by omega) (by omega)]; exact hw
def Qs (q k : Nat) : Bool := q == 130 || (q == 126 && (k == 10 || (k == 11 || k == 33)))
theorem wP_Qs {s : Bool} {I J : Nat → Nat → Int32} (h : FR Qs I J) : FR (wP s eF) I J := h.mono (fun q k z => by
  simp only [Qs, Bool.or_eq_true, Bool.and_eq_true, beq_iff_eq] at z
  rcases z with rfl | ⟨rfl, rfl | rfl | rfl⟩
  · exact wP_w (by cases s <;> rfl)
  · exact wP_e rfl
  · exact wP_w (by cases s <;> rfl)
  · exact wP_w (by cases s <;> rfl))
theorem mS0_F {s : Bool} {J : Nat → Nat → Int32} {xs : List Nat} : FR (wP s eF) J (mS0 J xs) ∧ mS0 J xs 126 2 = 0 := by
  unfold mS0 mBg
  exact ⟨FR.up (wP_w (by cases s <;> rfl)) (FR.up (wP_w (by cases s <;> rfl)) (FR.up (wP_e rfl) (FR.up (wP_w (by cases s <;> rfl)) (FR.up (wP_w (by cases s <;> rfl)) (FR.up (wP_e rfl) (FR.up (wP_w (by cases s <;> rfl)) FR.rf)))))), by rw [up_ne (by omega), up_ne (by omega), up_ne (by omega), up_ne (by omega), up_ne (by omega), mo_upA]⟩
theorem mS0_q {J : Nat → Nat → Int32} {xs : List Nat} {q : Nat} (h : q ≠ 126) : mS0 J xs q = J q := by
  unfold mS0 mBg
  rw [mo_upR h, mo_upR h, mo_upR h, mo_upR h, mo_upR h, mo_upR h, mo_upR h]
theorem sights_35 {s' : Bool} {r : (Nat → Nat → Int32) × Nat × (Nat → Nat → Int64)} {q : Nat} (hq : mQ r.1 126 = q) : (∀ j, j < 3 * q → w_Model_sights_35 (wR s') 126 r 128 (794 + j) = r.1 130 j) ∧ (∀ j, j < 794 → w_Model_sights_35 (wR s') 126 r 128 j = r.1 128 j) ∧ ∀ x, x ≠ 128 → w_Model_sights_35 (wR s') 126 r x = r.1 x := by
  have key := mo_it_inv (f := (b_Model_sights_35 (wR s') 126)) (fun k t => (∀ j, j < k → t 128 (794 + j) = r.1 130 j) ∧ (∀ j, j < 794 → t 128 j = r.1 128 j) ∧ ∀ x, x ≠ 128 → t x = r.1 x) (k := 3 * q) (i := 0) (s := r.1) ⟨fun j z => absurd z (Nat.not_lt_zero j), fun _ _ => rfl, fun _ _ => rfl⟩ (fun k t _ _ ht => by
    unfold b_Model_sights_35
    rw [w130 s', w_128 s']
    refine ⟨fun j hj => ?_, fun j hj => ?_, fun x hx => ?_⟩
    · by_cases c : j = k
      · subst c; rw [mo_upA, ht.2.2 130 (by decide)]
      · rw [up_ne (by omega)]; exact ht.1 j (by omega)
    · rw [up_ne (by omega)]; exact ht.2.1 j hj
    · rw [mo_upR hx]; exact ht.2.2 x hx)
  unfold w_Model_sights_35
  rw [hq]
  exact ⟨fun j hj => key.1 j (by omega), key.2.1, key.2.2⟩
theorem w_rsn (s : Bool) : mo_rr wK (wR s) 2 3 (wT s + 1) (wD s + 7) (wD s + 13) (wD s + 17) (wD s + 22) := by
  have h := w_rs s
  rw [wb0 s (wT_in s), wb1 s (wD_in s), wb2 s (wD_in s), wb3 s (wD_in s), wb4 s (wD_in s)] at h
  exact h
theorem rl_of {s : Bool} {t : Nat} (ht : t ∈ [6, 31, 76, 101]) {I : Nat → Nat → Int32} {ρ : Nat → Int32} {ν : Nat → Int64} {T : mo_Tn} (hT : wTn I (wR s) t ρ ν T) : mo_rl_ I (wR s) (t + 1) := by
  have hc := hT.1
  have hv := hT.2.1.1
  have e1 := ct_tMen (T := T) hc
  have e2 := ct_tNames (T := T) hc
  rw [wb0 s ht] at e1 e2
  refine mo_rl_of (O := tow T) e1 (vT_tMen hv) e2 (vT_tNames hv) (fun k hk => ⟨?_, fun v e => tow_lt hv e⟩)
  have ho := ct_ow (T := T) hc hk
  rw [wb0 s ht] at ho
  exact ho
theorem kS_w (s : Bool) : mo_kSights wK (wR s) (wT s + 22) ∧ mo_kSights wK (wR s) (wD s + 22) := by
  cases s
  · exact ⟨⟨by decide +kernel, ⟨by decide +kernel, by decide +kernel⟩, by decide +kernel, by decide +kernel⟩, ⟨by decide +kernel, ⟨by decide +kernel, by decide +kernel⟩, by decide +kernel, by decide +kernel⟩⟩
  · exact ⟨⟨by decide +kernel, ⟨by decide +kernel, by decide +kernel⟩, by decide +kernel, by decide +kernel⟩, ⟨by decide +kernel, ⟨by decide +kernel, by decide +kernel⟩, by decide +kernel, by decide +kernel⟩⟩
/-- the class's sights are copied -/
def cpS (d t : Nat) (X : Nat → Nat → Int32) : Nat → Nat → Int32 := mo_up (mo_cp (mo_cp X (d + 23) (t + 23) 0 0 16) (d + 24) (t + 24) 0 0 16) (t + 22) 2 (X (d + 22) 2)
theorem cpS_q {d t : Nat} {X : Nat → Nat → Int32} {x : Nat} (h : x < t + 22 ∨ t + 25 ≤ x) : cpS d t X x = X x := by
  unfold cpS
  rw [mo_upR (by omega), cpR (by omega), cpR (by omega)]
/-- what the reading of sights leaves alone -/
def eV (s : Bool) (q k : Nat) : Bool := eN q k || decide (wT s ≤ q ∧ q < wT s + 25)
theorem eV_E (s : Bool) : ∀ q k, ((6 ≤ q ∧ q < 56) ∨ q = 1 ∨ q = 70 ∨ q = 71 ∨ q = 131 ∨ q = 135 ∨ q = 140 ∨ q = 141) ∨ (q = 126 ∧ (k = 30 ∨ k = 31)) → eV s q k = false := fun q k h => by
  have := wT_lt s
  unfold eV
  rw [eN_E q k h, decide_eq_false (by omega)]; rfl
theorem wP_eV {s : Bool} {I J : Nat → Nat → Int32} (h : FR (wP s eF) I J) : FR (wP s (eV s)) I J := (wP_eN h).mono (fun q k z => by
  unfold wP at z ⊢
  cases c : wS s q k with
  | true => rfl
  | false =>
    rw [c] at z
    have z : eN q k = true := z
    unfold eV
    rw [z]; rfl)
theorem eK_m {s : Bool} {I J : Nat → Nat → Int32} (h : FR (eK s) I J) {q : Nat} (hq : q = 126 ∨ q = 127 ∨ q = 128) : J q = I q := eK_q h (by omega) (by have := wD_lt s; omega)
theorem eK_t {s : Bool} {I J : Nat → Nat → Int32} (h : FR (eK s) I J) {q : Nat} (h1 : wT s ≤ q) (h2 : q < wT s + 25) : J q = I q := by
  have hD : (wT s = 76 ∧ wD s = 101) ∨ (wT s = 101 ∧ wD s = 76) := by cases s; exact Or.inl ⟨rfl, rfl⟩; exact Or.inr ⟨rfl, rfl⟩
  exact eK_q h (by omega) (by omega)
theorem eF_t {s : Bool} {q k : Nat} (h : (wT s ≤ q ∧ q < wT s + 25) ∨ q = 128) : eF q k = false := eF_f (by have := wT_lt s; omega)
theorem wT_m (s : Bool) {q : Nat} (hq : q = 126 ∨ q = 127 ∨ q = 128) : q < wT s + 22 ∨ wT s + 25 ≤ q := by have := wT_lt s; omega
theorem P_sights (l : Launch) {s : Bool} {I : Nat → Nat → Int32} {L : Nat → Nat → Int64} {T : mo_Tn} {xs : List Nat} (hI : wInv s I L T xs) : wPair l mm_Gate_sights 6 [.ref 1] mm_Model_sights 5 [.ref 126] s I L := by
  have hX := hI.2.1.1
  have hb := wD_in s
  have ht := wT_in s
  have hDT : (wT s = 76 ∧ wD s = 101) ∨ (wT s = 101 ∧ wD s = 76) := by cases s; exact Or.inl ⟨rfl, rfl⟩; exact Or.inr ⟨rfl, rfl⟩
  have hx := hX.2.1
  have hbt : ∀ k, k < xs.length → xs.getD k 0 < 256 := fun k hk => (hX.2.2 k hk).2
  have hK : ∀ q k, wD s ≤ q → q < wD s + 25 → eK s q k = true := fun q k h1 h2 => by unfold eK; rw [decide_eq_true ⟨h1, h2⟩]; rfl
  have hK2 : eK s 2 1 = true := by cases s <;> rfl
  have hK3 : ∀ k, eK s 3 k = true := fun k => by cases s <;> rfl
  have hKt : ∀ q k, wT s ≤ q → q < wT s + 25 → eK s q k = false := fun q k h1 h2 => by
    unfold eK
    rw [decide_eq_false (by omega), bq (by omega), bq (by omega)]; rfl
  have hD := rl_of ht hI.1
  have run : ∀ (J : Nat → Nat → Int32), mo_li J 126 2 (wR s 126 1) xs → ∃ r r', w_Reader_readSights_22 (wR s) I 2 3 (wT s + 1) (wD s + 22) xs = .inr r ∧ w_Model_sights_12 (wR s) J L 126 xs (I (wT s + 5)) (tNames T) (tow T) = .inr r' ∧ endS (wD s) (tNames T) (eK s) Qs I (mS0 J xs) L r r' := fun J hJ => sights_loop (P := eK s) (Q := Qs) hb ht (w_rsn s) hK hK2 hK3 hKt rfl rfl rfl (fun _ => rfl) hI.1 hX hD hJ
  obtain ⟨r, _, er, _, hF0, _⟩ := run I (read_li hI (fun _ _ => rfl))
  have eG : o_Gate_sights (wR s) I 1 xs (wT s) (wD s) = (if r.1 < 0 then (r.1, mo_up (tkI xs 300 r.2.1 3 r.2.2) 3 1 0) else (r.1, cpS (wD s) (wT s) (mo_up (tkI xs 300 r.2.1 3 r.2.2) 3 1 0))) := by
    unfold o_Gate_sights o_Reader_readSights cp_Sights cpS
    rw [w_10r s, w_11t s, wb0 s ht, wb4 s hb, wb4 s ht, wb22 s hb, wb23 s hb, wb22 s ht, wb23 s ht, er]
    rfl
  have c1 := C_Gate_sights l wK (wR s) I L 1 xs (wT s) (wD s) (by decide +kernel) (by rw [w_10r s]; decide +kernel) (by rw [w_11t s]; exact w_tb s) (by rw [w_10r s, w_11t s]; exact w_rs s) (by rw [w_11t s]; exact hX) (by cases s <;> decide +kernel) (wD_kd s) (w_11 s) (w_12 s) (by rw [wb0 s ht]; exact hD) (by rw [wb4 s ht]; exact (kS_w s).1) (by rw [wb4 s hb]; exact (kS_w s).2)
  rw [eG] at c1
  have hF1 : FR (eK s) I (mo_up (tkI xs 300 r.2.1 3 r.2.2) 3 1 0) := FR.up (hK3 _) (FR.tk hK3 hF0)
  have h31 : mo_up (tkI xs 300 r.2.1 3 r.2.2) 3 1 0 3 1 = 0 := mo_upA _ _ _ _
  have h21 : mo_up (tkI xs 300 r.2.1 3 r.2.2) 3 1 0 2 1 = r.2.1 2 1 := by rw [up_ne (by omega), tkI_q (by decide)]
  have hrow : ∀ q, wD s ≤ q → q < wD s + 25 → mo_up (tkI xs 300 r.2.1 3 r.2.2) 3 1 0 q = r.2.1 q := fun q h1 h2 => by
    rw [mo_upR (by omega), tkI_q (by omega)]
  generalize mo_up (tkI xs 300 r.2.1 3 r.2.2) 3 1 0 = J at c1 hF1 h31 h21 hrow
  have f5 : ∀ j, 5 ≤ j → j ≤ 9 → wS s 126 j = true := fun j h1 h2 => by
    have : j = 5 ∨ j = 6 ∨ j = 7 ∨ j = 8 ∨ j = 9 := by omega
    rcases this with rfl | rfl | rfl | rfl | rfl <;> cases s <;> rfl
  by_cases neg : r.1 < 0
  · have hJq : ∀ q, q = 126 ∨ q = 127 → J q = I q := fun q h => eK_m hF1 (h.elim Or.inl (fun h => Or.inr (Or.inl h)))
    rw [if_pos neg] at c1
    have c1 : mo_D l mm_Gate_sights 6 [.ref 1] (wK, wR s, I, L, 0) (some (.int r.1)) (wK, wR s, J, L, 0) := c1
    obtain ⟨r2, r', er2, er', _, hE⟩ := run J (read_li hI hJq)
    have e2 : r2 = r := Sum.inr.inj (er2.symm.trans er)
    subst e2
    rcases hE with ⟨n, B, p, rfl, e1, hn, _⟩ | ⟨k, B, p, rfl, e1, hk, hf, fQ⟩
    · rw [e1] at neg
      exact absurd ((mo_cLT (a := nI n) (b := 0) (A := n) (B := 0) rfl rfl (by omega) (by decide)).mp neg) (Nat.not_lt_zero n)
    · have eM : o_Model_sights (wR s) J L 126 xs (I (wT s + 5)) (tNames T) (tow T) = (-1 - nI k, B, p, L) := by
        unfold o_Model_sights
        rw [er']
        rfl
      have c2 := C_Model_sights l wK (wR s) J L 126 xs (I (wT s + 5)) (tNames T) (tMen T) (tow T) (w_md s) (read_li hI hJq) hx hbt (by rw [w_128 s, w_132 s]; exact tq_of ht hI.1 (eK_m hF1 (Or.inr (Or.inr rfl))))
      rw [eM] at c2
      have c2 : mo_E l mm_Model_sights 5 [.ref 126] (wK, wR s, J, L, 0) (some (.int (-1 - nI k))) wK (wR s) xs 300 B 126 p L := c2
      refine wPair_E (s1 := s) c1 c2 (congrArg Value.int e1) (fun u v w => ⟨T, [], ?_⟩)
      have g0 : FR (wP s eF) J B := (mS0_F (s := s)).1.trans (wP_Qs fQ)
      have g1 : FR (wP s eF) I (rtI xs 300 B 126 p u v) := FR.rt (fun j h1 h2 => wP_w (f5 j h1 h2)) ((eK_F hF1).trans g0)
      have b2 : B 126 2 = 0 := (fQ 126 2 rfl).trans (mS0_F (s := s)).2
      have b31 : B 3 1 = 0 := (fQ 3 1 rfl).trans ((congrFun (mS0_q (by decide)) 1).trans h31)
      have b21 : B 2 1 = J 2 1 := (fQ 2 1 rfl).trans (congrFun (mS0_q (by decide)) 1)
      refine wInv_read hI (wP_eN g1) eN_E ?_ (cT_k hI g1 (fun q k h => ?_) ?_) ?_ ?_ ?_
      · rw [mo_upR (by decide)]
      · exact eF_t h
      · rw [mo_upR (by decide)]
      · rw [rtI_q (by decide)]; exact b31
      · rw [rtI_a (by decide)]; exact b2
      · rw [rtI_q (by decide), rtI_a (by decide), b21, h21]; exact hf
  · have hJ1 : ∀ x, (x < wT s + 22 ∨ wT s + 25 ≤ x) → cpS (wD s) (wT s) J x = J x := fun x h => cpS_q h
    have hJq : ∀ q, q = 126 ∨ q = 127 → cpS (wD s) (wT s) J q = I q := fun q h => (hJ1 q (wT_m s (h.elim Or.inl (fun h => Or.inr (Or.inl h))))).trans (eK_m hF1 (h.elim Or.inl (fun h => Or.inr (Or.inl h))))
    rw [if_neg neg] at c1
    have c1 : mo_D l mm_Gate_sights 6 [.ref 1] (wK, wR s, I, L, 0) (some (.int r.1)) (wK, wR s, cpS (wD s) (wT s) J, L, 0) := c1
    obtain ⟨r2, r', er2, er', _, hE⟩ := run (cpS (wD s) (wT s) J) (read_li hI hJq)
    have e2 : r2 = r := Sum.inr.inj (er2.symm.trans er)
    subst e2
    rcases hE with ⟨q, B, p, rfl, e1, hq, hS, hf, fQ⟩ | ⟨k, B, p, rfl, e1, hk, _⟩
    · have eQ : mQ B 126 = q := mo_ncl hS.2.1 (by omega)
      have eM : o_Model_sights (wR s) (cpS (wD s) (wT s) J) L 126 xs (I (wT s + 5)) (tNames T) (tow T) = (nI q, mo_up (w_Model_sights_35 (wR s) 126 (B, p, L)) 128 793 (nI q), p, L) := by
        unfold o_Model_sights
        rw [er', ← w_128 s, ← eQ]
        rfl
      have c2 := C_Model_sights l wK (wR s) (cpS (wD s) (wT s) J) L 126 xs (I (wT s + 5)) (tNames T) (tMen T) (tow T) (w_md s) (read_li hI hJq) hx hbt (by rw [w_128 s, w_132 s]; exact tq_of ht hI.1 ((hJ1 128 (wT_m s (Or.inr (Or.inr rfl)))).trans (eK_m hF1 (Or.inr (Or.inr rfl)))))
      rw [eM] at c2
      have c2 : mo_E l mm_Model_sights 5 [.ref 126] (wK, wR s, cpS (wD s) (wT s) J, L, 0) (some (.int (nI q))) wK (wR s) xs 300 (mo_up (w_Model_sights_35 (wR s) 126 (B, p, L)) 128 793 (nI q)) 126 p L := c2
      obtain ⟨q1, q2, q3⟩ := sights_35 (s' := s) (r := (B, p, L)) eQ
      generalize w_Model_sights_35 (wR s) 126 (B, p, L) = F at c2 q1 q2 q3
      have q1 : ∀ j, j < 3 * q → F 128 (794 + j) = B 130 j := q1
      have q2 : ∀ j, j < 794 → F 128 j = B 128 j := q2
      have q3 : ∀ x, x ≠ 128 → F x = B x := q3
      refine wPair_E (s1 := s) c1 c2 (congrArg Value.int e1) (fun u v w => ⟨tSee T q (B 130), [], ?_⟩)
      have bx : ∀ x, x ≠ 126 → x ≠ 130 → B x = cpS (wD s) (wT s) J x := fun x h1 h2 => funext (fun k => (fQ x k (by unfold Qs; rw [bq h2, bq h1]; rfl)).trans (congrFun (mS0_q h1) k))
      have fx : ∀ x, x ≠ 126 → x ≠ 128 → rtI xs 300 (mo_up F 128 793 (nI q)) 126 p u v x = B x := fun x h1 h2 => by rw [rtI_q h1, mo_upR h2]; exact q3 x h2
      have g1 : FR (wP s (eV s)) I (rtI xs 300 (mo_up F 128 793 (nI q)) 126 p u v) := by
        refine FR.rt (fun j h1 h2 => wP_w (f5 j h1 h2)) (FR.up (wP_e (by unfold eV eN; rfl)) ?_)
        have a1 : FR (wP s (eV s)) I (cpS (wD s) (wT s) J) := by
          have hv : ∀ x k, wT s ≤ x → x < wT s + 25 → wP s (eV s) x k = true := fun x k h1 h2 => wP_e (by unfold eV; rw [decide_eq_true ⟨h1, h2⟩, Bool.or_true])
          unfold cpS
          exact FR.up (hv _ _ (by omega) (by omega)) (FR.cp (fun k => hv _ _ (by omega) (by omega)) (FR.cp (fun k => hv _ _ (by omega) (by omega)) (wP_eV (eK_F hF1))))
        have a2 : FR (wP s (eV s)) (cpS (wD s) (wT s) J) B := wP_eV ((mS0_F (s := s)).1.trans (wP_Qs fQ))
        have a3 : FR (wP s (eV s)) B F := fun x k z => by
          have hx : x ≠ 128 := fun e => by rw [e, wP_e (show eV s 128 k = true by unfold eV eN; rfl)] at z; cases z
          exact congrFun (q3 x hx) k
        exact (a1.trans a2).trans a3
      have b2 : B 126 2 = 0 := (fQ 126 2 rfl).trans (mS0_F (s := s)).2
      have b31 : B 3 1 = 0 := by rw [bx 3 (by decide) (by decide), hJ1 3 (by omega)]; exact h31
      have b21 : B 2 1 = J 2 1 := by rw [bx 2 (by decide) (by decide), hJ1 2 (by omega)]
      have b128 : B 128 = I 128 := (bx 128 (by decide) (by decide)).trans ((hJ1 128 (wT_m s (Or.inr (Or.inr rfl)))).trans (eK_m hF1 (Or.inr (Or.inr rfl))))
      refine wInv_read hI g1 (eV_E s) ?_ ?_ ?_ ?_ ?_
      · rw [mo_upR (by decide)]
      · rw [mo_upR (by decide), rtI_q (show 128 ≠ 126 by decide)]
        refine see_T ht hI.1 hq (fun x h1 h2 => ?_) ?_ (fun k hk => ?_) (fun j hj => ?_) (mo_upA _ _ _ _) (fun j hj => ?_)
        · rw [fx x (by omega) (by omega), bx x (by omega) (by omega), hJ1 x (Or.inl h2)]
          exact eK_t hF1 h1 (Nat.lt_trans h2 (Nat.add_lt_add_left (by decide) _))
        · rw [fx _ (by omega) (by omega), bx _ (by omega) (by omega)]
          unfold cpS
          rw [mo_upA, hrow _ (by omega) (by omega)]
          exact hS.1
        · obtain ⟨n, m, k1, k2, k3, k4, k5, k6⟩ := hS.2.2.2 k hk
          have e23 : rtI xs 300 (mo_up F 128 793 (nI q)) 126 p u v (wT s + 23) k = r2.2.1 (wD s + 23) k := by
            rw [fx _ (by omega) (by omega), bx _ (by omega) (by omega)]
            unfold cpS
            rw [mo_upR (by omega), cpR (by omega), cpA (by omega), hrow _ (by omega) (by omega)]
          have e24 : rtI xs 300 (mo_up F 128 793 (nI q)) 126 p u v (wT s + 24) k = r2.2.1 (wD s + 24) k := by
            rw [fx _ (by omega) (by omega), bx _ (by omega) (by omega)]
            unfold cpS
            rw [mo_upR (by omega), cpA (by omega), cpR (by omega), hrow _ (by omega) (by omega)]
          refine ⟨n, m, k1, k2, e23.trans k3, k4, k5, ?_⟩
          rw [e24]; exact k6
        · rw [up_ne (by omega), q2 j (by omega), b128]
        · rw [up_ne (by omega)]; exact q1 j hj
      · rw [fx 3 (by decide) (by decide)]; exact b31
      · rw [rtI_a (by decide), mo_upR (by decide), q3 126 (by decide)]; exact b2
      · rw [fx 2 (by decide) (by decide), rtI_a (by decide), mo_upR (by decide), q3 126 (by decide), b21, h21]; exact hf
    · rw [e1] at neg
      exact absurd (of_decide_eq_true (List.all_eq_true.mp neg_all k (List.mem_range.mpr (by omega)))) neg
