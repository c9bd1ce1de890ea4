/-! A town that was read is told alike. -/
/-- the town that a row tells, fresh -/
def rdT (ρ : Nat → Int32) : mo_Tn := (fun k => if k < 5 then (ρ k).toNatClampNeg else 0, fun f m => (if f = 0 then ρ (8 + 3 * m) else if f = 3 then ρ (32 + 4 * m) else if f = 4 then ρ (32 + 4 * m + 1) else if f = 5 then ρ (32 + 4 * m + 2) else if f = 6 then ρ (32 + 4 * m + 3) else if f = 7 then ρ (192 + 5 * m) else if f = 8 then ρ (192 + 5 * m + 1) else if f = 10 then ρ (192 + 5 * m + 3) else if f = 11 then ρ (192 + 5 * m + 4) else if f = 12 then ρ (392 + 4 * m) else if f = 13 then ρ (392 + 4 * m + 1) else if f = 14 then ρ (392 + 4 * m + 2) else if f = 15 then ρ (392 + 4 * m + 3) else 0).toNatClampNeg, fun f m => if f = 1 then ρ (8 + 3 * m + 1) else if f = 2 then ρ (8 + 3 * m + 2) else if f = 9 then ρ (192 + 5 * m + 2) else 0, fun _ _ => 0)
theorem rd_cl {x : Int32} {n : Nat} (h : x = nI n) (hn : n < 1000) : x = nI x.toNatClampNeg := by
  rw [mo_ncl h (by omega)]; exact h
theorem nI_half_all : (List.range 200).all (fun k => decide (nI (2 * k) / 2 = nI k)) = true := by decide +kernel
theorem nI_half {k : Nat} (h : k < 200) : nI (2 * k) / 2 = nI k := of_decide_eq_true (List.all_eq_true.mp nI_half_all k (List.mem_range.mpr h))
section A
variable {H : Nat → Nat → Int32} {b : Nat} {ρ ρ' : Nat → Int32} {ν ν' : Nat → Int64} {M N C G Z : Nat}
theorem rdT_v (h : rdM ρ M N C G Z) : (tMen (rdT ρ) = M ∧ tNames (rdT ρ) = N ∧ tComs (rdT ρ) = C ∧ tBrs (rdT ρ) = G ∧ tOws (rdT ρ) = Z) ∧ mo_vT (rdT ρ) := by
  obtain ⟨⟨⟨g1, g1'⟩, ⟨g2, g2'⟩, ⟨g3, g3'⟩, ⟨g4, g4'⟩, g5, g5'⟩, m2, m3, m4, m5, m6, m7⟩ := h
  have tM : tMen (rdT ρ) = M := (show (ρ 0).toNatClampNeg = M from mo_ncl g1 (by omega))
  have tN : tNames (rdT ρ) = N := (show (ρ 1).toNatClampNeg = N from mo_ncl g2 (by omega))
  have tC : tComs (rdT ρ) = C := (show (ρ 2).toNatClampNeg = C from mo_ncl g3 (by omega))
  have tG : tBrs (rdT ρ) = G := (show (ρ 3).toNatClampNeg = G from mo_ncl g4 (by omega))
  have tZ : tOws (rdT ρ) = Z := (show (ρ 4).toNatClampNeg = Z from mo_ncl g5 (by omega))
  refine ⟨⟨tM, tN, tC, tG, tZ⟩, ?_⟩
  unfold mo_vT
  rw [tM, tN, tC, tG, tZ]
  refine ⟨g1', g2', g3', g4', g5', (by decide : 0 < 30), (by decide : 0 ≤ 16), ?_, ?_, ?_, ?_, ?_, ?_, ?_, ?_, ?_, ?_, ?_, ?_, ?_, fun m hm => absurd hm (Nat.not_lt_zero m), fun _ _ _ _ => Nat.zero_le _⟩
  · intro m hm
    obtain ⟨x, hx, e⟩ := (m2 m hm).1
    show (ρ (8 + 3 * m)).toNatClampNeg < N
    rw [mo_ncl e (by omega)]; exact hx
  · intro m hm
    obtain ⟨x, d, i, o, hx, hd, hi, ho, e1, e2, e3, e4⟩ := m4 m hm
    show (ρ (32 + 4 * m)).toNatClampNeg < M
    rw [mo_ncl e1 (by omega)]; omega
  · intro m hm
    obtain ⟨x, d, i, o, hx, hd, hi, ho, e1, e2, e3, e4⟩ := m4 m hm
    show (ρ (32 + 4 * m + 1)).toNatClampNeg < 30
    rw [mo_ncl e2 (by omega)]; omega
  · intro m hm
    obtain ⟨x, d, i, o, hx, hd, hi, ho, e1, e2, e3, e4⟩ := m4 m hm
    show (ρ (32 + 4 * m + 2)).toNatClampNeg ≤ (ρ (32 + 4 * m + 3)).toNatClampNeg
    rw [mo_ncl e3 (by omega), mo_ncl e4 (by omega)]; omega
  · intro m hm
    obtain ⟨x, d, i, o, hx, hd, hi, ho, e1, e2, e3, e4⟩ := m4 m hm
    show (ρ (32 + 4 * m + 3)).toNatClampNeg < 100
    rw [mo_ncl e4 (by omega)]; omega
  · intro m hm
    obtain ⟨x, d, v, k, o, hx, hd, hv, hk, ho, ho2, e1, e2, e3, e4, e5⟩ := m6 m hm
    show (ρ (192 + 5 * m)).toNatClampNeg < N
    rw [mo_ncl e1 (by omega)]; omega
  · intro m hm
    obtain ⟨x, d, v, k, o, hx, hd, hv, hk, ho, ho2, e1, e2, e3, e4, e5⟩ := m6 m hm
    show (ρ (192 + 5 * m + 1)).toNatClampNeg < 30
    rw [mo_ncl e2 (by omega)]; omega
  · intro m hm
    obtain ⟨x, d, v, k, o, hx, hd, hv, hk, ho, ho2, e1, e2, e3, e4, e5⟩ := m6 m hm
    show (ρ (192 + 5 * m + 3)).toNatClampNeg ≤ (ρ (192 + 5 * m + 4)).toNatClampNeg
    rw [mo_ncl e4 (by omega), mo_ncl e5 (by omega)]; omega
  · intro m hm
    obtain ⟨x, d, v, k, o, hx, hd, hv, hk, ho, ho2, e1, e2, e3, e4, e5⟩ := m6 m hm
    show 1 ≤ (ρ (192 + 5 * m + 4)).toNatClampNeg ∧ (ρ (192 + 5 * m + 4)).toNatClampNeg ≤ 12
    rw [mo_ncl e5 (by omega)]; omega
  · intro m hm
    obtain ⟨x, y, d, v, hx, hy, hd, hv, e1, e2, e3, e4⟩ := m7 m hm
    show (ρ (392 + 4 * m)).toNatClampNeg < N
    rw [mo_ncl e1 (by omega)]; omega
  · intro m hm
    obtain ⟨x, y, d, v, hx, hy, hd, hv, e1, e2, e3, e4⟩ := m7 m hm
    show (ρ (392 + 4 * m + 1)).toNatClampNeg < N
    rw [mo_ncl e2 (by omega)]; omega
  · intro m hm
    obtain ⟨x, y, d, v, hx, hy, hd, hv, e1, e2, e3, e4⟩ := m7 m hm
    show (ρ (392 + 4 * m + 2)).toNatClampNeg < 30
    rw [mo_ncl e3 (by omega)]; omega
  · intro m hm
    obtain ⟨x, y, d, v, hx, hy, hd, hv, e1, e2, e3, e4⟩ := m7 m hm
    show (ρ (392 + 4 * m + 3)).toNatClampNeg ≤ 99
    rw [mo_ncl e4 (by omega)]; omega
theorem rd_T {s : Bool} (hb : b ∈ [6, 31, 76, 101]) (h : rdA H b ρ ν M N C G Z) (h1 : ∀ k, k < 552 → ρ' k = ρ k) (h2 : ∀ k, 552 ≤ k → k < 842 → ρ' k = 0) (h3 : ∀ c, c < 12 → ν' c = ν c) : wTn H (wR s) b ρ' ν' (rdT ρ) := by
  obtain ⟨⟨tM, tN, tC, tG, tZ⟩, hv⟩ := rdT_v h.2.1
  obtain ⟨⟨⟨⟨c1, c2, c3, c4, c5⟩, z1, z2⟩, k2, k3, k4, k5, k6⟩, ⟨⟨⟨g1, g1'⟩, ⟨g2, g2'⟩, ⟨g3, g3'⟩, ⟨g4, g4'⟩, g5, g5'⟩, m2, m3, m4, m5, m6, m7⟩, ⟨p1, kk, p2, p3⟩, hw⟩ := h
  have ow : ∀ m, m < M → ρ (8 + 3 * m) = nI (tOwn (rdT ρ) m) := fun m hm => by
    obtain ⟨x, hx, e⟩ := (m2 m hm).1
    exact rd_cl e (by omega)
  have h256 := mo_p8 g1'
  have fo : ∀ m, m < M → ρ (8 + 3 * m + 2) = nI (tFo (rdT ρ) m) ∧ tFo (rdT ρ) m < 256 := fun m hm => by
    obtain ⟨z, hz, e⟩ := (m2 m hm).2
    refine ⟨rd_cl e (by omega), ?_⟩
    show (ρ (8 + 3 * m + 2)).toNatClampNeg < 256
    rw [mo_ncl e (by omega)]; omega
  have cm : ∀ m, m < C → ρ (32 + 4 * m) = nI (tCm (rdT ρ) m) ∧ ρ (32 + 4 * m + 1) = nI (tCd (rdT ρ) m) ∧ ρ (32 + 4 * m + 2) = nI (tCi (rdT ρ) m) ∧ ρ (32 + 4 * m + 3) = nI (tCo (rdT ρ) m) := fun m hm => by
    obtain ⟨x, d, i, o, hx, hd, hi, ho, e1, e2, e3, e4⟩ := m4 m hm
    exact ⟨rd_cl e1 (by omega), rd_cl e2 (by omega), rd_cl e3 (by omega), rd_cl e4 (by omega)⟩
  have gn : ∀ m, m < G → ρ (192 + 5 * m) = nI (tGn (rdT ρ) m) ∧ ρ (192 + 5 * m + 1) = nI (tGd (rdT ρ) m) ∧ ρ (192 + 5 * m + 3) = nI (tGk (rdT ρ) m) ∧ ρ (192 + 5 * m + 4) = nI (tGo (rdT ρ) m) := fun m hm => by
    obtain ⟨x, d, v, k, o, hx, hd, hv, hk, ho, ho2, e1, e2, e3, e4, e5⟩ := m6 m hm
    exact ⟨rd_cl e1 (by omega), rd_cl e2 (by omega), rd_cl e4 (by omega), rd_cl e5 (by omega)⟩
  have of : ∀ m, m < Z → ρ (392 + 4 * m) = nI (tOf (rdT ρ) m) ∧ ρ (392 + 4 * m + 1) = nI (tOt (rdT ρ) m) ∧ ρ (392 + 4 * m + 2) = nI (tOd (rdT ρ) m) ∧ ρ (392 + 4 * m + 3) = nI (tOs (rdT ρ) m) := fun m hm => by
    obtain ⟨x, y, d, v, hx, hy, hd, hv, e1, e2, e3, e4⟩ := m7 m hm
    exact ⟨rd_cl e1 (by omega), rd_cl e2 (by omega), rd_cl e3 (by omega), rd_cl e4 (by omega)⟩
  refine ⟨?_, ?_, ?_, ?_, ?_, fun k hk => absurd hk (Nat.not_lt_zero k), ?_, ?_⟩
  · unfold mo_ct
    rw [wb0 s hb, wb1 s hb, wb2 s hb, wb3 s hb, wb4 s hb, wb5 s hb, wb6 s hb, wb7 s hb, wb9 s hb, wb10 s hb, wb11 s hb, wb12 s hb, wb13 s hb, wb14 s hb, wb15 s hb, wb16 s hb, wb17 s hb, wb18 s hb, wb19 s hb, wb20 s hb, wb21 s hb, wb22 s hb, wb23 s hb, tM, tN, tC, tG, tZ]
    refine ⟨hv, c1, c2, c3, c4, c5, z1, z2, fun m hm => (k2 m hm).1.trans (ow m hm), fun m hm => (k2 m hm).2.1, fun m hm => (k2 m hm).2.2, fun m hm => ?_, fun m hm => (k4 m hm).1.trans (cm m hm).1, fun m hm => (k4 m hm).2.1.trans (cm m hm).2.1, fun m hm => (k4 m hm).2.2.1.trans (cm m hm).2.2.1, fun m hm => (k4 m hm).2.2.2.1.trans (cm m hm).2.2.2, fun m hm => (k4 m hm).2.2.2.2, fun m hm => (k5 m hm).1.trans (gn m hm).1, fun m hm => (k5 m hm).2.1.trans (gn m hm).2.1, fun m hm => ?_, fun m hm => (k6 m hm).1.trans (of m hm).1, fun m hm => (k6 m hm).2.1.trans (of m hm).2.1, fun m hm => (k6 m hm).2.2.1.trans (of m hm).2.2.1, fun m hm => (k6 m hm).2.2.2.trans (of m hm).2.2.2, fun m hm => absurd hm (Nat.not_lt_zero m), fun m hm => absurd hm (Nat.not_lt_zero m)⟩
    · rw [k3 m hm]
      unfold tOwner
      rw [tM]
      exact congrArg mo_oi (mo_ff_congr (fun c hc => by rw [ow c hc]))
    · rw [(k5 m hm).2.2, (gn m hm).2.2.1, (gn m hm).2.2.2]
      rfl
  · refine ⟨hv, ?_⟩
    rw [tM, tN, tC, tG, tZ]
    refine ⟨(h1 0 (by decide)).trans g1, (h1 1 (by decide)).trans g2, (h1 2 (by decide)).trans g3, (h1 3 (by decide)).trans g4, (h1 4 (by decide)).trans g5, h2 552 (by decide) (by decide), h2 793 (by decide) (by decide), fun m hm => (h1 _ (by omega)).trans (ow m hm), fun m hm => h1 _ (by omega), fun m hm => h1 _ (by omega), fun m hm => (h1 _ (by omega)).trans (cm m hm).1, fun m hm => (h1 _ (by omega)).trans (cm m hm).2.1, fun m hm => (h1 _ (by omega)).trans (cm m hm).2.2.1, fun m hm => (h1 _ (by omega)).trans (cm m hm).2.2.2, fun m hm => (h1 _ (by omega)).trans (gn m hm).1, fun m hm => (h1 _ (by omega)).trans (gn m hm).2.1, fun m hm => h1 _ (by omega), fun m hm => (h1 _ (by omega)).trans (gn m hm).2.2.1, fun m hm => (h1 _ (by omega)).trans (gn m hm).2.2.2, fun m hm => (h1 _ (by omega)).trans (of m hm).1, fun m hm => (h1 _ (by omega)).trans (of m hm).2.1, fun m hm => (h1 _ (by omega)).trans (of m hm).2.2.1, fun m hm => (h1 _ (by omega)).trans (of m hm).2.2.2, fun m hm => absurd hm (Nat.not_lt_zero m), fun m hm => absurd hm (Nat.not_lt_zero m), fun m hm => absurd hm (Nat.not_lt_zero m), fun d m hd hm => h2 _ (by omega) (by omega)⟩
  · refine ⟨fun c c' hc hc' e1 e2 => ?_, fun d m _ _ z => absurd rfl z, fun d m m' _ _ _ z => absurd rfl z, fun m m' hm hm' e => ?_⟩
    · rw [tC] at hc hc'
      refine m5 c c' hc hc' ?_ ?_
      · rw [(cm c hc).1, (cm c' hc').1, e1]
      · rw [(cm c hc).2.1, (cm c' hc').2.1, e2]
    · rw [tM] at hm hm'
      refine m3 m m' hm hm' ?_
      rw [ow m hm, ow m' hm', e]
  · intro m hm
    rw [tM] at hm
    exact fo m hm
  · intro m hm
    rw [tG] at hm
    obtain ⟨x, d, v, k, o, hx, hd, hv, hk, ho, ho2, e1, e2, e3, e4, e5⟩ := m6 m hm
    exact ⟨v, hv, e3⟩
  · rw [wb0 s hb, p2]
    have e : w_Model_count_71 (rdT ρ) = nI (2 * kk) := by
      unfold w_Model_count_71
      rw [mo_it_nsum (f := b_Model_count_71 (rdT ρ)) (g := fun m => mo_pc (tFo (rdT ρ) m)) (fun j t _ => rfl), tM]
      exact congrArg nI p3
    have hk : 2 * kk ≤ M * 12 := by
      rw [← p3]
      exact mo_sm_le (fun j _ => mo_pc_le _)
    rw [e]
    exact (nI_half (by omega)).symm
  · rw [wb0 s hb, wb8 s hb, tN]
    intro c hc
    rw [h3 c (by omega)]
    exact hw c hc
end A
theorem wTn_sw (s s' : Bool) {I : Nat → Nat → Int32} {b : Nat} {ρ : Nat → Int32} {ν : Nat → Int64} {T : mo_Tn} (hb : b ∈ [6, 31, 76, 101]) (h : wTn I (wR s) b ρ ν T) : wTn I (wR s') b ρ ν T := by
  unfold wTn mo_ct at h ⊢
  rw [wb0 s hb, wb1 s hb, wb2 s hb, wb3 s hb, wb4 s hb, wb5 s hb, wb6 s hb, wb7 s hb, wb8 s hb, wb9 s hb, wb10 s hb, wb11 s hb, wb12 s hb, wb13 s hb, wb14 s hb, wb15 s hb, wb16 s hb, wb17 s hb, wb18 s hb, wb19 s hb, wb20 s hb, wb21 s hb, wb22 s hb, wb23 s hb] at h
  rw [wb0 s' hb, wb1 s' hb, wb2 s' hb, wb3 s' hb, wb4 s' hb, wb5 s' hb, wb6 s' hb, wb7 s' hb, wb8 s' hb, wb9 s' hb, wb10 s' hb, wb11 s' hb, wb12 s' hb, wb13 s' hb, wb14 s' hb, wb15 s' hb, wb16 s' hb, wb17 s' hb, wb18 s' hb, wb19 s' hb, wb20 s' hb, wb21 s' hb, wb22 s' hb, wb23 s' hb]
  exact h
theorem wKp_sw (s s' : Bool) {I : Nat → Nat → Int32} {L : Nat → Nat → Int64} {k : Nat} (hk : k = 0 ∨ k = 1) (h : wKp I L s k) : wKp I L s' k := by
  refine ⟨h.1, fun z => ?_⟩
  obtain ⟨Tk, h⟩ := h.2 z
  exact ⟨Tk, wTn_sw s s' (by rcases hk with rfl | rfl <;> decide) h⟩
/-- a call of both, the reference's token left open -/
theorem wPair_E {l : Launch} {Mg Mm : mo_M} {dg dm : Nat} {ag am : List Value} {s s1 : Bool} {I I1 B : Nat → Nat → Int32} {L L1 LB : Nat → Nat → Int64} {v v' : Value} {ys : List Nat} {lim p : Nat} (c1 : mo_D l Mg dg ag (wK, wR s, I, L, 0) (some v) (wK, wR s1, I1, L1, 0)) (c2 : mo_E l Mm dm am (wK, wR s1, I1, L1, 0) (some v') wK (wR s1) ys lim B 126 p LB) (hv : v = v') (hI : ∀ u w x, ∃ T xs, wInv s1 (rtI ys lim B 126 p u w) (mo_up LB 126 12 x) T xs) (ht : tyOK Mg.2.2.2 v := by exact ⟨_, rfl⟩) : wPair l Mg dg ag Mm dm am s I L := by
  subst hv
  refine ⟨_, c1, fun r1 K1 R1 J1 M1 x1 h => ?_⟩
  obtain ⟨h, rfl⟩ := h
  cases h
  refine ⟨v, s1, rfl, ht, rfl, rfl, rfl, _, c2, fun r2 K2 R2 J2 M2 x2 h => ?_⟩
  obtain ⟨rfl, u, w, x, _, e⟩ := h
  cases e
  obtain ⟨T, xs, h⟩ := hI u w x
  exact ⟨rfl, rfl, rfl, rfl, T, xs, h⟩
def eF (q k : Nat) : Bool := q == 2 || (q == 3 || (q == 126 && (k == 2 || k == 10)))
def eN (q k : Nat) : Bool := q == 128 || eF q k
def Qr (q k : Nat) : Bool := q == 129 || (q == 126 && (k == 10 || (k == 11 || k == 13)))
theorem eF_f {q k : Nat} (h : q ≠ 2 ∧ q ≠ 3 ∧ q ≠ 126) : eF q k = false := by
  unfold eF
  rw [bq h.1, bq h.2.1, bq h.2.2]; rfl
theorem eN_f {q k : Nat} (h : q ≠ 2 ∧ q ≠ 3 ∧ q ≠ 126 ∧ q ≠ 128) : eN q k = false := by
  unfold eN
  rw [bq h.2.2.2, eF_f ⟨h.1, h.2.1, h.2.2.1⟩]; rfl
theorem wP_w {s : Bool} {e : Nat → Nat → Bool} {q k : Nat} (h : wS s q k = true) : wP s e q k = true := by
  unfold wP; rw [h]; rfl
theorem wP_e {s : Bool} {e : Nat → Nat → Bool} {q k : Nat} (h : e q k = true) : wP s e q k = true := by
  unfold wP; rw [h, Bool.or_true]
theorem wS_D {s : Bool} {q : Nat} (k : Nat) (h1 : wD s ≤ q) (h2 : q < wD s + 25) : wS s q k = true := by
  unfold wS; rw [decide_eq_true ⟨h1, h2⟩]; rfl
theorem wP_eN {s : Bool} {I J : Nat → Nat → Int32} (h : FR (wP s eF) I J) : FR (wP s eN) I J := h.mono (fun q k z => by
  unfold wP at z ⊢
  cases c : wS s q k with
  | true => rfl
  | false =>
    rw [c] at z
    have z : eF q k = true := z
    unfold eN
    rw [z, Bool.or_true]; rfl)
theorem wP_Qr {s : Bool} {I J : Nat → Nat → Int32} (h : FR Qr I J) : FR (wP s eF) I J := h.mono (fun q k z => by
  simp only [Qr, Bool.or_eq_true, Bool.and_eq_true, beq_iff_eq] at z
  rcases z with rfl | ⟨rfl, rfl | rfl | rfl⟩
  · exact wP_w (by cases s <;> rfl)
  · exact wP_e rfl
  · exact wP_w (by cases s <;> rfl)
  · exact wP_w (by cases s <;> rfl))
/-- the invariant after a text was read -/
theorem wInv_read {s s' : Bool} {I F : Nat → Nat → Int32} {L M : Nat → Nat → Int64} {T T' : mo_Tn} {xs : List Nat} {e : Nat → Nat → Bool} (hI : wInv s I L T xs) (hF : FR (wP s e) I F) (hE : ∀ q k, ((6 ≤ q ∧ q < 56) ∨ q = 1 ∨ q = 70 ∨ q = 71 ∨ q = 131 ∨ q = 135 ∨ q = 140 ∨ q = 141) ∨ (q = 126 ∧ (k = 30 ∨ k = 31)) → e q k = false) (hL : M 134 = L 134) (hT : wTn F (wR s') (wT s') (F 128) (M 132) T') (h3 : F 3 1 = 0) (h2 : F 126 2 = 0) (hf : F 2 1 = F 126 10) : wInv s' F M T' [] :=
  ⟨hT, ⟨⟨h3, Nat.zero_le _, fun k hk => absurd hk (Nat.not_lt_zero k)⟩, h2, fun k hk => absurd hk (Nat.not_lt_zero k)⟩, hf, ⟨cM_k hI hF (fun k => ⟨hE _ _ (by omega), hE _ _ (by omega)⟩) (hE _ _ (by omega)), cS_k hI hF (fun k => ⟨hE _ _ (by omega), hE _ _ (by omega)⟩) (hE _ _ (by omega))⟩, wKp_sw s s' (Or.inl rfl) (cK_k (Or.inl rfl) hI.2.2.2.2.1 hF (fun q j h => hE _ _ (by omega)) ⟨hE _ _ (by omega), hE _ _ (by omega)⟩ (fun i _ => hE _ _ (by omega)) (fun i _ => by rw [hL])), wKp_sw s s' (Or.inr rfl) (cK_k (Or.inr rfl) hI.2.2.2.2.2 hF (fun q j h => hE _ _ (by omega)) ⟨hE _ _ (by omega), hE _ _ (by omega)⟩ (fun i _ => hE _ _ (by omega)) (fun i _ => by rw [hL]))⟩
theorem eN_E : ∀ q k, ((6 ≤ q ∧ q < 56) ∨ q = 1 ∨ q = 70 ∨ q = 71 ∨ q = 131 ∨ q = 135 ∨ q = 140 ∨ q = 141) ∨ (q = 126 ∧ (k = 30 ∨ k = 31)) → eN q k = false := fun q k h => by
  by_cases c : q = 126
  · subst c
    rcases h with h | ⟨_, rfl | rfl⟩
    · omega
    · rfl
    · rfl
  · exact eN_f (by omega)
theorem w_10r (s : Bool) : wR s 1 0 = 2 := w_V s (1, 0, 2) (by decide)
theorem w_128 (s : Bool) : wR s 126 14 = 128 := w_V s (126, 14, 128) (by decide)
theorem w_132 (s : Bool) : wR s 126 18 = 132 := w_V s (126, 18, 132) (by decide)
theorem wD_in (s : Bool) : wD s ∈ [6, 31, 76, 101] := by cases s <;> decide
theorem w_rrn (s : Bool) : mo_rr wK (wR s) 2 3 (wD s + 1) (wD s + 7) (wD s + 13) (wD s + 17) (wD s + 22) := by
  have h := w_rr s
  have hb := wD_in s
  rw [wb0 s hb, wb1 s hb, wb2 s hb, wb3 s hb, wb4 s hb] at h
  exact h
theorem wD_kd (s : Bool) : mo_kd wK (wD s) = 3 := by cases s <;> decide +kernel
/-- the tape as the reference has it, after the class has read -/
theorem read_li {s s' : Bool} {I J : Nat → Nat → Int32} {L : Nat → Nat → Int64} {T : mo_Tn} {xs : List Nat} (hI : wInv s I L T xs) (hF : ∀ q, q = 126 ∨ q = 127 → J q = I q) : mo_li J 126 2 (wR s' 126 1) xs := by
  rw [w_1261 s']
  have h := hI.2.1.2
  refine ⟨?_, fun k hk => ?_⟩
  · rw [hF 126 (Or.inl rfl)]; exact h.1
  · rw [hF 127 (Or.inr rfl)]; exact h.2 k hk
theorem neg_all : (List.range 941).all (fun k => decide (-1 - nI k < 0)) = true := by decide +kernel
/-- what the class writes while it reads -/
def eK (s : Bool) (q k : Nat) : Bool := decide (wD s ≤ q ∧ q < wD s + 25) || (q == 2 || q == 3)
theorem eK_F {s : Bool} {I J : Nat → Nat → Int32} (h : FR (eK s) I J) : FR (wP s eF) I J := h.mono (fun q k z => by
  simp only [eK, Bool.or_eq_true, decide_eq_true_eq, beq_iff_eq] at z
  rcases z with ⟨z1, z2⟩ | rfl | rfl
  · exact wP_w (wS_D k z1 z2)
  · exact wP_e rfl
  · exact wP_e rfl)
theorem eK_q {s : Bool} {I J : Nat → Nat → Int32} (h : FR (eK s) I J) {q : Nat} (h1 : q ≠ 2 ∧ q ≠ 3) (h2 : ¬ (wD s ≤ q ∧ q < wD s + 25)) : J q = I q := funext (fun k => h q k (by
  unfold eK
  rw [decide_eq_false h2, bq h1.1, bq h1.2]; rfl))
theorem wD_lt (s : Bool) : wD s = 76 ∨ wD s = 101 := by cases s; exact Or.inr rfl; exact Or.inl rfl
theorem town_9F {s s' : Bool} {J : Nat → Nat → Int32} {xs : List Nat} : FR (wP s eF) J (w_Model_town_9 (wR s') J 126 xs) ∧ w_Model_town_9 (wR s') J 126 xs 126 2 = 0 := by
  have key := mo_it_inv (f := (b_Model_town_9 (wR s') 126)) (fun k t => FR (wP s eF) J t ∧ t 126 2 = 0) (k := 552) (i := 0) (s := (mBg J 126 900 xs.length)) ⟨by unfold mBg; exact FR.up (wP_w (by cases s <;> rfl)) (FR.up (wP_e rfl) (FR.up (wP_w (by cases s <;> rfl)) (FR.up (wP_w (by cases s <;> rfl)) (FR.up (wP_e rfl) (FR.up (wP_w (by cases s <;> rfl)) FR.rf))))), by unfold mBg; rw [up_ne (by omega), up_ne (by omega), up_ne (by omega), up_ne (by omega), mo_upA]⟩ (fun k t _ _ ht => by
    unfold b_Model_town_9
    rw [w129 s']
    exact ⟨FR.up (wP_w (by cases s <;> rfl)) ht.1, by rw [up_ne (by omega)]; exact ht.2⟩)
  exact key
theorem mo_t9q {s' : Bool} {J : Nat → Nat → Int32} {xs : List Nat} {q : Nat} (h1 : q ≠ 126) (h2 : q ≠ 129) : w_Model_town_9 (wR s') J 126 xs q = J q := by
  have key := mo_it_inv (f := (b_Model_town_9 (wR s') 126)) (fun k t => t q = J q) (k := 552) (i := 0) (s := (mBg J 126 900 xs.length)) (by unfold mBg; rw [mo_upR h1, mo_upR h1, mo_upR h1, mo_upR h1, mo_upR h1, mo_upR h1]) (fun k t _ _ ht => by
    unfold b_Model_town_9
    rw [w129 s', mo_upR h2]
    exact ht)
  exact key
theorem mo_t9 {s' : Bool} {J : Nat → Nat → Int32} {xs : List Nat} {q k : Nat} (h : q ≠ 126 ∧ q ≠ 129) : w_Model_town_9 (wR s') J 126 xs q k = J q k := congrFun (mo_t9q h.1 h.2) k
theorem wT_lt (s : Bool) : wT s = 76 ∨ wT s = 101 := by cases s; exact Or.inl rfl; exact Or.inr rfl
theorem town_89 {s' : Bool} {r : Nat × (Nat → Nat → Int32) × Nat × (Nat → Nat → Int64)} : (∀ j, j < 552 → w_Model_town_89 (wR s') 126 r 128 j = r.2.1 129 j) ∧ (∀ j, 552 ≤ j → j < 842 → w_Model_town_89 (wR s') 126 r 128 j = 0) ∧ ∀ q, q ≠ 128 → w_Model_town_89 (wR s') 126 r q = r.2.1 q := by
  have key := mo_it_inv (f := (b_Model_town_60 (wR s') 126)) (fun k t => (∀ j, j < k → t 128 j = r.2.1 129 j) ∧ ∀ q, q ≠ 128 → t q = r.2.1 q) (k := 552) (i := 0) (s := r.2.1) ⟨fun j z => absurd z (Nat.not_lt_zero j), fun _ _ => rfl⟩ (fun k t _ _ ht => by
    unfold b_Model_town_60
    rw [w129 s', w_128 s']
    refine ⟨fun j hj => ?_, fun q hq => ?_⟩
    · by_cases c : j = k
      · subst c; rw [mo_upA, ht.2 129 (by decide)]
      · rw [mo_upK _ _ _ c]; exact ht.1 j (by omega)
    · rw [mo_upR hq]; exact ht.2 q hq)
  have key2 := mo_it_inv (f := (b_Model_town_89 (wR s') 126)) (fun k t => (∀ j, j < 552 → t 128 j = r.2.1 129 j) ∧ (∀ j, 552 ≤ j → j < 552 + k → t 128 j = 0) ∧ ∀ q, q ≠ 128 → t q = r.2.1 q) (k := 290) (i := 0) (s := w_Model_town_60 (wR s') 126 r) ⟨fun j hj => key.1 j (by omega), fun j h1 h2 => by omega, key.2⟩ (fun k t _ _ ht => by
    unfold b_Model_town_89
    rw [w_128 s']
    refine ⟨fun j hj => ?_, fun j h1 h2 => ?_, fun q hq => ?_⟩
    · rw [up_ne (by omega)]; exact ht.1 j hj
    · by_cases c : j = 552 + k
      · subst c; rw [mo_upA]
      · rw [mo_upK _ _ _ c]; exact ht.2.1 j h1 (by omega)
    · rw [mo_upR hq]; exact ht.2.2 q hq)
  exact ⟨key2.1, fun j h1 h2 => key2.2.1 j h1 (by omega), key2.2.2⟩
theorem town_111 {s' : Bool} {r : Nat × (Nat → Nat → Int32) × Nat × (Nat → Nat → Int64)} : (∀ c, c < 12 → w_Model_town_111 (wR s') 126 r 132 c = r.2.2.2 133 c) ∧ ∀ q, q ≠ 132 → w_Model_town_111 (wR s') 126 r q = r.2.2.2 q := by
  have key := mo_it_inv (f := (b_Model_town_111 (wR s') 126)) (fun k t => (∀ j, j < k → t 132 j = r.2.2.2 133 j) ∧ ∀ q, q ≠ 132 → t q = r.2.2.2 q) (k := 12) (i := 0) (s := r.2.2.2) ⟨fun j z => absurd z (Nat.not_lt_zero j), fun _ _ => rfl⟩ (fun k t _ _ ht => by
    unfold b_Model_town_111
    rw [w133 s', w_132 s']
    refine ⟨fun j hj => ?_, fun q hq => ?_⟩
    · by_cases c : j = k
      · subst c; rw [mo_upA, ht.2 133 (by decide)]
      · rw [mo_upK _ _ _ c]; exact ht.1 j (by omega)
    · rw [mo_upR hq]; exact ht.2 q hq)
  exact ⟨fun c hc => key.1 c (by omega), key.2⟩
theorem P_town (l : Launch) {s : Bool} {I : Nat → Nat → Int32} {L : Nat → Nat → Int64} {T : mo_Tn} {xs : List Nat} (hI : wInv s I L T xs) : wPair l mm_Gate_town 6 [.ref 1] mm_Model_town 7 [.ref 126] s I L := by
  have hX := hI.2.1.1
  have hb := wD_in s
  have hx := hX.2.1
  have hbt : ∀ k, k < xs.length → xs.getD k 0 < 256 := fun k hk => (hX.2.2 k hk).2
  have hK : ∀ q k, wD s ≤ q → q < wD s + 25 → eK s q k = true := fun q k h1 h2 => by unfold eK; rw [decide_eq_true ⟨h1, h2⟩]; rfl
  have hK2 : eK s 2 1 = true := by cases s <;> rfl
  have hK3 : ∀ k, eK s 3 k = true := fun k => by cases s <;> rfl
  have run : ∀ (s' : Bool) (J : Nat → Nat → Int32), mo_li J 126 2 (wR s' 126 1) xs → ∃ r r', w_Reader_readTown_23 (wR s) I 2 3 (wD s + 1) (wD s + 7) (wD s + 13) (wD s + 17) (wD s + 22) xs (wD s) = .inr r ∧ w_Model_town_31 (wR s') J L 126 xs = .inr r' ∧ endT (wD s) (eK s) Qr I (w_Model_town_9 (wR s') J 126 xs) L r r' := fun s' J hJ => town_loop (P := eK s) (Q := Qr) hb (w_rrn s) (wD_kd s) hK hK2 hK3 rfl rfl rfl (fun _ => rfl) hX hJ
  obtain ⟨r, _, er, _, hF0, _⟩ := run s I (read_li hI (fun _ _ => rfl))
  have eG : o_Gate_town (wR s) I 1 xs (wT s) (wD s) = (if r.1 < 0 then (r.1, wR s, mo_up (tkI xs 900 r.2.1 3 r.2.2) 3 1 0) else (r.1, wR (!s), mo_up (tkI xs 900 r.2.1 3 r.2.2) 3 1 0)) := by
    unfold o_Gate_town o_Reader_readTown
    rw [w_10r s, w_11t s, wb0 s hb, wb1 s hb, wb2 s hb, wb3 s hb, wb4 s hb, er, wR_sw s]
    rfl
  have c1 := C_Gate_town l wK (wR s) I L 1 xs (wT s) (wD s) (by decide +kernel) (by rw [w_10r s]; decide +kernel) (by rw [w_11t s]; exact w_tb s) (by rw [w_10r s, w_11t s]; exact w_rr s) (by rw [w_11t s]; exact hX) (wD_kd s) (w_11 s) (w_12 s)
  rw [eG] at c1
  have hF1 : FR (eK s) I (mo_up (tkI xs 900 r.2.1 3 r.2.2) 3 1 0) := FR.up (hK3 _) (FR.tk hK3 hF0)
  have h31 : mo_up (tkI xs 900 r.2.1 3 r.2.2) 3 1 0 3 1 = 0 := mo_upA _ _ _ _
  have h21 : mo_up (tkI xs 900 r.2.1 3 r.2.2) 3 1 0 2 1 = r.2.1 2 1 := by rw [up_ne (by omega), tkI_q (by decide)]
  have hrow : ∀ q, wD s ≤ q → q < wD s + 25 → mo_up (tkI xs 900 r.2.1 3 r.2.2) 3 1 0 q = r.2.1 q := fun q h1 h2 => by
    have := wD_lt s
    rw [mo_upR (by omega), tkI_q (by omega)]
  generalize mo_up (tkI xs 900 r.2.1 3 r.2.2) 3 1 0 = J at c1 hF1 h31 h21 hrow
  have hJq : ∀ q, q = 126 ∨ q = 127 → J q = I q := fun q h => eK_q hF1 (by omega) (by have := wD_lt s; omega)
  by_cases neg : r.1 < 0
  · rw [if_pos neg] at c1
    have c1 : mo_D l mm_Gate_town 6 [.ref 1] (wK, wR s, I, L, 0) (some (.int r.1)) (wK, wR s, J, L, 0) := c1
    obtain ⟨r2, r', er2, er', _, hE⟩ := run s J (read_li hI hJq)
    have e2 : r2 = r := Sum.inr.inj (er2.symm.trans er)
    subst e2
    rcases hE with ⟨n, B, p, L', rfl, e1, hn, _⟩ | ⟨k, B, p, L', rfl, e1, hk, hf, fQ, fL⟩
    · rw [e1] at neg
      exact absurd ((mo_cLT (a := nI n) (b := 0) (A := n) (B := 0) rfl rfl (by omega) (by decide)).mp neg) (Nat.not_lt_zero n)
    · have eM : o_Model_town (wR s) J L 126 xs = (-1 - nI k, B, p, L') := by
        unfold o_Model_town
        rw [er']
        rfl
      have c2 := C_Model_town l wK (wR s) J L 126 xs (w_md s) (read_li hI hJq) hx hbt
      rw [eM] at c2
      have c2 : mo_E l mm_Model_town 7 [.ref 126] (wK, wR s, J, L, 0) (some (.int (-1 - nI k))) wK (wR s) xs 900 B 126 p L' := c2
      refine wPair_E (s1 := s) c1 c2 (congrArg Value.int e1) (fun u v w => ⟨T, [], ?_⟩)
      have g0 : FR (wP s eF) J B := town_9F.1.trans (wP_Qr fQ)
      have g1 : FR (wP s eF) I (rtI xs 900 B 126 p u v) := FR.rt (fun j h1 h2 => wP_w (by
        have : j = 5 ∨ j = 6 ∨ j = 7 ∨ j = 8 ∨ j = 9 := by omega
        rcases this with rfl | rfl | rfl | rfl | rfl <;> cases s <;> rfl)) ((eK_F hF1).trans g0)
      have b2 : B 126 2 = 0 := (fQ 126 2 rfl).trans (town_9F (s := s)).2
      have b31 : B 3 1 = 0 := (fQ 3 1 rfl).trans ((mo_t9 (by decide)).trans h31)
      have b21 : B 2 1 = J 2 1 := (fQ 2 1 rfl).trans (mo_t9 (by decide))
      refine wInv_read hI (wP_eN g1) eN_E ?_ (cT_k hI g1 (fun q k h => ?_) ?_) ?_ ?_ ?_
      · rw [mo_upR (by decide)]; exact fL 134 rfl
      · have := wT_lt s
        exact eF_f (by omega)
      · rw [mo_upR (by decide)]; exact fL 132 rfl
      · rw [rtI_q (by decide)]; exact b31
      · rw [rtI_a (by decide)]; exact b2
      · rw [rtI_q (by decide), rtI_a (by decide), b21, h21]; exact hf
  · rw [if_neg neg] at c1
    have c1 : mo_D l mm_Gate_town 6 [.ref 1] (wK, wR s, I, L, 0) (some (.int r.1)) (wK, wR (!s), J, L, 0) := c1
    obtain ⟨r2, r', er2, er', _, hE⟩ := run (!s) J (read_li hI hJq)
    have e2 : r2 = r := Sum.inr.inj (er2.symm.trans er)
    subst e2
    rcases hE with ⟨n, B, p, L', rfl, e1, hn, ⟨M, N, C, G, Z, hA⟩, hf, fQ, fL⟩ | ⟨k, B, p, L', rfl, e1, hk, _⟩
    · have eM : o_Model_town (wR (!s)) J L 126 xs = (nI n, w_Model_town_89 (wR (!s)) 126 (n, B, p, L'), p, w_Model_town_111 (wR (!s)) 126 (n, B, p, L')) := by
        unfold o_Model_town
        rw [er']
        rfl
      obtain ⟨q1, q2, q3⟩ := town_89 (s' := !s) (r := (n, B, p, L'))
      obtain ⟨q4, q5⟩ := town_111 (s' := !s) (r := (n, B, p, L'))
      generalize w_Model_town_89 (wR (!s)) 126 (n, B, p, L') = F at eM q1 q2 q3
      generalize w_Model_town_111 (wR (!s)) 126 (n, B, p, L') = LF at eM q4 q5
      have c2 := C_Model_town l wK (wR (!s)) J L 126 xs (w_md (!s)) (read_li hI hJq) hx hbt
      rw [eM] at c2
      have c2 : mo_E l mm_Model_town 7 [.ref 126] (wK, wR (!s), J, L, 0) (some (.int (nI n))) wK (wR (!s)) xs 900 F 126 p LF := c2
      refine wPair_E (s1 := !s) c1 c2 (congrArg Value.int e1) (fun u v w => ⟨rdT (B 129), [], ?_⟩)
      have g0 : FR (wP s eF) J B := town_9F.1.trans (wP_Qr fQ)
      have gF : FR (wP s eN) B F := fun q k z => by
        have hq : q ≠ 128 := fun e => by rw [e, wP_e (e := eN) rfl] at z; cases z
        exact congrFun (q3 q hq) k
      have g1 : FR (wP s eN) I (rtI xs 900 F 126 p u v) := FR.rt (fun j h1 h2 => wP_w (by
        have : j = 5 ∨ j = 6 ∨ j = 7 ∨ j = 8 ∨ j = 9 := by omega
        rcases this with rfl | rfl | rfl | rfl | rfl <;> cases s <;> rfl)) ((wP_eN ((eK_F hF1).trans g0)).trans gF)
      have b2 : B 126 2 = 0 := (fQ 126 2 rfl).trans (town_9F (s := s)).2
      have b31 : B 3 1 = 0 := (fQ 3 1 rfl).trans ((mo_t9 (by decide)).trans h31)
      have b21 : B 2 1 = J 2 1 := (fQ 2 1 rfl).trans (mo_t9 (by decide))
      have hD := wD_lt s
      refine wInv_read hI g1 eN_E ?_ ?_ ?_ ?_ ?_
      · rw [mo_upR (by decide), q5 134 (by decide)]; exact fL 134 rfl
      · rw [rtI_q (by decide), mo_upR (by decide)]
        have hA' : rdA (rtI xs 900 F 126 p u v) (wD s) (B 129) (L' 133) M N C G Z := rdA_eq hA (fun q h1 h2 => by
          rw [rtI_q (by omega), q3 q (by omega)]
          refine Eq.trans (funext (fun k => ?_)) (hrow q h1 h2)
          refine (fQ q k ?_).trans (congrFun (mo_t9q (by omega) (by omega)) k)
          unfold Qr
          rw [bq (by omega), bq (by omega)]; rfl)
        have e3 : wT (!s) = wD s := by cases s <;> rfl
        rw [e3]
        exact rd_T hb hA' (fun k hk => q1 k hk) (fun k h1 h2 => q2 k h1 h2) (fun c hc => q4 c hc)
      · rw [rtI_q (by decide), q3 3 (by decide)]; exact b31
      · rw [rtI_a (by decide), q3 126 (by decide)]; exact b2
      · rw [rtI_q (by decide), rtI_a (by decide), q3 2 (by decide), q3 126 (by decide)]; show B 2 1 = B 126 10; rw [b21, h21]; exact hf
    · rw [e1] at neg
      exact absurd (of_decide_eq_true (List.all_eq_true.mp neg_all k (List.mem_range.mpr (by omega)))) neg
