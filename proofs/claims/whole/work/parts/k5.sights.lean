/-! Sights are read, whole: both alike. -/
theorem sadd_F {P : Nat → Nat → Bool} {s : Bool} {b : Nat} (hb : b ∈ [6, 31, 76, 101]) {H : Nat → Nat → Int32} (hP : ∀ q k, b ≤ q → q < b + 25 → P q k = true) {n : Nat} {u v : Int32} : FR P H (o_sadd (wR s) H (b + 22) n u v) := by
  rw [sadd_n hb]
  exact FR.up (hP _ _ (by omega) (by omega)) (FR.up (hP _ _ (by omega) (by omega)) (FR.up (hP _ _ (by omega) (by omega)) FR.rf))
theorem readSight_F {P : Nat → Nat → Bool} {s : Bool} {b ro : Nat} (hb : b ∈ [6, 31, 76, 101]) {H : Nat → Nat → Int32} {xs : List Nat} {lim p : Nat} (hD : mo_rl_ H (wR s) ro) (hp : p ≤ xs.length) (hP : ∀ q k, b ≤ q → q < b + 25 → P q k = true) (h2 : P 2 1 = true) : fz P H (o_Reader_readSight (wR s) H 2 ro (b + 22) xs lim p) := by
  have men : tkMn (wR s) H 2 ro xs lim (tkN xs lim p) = none → fz P H (0, ((o_Reader_takeMen (wR s) H 2 ro xs lim (tkN xs lim p)).2).1, ((o_Reader_takeMen (wR s) H 2 ro xs lim (tkN xs lim p)).2).2) := fun ez => by
    obtain ⟨_, v, q, e1, hq⟩ := tkMn_N hD (tkN_le hp) ez
    rw [e1]
    exact fz_u h2 FR.rf
  unfold o_Reader_readSight
  repeat' (first | refine fz_if ?_ ?_ | refine mo_pop (P := fz P H) (fun _ => ?_) (fun _ _ => ?_) | exact men (by assumption) | exact fz_u h2 FR.rf | exact fz_x (sadd_F hb hP) | exact fz_u h2 (sadd_F hb hP))
theorem mmen_F {Q : Nat → Nat → Bool} {B : Nat → Nat → Int32} {LB : Nat → Nat → Int64} {xs : List Nat} {lim p : Nat} {W : Nat → Int32} {N : Nat} {Ow : Nat → Option Nat} (hp : p ≤ xs.length) (h10 : Q 126 10 = true) (h11 : Q 126 11 = true) {F : Nat × Int32 × Nat → mo_Y} (hF : ∀ r, fy Q B LB (F r)) : fy Q B LB (Sum.elim (fun z91 => (0, fun _ _ => 0, 0, fun _ _ => 0)) (Sum.elim F (fun y91 => (y91.1, y91.2.1, y91.2.2.1, y91.2.2.2))) (w_Model_readSight_91 B LB 126 xs lim p W N Ow)) := by
  obtain ⟨k1, k2⟩ := rs91 (I := B) (L := LB) (a := 126) (lim := lim) (W := W) (N := N) (Ow := Ow) hp
  cases e : w_Model_readSight_91 B LB 126 xs lim p W N Ow with
  | inl z => exact absurd e (k1 z)
  | inr y =>
    cases y with
    | inl r => exact hF r
    | inr z =>
      obtain ⟨f, q, rfl, _⟩ := (k2 _ e).2 z rfl
      exact fy_i (FR.up h11 (FR.up h10 FR.rf)) FL.rf
theorem mreadSight_F {Q : Nat → Nat → Bool} {s : Bool} {B : Nat → Nat → Int32} {LB : Nat → Nat → Int64} {xs : List Nat} {lim p : Nat} {W : Nat → Int32} {N K : Nat} {Ow : Nat → Option Nat} (hp : p ≤ xs.length) (h10 : Q 126 10 = true) (h11 : Q 126 11 = true) (h33 : Q 126 33 = true) (hr : ∀ k, Q 130 k = true) : fy Q B LB (o_Model_readSight (wR s) B LB 126 xs lim p W N Ow K) := by
  unfold o_Model_readSight
  rw [w130 s, rs91x]
  refine fy_if (fy_op (fy_i (FR.up h11 (FR.up h10 FR.rf)) FL.rf) (fun _ => fy_if (fy_i (FR.up h11 (FR.up h10 FR.rf)) FL.rf) (fy_if (mmen_F hp h10 h11 (fun r => fy_if ?_ ?_)) (fy_if (mmen_F hp h10 h11 (fun r => fy_if ?_ ?_)) (fy_i (FR.up h11 (FR.up h10 FR.rf)) FL.rf))))) (fy_i (FR.up h11 (FR.up h10 FR.rf)) FL.rf)
  · exact fy_i (FR.up h33 (FR.up (hr _) (FR.up (hr _) (FR.up (hr _) FR.rf)))) FL.rf
  · exact fy_i (FR.up h11 (FR.up h10 (FR.up h33 (FR.up (hr _) (FR.up (hr _) (FR.up (hr _) FR.rf)))))) FL.rf
  · exact fy_i (FR.up h33 (FR.up (hr _) (FR.up (hr _) (FR.up (hr _) FR.rf)))) FL.rf
  · exact fy_i (FR.up h11 (FR.up h10 (FR.up h33 (FR.up (hr _) (FR.up (hr _) (FR.up (hr _) FR.rf)))))) FL.rf
/-- names and men, as the class has them all the while -/
def tow (T : mo_Tn) (n : Nat) : Option Nat := tOwner T (nI n)
theorem askS {s : Bool} {t : Nat} (ht : t ∈ [6, 31, 76, 101]) {I H : Nat → Nat → Int32} {ρ : Nat → Int32} {ν : Nat → Int64} {T : mo_Tn} (hT : wTn I (wR s) t ρ ν T) (h1 : H (t + 1) = I (t + 1)) (h5 : H (t + 5) = I (t + 5)) (h6 : H (t + 6) = I (t + 6)) {xs : List Nat} {lim : Nat} : (∀ q, tkNa (H (t + 5)) (cN H (t + 1)) xs lim q = tkNa (I (t + 5)) (tNames T) xs lim q) ∧ ∀ q, tkMa H (wR s) (t + 1) xs lim q = (tkNa (I (t + 5)) (tNames T) xs lim q).bind (tow T) := by
  have hv := hT.2.1.1
  have hc := hT.1
  have eN : cN H (t + 1) = tNames T := by
    unfold cN
    rw [h1]
    have := ct_tNames (T := T) hc
    rw [wb0 s ht] at this
    exact mo_ncl this (by have := vT_tNames hv; omega)
  have k2 : ∀ q, tkNa (H (t + 5)) (cN H (t + 1)) xs lim q = tkNa (I (t + 5)) (tNames T) xs lim q := fun q => by rw [eN, h5]
  refine ⟨k2, fun q => ?_⟩
  unfold tkMa
  rw [wb8 s ht, k2 q]
  cases e : tkNa (I (t + 5)) (tNames T) xs lim q with
  | none => rfl
  | some n =>
    have hn := tkNa_lt e
    show cOw H (wR s) (t + 1) n = tow T n
    unfold cOw
    rw [wb9 s ht, h6]
    have ho := ct_ow (T := T) hc hn
    rw [wb0 s ht, wb9 s ht] at ho
    exact mo_oi_rd ho (fun v hv2 => by have := (mo_ff_lt hv2).1; have := vT_tMen hv; omega)
theorem tow_lt {T : mo_Tn} (hv : mo_vT T) {n v : Nat} (e : tow T n = some v) : v < tMen T := (mo_ff_lt e).1
theorem tq_of {s : Bool} {t : Nat} (ht : t ∈ [6, 31, 76, 101]) {I J : Nat → Nat → Int32} {L : Nat → Nat → Int64} {T : mo_Tn} (hT : wTn I (wR s) t (I 128) (L 132) T) (h : J 128 = I 128) : mo_tq J L 128 132 (I (t + 5)) (tNames T) (tMen T) (tow T) := by
  have hN := hT.2.1
  have hv := hN.1
  have hw := hT.2.2.2.2.2.2.2
  rw [wb0 s ht, wb8 s ht] at hw
  unfold mo_tq
  rw [h]
  refine ⟨⟨now_tMen hN, vT_tMen hv⟩, ⟨now_tNames hN, vT_tNames hv⟩, hw, fun n hn => ?_⟩
  exact mo_ff_congr (fun c hc => by rw [now_tOwn hN hc rfl])
def relS (s s' : Bool) (b t : Nat) (xs : List Nat) (P Q : Nat → Nat → Bool) (I J : Nat → Nat → Int32) (LJ : Nat → Nat → Int64) (N i : Nat) (H : Nat → Nat → Int32) (S' : (Nat → Nat → Int32) × Nat × (Nat → Nat → Int64)) : Prop :=
  mo_rks H (wR s) 3 (t + 1) (b + 22) xs 300 ∧ cP H 3 = S'.2.1 ∧ mo_ss (wR s') J LJ 126 xs 300 i S' ∧ (∃ q, rdS H b S'.1 N q) ∧ (H 2 1 = 0 ∧ S'.1 126 10 = 0) ∧ FR P I H ∧ FR Q J S'.1
theorem relS_mk {s s' : Bool} {b t : Nat} {xs : List Nat} {P Q : Nat → Nat → Bool} {I J H B : Nat → Nat → Int32} {LJ L : Nat → Nat → Int64} {N i p : Nat} (h1 : mo_rks H (wR s) 3 (t + 1) (b + 22) xs 300) (h2 : cP H 3 = p) (h3 : mo_ss (wR s') J LJ 126 xs 300 i (B, p, L)) (h4 : ∃ q, rdS H b B N q) (h5 : H 2 1 = 0) (h6 : B 126 10 = 0) (f1 : FR P I H) (f2 : FR Q J B) : relS s s' b t xs P Q I J LJ N i H (B, p, L) := ⟨h1, h2, h3, h4, ⟨h5, h6⟩, f1, f2⟩
def endS (b N : Nat) (P Q : Nat → Nat → Bool) (I J : Nat → Nat → Int32) (LJ : Nat → Nat → Int64) (r : Int32 × (Nat → Nat → Int32) × Nat) (r' : ((Nat → Nat → Int32) × Nat × (Nat → Nat → Int64)) ⊕ mo_Y) : Prop :=
  FR P I r.2.1 ∧ ((∃ q B p, r' = .inl (B, p, LJ) ∧ r.1 = nI q ∧ q ≤ 16 ∧ rdS r.2.1 b B N q ∧ r.2.1 2 1 = B 126 10 ∧ FR Q J B) ∨ ∃ k B p, r' = .inr (-1 - nI k, B, p, LJ) ∧ r.1 = -1 - nI k ∧ k ≤ 940 ∧ r.2.1 2 1 = B 126 10 ∧ FR Q J B)
theorem relS_step {s s' : Bool} {b t : Nat} (hb : b ∈ [6, 31, 76, 101]) (ht : t ∈ [6, 31, 76, 101]) {co ga ow : Nat} (hrr : mo_rr wK (wR s) 2 3 (t + 1) co ga ow (b + 22)) {xs : List Nat} (hx : xs.length ≤ 940) {P Q : Nat → Nat → Bool} (hP : ∀ q k, b ≤ q → q < b + 25 → P q k = true) (hP2 : P 2 1 = true) (hP3 : ∀ k, P 3 k = true) (hPt : ∀ q k, t ≤ q → q < t + 25 → P q k = false) (h10 : Q 126 10 = true) (h11 : Q 126 11 = true) (h33 : Q 126 33 = true) (hr : ∀ k, Q 130 k = true) {I J : Nat → Nat → Int32} {ρ : Nat → Int32} {ν : Nat → Int64} {LJ : Nat → Nat → Int64} {T : mo_Tn} (hT : wTn I (wR s) t ρ ν T) (i : Nat) (H : Nat → Nat → Int32) (S' : (Nat → Nat → Int32) × Nat × (Nat → Nat → Int64)) (hi : i ≤ xs.length) (hR : relS s s' b t xs P Q I J LJ (tNames T) i H S') :
    (∃ t1 t', b_Reader_readSights_22 (wR s) 2 3 (t + 1) (b + 22) xs i H = .inl t1 ∧ b_Model_sights_12 (wR s') 126 xs (I (t + 5)) (tNames T) (tow T) i S' = .inl t' ∧ i < xs.length ∧ relS s s' b t xs P Q I J LJ (tNames T) (i + 1) t1 t') ∨ ∃ r r', b_Reader_readSights_22 (wR s) 2 3 (t + 1) (b + 22) xs i H = .inr r ∧ b_Model_sights_12 (wR s') 126 xs (I (t + 5)) (tNames T) (tow T) i S' = .inr r' ∧ endS b (tNames T) P Q I J LJ r r' := by
  obtain ⟨B, p, L⟩ := S'
  obtain ⟨hk, e2, hs, ⟨K, hS⟩, ⟨z1, z2⟩, f1, f2⟩ := hR
  have e2 : cP H 3 = p := e2
  obtain ⟨t2, ⟨t3, t4⟩, ⟨t5, t6⟩, t7⟩ := hs
  have t2 : mo_b0 B (wR s') 126 xs 300 := t2
  have t3 : i ≤ p := t3
  have t4 : p ≤ xs.length := t4
  have t6 : L = LJ := t6
  subst t6
  have hS : rdS H b B (tNames T) K := hS
  have z1 : H 2 1 = 0 := z1
  have z2 : B 126 10 = 0 := z2
  have f1 : FR P I H := f1
  have f2 : FR Q J B := f2
  have row : ∀ q, t ≤ q → q < t + 25 → H q = I q := fun q h1 h2 => funext (fun k => f1 q k (hPt q k h1 h2))
  obtain ⟨a1, a2⟩ := askS ht hT (row (t + 1) (by omega) (by omega)) (row (t + 5) (by omega) (by omega)) (row (t + 6) (by omega) (by omega)) (xs := xs) (lim := 300)
  have hv := hT.2.1.1
  have eQ : mQ B 126 = K := mo_ncl hS.2.1 (by have := hS.2.2.1; omega)
  have hl := al_sight (s := s) (s' := s') (LB := L) hb ht hS a1 a2 (fun n v e => by have := tow_lt hv e; have := vT_tMen hv; omega) z1 z2 t4
  have hz := readSight_F (s := s) (xs := xs) (lim := 300) (p := p) (H := H) hb hk.2.2.2.1 t4 hP hP2
  have hy := mreadSight_F (s := s') (B := B) (LB := L) (xs := xs) (lim := 300) (p := p) (W := I (t + 5)) (N := tNames T) (K := K) (Ow := tow T) t4 h10 h11 h33 hr
  have hG := readSight_G hrr hk.1 hk.2.1 t4 hk.2.2.2.1 hk.2.2.2.2
  have hm := readSight_S (I := B) (L := L) (W := I (t + 5)) (N := tNames T) (Ow := tow T) (w_md s') t2 t4 hS.2.2.1
  have eC : b_Reader_readSights_22 (wR s) 2 3 (t + 1) (b + 22) xs i H = (if (tkK xs 300 p) = 1 then .inr (H (b + 22) 2, H, p) else (if (o_Reader_readSight (wR s) H 2 (t + 1) (b + 22) xs 300 p).1 = 0 then .inr ((-1) - (nI (tkP xs 300 (o_Reader_readSight (wR s) H 2 (t + 1) (b + 22) xs 300 p).2.2)), (o_Reader_readSight (wR s) H 2 (t + 1) (b + 22) xs 300 p).2.1, (o_Reader_readSight (wR s) H 2 (t + 1) (b + 22) xs 300 p).2.2) else .inl (tkI xs 300 (o_Reader_readSight (wR s) H 2 (t + 1) (b + 22) xs 300 p).2.1 3 (o_Reader_readSight (wR s) H 2 (t + 1) (b + 22) xs 300 p).2.2))) := by
    rw [← e2]
    rfl
  have eM : b_Model_sights_12 (wR s') 126 xs (I (t + 5)) (tNames T) (tow T) i (B, p, L) = (if (mo_kk (tkK xs 300 p)) = 0 then .inr (.inl (B, p, L)) else (if (o_Model_readSight (wR s') B L 126 xs 300 p (I (t + 5)) (tNames T) (tow T) K).1 = 0 then .inr (.inr ((-1) - ((o_Model_readSight (wR s') B L 126 xs 300 p (I (t + 5)) (tNames T) (tow T) K).2.1 126 11), (o_Model_readSight (wR s') B L 126 xs 300 p (I (t + 5)) (tNames T) (tow T) K).2.1, (o_Model_readSight (wR s') B L 126 xs 300 p (I (t + 5)) (tNames T) (tow T) K).2.2.1, (o_Model_readSight (wR s') B L 126 xs 300 p (I (t + 5)) (tNames T) (tow T) K).2.2.2)) else .inl ((o_Model_readSight (wR s') B L 126 xs 300 p (I (t + 5)) (tNames T) (tow T) K).2.1, (o_Model_readSight (wR s') B L 126 xs 300 p (I (t + 5)) (tNames T) (tow T) K).2.2.1, (o_Model_readSight (wR s') B L 126 xs 300 p (I (t + 5)) (tNames T) (tow T) K).2.2.2))) := by
    rw [← eQ]
    rfl
  rw [eC, eM]
  generalize o_Reader_readSight (wR s) H 2 (t + 1) (b + 22) xs 300 p = z at hl hz hG ⊢
  generalize o_Model_readSight (wR s') B L 126 xs 300 p (I (t + 5)) (tNames T) (tow T) K = y at hl hy hm ⊢
  by_cases c : tkK xs 300 p = 1
  · rw [if_pos c, if_pos (mo_kk_0.mpr c)]
    exact Or.inr ⟨_, _, rfl, rfl, f1, Or.inl ⟨K, B, p, rfl, hS.1, hS.2.2.1, hS, z1.trans z2.symm, f2⟩⟩
  · rw [if_neg c, if_neg (fun k => c (mo_kk_0.mp k))]
    rcases hl with ⟨l1, l2, l3, l4⟩ | ⟨l1, l2, l3, ⟨l4, l5⟩, K', hS'⟩
    · rw [if_pos l1, if_pos l2, l4, hm.2.1.2]
      have hle := tkP_le (lim := 300) hG.2.2.2
      exact Or.inr ⟨_, _, rfl, rfl, f1.trans hz, Or.inr ⟨_, _, _, rfl, rfl, by omega, l3, f2.trans hy.1⟩⟩
    · rw [if_neg (by rw [l1]; decide), if_neg (by rw [l2]; decide)]
      obtain ⟨hm1, hm2, hm3⟩ := hm
      obtain ⟨hp1, x, hx1, hx2⟩ := hm3 l2
      have hp2 := hm1.2.2
      refine Or.inl ⟨_, _, rfl, rfl, by omega, relS_mk (mo_rks_G hrr hG l1) ?_ (mo_ss_of hm1.2.1 (by omega) hp2 (hm2.1.trans t5) hm2.2 hx1 hx2) ⟨K', ?_⟩ ?_ l5 (FR.tk hP3 (f1.trans hz)) (f2.trans hy.1)⟩
      · show cP (tkI xs 300 z.2.1 3 z.2.2) 3 = y.2.2.1
        rw [l3]
        exact mo_ncl tkI_3 (by have := tkN_le (lim := 300) hG.2.2.2; omega)
      · have hr6 := wb_r hb
        unfold rdS
        rw [tkI_q (show b + 22 ≠ 3 by omega), tkI_q (show b + 23 ≠ 3 by omega), tkI_q (show b + 24 ≠ 3 by omega)]
        exact hS'
      · show tkI xs 300 z.2.1 3 z.2.2 2 1 = 0
        rw [tkI_q (by decide)]
        exact l4
def mS0 (J : Nat → Nat → Int32) (xs : List Nat) : Nat → Nat → Int32 := mo_up (mBg J 126 300 xs.length) 126 33 0
theorem sights_loop {s s' : Bool} {b t : Nat} (hb : b ∈ [6, 31, 76, 101]) (ht : t ∈ [6, 31, 76, 101]) {co ga ow : Nat} (hrr : mo_rr wK (wR s) 2 3 (t + 1) co ga ow (b + 22)) {xs : List Nat} {P Q : Nat → Nat → Bool} (hP : ∀ q k, b ≤ q → q < b + 25 → P q k = true) (hP2 : P 2 1 = true) (hP3 : ∀ k, P 3 k = true) (hPt : ∀ q k, t ≤ q → q < t + 25 → P q k = false) (h10 : Q 126 10 = true) (h11 : Q 126 11 = true) (h33 : Q 126 33 = true) (hr : ∀ k, Q 130 k = true) {I J : Nat → Nat → Int32} {ρ : Nat → Int32} {ν : Nat → Int64} {LJ : Nat → Nat → Int64} {T : mo_Tn} (hT : wTn I (wR s) t ρ ν T) (hX : mo_xp I (wR s) 3 xs) (hD : mo_rl_ I (wR s) (t + 1)) (hJ : mo_li J 126 2 (wR s' 126 1) xs) :
    ∃ r r', w_Reader_readSights_22 (wR s) I 2 3 (t + 1) (b + 22) xs = .inr r ∧ w_Model_sights_12 (wR s') J LJ 126 xs (I (t + 5)) (tNames T) (tow T) = .inr r' ∧ endS b (tNames T) P Q I (mS0 J xs) LJ r r' := by
  have hx := hX.2.1
  have hbt : ∀ k, k < xs.length → xs.getD k 0 < 256 := fun k hk => (hX.2.2 k hk).2
  have hr6 := wb_r hb
  have hss := mo_ss0 (L := LJ) (w_md s') hJ hx hbt
  have hk0 := mo_rks0 hrr hX hD
  unfold w_Reader_readSights_22 w_Model_sights_12
  have hss : mo_ss (wR s') (mS0 J xs) LJ 126 xs 300 0 (mS0 J xs, 0, LJ) := ⟨hss.1, hss.2.1, ⟨rfl, rfl⟩, hss.2.2.2⟩
  have z10 : mS0 J xs 126 10 = 0 := by unfold mS0 mBg; rw [up_ne (by omega), up_ne (by omega), mo_upA]
  have z33 : mS0 J xs 126 33 = nI 0 := mo_upA _ _ _ _
  show ∃ r r', _ ∧ mo_lp _ (xs.length + 1) 0 (mS0 J xs, 0, LJ) = .inr r' ∧ _
  generalize mS0 J xs = J0 at hss z10 z33 ⊢
  refine lp_two (B := xs.length) (Rel := relS s s' b t xs P Q I J0 LJ (tNames T)) (Q := endS b (tNames T) P Q I J0 LJ) (relS_step hb ht hrr hx hP hP2 hP3 hPt h10 h11 h33 hr hT) (xs.length + 1) 941 (xs.length + 1) 0 _ _ (by omega) (by omega) (by omega) (Nat.zero_le _) ?_
  refine relS_mk hk0 ?_ hss ⟨0, ?_, z33, by omega, fun k hk => absurd hk (Nat.not_lt_zero k)⟩ ?_ z10 ?_ FR.rf
  · show (mo_up _ 3 3 (0 : Int32) 3 3).toNatClampNeg = 0
    rw [mo_upA]; rfl
  · (repeat (first | rw [mo_upA] | rw [up_ne (by omega)])); all_goals rfl
  · (repeat (first | rw [mo_upA] | rw [up_ne (by omega)])); all_goals rfl
  · exact FR.up (hP3 _) (FR.up (hP3 _) (FR.up hP2 (FR.up (hP _ _ (by omega) (by omega)) FR.rf)))
