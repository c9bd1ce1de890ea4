/-! The reference: lines keep what a reader needs. -/
abbrev mo_Y : Type := Int32 × (Nat → Nat → Int32) × Nat × (Nat → Nat → Int64)
def mo_b0 (I : Nat → Nat → Int32) (R : Nat → Nat → Nat) (a : Nat) (xs : List Nat) (lim : Nat) : Prop := mo_tx I R a xs ∧ I a 4 = nI lim
theorem b0_up {K : mo_K} {R : Nat → Nat → Nat} {I : Nat → Nat → Int32} {a : Nat} {xs : List Nat} {lim k : Nat} {v : Int32} (h : mo_md K R a) (hk : 3 ≠ k ∧ 4 ≠ k) (hB : mo_b0 I R a xs lim) : mo_b0 (mo_up I a k v) R a xs lim := ⟨mo_tx_up h hB.1 hk.1, (mo_upK _ _ _ hk.2).trans hB.2⟩
theorem b0_row {K : mo_K} {R : Nat → Nat → Nat} {I : Nat → Nat → Int32} {a : Nat} {xs : List Nat} {lim j : Nat} {v : Int32} (h : mo_md K R a) (hB : mo_b0 I R a xs lim) : mo_b0 (mo_up I (R a 15) j v) R a xs lim := ⟨mo_tx_off hB.1 (Ne.symm (mo_nekd (mo_mk15 h) h.1 (by decide))) (h.2.2 (1, 100, 940) (by decide) (15, 100, 552) (by decide) (by decide)), (mo_upQ _ _ _ (Ne.symm (mo_nekd (mo_mk15 h) h.1 (by decide)))).trans hB.2⟩
theorem b0_nm {K : mo_K} {R : Nat → Nat → Nat} {I : Nat → Nat → Int32} {L : Nat → Nat → Int64} {a : Nat} {xs : List Nat} {lim p : Nat} {W : Nat → Int32} {N : Nat} (h : mo_md K R a) (hB : mo_b0 I R a xs lim) : mo_b0 (o_Model_isToldName I L a xs lim p W N).2.1 R a xs lim := by
  unfold o_Model_isToldName
  refine mo_pif (P := fun z : mo_Y => mo_b0 z.2.1 R a xs lim) (fun _ => ?_) (fun _ => ?_)
  · refine mo_pop (P := fun z : mo_Y => mo_b0 z.2.1 R a xs lim) (fun _ => ?_) (fun _ _ => ?_)
    · exact b0_up h (by decide) (b0_up h (by decide) (b0_up h (by decide) hB))
    · exact b0_up h (by decide) hB
  · exact b0_up h (by decide) (b0_up h (by decide) hB)
theorem b0_mm {K : mo_K} {R : Nat → Nat → Nat} {I : Nat → Nat → Int32} {L : Nat → Nat → Int64} {a : Nat} {xs : List Nat} {lim p : Nat} {W : Nat → Int32} {N : Nat} {Ow : Nat → Option Nat} (h : mo_md K R a) (hB : mo_b0 I R a xs lim) : mo_b0 (o_Model_isToldMan I L a xs lim p W N Ow).2.1 R a xs lim := by
  unfold o_Model_isToldMan
  refine mo_pop (P := fun z : mo_Y => mo_b0 z.2.1 R a xs lim) (fun _ => ?_) (fun _ _ => ?_)
  · exact b0_nm h hB
  · refine mo_pop (P := fun z : mo_Y => mo_b0 z.2.1 R a xs lim) (fun _ => ?_) (fun _ _ => ?_)
    · exact b0_up h (by decide) (b0_up h (by decide) (b0_up h (by decide) (b0_up h (by decide) hB)))
    · exact b0_up h (by decide) (b0_up h (by decide) hB)
/-- counts and words that are well told -/
def mM (I : Nat → Nat → Int32) (R : Nat → Nat → Nat) (a k : Nat) : Nat := (I (R a 15) k).toNatClampNeg
def mo_mr (I : Nat → Nat → Int32) (L : Nat → Nat → Int64) (R : Nat → Nat → Nat) (a : Nat) : Prop := ((I (R a 15) 0 = nI (mM I R a 0) ∧ mM I R a 0 ≤ 8) ∧ (I (R a 15) 1 = nI (mM I R a 1) ∧ mM I R a 1 ≤ 12)) ∧ (∀ k, 2 ≤ k → k ≤ 4 → I (R a 15) k = nI (mM I R a k) ∧ mM I R a k ≤ 40) ∧ ∀ c, c < mM I R a 1 → ∃ n, mo_vw n ∧ L (R a 19) c = lN (mo_F27 n)
theorem mr_cl {x : Int32} {n b : Nat} (e : x = nI n) (hb : n ≤ b) (h : b < 2147483648) : x = nI x.toNatClampNeg ∧ x.toNatClampNeg ≤ b := by
  have := mo_ncl e (by omega)
  rw [this]
  exact ⟨e, hb⟩
theorem mr_of {R : Nat → Nat → Nat} {I : Nat → Nat → Int32} {L : Nat → Nat → Int64} {a : Nat} {M N : Nat} (h0 : I (R a 15) 0 = nI M) (hM : M ≤ 8) (h1 : I (R a 15) 1 = nI N) (hN : N ≤ 12) (hc : ∀ k, 2 ≤ k → k ≤ 4 → ∃ x, I (R a 15) k = nI x ∧ x ≤ 40) (hw : ∀ c, c < N → ∃ n, mo_vw n ∧ L (R a 19) c = lN (mo_F27 n)) : mo_mr I L R a := by
  refine ⟨⟨mr_cl h0 hM (by decide), mr_cl h1 hN (by decide)⟩, fun k h2 h4 => ?_, fun c hc => hw c ?_⟩
  · obtain ⟨x, e, hx⟩ := hc k h2 h4
    exact mr_cl e hx (by decide)
  · have : mM I R a 1 = N := mo_ncl h1 (by omega)
    omega
theorem mr_a {K : mo_K} {R : Nat → Nat → Nat} {I : Nat → Nat → Int32} {L : Nat → Nat → Int64} {a : Nat} {k : Nat} {v : Int32} (h : mo_md K R a) (hR : mo_mr I L R a) : mo_mr (mo_up I a k v) L R a := by
  have e : mo_up I a k v (R a 15) = I (R a 15) := mo_upR (mo_nekd (mo_mk15 h) h.1 (by decide))
  unfold mo_mr mM
  rw [e]
  exact hR
theorem mr_row {R : Nat → Nat → Nat} {I : Nat → Nat → Int32} {L : Nat → Nat → Int64} {a j : Nat} {v : Int32} (hR : mo_mr I L R a) (hj : 5 ≤ j) : mo_mr (mo_up I (R a 15) j v) L R a :=
  mr_of (M := mM I R a 0) (N := mM I R a 1) ((mo_upK _ _ _ (by omega)).trans hR.1.1.1) hR.1.1.2 ((mo_upK _ _ _ (by omega)).trans hR.1.2.1) hR.1.2.2 (fun k h2 h4 => ⟨mM I R a k, (mo_upK _ _ _ (by omega)).trans (hR.2.1 k h2 h4).1, (hR.2.1 k h2 h4).2⟩) hR.2.2
theorem mr_c0 {R : Nat → Nat → Nat} {I : Nat → Nat → Int32} {L : Nat → Nat → Int64} {a x : Nat} (hR : mo_mr I L R a) (hx : x ≤ 8) : mo_mr (mo_up I (R a 15) 0 (nI x)) L R a :=
  mr_of (M := x) (N := mM I R a 1) (mo_upA _ _ _ _) hx ((mo_upK _ _ _ (by decide)).trans hR.1.2.1) hR.1.2.2 (fun k h2 h4 => ⟨mM I R a k, (mo_upK _ _ _ (by omega)).trans (hR.2.1 k h2 h4).1, (hR.2.1 k h2 h4).2⟩) hR.2.2
theorem mr_c {R : Nat → Nat → Nat} {I : Nat → Nat → Int32} {L : Nat → Nat → Int64} {a x j : Nat} (hR : mo_mr I L R a) (hj : 2 ≤ j) (hj4 : j ≤ 4) (hx : x ≤ 40) : mo_mr (mo_up I (R a 15) j (nI x)) L R a :=
  mr_of (M := mM I R a 0) (N := mM I R a 1) ((mo_upK _ _ _ (by omega)).trans hR.1.1.1) hR.1.1.2 ((mo_upK _ _ _ (by omega)).trans hR.1.2.1) hR.1.2.2 (fun k h2 h4 => by
    by_cases c : k = j
    · subst c; exact ⟨x, mo_upA _ _ _ _, hx⟩
    · exact ⟨mM I R a k, (mo_upK _ _ _ c).trans (hR.2.1 k h2 h4).1, (hR.2.1 k h2 h4).2⟩) hR.2.2
theorem tkGw_v {xs : List Nat} {lim p : Nat} {u v : Int32} {w : Int64} (ok : tkOK xs lim p u v w) (hc : tkK xs lim p = 3) : ∃ n, mo_vw n ∧ tkV xs lim p = nI n ∧ tkGw xs lim p = lN (mo_F27 n) := by
  obtain ⟨n, h1, h2, h3⟩ := ok.1 (Or.inr hc)
  exact ⟨n, h3, h1, (tkOK_w ok (Or.inr hc)).symm.trans h2⟩
theorem mr_new {R : Nat → Nat → Nat} {I : Nat → Nat → Int32} {L : Nat → Nat → Int64} {a N : Nat} {w : Int64} (hR : mo_mr I L R a) (e : I (R a 15) 1 = nI N) (hN : N < 12) (hw : ∃ n, mo_vw n ∧ w = lN (mo_F27 n)) : mo_mr (mo_up I (R a 15) 1 (nI (N + 1))) (mo_up L (R a 19) N w) R a := by
  have e1 : mM I R a 1 = N := mo_ncl e (by omega)
  refine mr_of (M := mM I R a 0) (N := N + 1) ((mo_upK _ _ _ (by decide)).trans hR.1.1.1) hR.1.1.2 (mo_upA _ _ _ _) (by omega) (fun k h2 h4 => ⟨mM I R a k, (mo_upK _ _ _ (by omega)).trans (hR.2.1 k h2 h4).1, (hR.2.1 k h2 h4).2⟩) (fun c hc => ?_)
  by_cases c1 : c = N
  · subst c1; rw [mo_upA]; exact hw
  · rw [mo_upK _ _ _ c1]
    exact hR.2.2 c (by omega)
/-- a line read well by the reference -/
def mGd (R : Nat → Nat → Nat) (a : Nat) (xs : List Nat) (lim : Nat) (z : mo_Y) : Prop := (z.1 = 0 ∨ z.1 = 1) ∧ mo_b0 z.2.1 R a xs lim ∧ z.2.2.1 ≤ xs.length ∧ (z.1 = 1 → mo_mr z.2.1 z.2.2.2 R a)
theorem mGd_0 {R : Nat → Nat → Nat} {I : Nat → Nat → Int32} {L : Nat → Nat → Int64} {a : Nat} {xs : List Nat} {lim q : Nat} (hB : mo_b0 I R a xs lim) (hq : q ≤ xs.length) : mGd R a xs lim (0, I, q, L) := ⟨Or.inl rfl, hB, hq, fun z => absurd (show (0 : Int32) = 1 from z) (by decide)⟩
theorem mGd_1 {R : Nat → Nat → Nat} {I : Nat → Nat → Int32} {L : Nat → Nat → Int64} {a : Nat} {xs : List Nat} {lim q : Nat} (hB : mo_b0 I R a xs lim) (hq : q ≤ xs.length) (hR : mo_mr I L R a) : mGd R a xs lim (1, I, q, L) := ⟨Or.inr rfl, hB, hq, fun _ => hR⟩
theorem tok_v {xs : List Nat} {lim p : Nat} (hb : ∀ k, k < xs.length → xs.getD k 0 < 256) (hp : p ≤ xs.length) (hc : tkK xs lim p = 3) : ∃ n, mo_vw n ∧ tkV xs lim p = nI n ∧ tkGw xs lim p = lN (mo_F27 n) := by
  obtain ⟨u, v, w, ok, _⟩ := go_E (I := fun _ _ => 0) (L := fun _ _ => 0) (a := 0) (lim := lim) hb hp
  exact tkGw_v ok hc
theorem tok_w {xs : List Nat} {lim p : Nat} (hb : ∀ k, k < xs.length → xs.getD k 0 < 256) (hp : p ≤ xs.length) (hc : tkK xs lim p = 3) : ∃ n, mo_vw n ∧ tkGw xs lim p = lN (mo_F27 n) := by
  obtain ⟨n, h1, _, h2⟩ := tok_v hb hp hc
  exact ⟨n, h1, h2⟩
set_option maxHeartbeats 4000000 in
theorem mreadName_G {K : mo_K} {R : Nat → Nat → Nat} {I : Nat → Nat → Int32} {L : Nat → Nat → Int64} {a : Nat} {xs : List Nat} {lim p : Nat} {W : Nat → Int32} {N : Nat} (h : mo_md K R a) (hB : mo_b0 I R a xs lim) (hp : p ≤ xs.length) (hR : mo_mr I L R a) (hN1 : I (R a 15) 1 = nI N) (hN : N ≤ 12)  : mGd R a xs lim (o_Model_readName R I L a xs lim p W N) := by
  have hb : ∀ k, k < xs.length → xs.getD k 0 < 256 := fun k hk => (hB.1.2.2 k hk).2
  unfold o_Model_readName
  repeat' (first | (refine mGd_0 (by repeat (first | assumption | exact hB | refine b0_row h ?_ | refine b0_up h (by decide) ?_ | refine b0_nm h ?_ | refine b0_mm h ?_)) (by repeat (first | assumption | apply tkN_le))) | (refine mGd_1 (by repeat (first | assumption | exact hB | refine b0_row h ?_ | refine b0_up h (by decide) ?_ | refine b0_nm h ?_ | refine b0_mm h ?_)) (by repeat (first | assumption | apply tkN_le)) (by repeat (first | exact hR | refine mr_row ?_ (by omega) | refine mr_c0 ?_ (by omega) | refine mr_c ?_ (by decide) (by decide) (by omega) | refine mr_a h ?_ | refine mr_new hR hN1 (by omega) (tok_w hb (by repeat (first | assumption | apply tkN_le)) (by simp_all))))) | refine mo_pif (fun _ => ?_) (fun _ => ?_) | refine mo_pop (fun _ => ?_) (fun _ _ => ?_))
set_option maxHeartbeats 4000000 in
theorem mreadMan_G {K : mo_K} {R : Nat → Nat → Nat} {I : Nat → Nat → Int32} {L : Nat → Nat → Int64} {a : Nat} {xs : List Nat} {lim p : Nat} {W : Nat → Int32} {N M : Nat} (h : mo_md K R a) (hB : mo_b0 I R a xs lim) (hp : p ≤ xs.length) (hR : mo_mr I L R a) (hN1 : I (R a 15) 1 = nI N) (hN : N ≤ 12) (hM : M ≤ 8) : mGd R a xs lim (o_Model_readMan R I L a xs lim p W N M) := by
  have hb : ∀ k, k < xs.length → xs.getD k 0 < 256 := fun k hk => (hB.1.2.2 k hk).2
  unfold o_Model_readMan
  repeat' (first | (refine mGd_0 (by repeat (first | assumption | exact hB | refine b0_row h ?_ | refine b0_up h (by decide) ?_ | refine b0_nm h ?_ | refine b0_mm h ?_)) (by repeat (first | assumption | apply tkN_le))) | (refine mGd_1 (by repeat (first | assumption | exact hB | refine b0_row h ?_ | refine b0_up h (by decide) ?_ | refine b0_nm h ?_ | refine b0_mm h ?_)) (by repeat (first | assumption | apply tkN_le)) (by repeat (first | exact hR | refine mr_row ?_ (by omega) | refine mr_c0 ?_ (by omega) | refine mr_c ?_ (by decide) (by decide) (by omega) | refine mr_a h ?_ | refine mr_new hR hN1 (by omega) (tok_w hb (by repeat (first | assumption | apply tkN_le)) (by simp_all))))) | refine mo_pif (fun _ => ?_) (fun _ => ?_) | refine mo_pop (fun _ => ?_) (fun _ _ => ?_))
set_option maxHeartbeats 4000000 in
theorem mreadOwes_G {K : mo_K} {R : Nat → Nat → Nat} {I : Nat → Nat → Int32} {L : Nat → Nat → Int64} {a : Nat} {xs : List Nat} {lim p : Nat} {W : Nat → Int32} {N Z : Nat} (h : mo_md K R a) (hB : mo_b0 I R a xs lim) (hp : p ≤ xs.length) (hR : mo_mr I L R a) (hN1 : I (R a 15) 1 = nI N) (hN : N ≤ 12) (hZ : Z ≤ 40) : mGd R a xs lim (o_Model_readOwes R I L a xs lim p W N Z) := by
  have hb : ∀ k, k < xs.length → xs.getD k 0 < 256 := fun k hk => (hB.1.2.2 k hk).2
  unfold o_Model_readOwes
  repeat' (first | (refine mGd_0 (by repeat (first | assumption | exact hB | refine b0_row h ?_ | refine b0_up h (by decide) ?_ | refine b0_nm h ?_ | refine b0_mm h ?_)) (by repeat (first | assumption | apply tkN_le))) | (refine mGd_1 (by repeat (first | assumption | exact hB | refine b0_row h ?_ | refine b0_up h (by decide) ?_ | refine b0_nm h ?_ | refine b0_mm h ?_)) (by repeat (first | assumption | apply tkN_le)) (by repeat (first | exact hR | refine mr_row ?_ (by omega) | refine mr_c0 ?_ (by omega) | refine mr_c ?_ (by decide) (by decide) (by omega) | refine mr_a h ?_ | refine mr_new hR hN1 (by omega) (tok_w hb (by repeat (first | assumption | apply tkN_le)) (by simp_all))))) | refine mo_pif (fun _ => ?_) (fun _ => ?_) | refine mo_pop (fun _ => ?_) (fun _ _ => ?_))
set_option maxHeartbeats 4000000 in
theorem mreadBrings_G {K : mo_K} {R : Nat → Nat → Nat} {I : Nat → Nat → Int32} {L : Nat → Nat → Int64} {a : Nat} {xs : List Nat} {lim p : Nat} {W : Nat → Int32} {N G : Nat} (h : mo_md K R a) (hB : mo_b0 I R a xs lim) (hp : p ≤ xs.length) (hR : mo_mr I L R a) (hN1 : I (R a 15) 1 = nI N) (hN : N ≤ 12) (hG : G ≤ 40) : mGd R a xs lim (o_Model_readBrings R I L a xs lim p W N G) := by
  have hb : ∀ k, k < xs.length → xs.getD k 0 < 256 := fun k hk => (hB.1.2.2 k hk).2
  unfold o_Model_readBrings
  repeat' (first | (refine mGd_0 (by repeat (first | assumption | exact hB | refine b0_row h ?_ | refine b0_up h (by decide) ?_ | refine b0_nm h ?_ | refine b0_mm h ?_)) (by repeat (first | assumption | apply tkN_le))) | (refine mGd_1 (by repeat (first | assumption | exact hB | refine b0_row h ?_ | refine b0_up h (by decide) ?_ | refine b0_nm h ?_ | refine b0_mm h ?_)) (by repeat (first | assumption | apply tkN_le)) (by repeat (first | exact hR | refine mr_row ?_ (by omega) | refine mr_c0 ?_ (by omega) | refine mr_c ?_ (by decide) (by decide) (by omega) | refine mr_a h ?_ | refine mr_new hR hN1 (by omega) (tok_w hb (by repeat (first | assumption | apply tkN_le)) (by simp_all))))) | refine mo_pif (fun _ => ?_) (fun _ => ?_) | refine mo_pop (fun _ => ?_) (fun _ _ => ?_))
set_option maxHeartbeats 4000000 in
theorem mreadFoes_G {K : mo_K} {R : Nat → Nat → Nat} {I : Nat → Nat → Int32} {L : Nat → Nat → Int64} {a : Nat} {xs : List Nat} {lim p : Nat} {W : Nat → Int32} {N : Nat} {Ow : Nat → Option Nat} (h : mo_md K R a) (hB : mo_b0 I R a xs lim) (hp : p ≤ xs.length) (hR : mo_mr I L R a) (hN1 : I (R a 15) 1 = nI N) (hN : N ≤ 12)  : mGd R a xs lim (o_Model_readFoes R I L a xs lim p W N Ow) := by
  have hb : ∀ k, k < xs.length → xs.getD k 0 < 256 := fun k hk => (hB.1.2.2 k hk).2
  unfold o_Model_readFoes
  repeat' (first | (refine mGd_0 (by repeat (first | assumption | exact hB | refine b0_row h ?_ | refine b0_up h (by decide) ?_ | refine b0_nm h ?_ | refine b0_mm h ?_)) (by repeat (first | assumption | apply tkN_le))) | (refine mGd_1 (by repeat (first | assumption | exact hB | refine b0_row h ?_ | refine b0_up h (by decide) ?_ | refine b0_nm h ?_ | refine b0_mm h ?_)) (by repeat (first | assumption | apply tkN_le)) (by repeat (first | exact hR | refine mr_row ?_ (by omega) | refine mr_c0 ?_ (by omega) | refine mr_c ?_ (by decide) (by decide) (by omega) | refine mr_a h ?_ | refine mr_new hR hN1 (by omega) (tok_w hb (by repeat (first | assumption | apply tkN_le)) (by simp_all))))) | refine mo_pif (fun _ => ?_) (fun _ => ?_) | refine mo_pop (fun _ => ?_) (fun _ _ => ?_))
