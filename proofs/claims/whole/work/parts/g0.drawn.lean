/-! Drawn: both loops, alike. -/
/-- the days' names drawn for those of a line who have none -/
def dRun (ms : List Nat) : Nat → Nat → Int32 × Nat × mo_Tn → Int32 × Nat × mo_Tn
  | 0, _, s => s
  | r + 1, k, s => Option.elim (tGave s.2.2 (tTd s.2.2) (ms.getD k 0)) (if lo_ct (dAv s.2.2 (ms.getD k 0)) (tNames s.2.2) = 0 then s else dRun ms r (k + 1) (dSd s.1, s.2.1 + 1, tPut s.2.2 (tTd s.2.2) (ms.getD k 0) (dNm s.2.2 (ms.getD k 0) s.1 + 1))) (fun _ => dRun ms r (k + 1) s)
theorem dRun_s {ms : List Nat} {r k : Nat} {x : Int32} {w : Nat} {T : mo_Tn} {v : Nat} (e : tGave T (tTd T) (ms.getD k 0) = some v) : dRun ms (r + 1) k (x, w, T) = dRun ms r (k + 1) (x, w, T) := by
  show Option.elim (tGave T (tTd T) (ms.getD k 0)) _ _ = _
  rw [e]; rfl
theorem dRun_0 {ms : List Nat} {r k : Nat} {x : Int32} {w : Nat} {T : mo_Tn} (e : tGave T (tTd T) (ms.getD k 0) = none) (c : lo_ct (dAv T (ms.getD k 0)) (tNames T) = 0) : dRun ms (r + 1) k (x, w, T) = (x, w, T) := by
  show Option.elim (tGave T (tTd T) (ms.getD k 0)) (if lo_ct (dAv T (ms.getD k 0)) (tNames T) = 0 then (x, w, T) else _) _ = _
  rw [e]
  exact if_pos c
theorem dRun_n {ms : List Nat} {r k : Nat} {x : Int32} {w : Nat} {T : mo_Tn} (e : tGave T (tTd T) (ms.getD k 0) = none) (c : ¬ lo_ct (dAv T (ms.getD k 0)) (tNames T) = 0) : dRun ms (r + 1) k (x, w, T) = dRun ms r (k + 1) (dSd x, w + 1, tPut T (tTd T) (ms.getD k 0) (dNm T (ms.getD k 0) x + 1)) := by
  show Option.elim (tGave T (tTd T) (ms.getD k 0)) (if lo_ct (dAv T (ms.getD k 0)) (tNames T) = 0 then _ else dRun ms r (k + 1) (dSd x, w + 1, tPut T (tTd T) (ms.getD k 0) (dNm T (ms.getD k 0) x + 1))) _ = _
  rw [e]
  exact if_neg c
/-- a name that is left was given by nobody -/
theorem free_n {T : mo_Tn} (hv : mo_vT T) (hF : mo_fT T) {m j : Nat} (hj : j < tNames T) (h : dAv T m j = true) : ∀ m', m' < 8 → tGv T (tTd T) m' ≠ j + 1 := fun m' hm e => by
  have hb := vT_tTd hv
  have hn := vT_tNames hv
  have hmm := vT_tMen hv
  obtain ⟨_, c, hc⟩ := hF.2.1 (tTd T) m' hb hm (by omega)
  have h1 := tF_lt hc
  have h2 := vT_tCm hv h1.1
  have h3 := (nI_eq (by omega) (by omega)).mp h1.2.1
  unfold dAv at h
  rw [Bool.and_eq_true] at h
  cases e2 : tBr T (nI j) (tTd T) with
  | some v => rw [e2] at h; exact absurd (show false = true from h.2) (by decide)
  | none =>
    have h4 := ff_none e2 (show m' < tMen T by omega)
    have h5 := of_decide_eq_false h4
    refine h5 ?_
    rw [e]
    exact mo_nsub (A := j + 1) (B := 1) rfl rfl (by omega)
theorem put_one {T : mo_Tn} (hv : mo_vT T) (hF : mo_fT T) {m c : Nat} {x : Int32} (hc : c < tComs T) (hm : tCm T c = m) (hd : tCd T c = tTd T) (h : ¬ lo_ct (dAv T m) (tNames T) = 0) : mo_fT (tPut T (tTd T) m (dNm T m x + 1)) := by
  obtain ⟨h1, h2, _⟩ := dNm_r (x := x) h
  refine put_f hF (fun _ => ⟨Nat.le_refl _, c, ?_⟩) (fun _ m' hm' _ => free_n hv hF h1 h2 m' hm')
  rw [← hm, ← hd]
  exact tF_is hv hF hc
theorem up_va {H : Nat → Nat → Int32} {q k : Nat} {v : Int32} : mo_up H q k v q = va_up (H q) k v := funext (fun y => by
  by_cases c : y = k
  · rw [c, mo_upA, va_up_self]
  · rw [mo_upK _ _ _ c, va_up_ne _ _ c])
theorem cdraw_loop (l : Launch) (K : mo_K) (R : Nat → Nat → Nat) (L : Nat → Nat → Int64) (g t nn : Nat) (cs ms : List Nat) (h : mo_gt K R g t) (hnn : nn ≤ 8) (I0 : Nat → Nat → Int32) (L0 : Nat → Nat → Int64) (Ψ : Option Value → mo_S → Prop) : ∀ r k x w I T, k + r = nn → w ≤ k → mo_ct I R t T → mo_fT T → (∀ j, j < nn → I (R g 8) j = nI (cs.getD j 0)) → (∀ j, j < nn → cs.getD j 0 < tComs T ∧ tCd T (cs.getD j 0) = tTd T ∧ tCm T (cs.getD j 0) = ms.getD j 0) →
    (∀ I', mo_ct I' R t (dRun ms r k (x, w, T)).2.2 → mo_fT (dRun ms r k (x, w, T)).2.2 → (∀ q, q ≠ R (R t 1) 4 → I' q = I q) → Ψ (some (.int (nI (dRun ms r k (x, w, T)).2.1))) (K, R, I', L, 0)) →
    mo_J l mm_Gate_drawn 6 0 0 false (K, R, I0, L0, 0) Ψ (33, [some (.ref g), none, some (.ref (R t 1)), some (.int (nI nn)), some (.int x), some (.int (nI w)), some (.int (nI k)), none, none, none, none], [], (K, R, I, L, 0)) := by
  intro r
  induction r with
  | zero =>
    intro k x w I T hk hw hC hF _ _ hΨ
    have e : k = nn := by omega
    rw [e]
    exact Q_cdraw_end l K R I L g t T nn w x h hC hnn I0 L0 Ψ (hΨ I hC hF (fun _ _ => rfl))
  | succ r ih =>
    intro k x w I T hk hw hC hF hl hc hΨ
    have hv := ct_v hC
    obtain ⟨c1, c2, c3⟩ := hc k (by omega)
    have hg : tGc T (cs.getD k 0) = tGave T (tTd T) (ms.getD k 0) := by
      unfold tGc
      rw [c2, c3]
    refine Q_cdraw l K R I L g t T nn k w x (cs.getD k 0) h hC (by omega) hnn (by omega) (hl k (by omega)) c1 I0 L0 Ψ (fun s hs _ => ?_) (fun s hs => ?_)
    · rw [cdraw_r hv hF, hg, c3] at hs
      cases e : tGave T (tTd T) (ms.getD k 0) with
      | some v =>
        rw [e] at hs
        have hs2 : (Sum.inl (x, w, I) : (Int32 × Nat × (Nat → Nat → Int32)) ⊕ (Int32 × Nat × (Nat → Nat → Int32))) = .inl s := hs
        have hs3 := Sum.inl.inj hs2
        rw [← hs3]
        rw [dRun_s e] at hΨ
        exact ih (k + 1) x w I T (by omega) (by omega) hC hF hl hc hΨ
      | none =>
        rw [e] at hs
        have hs2 : (if lo_ct (dAv T (ms.getD k 0)) (tNames T) = 0 then .inr (x, w, I) else .inl (dSd x, w + 1, mo_up I (R (R t 1) 4) (cs.getD k 0) (nI (dNm T (ms.getD k 0) x))) : (Int32 × Nat × (Nat → Nat → Int32)) ⊕ (Int32 × Nat × (Nat → Nat → Int32))) = .inl s := hs
        by_cases c : lo_ct (dAv T (ms.getD k 0)) (tNames T) = 0
        · rw [if_pos c] at hs2; cases hs2
        · rw [if_neg c] at hs2
          have hs3 := Sum.inl.inj hs2
          rw [← hs3]
          rw [dRun_n e c] at hΨ
          obtain ⟨n1, _, _⟩ := dNm_r (x := x) c
          have hC2 := ct_put h hC hF (c := cs.getD k 0) (x := dNm T (ms.getD k 0) x + 1) (y := nI (dNm T (ms.getD k 0) x)) c1 (by omega) (by rw [if_neg (by omega)]; rfl)
          rw [c2, c3] at hC2
          refine ih (k + 1) (dSd x) (w + 1) _ _ (by omega) (by omega) hC2 (put_one hv hF c1 c3 c2 c) (fun j hj => ?_) hc (fun I' g1 g2 g3 => hΨ I' g1 g2 (fun q hq => (g3 q hq).trans (mo_upR hq)))
          show mo_up I (R (R t 1) 4) (cs.getD k 0) (nI (dNm T (ms.getD k 0) x)) (R g 8) j = _
          rw [mo_upR (show R g 8 ≠ R (R t 1) 4 from mo_nd h.2.2.2.1 (i := 22) (j := 9) rfl rfl (by decide))]
          exact hl j hj
    · rw [cdraw_r hv hF, hg, c3] at hs
      cases e : tGave T (tTd T) (ms.getD k 0) with
      | some v =>
        rw [e] at hs
        have hs2 : (Sum.inl (x, w, I) : (Int32 × Nat × (Nat → Nat → Int32)) ⊕ (Int32 × Nat × (Nat → Nat → Int32))) = .inr s := hs
        cases hs2
      | none =>
        rw [e] at hs
        have hs2 : (if lo_ct (dAv T (ms.getD k 0)) (tNames T) = 0 then .inr (x, w, I) else .inl (dSd x, w + 1, mo_up I (R (R t 1) 4) (cs.getD k 0) (nI (dNm T (ms.getD k 0) x))) : (Int32 × Nat × (Nat → Nat → Int32)) ⊕ (Int32 × Nat × (Nat → Nat → Int32))) = .inr s := hs
        by_cases c : lo_ct (dAv T (ms.getD k 0)) (tNames T) = 0
        · rw [if_pos c] at hs2
          have hs3 := Sum.inr.inj hs2
          rw [← hs3]
          rw [dRun_0 e c] at hΨ
          exact Q_cdraw_brk l K R I L g t T w h hC I0 L0 Ψ (hΨ I hC hF (fun _ _ => rfl))
        · rw [if_neg c] at hs2; cases hs2
theorem mdraw_loop (l : Launch) (K : mo_K) (R : Nat → Nat → Nat) (L : Nat → Nat → Int64) (a nn : Nat) (ms : List Nat) (h : mo_md K R a) (hnn : nn ≤ 8) (I0 : Nat → Nat → Int32) (L0 : Nat → Nat → Int64) (Ψ : Option Value → mo_S → Prop) : ∀ r k x w I T, k + r = nn → w ≤ k → mo_now (I (R a 14)) T → I a 23 = nI nn → I a 41 = x → (∀ j, j < nn → I (R a 22) j = nI (ms.getD j 0) ∧ ms.getD j 0 < tMen T) →
    (∀ I', mo_now (I' (R a 14)) (dRun ms r k (x, w, T)).2.2 → (∀ q, q ≠ a → q ≠ R a 14 → I' q = I q) → (∀ f, f ≠ 41 → I' a f = I a f) → Ψ (some (.int (nI (dRun ms r k (x, w, T)).2.1))) (K, R, I', L, 0)) →
    mo_J l mm_Model_drawn 4 0 0 false (K, R, I0, L0, 0) Ψ (22, [some (.ref a), none, some (.int (nI w)), some (.int (nI k)), none, none, none, none], [], (K, R, I, L, 0)) := by
  have na14 : a ≠ R a 14 := mo_nekd h.1 (mo_mk14 h) (by decide)
  intro r
  induction r with
  | zero =>
    intro k x w I T hk hw hN h23 _ _ hΨ
    have e : k = nn := by omega
    rw [e]
    exact Q_mdraw_end l K R I L a T nn w h hN hnn h23 I0 L0 Ψ (hΨ I hN (fun _ _ _ => rfl) (fun _ _ => rfl))
  | succ r ih =>
    intro k x w I T hk hw hN h23 h41 hm hΨ
    have hv := now_v hN
    have hb0 := vT_tMen hv
    have hb5 := vT_tTd hv
    obtain ⟨m1, m2⟩ := hm k (by omega)
    refine Q_mdraw l K R I L a T nn k w (ms.getD k 0) h hN (by omega) hnn (by omega) h23 m1 m2 I0 L0 Ψ (fun s hs _ => ?_) (fun s hs => ?_)
    · rw [mdraw_r hv (by omega), h41] at hs
      cases e : tGave T (tTd T) (ms.getD k 0) with
      | some v =>
        rw [e] at hs
        have hs2 : (Sum.inl (w, I) : (Nat × (Nat → Nat → Int32)) ⊕ Int32) = .inl s := hs
        have hs3 := Sum.inl.inj hs2
        rw [← hs3]
        rw [dRun_s e] at hΨ
        exact ih (k + 1) x w I T (by omega) (by omega) hN h23 h41 hm hΨ
      | none =>
        rw [e] at hs
        have hs2 : (if lo_ct (dAv T (ms.getD k 0)) (tNames T) = 0 then .inr (nI w) else .inl (w + 1, mo_up (mo_up I a 41 (dSd x)) (R a 14) ((553 + (8 * (tTd T))) + ms.getD k 0) (nI (dNm T (ms.getD k 0) x + 1))) : (Nat × (Nat → Nat → Int32)) ⊕ Int32) = .inl s := hs
        by_cases c : lo_ct (dAv T (ms.getD k 0)) (tNames T) = 0
        · rw [if_pos c] at hs2; cases hs2
        · rw [if_neg c] at hs2
          have hs3 := Sum.inl.inj hs2
          rw [← hs3]
          rw [dRun_n e c] at hΨ
          obtain ⟨n1, _, _⟩ := dNm_r (x := x) c
          have hN2 := now_put hN (d := tTd T) (m := ms.getD k 0) (x := dNm T (ms.getD k 0) x + 1) hb5 (by omega) (by omega)
          refine ih (k + 1) (dSd x) (w + 1) _ _ (by omega) (by omega) ?_ ?_ ?_ (fun j hj => ?_) (fun I' g1 g2 g3 => hΨ I' g1 (fun q q1 q2 => (g2 q q1 q2).trans ((mo_upR q2).trans (mo_upR q1))) (fun f hf => ?_))
          · show mo_now (mo_up (mo_up I a 41 (dSd x)) (R a 14) ((553 + (8 * (tTd T))) + ms.getD k 0) (nI (dNm T (ms.getD k 0) x + 1)) (R a 14)) _
            rw [up_va, mo_upR na14.symm]
            exact hN2
          · show mo_up (mo_up I a 41 (dSd x)) (R a 14) ((553 + (8 * (tTd T))) + ms.getD k 0) (nI (dNm T (ms.getD k 0) x + 1)) a 23 = _
            rw [mo_upR na14, mo_upK _ _ _ (by decide)]
            exact h23
          · show mo_up (mo_up I a 41 (dSd x)) (R a 14) ((553 + (8 * (tTd T))) + ms.getD k 0) (nI (dNm T (ms.getD k 0) x + 1)) a 41 = _
            rw [mo_upR na14, mo_upA]
          · show mo_up (mo_up I a 41 (dSd x)) (R a 14) ((553 + (8 * (tTd T))) + ms.getD k 0) (nI (dNm T (ms.getD k 0) x + 1)) (R a 22) j = _ ∧ _
            rw [mo_upR (h.2.2 (22, 100, 8) (by decide) (14, 100, 842) (by decide) (by decide)), mo_upR (mo_nekd (mo_mk22 h) h.1 (by decide))]
            exact hm j hj
          · rw [g3 f hf]
            show mo_up (mo_up I a 41 (dSd x)) (R a 14) ((553 + (8 * (tTd T))) + ms.getD k 0) (nI (dNm T (ms.getD k 0) x + 1)) a f = _
            rw [mo_upR na14, mo_upK _ _ _ hf]
    · rw [mdraw_r hv (by omega), h41] at hs
      cases e : tGave T (tTd T) (ms.getD k 0) with
      | some v =>
        rw [e] at hs
        have hs2 : (Sum.inl (w, I) : (Nat × (Nat → Nat → Int32)) ⊕ Int32) = .inr s := hs
        cases hs2
      | none =>
        rw [e] at hs
        have hs2 : (if lo_ct (dAv T (ms.getD k 0)) (tNames T) = 0 then .inr (nI w) else .inl (w + 1, mo_up (mo_up I a 41 (dSd x)) (R a 14) ((553 + (8 * (tTd T))) + ms.getD k 0) (nI (dNm T (ms.getD k 0) x + 1))) : (Nat × (Nat → Nat → Int32)) ⊕ Int32) = .inr s := hs
        by_cases c : lo_ct (dAv T (ms.getD k 0)) (tNames T) = 0
        · rw [if_pos c] at hs2
          have hs3 := Sum.inr.inj hs2
          rw [← hs3]
          rw [dRun_0 e c] at hΨ
          exact hΨ I hN (fun _ _ _ => rfl) (fun _ _ => rfl)
        · rw [if_neg c] at hs2; cases hs2
