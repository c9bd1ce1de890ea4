/-! Calls that may throw: the helper, then the reference, and whether it refused. -/
def wTripL (l : Launch) (H : mo_M) (hh : List (Nat × Nat × Nat × Nat)) (ah : List Value) (Mm : mo_M) (dm : Nat) (am : List Value) (s : Bool) (I : Nat → Nat → Int32) (L : Nat → Nat → Int64) : Prop :=
  ∃ Ψ1 : Option Value → mo_S → Prop, mo_CH l H hh 8 1 6 ah (wK, wR s, I, L, 0) Ψ1 ∧ ∀ r1 K1 R1 I1 L1 x1, Ψ1 r1 (K1, R1, I1, L1, x1) → ∃ k : Int32, r1 = some (.int k) ∧ (k = 0 ∨ k = 1) ∧ K1 = wK ∧ R1 = wR s ∧ x1 = 1 ∧
    ∃ Ψ2 : Option Value → mo_S → Prop, mo_C l Mm dm 0 0 false am (wK, wR s, I1, L1, 0) Ψ2 ∧ ∀ r2 K2 R2 I2 L2 x2, Ψ2 r2 (K2, R2, I2, L2, x2) → ∃ b : Int64, r2 = some (.long b) ∧ K2 = wK ∧ R2 = wR s ∧ x2 = 0 ∧ I2 126 0 = k ∧ (k = 0 → L2 149 0 = b) ∧ ∃ T xs, wInv s I2 L2 T xs
def wTripI (l : Launch) (H : mo_M) (hh : List (Nat × Nat × Nat × Nat)) (ah : List Value) (Mm : mo_M) (dm : Nat) (am : List Value) (s : Bool) (I : Nat → Nat → Int32) (L : Nat → Nat → Int64) : Prop :=
  ∃ Ψ1 : Option Value → mo_S → Prop, mo_CH l H hh 8 1 6 ah (wK, wR s, I, L, 0) Ψ1 ∧ ∀ r1 K1 R1 I1 L1 x1, Ψ1 r1 (K1, R1, I1, L1, x1) → ∃ k : Int32, r1 = some (.int k) ∧ (k = 0 ∨ k = 1) ∧ K1 = wK ∧ R1 = wR s ∧ x1 = 1 ∧
    ∃ Ψ2 : Option Value → mo_S → Prop, mo_C l Mm dm 0 0 false am (wK, wR s, I1, L1, 0) Ψ2 ∧ ∀ r2 K2 R2 I2 L2 x2, Ψ2 r2 (K2, R2, I2, L2, x2) → ∃ b : Int32, r2 = some (.int b) ∧ K2 = wK ∧ R2 = wR s ∧ x2 = 0 ∧ I2 126 0 = k ∧ (k = 0 → L2 149 0 = b.toInt64) ∧ ∃ T xs, wInv s I2 L2 T xs
section F
variable {l : Launch} {H Mm : mo_M} {hh : List (Nat × Nat × Nat × Nat)} {dm : Nat} {ah am : List Value} {s : Bool} {I I1 I2 : Nat → Nat → Int32} {L L1 L2 : Nat → Nat → Int64} {T : mo_Tn} {xs : List Nat}
theorem wTripL_of {b : Int64} {k : Int32} (hk : k = 0 ∨ k = 1) (hH : mo_CH l H hh 8 1 6 ah (wK, wR s, I, L, 0) (fun r σ => r = some (.int k) ∧ σ = (wK, wR s, I1, L1, 1))) (c2 : mo_D l Mm dm am (wK, wR s, I1, L1, 0) (some (.long b)) (wK, wR s, I2, L2, 0)) (h0 : I2 126 0 = k) (hb : k = 0 → L2 149 0 = b) (hI : wInv s I2 L2 T xs) : wTripL l H hh ah Mm dm am s I L := by
  refine ⟨_, hH, fun r1 K1 R1 J1 M1 x1 h => ?_⟩
  obtain ⟨rfl, h⟩ := h
  cases h
  refine ⟨k, rfl, hk, rfl, rfl, rfl, _, c2, fun r2 K2 R2 J2 M2 x2 h => ?_⟩
  obtain ⟨h, rfl⟩ := h
  cases h
  exact ⟨b, rfl, rfl, rfl, rfl, h0, hb, T, xs, hI⟩
theorem wTripI_of {b : Int32} {k : Int32} (hk : k = 0 ∨ k = 1) (hH : mo_CH l H hh 8 1 6 ah (wK, wR s, I, L, 0) (fun r σ => r = some (.int k) ∧ σ = (wK, wR s, I1, L1, 1))) (c2 : mo_D l Mm dm am (wK, wR s, I1, L1, 0) (some (.int b)) (wK, wR s, I2, L2, 0)) (h0 : I2 126 0 = k) (hb : k = 0 → L2 149 0 = b.toInt64) (hI : wInv s I2 L2 T xs) : wTripI l H hh ah Mm dm am s I L := by
  refine ⟨_, hH, fun r1 K1 R1 J1 M1 x1 h => ?_⟩
  obtain ⟨rfl, h⟩ := h
  cases h
  refine ⟨k, rfl, hk, rfl, rfl, rfl, _, c2, fun r2 K2 R2 J2 M2 x2 h => ?_⟩
  obtain ⟨h, rfl⟩ := h
  cases h
  exact ⟨b, rfl, rfl, rfl, rfl, h0, hb, T, xs, hI⟩
theorem tN_Bs {p : Int32} {n v : Nat} (e : tN p = some v) (h : v < n) (hn : n < 2147483648) : tB p n = some v := by
  obtain ⟨h1, h2⟩ := tN_S e
  unfold tB
  rw [if_pos ⟨by rw [h2]; exact (nI_leI (a := 0) (by omega) (by omega)).mpr (by omega), by rw [h2]; exact (nI_ltI (by omega) (by omega)).mpr h⟩, h2, nI_clamp (by omega)]
theorem inv_out (hI : wInv s I L T xs) (v : Int64) : wInv s I (mo_up L 149 0 v) T xs := wInv_fr hI FR.rf (FL.up rfl FL.rf)
theorem inv_thr (hI : wInv s I L T xs) (v : Int32) : wInv s (mo_up I 126 0 v) L T xs := wInv_fr hI (FR.up (by cases s <;> rfl) FR.rf) FL.rf
theorem Q_man (hfl : l.flags = pinnedFlags ++ [noTraceFlag]) (hI : wInv s I L T xs) (p w : Int32) : wTripI l mm_Law_man [(0, 10, 13, 13)] [.ref 1, .int p, .int w, .ref 149] mm_Model_man 2 [.ref 126, .int p, .int w] s I L := by
  have hM := vT_tMen (wv hI)
  have no : (∀ v u, tB p (tMen T) = some v → tB w 3 = some u → False) → wTripI l mm_Law_man [(0, 10, 13, 13)] [.ref 1, .int p, .int w, .ref 149] mm_Model_man 2 [.ref 126, .int p, .int w] s I L := fun hno => by
    have g : o_Model_man (wR s) I 126 T p w = (0, mo_up I 126 0 1) := by
      unfold o_Model_man
      cases e1 : tB p (tMen T) with
      | none => rfl
      | some v =>
        cases e2 : tB w 3 with
        | none => rfl
        | some u => exact absurd e2 (fun z => hno v u e1 z)
    have c2 := C_Model_man l wK (wR s) I L 126 T p w (w_md s) (wN hI)
    rw [g] at c2
    exact wTripI_of (Or.inr rfl) (H_man_thr l (C_Gate_man_thr l hfl wK (wR s) I L 1 (wT s) T p w (w_gt s) (wC hI) (fun v u a1 a2 a3 => hno v u a1 (tN_Bs a2 (by omega) (by decide))))) c2 (show mo_up I 126 0 1 126 0 = 1 from mo_upA _ _ _ _) (fun z => by cases z) (inv_thr hI 1)
  cases e1 : tB p (tMen T) with
  | none => exact no (fun v u a _ => by rw [e1] at a; cases a)
  | some v =>
    cases e2 : tB w 3 with
    | none => exact no (fun v u _ a => by rw [e2] at a; cases a)
    | some u =>
      obtain ⟨b1, rfl⟩ := tB_v (by omega) e1
      obtain ⟨b2, rfl⟩ := tB_v (by decide) e2
      have hr := man_r (x := v) (u := u) (wN hI) b1 b2
      have c2 := C_Model_man l wK (wR s) I (mo_up L 149 0 (o_Gate_man T v u).toInt64) 126 T (nI v) (nI u) (w_md s) (wN hI)
      rw [hr.2, ← hr.1] at c2
      exact wTripI_of (Or.inl rfl) (H_man_ok l _ (by decide) (C_Gate_man l wK (wR s) I L 1 (wT s) T v u (w_gt s) (wC hI) b1 b2)) c2 (mo_upA _ _ _ _) (fun _ => mo_upA _ _ _ _) (inv_thr (inv_out hI _) 0)
theorem lb_of {x : Int64} {c : Int} (h : -c ≤ x.toInt ∧ x.toInt ≤ c) (hc : c < 2 ^ 62) : mo_lb 62 x := ⟨by omega, by omega⟩
theorem Q_out (hfl : l.flags = pinnedFlags ++ [noTraceFlag]) (hI : wInv s I L T xs) (p w : Int32) : wTripL l mm_Law_out [(0, 9, 12, 13)] [.ref 1, .int p, .int w, .ref 149] mm_Model_out 2 [.ref 126, .int p, .int w] s I L := by
  have hM := vT_tMen (wv hI)
  have hv := wv hI
  have hF := wF hI
  have hG := hI.1.2.2.2.2.1
  have c2 := fun J M (h : mo_now (J (wR s 126 14)) T) => C_Model_out l wK (wR s) J M 126 T p w (w_md s) h (fun v hx => out_b hv hG hx)
  have no : (∀ v u, tB p (tMen T) = some v → tB w 2 = some u → False) → wTripL l mm_Law_out [(0, 9, 12, 13)] [.ref 1, .int p, .int w, .ref 149] mm_Model_out 2 [.ref 126, .int p, .int w] s I L := fun hno => by
    have g : o_Model_out I 126 T p w = (0, mo_up I 126 0 1) := by
      unfold o_Model_out
      cases e1 : tB p (tMen T) with
      | none => rfl
      | some v =>
        cases e2 : tB w 2 with
        | none => rfl
        | some u => exact absurd e2 (fun z => hno v u e1 z)
    have c2 := c2 I L (wN hI)
    rw [g] at c2
    exact wTripL_of (Or.inr rfl) (H_out_thr l (C_Gate_out_thr l hfl wK (wR s) I L 1 (wT s) T p w (w_gt s) (wC hI) hno)) c2 (show mo_up I 126 0 1 126 0 = 1 from mo_upA _ _ _ _) (fun z => by cases z) (inv_thr hI 1)
  cases e1 : tB p (tMen T) with
  | none => exact no (fun v u a _ => by rw [e1] at a; cases a)
  | some v =>
    cases e2 : tB w 2 with
    | none => exact no (fun v u _ a => by rw [e2] at a; cases a)
    | some u =>
      have b1 := tB_v (by omega) e1
      have b2 := tB_v (by decide) e2
      have g : ∀ J, (o_Model_out J 126 T p w).2 = mo_up J 126 0 0 := fun J => by unfold o_Model_out; rw [e1, e2]; rfl
      have c2 := c2 I (mo_up (o_Gate_out (wR s) L 1 T v u).2 149 0 (o_Gate_out (wR s) L 1 T v u).1) (wN hI)
      have hr := out_r (R := wR s) (L := L) (I := I) (g := 1) (a := 126) hv hF hG b1.1 b2.1
      rw [← b1.2, ← b2.2] at hr
      rw [g, ← hr] at c2
      have cg := C_Gate_out l wK (wR s) I L 1 (wT s) T v u (w_gt s) (wC hI) b1.1 b2.1 (fun M => by
        have := out_b hv hG b1.1
        rw [← out_eq (R := wR s) (L := M) (g := 1) hv hF hG b1.1] at this
        exact this)
      rw [← b1.2, ← b2.2] at cg
      refine wTripL_of (Or.inl rfl) (H_out_ok l _ (by decide) cg) c2 (mo_upA _ _ _ _) (fun _ => mo_upA _ _ _ _) (inv_thr (inv_out (wInv_fr hI FR.rf ?_) _) 0)
      exact fl_out FL.rf
theorem mean_z {v d : Int32} (hv : mo_vT T) (h : ∀ n, n < 12 → v ≠ nI n) : o_Model_meanOf T v d = 0 := by
  have hN := vT_tNames hv
  have k1 : w_Model_meanOf_5 T v d = 0 := by
    unfold w_Model_meanOf_5
    refine mo_it_inv (f := b_Model_meanOf_5 T v d) (fun _ z => z = 0) (k := tBrs T) (i := 0) (s := 0) rfl (fun i z _ hi hs => ?_)
    unfold b_Model_meanOf_5
    have := vT_tGn hv (show i < tBrs T by omega)
    rw [if_neg (fun e => h _ (by omega) e.symm)]; exact hs
  show w_Model_meanOf_98 T v d = 0
  unfold w_Model_meanOf_98
  refine mo_it_inv (f := b_Model_meanOf_98 T v d) (fun _ z => z = 0) (k := tOws T) (i := 0) (s := w_Model_meanOf_5 T v d) k1 (fun i z _ hi hs => ?_)
  unfold b_Model_meanOf_98
  have h1 := vT_tOf hv (show i < tOws T by omega)
  have h2 := vT_tOt hv (show i < tOws T by omega)
  by_cases c : nI (tOd T i) = d
  · rw [if_pos c, if_neg (fun e => h _ (by omega) e.symm), if_neg (fun e => h _ (by omega) e.symm)]; exact hs
  · rw [if_neg c]; exact hs
theorem mean_b (hv : mo_vT T) (hG : mo_gT T) (v d : Int32) : mo_lb 62 (o_Model_meanOf T v d) := by
  by_cases c : ∃ n, n < 12 ∧ v = nI n
  · obtain ⟨n, hn, rfl⟩ := c
    have := su_b hv hG (d := d) (n := n)
    rw [su_w hv hG hn] at this
    exact lb_of this (by decide)
  · rw [mean_z hv (fun n hn e => c ⟨n, hn, e⟩)]
    exact ⟨by decide, by decide⟩
theorem Q_mean (hfl : l.flags = pinnedFlags ++ [noTraceFlag]) (hI : wInv s I L T xs) (p dd w : Int32) : wTripL l mm_Law_mean [(0, 11, 14, 13)] [.ref 1, .int p, .int dd, .int w, .ref 149] mm_Model_mean 2 [.ref 126, .int p, .int dd, .int w] s I L := by
  have hN := vT_tNames (wv hI)
  have hv := wv hI
  have hF := wF hI
  have hG := hI.1.2.2.2.2.1
  have c2 := fun J M (h : mo_now (J (wR s 126 14)) T) => C_Model_mean l wK (wR s) J M 126 T p dd w (w_md s) h (fun v d => mean_b hv hG v d)
  have no : (∀ v d u, tB p (tNames T) = some v → tB dd 30 = some d → tB w 2 = some u → False) → wTripL l mm_Law_mean [(0, 11, 14, 13)] [.ref 1, .int p, .int dd, .int w, .ref 149] mm_Model_mean 2 [.ref 126, .int p, .int dd, .int w] s I L := fun hno => by
    have g : o_Model_mean I 126 T p dd w = (0, mo_up I 126 0 1) := by
      unfold o_Model_mean
      cases e1 : tB p (tNames T) with
      | none => rfl
      | some v =>
        cases e3 : tB dd 30 with
        | none => rfl
        | some d =>
          cases e2 : tB w 2 with
          | none => rfl
          | some u => exact absurd e2 (fun z => hno v d u e1 e3 z)
    have c2 := c2 I L (wN hI)
    rw [g] at c2
    exact wTripL_of (Or.inr rfl) (H_mean_thr l (C_Gate_mean_thr l hfl wK (wR s) I L 1 (wT s) T p dd w (w_gt s) (wC hI) hno)) c2 (show mo_up I 126 0 1 126 0 = 1 from mo_upA _ _ _ _) (fun z => by cases z) (inv_thr hI 1)
  cases e1 : tB p (tNames T) with
  | none => exact no (fun v d u a _ _ => by rw [e1] at a; cases a)
  | some v =>
    cases e3 : tB dd 30 with
    | none => exact no (fun v d u _ a _ => by rw [e3] at a; cases a)
    | some d =>
      cases e2 : tB w 2 with
      | none => exact no (fun v d u _ _ a => by rw [e2] at a; cases a)
      | some u =>
        have b1 := tB_v (by omega) e1
        have b2 := tB_v (by decide) e2
        have b3 := tB_v (by decide) e3
        have g : ∀ J, (o_Model_mean J 126 T p dd w).2 = mo_up J 126 0 0 := fun J => by unfold o_Model_mean; rw [e1, e3, e2]; rfl
        have c2 := c2 I (mo_up (o_Gate_mean (wR s) L 1 T v d u).2 149 0 (o_Gate_mean (wR s) L 1 T v d u).1) (wN hI)
        have hr := mean_r (R := wR s) (L := L) (I := I) (g := 1) (a := 126) hv hG b1.1 b3.1 b2.1
        rw [← b1.2, ← b2.2, ← b3.2] at hr
        rw [g, ← hr] at c2
        have cg := C_Gate_mean l wK (wR s) I L 1 (wT s) T v d u (w_gt s) (wC hI) b1.1 b3.1 b2.1 (fun n d => lb_of (su_b hv hG) (by decide))
        rw [← b1.2, ← b2.2, ← b3.2] at cg
        refine wTripL_of (Or.inl rfl) (H_mean_ok l _ (by decide) cg) c2 (mo_upA _ _ _ _) (fun _ => mo_upA _ _ _ _) (inv_thr (inv_out (wInv_fr hI FR.rf ?_) _) 0)
        unfold o_Gate_mean
        exact FL.fi (sl_g10 s) FL.rf
end F
