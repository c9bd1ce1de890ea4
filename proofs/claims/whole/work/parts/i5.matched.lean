/-! Matched and serial, both. -/
section F
variable {l : Launch} {s : Bool} {I I1 I2 J : Nat → Nat → Int32} {L L1 L2 M : Nat → Nat → Int64} {T : mo_Tn} {xs : List Nat}
def e140 (q _ : Nat) : Bool := q == 140
def e141 (q _ : Nat) : Bool := q == 141
theorem m102 {p : Int32} {d : Nat} {P : Nat → Nat → Bool} (h0 : ∀ k, P 140 k = true) (h1 : FR P J (mo_up (mo_up (mo_l1 I 126 29 139 (tRow T (nI d) p)) 126 0 0) 126 30 1)) : FR P J (w_Model_matched_102 (wR s) I 126 T p d).1 := by
  have e27 : wR s 126 27 = 140 := w_V s (126, 27, 140) (by decide)
  have e26 : wR s 126 26 = 139 := w_V s (126, 26, 139) (by decide)
  unfold w_Model_matched_102
  refine FR.it (f := fun z : (Nat → Nat → Int32) × Nat => z.1) (fun k z hz => ?_) _ _ _ ?_
  · unfold b_Model_matched_102
    rw [e27]
    exact pe_sum (P := fun z : (Nat → Nat → Int32) × Nat => FR P J z.1) (fun _ => FR.up (h0 _) hz) (fun _ => FR.up (h0 _) hz)
  · show FR P J (w_Model_matched_75 (wR s) I 126 T p d)
    unfold w_Model_matched_75
    rw [e26]
    refine FR.it (f := fun z => z) (fun k z hz => ?_) _ _ _ h1
    unfold b_Model_matched_75
    rw [e27]
    exact FR.up (h0 _) hz
theorem eM_140 (k : Nat) : wP s eM 140 k = true := by cases s <;> rfl
theorem pOK {p : Int32} : (¬ p < -1 ∧ ¬ 4 ≤ p) ↔ (p = -1 ∨ ¬ mo_isIn p 0 3 = 0) := by
  have a1 : p < -1 ↔ p.toInt < -1 := Int32.lt_iff_toInt_lt
  have a2 : (4 : Int32) ≤ p ↔ 4 ≤ p.toInt := Int32.le_iff_toInt_le
  have a3 : p = -1 ↔ p.toInt = -1 := Int32.toInt_inj.symm
  have a4 : p < 0 ↔ p.toInt < 0 := Int32.lt_iff_toInt_lt
  have a5 : (3 : Int32) < p ↔ 3 < p.toInt := Int32.lt_iff_toInt_lt
  unfold mo_isIn
  by_cases c1 : p < 0
  · rw [if_pos c1, a1, a2, a3]
    rw [a4] at c1
    constructor
    · intro z; left; omega
    · intro z
      rcases z with z | z
      · omega
      · exact absurd rfl z
  · rw [if_neg c1]
    rw [a4] at c1
    by_cases c2 : (3 : Int32) < p
    · rw [if_pos c2, a1, a2, a3]
      rw [a5] at c2
      constructor
      · intro z; omega
      · intro z
        rcases z with z | z
        · omega
        · exact absurd rfl z
    · rw [if_neg c2, a1, a2, a3]
      rw [a5] at c2
      exact ⟨fun _ => Or.inr (by decide), fun _ => by omega⟩
theorem Q_matched (hfl : l.flags = pinnedFlags ++ [noTraceFlag]) (hI : wInv s I L T xs) (dd p w : Int32) : wTripL l mm_Law_matched [(0, 11, 14, 13)] [.ref 1, .int dd, .int p, .int w, .ref 149] mm_Model_matched 3 [.ref 126, .int dd, .int p, .int w] s I L := by
  have e5 : wR s 1 5 = 70 := w_V s (1, 5, 70) (by decide)
  have e26 : wR s 126 26 = 139 := w_V s (126, 26, 139) (by decide)
  have e27 : wR s 126 27 = 140 := w_V s (126, 27, 140) (by decide)
  have hv := wv hI
  have hF := wF hI
  have hG := hI.1.2.2.2.2.1
  have c2 := fun J M (h : mo_now (J (wR s 126 14)) T) => C_Model_matched l wK (wR s) J M 126 T dd p w (w_md s) h (fun a b c => tM_b hv hG a b c)
  have no : (∀ d u, tB dd 30 = some d → (p = -1 ∨ ¬ mo_isIn p 0 3 = 0) → tB w 2 = some u → tM T (nI d) 0 (tRow T (nI d) p) 0 0 = -1000000000000000) → wTripL l mm_Law_matched [(0, 11, 14, 13)] [.ref 1, .int dd, .int p, .int w, .ref 149] mm_Model_matched 3 [.ref 126, .int dd, .int p, .int w] s I L := fun hno => by
    have hc := C_Gate_matched_thr l hfl wK (wR s) I L 1 (wT s) T dd p w (w_gt s) (wC hI) (fun d u a1 a2 a3 a4 a5 => by
      have hz := hno d u a1 (pOK.mp ⟨a2, a3⟩) a4
      rcases ms_eq (R := wR s) (I := I) (L := L) (g := 1) (T := T) (dd := nI d) (p := p) hv hF hG with ⟨_, y⟩ | ⟨_, y, _⟩
      · exact a5 (lc_eq0.mpr y)
      · exact absurd hz y)
    have f1 : FR (wS s) I (o_Gate_matched_thr (wR s) I L 1 T dd p w).1 := by
      unfold o_Gate_matched_thr
      repeat' (first | exact FR.rf | exact fr_mo FR.rf | (refine pe_opt (P := fun z : (Nat → Nat → Int32) × (Nat → Nat → Int64) => FR (wS s) I z.1) ?_ (fun _ => ?_)) | (refine pe_ite (P := fun z : (Nat → Nat → Int32) × (Nat → Nat → Int64) => FR (wS s) I z.1) ?_ ?_))
    have f2 : FL wSL L (o_Gate_matched_thr (wR s) I L 1 T dd p w).2 := by
      unfold o_Gate_matched_thr
      repeat' (first | exact FL.rf | exact fl_mkl FL.rf | (refine pe_opt (P := fun z : (Nat → Nat → Int32) × (Nat → Nat → Int64) => FL wSL L z.2) ?_ (fun _ => ?_)) | (refine pe_ite (P := fun z : (Nat → Nat → Int32) × (Nat → Nat → Int64) => FL wSL L z.2) ?_ ?_))
    have hJ := wInv_fr hI f1 f2
    generalize (o_Gate_matched_thr (wR s) I L 1 T dd p w).1 = J at hc hJ
    generalize (o_Gate_matched_thr (wR s) I L 1 T dd p w).2 = M at hc hJ
    have c2 := c2 J M (wN hJ)
    have g : ∃ J2 M2, o_Model_matched (wR s) J M 126 T dd p w = (0, mo_up J2 126 0 1, M2) ∧ FR (wS s) J J2 ∧ FL wSL M M2 := by
      unfold o_Model_matched
      cases e3 : tB dd 30 with
      | none => exact ⟨J, M, rfl, FR.rf, FL.rf⟩
      | some d =>
        dsimp only [Option.elim_some]
        by_cases cp : p = -1
        · rw [if_pos cp]
          cases e2 : tB w 2 with
          | none => exact ⟨J, M, rfl, FR.rf, FL.rf⟩
          | some u =>
            dsimp only [Option.elim_some]
            rw [if_pos (lc_eq0.mpr (hno d u e3 (Or.inl cp) e2))]
            exact ⟨_, _, rfl, FR.l1 (by cases s <;> rfl) (sc_r26 s) FR.rf, fl_most (FL.fi (sl_r25 s) FL.rf)⟩
        · rw [if_neg cp]
          by_cases cq : mo_isIn p 0 3 = 0
          · rw [if_pos cq]
            exact ⟨J, M, rfl, FR.rf, FL.rf⟩
          · rw [if_neg cq]
            cases e2 : tB w 2 with
            | none => exact ⟨J, M, rfl, FR.rf, FL.rf⟩
            | some u =>
              dsimp only [Option.elim_some]
              rw [if_pos (lc_eq0.mpr (hno d u e3 (Or.inr cq) e2))]
              exact ⟨_, _, rfl, FR.l1 (by cases s <;> rfl) (sc_r26 s) FR.rf, fl_most (FL.fi (sl_r25 s) FL.rf)⟩
    obtain ⟨J2, M2, g, g1, g2⟩ := g
    rw [g] at c2
    exact wTripL_of (Or.inr rfl) (H_matched_thr l hc) c2 (show mo_up J2 126 0 1 126 0 = 1 from mo_upA _ _ _ _) (fun z => by cases z) (inv_thr (wInv_fr hJ g1 g2) 1)
  cases e3 : tB dd 30 with
  | none => exact no (fun d u a _ _ => by rw [e3] at a; cases a)
  | some d =>
    by_cases cp : p = -1 ∨ ¬ mo_isIn p 0 3 = 0
    · cases e2 : tB w 2 with
      | none => exact no (fun d u _ _ a => by rw [e2] at a; cases a)
      | some u =>
        by_cases cz : tM T (nI d) 0 (tRow T (nI d) p) 0 0 = -1000000000000000
        · exact no (fun d' u' b _ c => by rw [e3] at b; cases b; exact cz)
        · have b2 := tB_v (by decide) e2
          have b3 := tB_v (by decide) e3
          have r1 := lb_R (ms_eq (R := wR s) (I := I) (L := L) (g := 1) (T := T) (dd := nI d) (p := p) hv hF hG) cz
          have pp := pOK.mpr cp
          have cg := C_Gate_matched l wK (wR s) I L 1 (wT s) T d u p (w_gt s) (wC hI) b3.1 b2.1 pp.1 pp.2 (fun z => r1.2.1 (lc_eq0.mp z)) (mo_lb_mono r1.2.2)
          rw [← b2.2, ← b3.2] at cg
          have f1 : FR (wP s eM) I (o_Gate_matched (wR s) I L 1 T d u p).2.1 := by
            show FR (wP s eM) I (mo_rw (mo_fi (tMO (wR s) I L 1 T (nI d) p) (wR s 1 5) 0 8 (fun _ => -1)) (wR s 1 5) _)
            rw [e5]
            exact FR.rw (fun k => by cases s <;> rfl) (FR.fi (fun k => by cases s <;> rfl) (fr_mo FR.rf).wide)
          have f2 : FL wSL L (o_Gate_matched (wR s) I L 1 T d u p).2.2 := by unfold o_Gate_matched; exact fl_mkl FL.rf
          have hrow : ∀ m, m < 8 → (o_Gate_matched (wR s) I L 1 T d u p).2.1 70 m = (w_Model_matched_102 (wR s) (o_Gate_matched (wR s) I L 1 T d u p).2.1 126 T p d).1 140 m := fun m hm => by
            have := choose_r (R := wR s) (R' := wR s) (I := I) (I' := (o_Gate_matched (wR s) I L 1 T d u p).2.1) (I2 := tMO (wR s) I L 1 T (nI d) p) (L := L) (g := 1) (a := 126) (T := T) (p := p) (d := d) hv hF hG cz hm
            rw [e27] at this
            rw [← this]
            have e : (o_Gate_matched (wR s) I L 1 T d u p).2.1 = mo_rw (mo_fi (tMO (wR s) I L 1 T (nI d) p) (wR s 1 5) 0 8 (fun _ => -1)) (wR s 1 5) (w_Market_choose_10 (wR s) (tMO (wR s) I L 1 T (nI d) p) (tMkl (wR s) L 1 T (nI d)) 1 (tMR (wR s) I L 1 T (nI d)) (tMo T (nI d) p) (tMz T (nI d) p) (tMn T (nI d) p) (2 ^ tNames T - 1)).2 := rfl
            rw [e, e5, mo_rw_at]
          have hn : mo_now ((o_Gate_matched (wR s) I L 1 T d u p).2.1 (wR s 126 14)) T := by
            rw [w_V s (126, 14, 128) (by decide)]
            show mo_now ((o_Gate_matched (wR s) I L 1 T d u p).2.1 128) T
            rw [show (o_Gate_matched (wR s) I L 1 T d u p).2.1 128 = I 128 from funext (fun k => f1 128 k (by cases s <;> rfl))]
            exact hI.1.2.1
          have c2 := c2 _ (mo_up (o_Gate_matched (wR s) I L 1 T d u p).2.2 149 0 (o_Gate_matched (wR s) I L 1 T d u p).1) hn
          have g : ∀ J M, o_Model_matched (wR s) J M 126 T dd p w = ((o_Gate_matched (wR s) I L 1 T d u p).1, (w_Model_matched_102 (wR s) J 126 T p d).1, tML (wR s) (mo_fi M (wR s 126 25) 0 (tNames T) (tW T (nI d))) 126 T 0 (tRow T (nI d) p)) := fun J M => by
            unfold o_Model_matched o_Gate_matched
            rw [e3, e2]
            dsimp only [Option.elim_some]
            by_cases cq : p = -1
            · rw [if_pos cq, if_neg (fun z => cz (lc_eq0.mp z)), r1.1]
            · rw [if_neg cq, if_neg (fun z => (cp.resolve_left cq) z), if_neg (fun z => cz (lc_eq0.mp z)), r1.1]
          rw [g] at c2
          have fin : FR e140 (mo_up (mo_up (mo_l1 (o_Gate_matched (wR s) I L 1 T d u p).2.1 126 29 139 (tRow T (nI d) p)) 126 0 0) 126 30 1) (w_Model_matched_102 (wR s) (o_Gate_matched (wR s) I L 1 T d u p).2.1 126 T p d).1 := m102 (fun _ => rfl) FR.rf
          have z0 : (w_Model_matched_102 (wR s) (o_Gate_matched (wR s) I L 1 T d u p).2.1 126 T p d).1 126 0 = 0 := by rw [fin 126 0 rfl, mo_upK _ _ _ (by decide), mo_upA]
          have z30 : (w_Model_matched_102 (wR s) (o_Gate_matched (wR s) I L 1 T d u p).2.1 126 T p d).1 126 30 = 1 := by rw [fin 126 30 rfl, mo_upA]
          have z70 : (w_Model_matched_102 (wR s) (o_Gate_matched (wR s) I L 1 T d u p).2.1 126 T p d).1 70 = (o_Gate_matched (wR s) I L 1 T d u p).2.1 70 := funext (fun k => by rw [fin 70 k rfl, mo_upR (by decide), mo_upR (by decide), mo_l1Q (by decide) (by decide)])
          have f3 : FR (wP s eM) (o_Gate_matched (wR s) I L 1 T d u p).2.1 (w_Model_matched_102 (wR s) (o_Gate_matched (wR s) I L 1 T d u p).2.1 126 T p d).1 := m102 eM_140 (FR.up (by cases s <;> rfl) (FR.up (by cases s <;> rfl) (FR.l1 (by cases s <;> rfl) (fun k => by cases s <;> rfl) FR.rf)))
          refine wTripL_of (Or.inl rfl) (H_matched_ok l _ (by decide) cg) c2 z0 (fun _ => ?_) (wInv_mat (xs := xs) hI (f1.trans f3) (fl_most (FL.fi (sl_r25 s) (FL.up rfl f2))) (fun m hm => ?_))
          · have hm : ∀ M, FL wSM M (tML (wR s) (mo_fi M (wR s 126 25) 0 (tNames T) (tW T (nI d))) 126 T 0 (tRow T (nI d) p)) := fun M => fm_most (FL.fi (sm_r25 s) FL.rf)
            have := hm (mo_up (o_Gate_matched (wR s) I L 1 T d u p).2.2 149 0 (o_Gate_matched (wR s) I L 1 T d u p).1) 149 rfl
            exact (congrFun this 0).trans (mo_upA _ _ _ _)
          · show (w_Model_matched_102 (wR s) (o_Gate_matched (wR s) I L 1 T d u p).2.1 126 T p d).1 70 m = if (w_Model_matched_102 (wR s) (o_Gate_matched (wR s) I L 1 T d u p).2.1 126 T p d).1 126 30 = 0 then -1 else _
            rw [z30, if_neg (by decide), z70]
            exact hrow m hm
    · exact no (fun d u _ a _ => absurd a cp)
end F
