/-! Serial, both. -/
section F
variable {l : Launch} {s : Bool} {I I1 I2 J : Nat → Nat → Int32} {L L1 L2 M : Nat → Nat → Int64} {T : mo_Tn} {xs : List Nat}
theorem s205 {d : Nat} {z : Int64 × Nat × List Nat} {P : Nat → Nat → Bool} (h0 : ∀ k, P 141 k = true) (h1 : FR P J (mo_up (mo_up (mo_lw (mo_l1 I 126 23 136 (tLine T (nI d))) 139 z.2.2) 126 0 0) 126 31 1)) : FR P J (w_Model_serial_205 (wR s) I 126 T d z) := by
  have e28 : wR s 126 28 = 141 := w_V s (126, 28, 141) (by decide)
  have e26 : wR s 126 26 = 139 := w_V s (126, 26, 139) (by decide)
  have e22 : wR s 126 22 = 136 := w_V s (126, 22, 136) (by decide)
  unfold w_Model_serial_205
  refine FR.it (f := fun z => z) (fun k y hy => ?_) _ _ _ ?_
  · unfold b_Model_serial_205
    rw [e28]
    exact FR.up (h0 _) hy
  · unfold w_Model_serial_181
    rw [e26, e22]
    refine FR.it (f := fun z => z) (fun k y hy => ?_) _ _ _ h1
    unfold b_Model_serial_181
    rw [e28]
    exact FR.up (h0 _) hy
theorem eS_141 (k : Nat) : wP s eS 141 k = true := by cases s <;> rfl
theorem fr_turn {dd : Int32} : FR (wS s) I (o_Gate_takeInTurn (wR s) I L 1 T dd).2.1 := by
  unfold o_Gate_takeInTurn
  exact pe_sum (P := fun z : Int64 × (Nat → Nat → Int32) × (Nat → Nat → Int64) => FR (wS s) I z.2.1) (fun _ => FR.rw (sc_g7 s) (FR.fi (sc_g7 s) (FR.lw (sc_g8 s) FR.rf))) (fun _ => FR.rw (sc_g7 s) (FR.fi (sc_g7 s) (FR.lw (sc_g8 s) FR.rf)))
theorem fl_turn {dd : Int32} : FL wSL L (o_Gate_takeInTurn (wR s) I L 1 T dd).2.2 := by
  unfold o_Gate_takeInTurn
  exact pe_sum (P := fun z : Int64 × (Nat → Nat → Int32) × (Nat → Nat → Int64) => FL wSL L z.2.2) (fun _ => FL.fi (sl_g10 s) FL.rf) (fun _ => FL.fi (sl_g10 s) FL.rf)
theorem Q_serial (hfl : l.flags = pinnedFlags ++ [noTraceFlag]) (hI : wInv s I L T xs) (dd w : Int32) : wTripL l mm_Law_serial [(0, 9, 12, 13)] [.ref 1, .int dd, .int w, .ref 149] mm_Model_serial 3 [.ref 126, .int dd, .int w] s I L := by
  have e6 : wR s 1 6 = 71 := w_V s (1, 6, 71) (by decide)
  have e7 : wR s 1 7 = 72 := w_V s (1, 7, 72) (by decide)
  have e8 : wR s 1 8 = 73 := w_V s (1, 8, 73) (by decide)
  have e28 : wR s 126 28 = 141 := w_V s (126, 28, 141) (by decide)
  have hv := wv hI
  have hF := wF hI
  have hG := hI.1.2.2.2.2.1
  have hB : ∀ v z, w_Model_serial_39 T v = .inl z → mo_lb 62 z.1 := fun v z hz => by
    rcases serial_eq (R := wR s) (I := I) (L := L) (g := 1) (d := v) hv hF hG with ⟨y, y', _, h2, _, _, h5, h6⟩ | ⟨y, y', _, h2⟩
    · rw [hz] at h2; cases h2; exact ⟨by omega, by omega⟩
    · rw [hz] at h2; cases h2
  have c2 := fun J M (h : mo_now (J (wR s 126 14)) T) => C_Model_serial l wK (wR s) J M 126 T dd w (w_md s) h hB
  have no : (∀ d u, tB dd 30 = some d → tB w 2 = some u → ∃ r r', w_Gate_takeInTurn_53 (wR s) I L 1 T (nI d) = .inr r ∧ w_Model_serial_39 T d = .inr r') → wTripL l mm_Law_serial [(0, 9, 12, 13)] [.ref 1, .int dd, .int w, .ref 149] mm_Model_serial 3 [.ref 126, .int dd, .int w] s I L := fun hno => by
    have hc := C_Gate_serial_thr l hfl wK (wR s) I L 1 (wT s) T dd w (w_gt s) (wC hI) (line_vL hv hF) (fun d u a1 a2 a3 => by
      obtain ⟨r, r', h1, _⟩ := hno d u a1 a2
      refine a3 (lc_eq0.mpr ?_)
      unfold o_Gate_takeInTurn
      rw [h1]
      rfl)
    have f1 : FR (wS s) I (o_Gate_serial_thr (wR s) I L 1 T dd w).1 := by
      unfold o_Gate_serial_thr
      repeat' (first | exact FR.rf | exact fr_turn | (refine pe_opt (P := fun z : (Nat → Nat → Int32) × (Nat → Nat → Int64) => FR (wS s) I z.1) ?_ (fun _ => ?_)) | (refine pe_ite (P := fun z : (Nat → Nat → Int32) × (Nat → Nat → Int64) => FR (wS s) I z.1) ?_ ?_))
    have f2 : FL wSL L (o_Gate_serial_thr (wR s) I L 1 T dd w).2 := by
      unfold o_Gate_serial_thr
      repeat' (first | exact FL.rf | exact fl_turn | (refine pe_opt (P := fun z : (Nat → Nat → Int32) × (Nat → Nat → Int64) => FL wSL L z.2) ?_ (fun _ => ?_)) | (refine pe_ite (P := fun z : (Nat → Nat → Int32) × (Nat → Nat → Int64) => FL wSL L z.2) ?_ ?_))
    have hJ := wInv_fr hI f1 f2
    generalize (o_Gate_serial_thr (wR s) I L 1 T dd w).1 = J at hc hJ
    generalize (o_Gate_serial_thr (wR s) I L 1 T dd w).2 = M at hc hJ
    have c2 := c2 J M (wN hJ)
    have g : ∃ J2 M2, o_Model_serial (wR s) J M 126 T dd w = (0, mo_up J2 126 0 1, M2) ∧ FR (wS s) J J2 ∧ FL wSL M M2 := by
      unfold o_Model_serial
      cases e3 : tB dd 30 with
      | none => exact ⟨J, M, rfl, FR.rf, FL.rf⟩
      | some d =>
        cases e2 : tB w 2 with
        | none => exact ⟨J, M, rfl, FR.rf, FL.rf⟩
        | some u =>
          obtain ⟨r, r', _, h2⟩ := hno d u e3 e2
          dsimp only [Option.elim_some]
          rw [h2]
          exact ⟨_, _, rfl, FR.lw (sc_r26 s) (FR.l1 (by cases s <;> rfl) (sc_r22 s) FR.rf), FL.fi (sl_r25 s) FL.rf⟩
    obtain ⟨J2, M2, g, g1, g2⟩ := g
    rw [g] at c2
    exact wTripL_of (Or.inr rfl) (H_serial_thr l hc) c2 (show mo_up J2 126 0 1 126 0 = 1 from mo_upA _ _ _ _) (fun z => by cases z) (inv_thr (wInv_fr hJ g1 g2) 1)
  cases e3 : tB dd 30 with
  | none => exact no (fun d u a _ => by rw [e3] at a; cases a)
  | some d =>
    cases e2 : tB w 2 with
    | none => exact no (fun d u _ a => by rw [e2] at a; cases a)
    | some u =>
      rcases serial_eq (R := wR s) (I := I) (L := L) (g := 1) (d := d) hv hF hG with ⟨y, y', h1, h2, h3, h4, h5, h6⟩ | ⟨r, r', h1, h2⟩
      · have b2 := tB_v (by decide) e2
        have b3 := tB_v (by decide) e3
        have x1 : (o_Gate_takeInTurn (wR s) I L 1 T (nI d)).1 = y'.1 := by
          unfold o_Gate_takeInTurn
          rw [h1]
          exact h3
        have x2 : (o_Gate_takeInTurn (wR s) I L 1 T (nI d)).2.1 72 = y.2.2 := by
          unfold o_Gate_takeInTurn
          rw [h1, e7]
          show mo_rw (mo_fi (mo_lw I (wR s 1 8) (tLU T (nI d))) 72 0 8 (fun _ => -1)) 72 y.2.2 72 = y.2.2
          exact mo_rw_at
        have cg := C_Gate_serial l wK (wR s) I L 1 (wT s) T d u (w_gt s) (wC hI) (line_vL hv hF) b3.1 b2.1 (fun z => by
          have z := lc_eq0.mp z
          rw [x1] at z
          rw [z] at h5
          exact absurd h5 (by decide)) (by rw [x1]; exact ⟨by omega, by omega⟩)
        rw [← b2.2, ← b3.2] at cg
        have eI1 : (o_Gate_serial (wR s) I L 1 T d u).2.1 = mo_cp (o_Gate_takeInTurn (wR s) I L 1 T (nI d)).2.1 72 71 0 0 8 := by
          show mo_cp (o_Gate_takeInTurn (wR s) I L 1 T (nI d)).2.1 (wR s 1 7) (wR s 1 6) 0 0 8 = _
          rw [e6, e7]
        have f1 : FR (wP s eS) I (o_Gate_serial (wR s) I L 1 T d u).2.1 := by
          rw [eI1]
          exact FR.cp (fun k => by cases s <;> rfl) fr_turn.wide
        have f2 : FL wSL L (o_Gate_serial (wR s) I L 1 T d u).2.2 := fl_turn
        have hrow : ∀ m, m < 8 → (o_Gate_serial (wR s) I L 1 T d u).2.1 71 m = w_Model_serial_205 (wR s) (o_Gate_serial (wR s) I L 1 T d u).2.1 126 T d y' 141 m := fun m hm => by
          have := serial_row (R := wR s) (I := (o_Gate_serial (wR s) I L 1 T d u).2.1) (a := 126) (T := T) (d := d) (z := y') hm
          rw [e28] at this
          rw [this, eI1, cpA hm, x2, h4 m hm]
        have hn : mo_now ((o_Gate_serial (wR s) I L 1 T d u).2.1 (wR s 126 14)) T := by
          rw [w_V s (126, 14, 128) (by decide)]
          show mo_now ((o_Gate_serial (wR s) I L 1 T d u).2.1 128) T
          rw [show (o_Gate_serial (wR s) I L 1 T d u).2.1 128 = I 128 from funext (fun k => f1 128 k (by cases s <;> rfl))]
          exact hI.1.2.1
        have c2 := c2 _ (mo_up (o_Gate_serial (wR s) I L 1 T d u).2.2 149 0 (o_Gate_serial (wR s) I L 1 T d u).1) hn
        have g : ∀ J M, o_Model_serial (wR s) J M 126 T dd w = ((o_Gate_serial (wR s) I L 1 T d u).1, w_Model_serial_205 (wR s) J 126 T d y', mo_fi M (wR s 126 25) 0 (tNames T) (tW T (nI d))) := fun J M => by
          unfold o_Model_serial o_Gate_serial
          rw [e3, e2]
          dsimp only [Option.elim_some]
          rw [h2, x1]
          rfl
        rw [g] at c2
        have fin : FR e141 (mo_up (mo_up (mo_lw (mo_l1 (o_Gate_serial (wR s) I L 1 T d u).2.1 126 23 136 (tLine T (nI d))) 139 y'.2.2) 126 0 0) 126 31 1) (w_Model_serial_205 (wR s) (o_Gate_serial (wR s) I L 1 T d u).2.1 126 T d y') := s205 (fun _ => rfl) FR.rf
        have z0 : w_Model_serial_205 (wR s) (o_Gate_serial (wR s) I L 1 T d u).2.1 126 T d y' 126 0 = 0 := by rw [fin 126 0 rfl, mo_upK _ _ _ (by decide), mo_upA]
        have z31 : w_Model_serial_205 (wR s) (o_Gate_serial (wR s) I L 1 T d u).2.1 126 T d y' 126 31 = 1 := by rw [fin 126 31 rfl, mo_upA]
        have z71 : w_Model_serial_205 (wR s) (o_Gate_serial (wR s) I L 1 T d u).2.1 126 T d y' 71 = (o_Gate_serial (wR s) I L 1 T d u).2.1 71 := funext (fun k => by rw [fin 71 k rfl, mo_upR (by decide), mo_upR (by decide), mo_lwR (by decide), mo_l1Q (by decide) (by decide)])
        have f3 : FR (wP s eS) (o_Gate_serial (wR s) I L 1 T d u).2.1 (w_Model_serial_205 (wR s) (o_Gate_serial (wR s) I L 1 T d u).2.1 126 T d y') := s205 eS_141 (FR.up (by cases s <;> rfl) (FR.up (by cases s <;> rfl) (FR.lw (fun k => by cases s <;> rfl) (FR.l1 (by cases s <;> rfl) (fun k => by cases s <;> rfl) FR.rf))))
        refine wTripL_of (Or.inl rfl) (H_serial_ok l _ (by decide) cg) c2 z0 (fun _ => ?_) (wInv_ser (xs := xs) hI (f1.trans f3) (FL.fi (sl_r25 s) (FL.up rfl f2)) (fun m hm => ?_))
        · have hm : ∀ M, FL wSM M (mo_fi M (wR s 126 25) 0 (tNames T) (tW T (nI d))) := fun M => FL.fi (sm_r25 s) FL.rf
          have := hm (mo_up (o_Gate_serial (wR s) I L 1 T d u).2.2 149 0 (o_Gate_serial (wR s) I L 1 T d u).1) 149 rfl
          exact (congrFun this 0).trans (mo_upA _ _ _ _)
        · show w_Model_serial_205 (wR s) (o_Gate_serial (wR s) I L 1 T d u).2.1 126 T d y' 71 m = if w_Model_serial_205 (wR s) (o_Gate_serial (wR s) I L 1 T d u).2.1 126 T d y' 126 31 = 0 then -1 else _
          rw [z31, if_neg (by decide), z71]
          exact hrow m hm
      · exact no (fun d' u' a b => by rw [e3] at a; cases a; exact ⟨r, r', h1, h2⟩)
end F
