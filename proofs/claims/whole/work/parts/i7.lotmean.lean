/-! The mean of a lot, both. -/
theorem lN_toI {a : Nat} (h : a < 2 ^ 63) : (lN a).toInt = a := Int64.toInt_ofNat_of_lt h
theorem mul_b {x y : Int64} {a b : Nat} (hx : x.toInt.natAbs ≤ a) (hy : y.toInt.natAbs ≤ b) (h : a * b < 2 ^ 62) : (x * y).toInt.natAbs ≤ a * b := by
  have h1 : (x.toInt * y.toInt).natAbs ≤ a * b := by
    rw [Int.natAbs_mul]
    exact Nat.mul_le_mul hx hy
  have e : (x * y).toInt = x.toInt * y.toInt := by
    rw [Int64.toInt_mul]
    exact Int.bmod_eq_of_le (by omega) (by omega)
  rw [e]
  exact h1
theorem add_b {x y : Int64} {a b : Nat} (hx : x.toInt.natAbs ≤ a) (hy : y.toInt.natAbs ≤ b) (h : a + b < 2 ^ 62) : (x + y).toInt.natAbs ≤ a + b := by
  have e : (x + y).toInt = x.toInt + y.toInt := by
    rw [Int64.toInt_add]
    exact Int.bmod_eq_of_le (by omega) (by omega)
  rw [e]
  omega
section F
variable {l : Launch} {s : Bool} {I I1 I2 J : Nat → Nat → Int32} {L L1 L2 M : Nat → Nat → Int64} {T : mo_Tn} {xs : List Nat}
theorem tLots_b (hv : mo_vT T) (dd p q : Int32) : tLots T dd p q ≤ 429981696 := by
  have hN := vT_tNames hv
  have hM := vT_tMen hv
  have hl : (tRow T dd (-1)).length ≤ 8 := by
    have : (tRow T dd (-1)).length ≤ (List.range (tMen T)).length := List.length_filter_le _ _
    rw [List.length_range] at this
    omega
  have h := lo_wy_cn (N := tNames T) (al := tAl T (tRow T dd (-1)) p q) (tRow T dd (-1)).length 0
  rw [Nat.zero_add] at h
  unfold tLots
  rw [← h, mo_sm_one (c := 0) (Nat.two_pow_pos _) (fun k _ hk => by
    show (if k = 0 then 1 else 0) * _ = 0
    rw [if_neg hk, Nat.zero_mul])]
  show (if 0 = 0 then 1 else 0) * _ ≤ _
  rw [if_pos rfl, Nat.one_mul]
  refine Nat.le_trans (cn_le _ _ _) ?_
  rw [List.length_map, List.length_range']
  exact Nat.le_trans (Nat.pow_le_pow_left hN _) (Nat.le_trans (Nat.pow_le_pow_right (by decide) hl) (by decide))
theorem mean_n (hv : mo_vT T) (hG : mo_gT T) (v d : Int32) : (o_Model_meanOf T v d).toInt.natAbs ≤ 329313600 := by
  by_cases c : ∃ n, n < 12 ∧ v = nI n
  · obtain ⟨n, hn, rfl⟩ := c
    have := su_b hv hG (d := d) (n := n)
    rw [su_w hv hG hn] at this
    have this : -329313600 ≤ (o_Model_meanOf T (nI n) d).toInt ∧ (o_Model_meanOf T (nI n) d).toInt ≤ 329313600 := this
    omega
  · rw [mean_z hv (fun n hn e => c ⟨n, hn, e⟩)]
    decide
theorem lm_b {R : Nat → Nat → Nat} {a : Nat} (hv : mo_vT T) (hG : mo_gT T) (L : Nat → Nat → Int64) (d m : Nat) : mo_lb 62 (w_Model_lotMean_71 R L a T d m).1 := by
  have hN := vT_tNames hv
  have k : (w_Model_lotMean_71 R L a T d m).1.toInt.natAbs ≤ tNames T * (429981696 * 329313600) := by
    unfold w_Model_lotMean_71
    have := mo_it_inv (f := b_Model_lotMean_71 R a T d m) (fun i z => z.1.toInt.natAbs ≤ i * (429981696 * 329313600)) (k := tNames T) (i := 0) (s := (0, tLH R L a T (nI d) (-1) 0)) (by
      show (0 : Int64).toInt.natAbs ≤ _
      decide) (fun i z _ hi hs => by
      have hi : i < tNames T := by omega
      show (z.1 + lN (tLots T (nI d) (nI m) (nI i)) * o_Model_meanOf T (nI i) (nI d)).toInt.natAbs ≤ (i + 1) * (429981696 * 329313600)
      have t1 := tLots_b hv (nI d) (nI m) (nI i)
      have p1 : (lN (tLots T (nI d) (nI m) (nI i)) * o_Model_meanOf T (nI i) (nI d)).toInt.natAbs ≤ 429981696 * 329313600 := mul_b (by rw [lN_toI (by omega)]; omega) (mean_n hv hG _ _) (by decide)
      have := add_b hs p1 (by omega)
      omega)
    rw [Nat.zero_add] at this
    exact this
  exact ⟨by omega, by omega⟩
theorem Q_lotMean (hfl : l.flags = pinnedFlags ++ [noTraceFlag]) (hI : wInv s I L T xs) (dd p w : Int32) : wTripL l mm_Law_lotMean [(0, 11, 14, 13)] [.ref 1, .int dd, .int p, .int w, .ref 149] mm_Model_lotMean 4 [.ref 126, .int dd, .int p, .int w] s I L := by
  have hM := vT_tMen (wv hI)
  have hv := wv hI
  have hF := wF hI
  have hG := hI.1.2.2.2.2.1
  have c2 := fun J M (h : mo_now (J (wR s 126 14)) T) => C_Model_lotMean l wK (wR s) J M 126 T dd p w (w_md s) h (fun L d m => lm_b hv hG L d m)
  have no : (∀ v c u, tB p (tMen T) = some v → tF T (nI v) dd = some c → tB w 2 = some u → tLots T dd (-1) 0 = 0) → wTripL l mm_Law_lotMean [(0, 11, 14, 13)] [.ref 1, .int dd, .int p, .int w, .ref 149] mm_Model_lotMean 4 [.ref 126, .int dd, .int p, .int w] s I L := fun hno => by
    have hc := C_Gate_lotMean_thr l hfl wK (wR s) I L 1 (wT s) T dd p w (w_gt s) (wC hI) (line_vL hv hF) (fun v c u a1 a2 a3 a4 => by
      refine a4 (lc_eq0.mpr ?_)
      rw [lots_eq hv hF, hno v c u a1 a2 a3]
      rfl)
    have f1 : FR (wS s) I (o_Gate_lotMean_thr (wR s) I 1 T dd p w) := by
      unfold o_Gate_lotMean_thr
      repeat' (first | exact FR.rf | exact FR.lw (sc_g8 s) FR.rf | (refine pe_opt (P := fun z : (Nat → Nat → Int32) => FR (wS s) I z) ?_ (fun _ => ?_)) | (refine pe_ite (P := fun z : (Nat → Nat → Int32) => FR (wS s) I z) ?_ ?_))
    have hJ := wInv_fr hI f1 FL.rf
    generalize o_Gate_lotMean_thr (wR s) I 1 T dd p w = J at hc hJ
    have c2 := c2 J L (wN hJ)
    have g : ∃ J2 M2, o_Model_lotMean (wR s) J L 126 T dd p w = (0, mo_up J2 126 0 1, M2) ∧ FR (wS s) J J2 ∧ FL wSL L M2 := by
      unfold o_Model_lotMean
      cases e3 : tB dd 30 with
      | none => exact ⟨J, L, rfl, FR.rf, FL.rf⟩
      | some d =>
        have b3 := tB_v (by decide) e3
        cases e1 : tB p (tMen T) with
        | none => exact ⟨J, L, rfl, FR.rf, FL.rf⟩
        | some v =>
          cases e2 : tB w 2 with
          | none => exact ⟨J, L, rfl, FR.rf, FL.rf⟩
          | some u =>
            dsimp only [Option.elim_some]
            cases e4 : tF T (nI v) (nI d) with
            | none => exact ⟨J, L, rfl, FR.rf, FL.rf⟩
            | some c =>
              have hz := hno v c u e1 (by rw [b3.2]; exact e4) e2
              rw [b3.2] at hz
              dsimp only [Option.elim_some]
              rw [if_pos (lc_eq0.mpr (by rw [hz]; rfl))]
              exact ⟨_, _, rfl, FR.l1 (by cases s <;> rfl) (sc_r26 s) FR.rf, fl_lots FL.rf⟩
    obtain ⟨J2, M2, g, g1, g2⟩ := g
    rw [g] at c2
    exact wTripL_of (Or.inr rfl) (H_lotMean_thr l hc) c2 (show mo_up J2 126 0 1 126 0 = 1 from mo_upA _ _ _ _) (fun z => by cases z) (inv_thr (wInv_fr hJ g1 g2) 1)
  cases e1 : tB p (tMen T) with
  | none => exact no (fun v c u a _ _ => by rw [e1] at a; cases a)
  | some v =>
    cases e2 : tB w 2 with
    | none => exact no (fun v c u _ _ a => by rw [e2] at a; cases a)
    | some u =>
      cases e4 : tF T (nI v) dd with
      | none => exact no (fun v' c u a b _ => by rw [e1] at a; cases a; rw [e4] at b; cases b)
      | some c =>
        by_cases cz : tLots T dd (-1) 0 = 0
        · exact no (fun _ _ _ _ _ _ => cz)
        · have b1 := tB_v (by omega) e1
          have b2 := tB_v (by decide) e2
          have hcl := tF_lt e4
          have hd30 := vT_tCd hv hcl.1
          obtain ⟨d, hd, rfl⟩ : ∃ d, d < 30 ∧ dd = nI d := ⟨tCd T c, hd30, hcl.2.2.symm⟩
          have e3 : tB (nI d) 30 = some d := tB_of hd (by decide)
          have hb := tLots_b hv (nI d) (-1) 0
          have hs := lotMean_sum (R := wR s) (L := L) (a := 126) hv hF hG b1.1 e4
          have cg := C_Gate_lotMean2 l wK (wR s) I L 1 (wT s) T (nI d) v u c (tLots T (nI d) (-1) 0) (w_gt s) (wC hI) (line_vL hv hF) (fun _ _ _ e => lu_1 e) (fun _ _ _ _ _ a1 a2 a3 a4 a5 => lu_2 a1 a2 a3 a4 a5) b1.1 e4 b2.1 (lots_eq hv hF) (by omega) (by omega) (by rw [hs]; exact lm_b hv hG L d v)
          rw [← b1.2, ← b2.2] at cg
          have f1 : FR (wS s) I (o_Gate_lotMean (wR s) I L 1 T (nI d) v u (tLots T (nI d) (-1) 0)).2.1 := by unfold o_Gate_lotMean; exact FR.lw (sc_g8 s) FR.rf
          have f2 : FL wSL L (o_Gate_lotMean (wR s) I L 1 T (nI d) v u (tLots T (nI d) (-1) 0)).2.2 := by unfold o_Gate_lotMean; exact FL.fi (sl_g10 s) FL.rf
          have hJ := inv_out (wInv_fr hI f1 f2) (o_Gate_lotMean (wR s) I L 1 T (nI d) v u (tLots T (nI d) (-1) 0)).1
          have c2 := c2 _ (mo_up (o_Gate_lotMean (wR s) I L 1 T (nI d) v u (tLots T (nI d) (-1) 0)).2.2 149 0 (o_Gate_lotMean (wR s) I L 1 T (nI d) v u (tLots T (nI d) (-1) 0)).1) (wN hJ)
          have g : ∀ J M, o_Model_lotMean (wR s) J M 126 T (nI d) p w = ((o_Gate_lotMean (wR s) I L 1 T (nI d) v u (tLots T (nI d) (-1) 0)).1, mo_up (mo_l1 J 126 29 (wR s 126 26) (tRow T (nI d) (-1))) 126 0 0, (w_Model_lotMean_71 (wR s) M 126 T d v).2) := fun J M => by
            unfold o_Model_lotMean o_Gate_lotMean
            rw [e3, e1, e2]
            dsimp only [Option.elim_some]
            rw [e4]
            dsimp only [Option.elim_some]
            rw [if_neg (fun z => lN_ne0 (by omega) (by omega) (lc_eq0.mp z)), ← lotMean_sum (R := wR s) (L := M) (a := 126) hv hF hG b1.1 e4]
          rw [g] at c2
          refine wTripL_of (Or.inl rfl) (H_lotMean_ok l _ (by decide) cg) c2 (show mo_up (mo_l1 (o_Gate_lotMean (wR s) I L 1 T (nI d) v u (tLots T (nI d) (-1) 0)).2.1 126 29 (wR s 126 26) (tRow T (nI d) (-1))) 126 0 0 126 0 = 0 from mo_upA _ _ _ _) (fun _ => ?_) (inv_thr (wInv_fr hJ (FR.l1 (by cases s <;> rfl) (sc_r26 s) FR.rf) (fl_lotMean FL.rf)) 0)
          have hm : ∀ M, FL wSM M (w_Model_lotMean_71 (wR s) M 126 T d v).2 := fun M => fm_lotMean FL.rf
          have := hm (mo_up (o_Gate_lotMean (wR s) I L 1 T (nI d) v u (tLots T (nI d) (-1) 0)).2.2 149 0 (o_Gate_lotMean (wR s) I L 1 T (nI d) v u (tLots T (nI d) (-1) 0)).1) 149 rfl
          exact (congrFun this 0).trans (mo_upA _ _ _ _)
end F
