/-! Bounds of what names can bring to many; want, both. -/
def wSM (q : Nat) : Bool := [126, 133, 137, 138, 142].contains q
theorem sm_r24 (s : Bool) : wSM (wR s 126 24) = true := by
  rw [w_V s (126, 24, 137) (by decide)]
  rfl
theorem sm_r25 (s : Bool) : wSM (wR s 126 25) = true := by
  rw [w_V s (126, 25, 138) (by decide)]
  rfl
theorem sm_r32 (s : Bool) : wSM (wR s 126 32) = true := by
  rw [w_V s (126, 32, 142) (by decide)]
  rfl
section F
variable {s : Bool} {L M : Nat → Nat → Int64} {T : mo_Tn}
theorem fm_lots90 {dd p q : Int32} {i j : Nat} (h : FL wSM L M) : FL wSM L (Sum.elim (fun z => z) (fun r => r) (w_Model_lotsBy_90 (wR s) 126 T dd p q i j M)) := by
  unfold w_Model_lotsBy_90
  refine FL.lp (f := fun z => z) (g := fun r => r) (fun k z hz => ?_) _ _ _ (FL.up (sm_r32 s) h)
  unfold b_Model_lotsBy_90
  repeat' (first | exact hz | exact FL.up (sm_r32 s) hz | (refine pe_ite (P := fun z => FL wSM L (Sum.elim (fun z => z) (fun r => r) z)) ?_ ?_))
theorem fm_lots {dd p q : Int32} (h : FL wSM L M) : FL wSM L (tLH (wR s) M 126 T dd p q) := by
  show FL wSM L (w_Model_lotsBy_50 (wR s) M 126 T dd p q)
  unfold w_Model_lotsBy_50
  refine FL.it (f := fun z => z) (fun k z hz => ?_) _ _ _ ?_
  · unfold b_Model_lotsBy_50 w_Model_lotsBy_65
    exact FL.it (f := fun z => z) (fun k2 z2 hz2 => fm_lots90 hz2) _ _ _ hz
  · unfold w_Model_lotsBy_17
    refine FL.it (f := fun z => z) (fun k2 z2 hz2 => ?_) _ _ _ (FL.fi (sm_r25 s) h)
    unfold b_Model_lotsBy_17
    exact pe_ite (P := fun z => FL wSM L z) (FL.up (sm_r32 s) hz2) (FL.up (sm_r32 s) hz2)
theorem fm_lotMean {d x : Nat} (h : FL wSM L M) : FL wSM L (w_Model_lotMean_71 (wR s) M 126 T d x).2 := by
  unfold w_Model_lotMean_71
  refine FL.it (f := fun z : Int64 × (Nat → Nat → Int64) => z.2) (fun k z hz => ?_) _ _ _ (fm_lots h)
  unfold b_Model_lotMean_71
  exact fm_lots hz
theorem fm_most {wo : Nat} {rs : List Nat} (h : FL wSM L M) : FL wSM L (tML (wR s) M 126 T wo rs) := by
  show FL wSM L (w_Model_layMost_43 (wR s) M 126 T wo rs)
  unfold w_Model_layMost_43
  refine FL.it (f := fun z => z) (fun k z hz => ?_) _ _ _ ?_
  · unfold b_Model_layMost_43 w_Model_layMost_50
    refine FL.it (f := fun z => z) (fun k2 z2 hz2 => ?_) _ _ _ hz
    unfold b_Model_layMost_50
    exact FL.up (sm_r24 s) hz2
  · unfold w_Model_layMost_9
    refine FL.it (f := fun z => z) (fun k2 z2 hz2 => ?_) _ _ _ h
    unfold b_Model_layMost_9
    exact FL.up (sm_r24 s) hz2
end F
theorem ct_or {n : Nat} {set : Nat} (h : set.testBit n = false) : ∀ N, n < N → lo_ct (fun m => !(set ||| 2 ^ n).testBit m) N + 1 = lo_ct (fun m => !set.testBit m) N
  | 0, hN => absurd hN (Nat.not_lt_zero n)
  | N + 1, hN => by
    rw [lo_S, lo_S]
    by_cases c : n = N
    · subst c
      have e1 : lo_ct (fun m => !(set ||| 2 ^ n).testBit m) n = lo_ct (fun m => !set.testBit m) n := lo_ct_congr (fun m hm => by
        rw [Nat.testBit_or, Nat.testBit_two_pow_of_ne (by omega), Bool.or_false])
      rw [e1, Nat.testBit_or, h, Nat.testBit_two_pow_self]
      rfl
    · have ih := ct_or h N (by omega)
      rw [show (set ||| 2 ^ n).testBit N = set.testBit N by rw [Nat.testBit_or, Nat.testBit_two_pow_of_ne c, Bool.or_false]]
      omega
theorem lo_le (p : Nat → Bool) : ∀ N, lo_ct p N ≤ N
  | 0 => Nat.le_refl 0
  | N + 1 => by
    have := lo_le p N
    rw [lo_S]
    split <;> omega
theorem mx_b {W : Nat → Int64} {N wo : Nat} (hN : N ≤ 12) (hW : ∀ n, n < N → -329313600 ≤ (W n).toInt ∧ (W n).toInt ≤ 329313600) : ∀ (os : List Nat) (set : Nat), mo_mx W N wo os set = -1000000000000000 ∨ (-((lo_ct (fun m => !set.testBit m) N : Int) * 329313600) ≤ (mo_mx W N wo os set).toInt ∧ (mo_mx W N wo os set).toInt ≤ (lo_ct (fun m => !set.testBit m) N : Int) * 329313600)
  | [], set => Or.inr (by
    have h0 : (mo_mx W N wo [] set).toInt = 0 := (by show (0 : Int64).toInt = 0; decide)
    rw [h0]
    constructor <;> omega)
  | o :: os, set => by
    by_cases c : mo_mx W N wo (o :: os) set = -1000000000000000
    · exact Or.inl c
    · right
      obtain ⟨n, hn, h1, _, h3, h4⟩ := mo_mx_some c
      have hb : set.testBit n = false := by
        rw [Nat.testBit_or] at h1
        cases e : set.testBit n with
        | false => rfl
        | true => rw [e] at h1; exact absurd rfl h1
      rcases mx_b hN hW os (set ||| 2 ^ n) with z | ⟨z1, z2⟩
      · exact absurd z h3
      · have e := ct_or hb N hn
        have l1 := lo_le (fun m => !set.testBit m) N
        have w := hW n hn
        rw [h4]
        have hbd := mo_bd (c := (lo_ct (fun m => !(set ||| 2 ^ n).testBit m) N : Int) * 329313600) (b := 329313600) (by omega) ⟨z1, z2⟩ (by decide) w
        omega
section F
variable {l : Launch} {s : Bool} {I I1 I2 J : Nat → Nat → Int32} {L L1 L2 M : Nat → Nat → Int64} {T : mo_Tn} {xs : List Nat}
theorem tW_b (hv : mo_vT T) (hG : mo_gT T) {dd : Int32} : ∀ n, n < tNames T → -329313600 ≤ (tW T dd n).toInt ∧ (tW T dd n).toInt ≤ 329313600 := fun n hn => by
  have hN := vT_tNames hv
  have := su_b hv hG (d := dd) (n := n)
  rw [su_w hv hG (by omega)] at this
  exact this
theorem mx_c (hv : mo_vT T) (hG : mo_gT T) {dd : Int32} {wo : Nat} (os : List Nat) (set : Nat) : mo_mx (tW T dd) (tNames T) wo os set = -1000000000000000 ∨ (-3951763200 ≤ (mo_mx (tW T dd) (tNames T) wo os set).toInt ∧ (mo_mx (tW T dd) (tNames T) wo os set).toInt ≤ 3951763200) := by
  have hN := vT_tNames hv
  have hl := lo_le (fun m => !set.testBit m) (tNames T)
  rcases mx_b (wo := wo) hN (tW_b hv hG (dd := dd)) os set with h | h
  · exact Or.inl h
  · right; omega
theorem tM_b (hv : mo_vT T) (hG : mo_gT T) (dd : Int32) (wo : Nat) (rs : List Nat) : mo_lb 61 (tM T dd wo rs 0 0) := by
  have h := mx_c hv hG (dd := dd) (wo := wo) ((rs.drop 0).map (tOwn T)) 0
  show mo_lb 61 (mo_mx (tW T dd) (tNames T) wo ((rs.drop 0).map (tOwn T)) 0)
  rcases h with h | h
  · rw [h]; exact ⟨by decide, by decide⟩
  · exact ⟨by omega, by omega⟩
/-- who can be served without a name can be served with all -/
theorem mx_up (hv : mo_vT T) (hG : mo_gT T) {dd : Int32} {wo : Nat} : ∀ (os : List Nat) (set : Nat), mo_mx (tW T dd) (tNames T) wo os set ≠ -1000000000000000 → mo_mx (tW T dd) (tNames T) 0 os set ≠ -1000000000000000
  | [], set, h => h
  | o :: os, set, h => by
    obtain ⟨n, hn, h1, h2, h3, _⟩ := mo_mx_some h
    have ih := mx_up hv hG os (set ||| 2 ^ n) h3
    have h1' : ¬ Nat.testBit (set ||| 0) n = true := fun z => h1 (by
      rw [Nat.or_zero] at z
      rw [Nat.testBit_or, z]; rfl)
    have hge := mq_mx_ge (W := tW T dd) (wo := 0) hn h1' h2 ih
    rcases mx_c hv hG (dd := dd) (wo := 0) os (set ||| 2 ^ n) with z | z
    · exact absurd z ih
    · intro e
      rw [e] at hge
      have := (mo_bd (c := 3951763200) (b := 329313600) (by decide) z (by decide) (tW_b hv hG (dd := dd) n hn)).1
      have h0 : (-1000000000000000 : Int64).toInt = -1000000000000000 := by decide
      omega
theorem fr_mo {dd p : Int32} (h : FR (wS s) I J) : FR (wS s) I (tMO (wR s) J L 1 T dd p) := by
  unfold tMO
  exact FR.l2 (sc_g3 s _) (sc_m2 s) (sc_m3 s) (FR.rw (sc_m1 s) (FR.fi (sc_m1 s) h))
theorem fl_mkl {dd : Int32} (h : FL wSL L M) : FL wSL L (tMkl (wR s) M 1 T dd) := by
  unfold tMkl
  exact FL.fi (sl_m0 s) h
theorem lb_R {x y : Int64} (h : mq_R x y) (hx : x ≠ -1000000000000000) : x = y ∧ y ≠ -4611686018427387904 ∧ mo_lb 61 y := by
  rcases h with ⟨h1, _⟩ | ⟨h1, _, h3, h4, h5⟩
  · exact absurd h1 hx
  · exact ⟨h1, h3, by rw [← h1]; exact ⟨by omega, by omega⟩⟩
theorem Q_want (hfl : l.flags = pinnedFlags ++ [noTraceFlag]) (hI : wInv s I L T xs) (p dd w : Int32) : wTripL l mm_Law_want [(0, 11, 14, 13)] [.ref 1, .int p, .int dd, .int w, .ref 149] mm_Model_want 3 [.ref 126, .int p, .int dd, .int w] s I L := by
  have hN := vT_tNames (wv hI)
  have hv := wv hI
  have hF := wF hI
  have hG := hI.1.2.2.2.2.1
  have c2 := fun J M (h : mo_now (J (wR s 126 14)) T) => C_Model_want l wK (wR s) J M 126 T p dd w (w_md s) h (fun a b c => tM_b hv hG a b c)
  have hI1 : ∀ J M, FR (wS s) I J → FL wSL L M → wInv s J M T xs := fun J M a b => wInv_fr hI a b
  have no : (∀ n d u, tB p (tNames T) = some n → tB dd 30 = some d → tB w 2 = some u → tM T (nI d) (2 ^ n) (tRow T (nI d) (-1)) 0 0 = -1000000000000000) → wTripL l mm_Law_want [(0, 11, 14, 13)] [.ref 1, .int p, .int dd, .int w, .ref 149] mm_Model_want 3 [.ref 126, .int p, .int dd, .int w] s I L := fun hno => by
    have hc := C_Gate_want_thr l hfl wK (wR s) I L 1 (wT s) T p dd w (w_gt s) (wC hI) (fun n d u a1 a2 a3 a4 => by
      have hz := hno n d u a1 a2 a3
      rcases mw_eq (R := wR s) (I := I) (L := L) (g := 1) (T := T) (dd := nI d) (p := -1) (x := n) hv hF hG with ⟨_, y⟩ | ⟨_, y, _⟩
      · exact a4 (lc_eq0.mpr y)
      · exact absurd hz y)
    have f1 : FR (wS s) I (o_Gate_want_thr (wR s) I L 1 T p dd w).1 := by
      unfold o_Gate_want_thr
      exact pe_opt (P := fun z : (Nat → Nat → Int32) × (Nat → Nat → Int64) => FR (wS s) I z.1) FR.rf (fun _ => pe_opt (P := fun z : (Nat → Nat → Int32) × (Nat → Nat → Int64) => FR (wS s) I z.1) FR.rf (fun _ => pe_opt (P := fun z : (Nat → Nat → Int32) × (Nat → Nat → Int64) => FR (wS s) I z.1) FR.rf (fun _ => pe_ite (P := fun z : (Nat → Nat → Int32) × (Nat → Nat → Int64) => FR (wS s) I z.1) (fr_mo FR.rf) FR.rf)))
    have f2 : FL wSL L (o_Gate_want_thr (wR s) I L 1 T p dd w).2 := by
      unfold o_Gate_want_thr
      exact pe_opt (P := fun z : (Nat → Nat → Int32) × (Nat → Nat → Int64) => FL wSL L z.2) FL.rf (fun _ => pe_opt (P := fun z : (Nat → Nat → Int32) × (Nat → Nat → Int64) => FL wSL L z.2) FL.rf (fun _ => pe_opt (P := fun z : (Nat → Nat → Int32) × (Nat → Nat → Int64) => FL wSL L z.2) FL.rf (fun _ => pe_ite (P := fun z : (Nat → Nat → Int32) × (Nat → Nat → Int64) => FL wSL L z.2) (fl_mkl FL.rf) FL.rf)))
    have hJ := hI1 _ _ f1 f2
    generalize (o_Gate_want_thr (wR s) I L 1 T p dd w).1 = J at hc hJ
    generalize (o_Gate_want_thr (wR s) I L 1 T p dd w).2 = M at hc hJ
    have c2 := c2 J M (wN hJ)
    have g : ∃ J2 M2, o_Model_want (wR s) J M 126 T p dd w = (0, mo_up J2 126 0 1, M2) ∧ FR (wS s) J J2 ∧ FL wSL M M2 := by
      unfold o_Model_want
      cases e1 : tB p (tNames T) with
      | none => exact ⟨J, M, rfl, FR.rf, FL.rf⟩
      | some n =>
        cases e3 : tB dd 30 with
        | none => exact ⟨J, M, rfl, FR.rf, FL.rf⟩
        | some d =>
          cases e2 : tB w 2 with
          | none => exact ⟨J, M, rfl, FR.rf, FL.rf⟩
          | some u =>
            dsimp only [Option.elim_some]
            rw [if_pos (lc_eq0.mpr (hno n d u e1 e3 e2))]
            exact ⟨_, _, rfl, FR.l1 (by cases s <;> rfl) (sc_r26 s) FR.rf, fl_most (FL.fi (sl_r25 s) FL.rf)⟩
    obtain ⟨J2, M2, g, g1, g2⟩ := g
    rw [g] at c2
    exact wTripL_of (Or.inr rfl) (H_want_thr l hc) c2 (show mo_up J2 126 0 1 126 0 = 1 from mo_upA _ _ _ _) (fun z => by cases z) (inv_thr (wInv_fr hJ g1 g2) 1)
  cases e1 : tB p (tNames T) with
  | none => exact no (fun n d u a _ _ => by rw [e1] at a; cases a)
  | some n =>
    cases e3 : tB dd 30 with
    | none => exact no (fun n d u _ a _ => by rw [e3] at a; cases a)
    | some d =>
      cases e2 : tB w 2 with
      | none => exact no (fun n d u _ _ a => by rw [e2] at a; cases a)
      | some u =>
        by_cases cz : tM T (nI d) (2 ^ n) (tRow T (nI d) (-1)) 0 0 = -1000000000000000
        · exact no (fun n' d' u' a b c => by rw [e1] at a; rw [e3] at b; cases a; cases b; exact cz)
        · have b1 := tB_v (by omega) e1
          have b2 := tB_v (by decide) e2
          have b3 := tB_v (by decide) e3
          have r1 := lb_R (mw_eq (R := wR s) (I := I) (L := L) (g := 1) (T := T) (dd := nI d) (p := -1) (x := n) hv hF hG) cz
          have cz2 : tM T (nI d) 0 (tRow T (nI d) (-1)) 0 0 ≠ -1000000000000000 := mx_up hv hG _ _ cz
          have r2 := lb_R (ms_eq (R := wR s) (I := I) (L := L) (g := 1) (T := T) (dd := nI d) (p := -1) hv hF hG) cz2
          have cg := C_Gate_want l wK (wR s) I L 1 (wT s) T n d u (w_gt s) (wC hI) b1.1 b3.1 b2.1 (fun z => r1.2.1 (lc_eq0.mp z)) (mo_lb_sub r2.2.2 r1.2.2)
          rw [← b1.2, ← b2.2, ← b3.2] at cg
          have f1 : FR (wS s) I (o_Gate_want (wR s) I L 1 T n d u).2.1 := by unfold o_Gate_want; exact fr_mo FR.rf
          have f2 : FL wSL L (o_Gate_want (wR s) I L 1 T n d u).2.2 := by unfold o_Gate_want; exact fl_mkl FL.rf
          have hJ := inv_out (hI1 _ _ f1 f2) (o_Gate_want (wR s) I L 1 T n d u).1
          have c2 := c2 _ (mo_up (o_Gate_want (wR s) I L 1 T n d u).2.2 149 0 (o_Gate_want (wR s) I L 1 T n d u).1) (wN hJ)
          have g : ∀ J M, o_Model_want (wR s) J M 126 T p dd w = ((o_Gate_want (wR s) I L 1 T n d u).1, mo_up (mo_l1 J 126 29 (wR s 126 26) (tRow T (nI d) (-1))) 126 0 0, tML (wR s) (tML (wR s) (mo_fi M (wR s 126 25) 0 (tNames T) (tW T (nI d))) 126 T (2 ^ n) (tRow T (nI d) (-1))) 126 T 0 (tRow T (nI d) (-1))) := fun J M => by
            unfold o_Model_want o_Gate_want
            rw [e1, e3, e2]
            dsimp only [Option.elim_some]
            rw [if_neg (fun z => cz (lc_eq0.mp z)), r1.1, r2.1]
          rw [g] at c2
          refine wTripL_of (Or.inl rfl) (H_want_ok l _ (by decide) cg) c2 (show mo_up (mo_l1 (o_Gate_want (wR s) I L 1 T n d u).2.1 126 29 (wR s 126 26) (tRow T (nI d) (-1))) 126 0 0 126 0 = 0 from mo_upA _ _ _ _) (fun _ => ?_) (inv_thr (wInv_fr hJ (FR.l1 (by cases s <;> rfl) (sc_r26 s) FR.rf) (fl_most (fl_most (FL.fi (sl_r25 s) FL.rf)))) 0)
          have hm : ∀ M, FL wSM M (tML (wR s) (tML (wR s) (mo_fi M (wR s 126 25) 0 (tNames T) (tW T (nI d))) 126 T (2 ^ n) (tRow T (nI d) (-1))) 126 T 0 (tRow T (nI d) (-1))) := fun M => fm_most (fm_most (FL.fi (sm_r25 s) FL.rf))
          have := hm (mo_up (o_Gate_want (wR s) I L 1 T n d u).2.2 149 0 (o_Gate_want (wR s) I L 1 T n d u).1) 149 rfl
          exact (congrFun this 0).trans (mo_upA _ _ _ _)
end F
