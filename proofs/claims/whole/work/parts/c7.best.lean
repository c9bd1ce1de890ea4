/-! holds, could, look, best: the class's answers are the reference's. -/
theorem tMy_lt {T : mo_Tn} {i : Nat} : tMy T i < 2 ^ tGz T := mo_bs_lt _ _
theorem hal_no {cs : List Nat} {i k : Nat} (hi : i < 2147483648) : mo_hal (-1) 0 cs i k = (cs.getD i 0).testBit k := by
  unfold mo_hal mo_hm
  rw [if_neg (mo_nIm rfl hi)]
theorem ho_all {T : mo_Tn} (hn : (tNS T).length ≤ 8) : tHo (tNS T).length (tCS T) (-1) 0 = lo_cn (tNS T).length ((List.range' 0 (tNS T).length).map (tA T)) 0 := by
  unfold tHo
  rw [wy_full]
  exact cn_congr _ (fun r hr k _ => hal_no (by have := List.mem_range'_1.mp hr; omega)) 0
theorem ho_one {T : mo_Tn} (hn : (tNS T).length ≤ 8) {j x : Nat} (hj : j < (tNS T).length) (hx : x < (tNS T).length) : tHo (tNS T).length (tCS T) (nI j) x = if tA T j x = true then lo_cn (tNS T).length (((List.range (tNS T).length).filter (fun r => !(2 ^ j).testBit r)).map (tA T)) (2 ^ x) else 0 := by
  unfold tHo
  rw [wy_full, ← lo_row1 (A := tA T) (al := fun r k => if r = j then (tA T j k && decide (k = x)) else tA T r k) hj hx (fun r hr => funext (fun k => if_neg hr)) (fun k _ => if_pos rfl)]
  refine cn_congr _ (fun r hr k hk => ?_) 0
  have hr := List.mem_range'_1.mp hr
  unfold mo_hal mo_hm
  by_cases e : r = j
  · rw [if_pos (by rw [e]), if_pos e, e, Nat.testBit_and, Nat.testBit_two_pow, show decide (k = x) = decide (x = k) from decide_eq_decide.mpr ⟨Eq.symm, Eq.symm⟩]
    rfl
  · rw [if_neg (fun z => e ((nI_eq (by omega) (by omega)).mp z)), if_neg e]
    rfl
theorem ahd_r {R : Nat → Nat → Nat} {I : Nat → Nat → Int32} {g : Nat} {T : mo_Tn} (hv : mo_vT T) (hF : mo_fT T) {S : Nat} (hS : S < 2 ^ tGz T) : tAhd R I g T S = nI (tWa (tGz T) (tMy T) S) := by
  have hz := (tGz_le hv).1
  unfold tAhd w_Guess_countAhead_9
  exact ahead_r hz (fun i _ => tMy_lt) (mo_upA _ _ _ _) S hS
theorem bhd_r {R : Nat → Nat → Nat} {I : Nat → Nat → Int32} {g : Nat} {T : mo_Tn} (hv : mo_vT T) (hF : mo_fT T) {S : Nat} (hS : S < 2 ^ tGz T) : tBhd R I g T S = nI (tWb (tGz T) (tMy T) S) := by
  have hz := (tGz_le hv).1
  unfold tBhd w_Guess_countBehind_17
  exact behind_r hz (fun i _ => tMy_lt) (mo_upA _ _ _ _) S hS
theorem holds_r {R : Nat → Nat → Nat} {I : Nat → Nat → Int32} {g : Nat} {T : mo_Tn} (hv : mo_vT T) (hF : mo_fT T) (hS : mo_sT T) : tAhd R I g T (2 ^ tGz T - 1) = nI (tHo (tNS T).length (tCS T) (-1) 0) := by
  have hz := (tGz_le hv).1
  have hp := Nat.two_pow_pos (tGz T)
  rw [ahd_r hv hF (by omega)]
  have hfull : mo_pc (2 ^ tGz T - 1) = tGz T := by
    have h1 := pc_fr (n := tGz T) (by omega) (x := 2 ^ tGz T - 1) (by omega)
    have h2 : lo_fr (tGz T) (2 ^ tGz T - 1) = 0 := mo_sm_zero (fun k hk => by show (if (!(2 ^ tGz T - 1).testBit k) = true then 1 else 0) = 0; rw [Nat.testBit_two_pow_sub_one, decide_eq_true hk]; rfl)
    omega
  unfold tWa
  rw [hfull, wy_full, tGz_r hv hF]
  rw [tGz_r hv hF] at hz
  rw [ho_all hz, lo_tr0 (A := tA T)]
  congr 1
  exact cn_congr (al := fun i j => (tMy T i).testBit j) (bl := fun c x => tA T x c) (List.range' 0 (tNS T).length) (fun r hr k hk => may_r hv hF hS (by have := List.mem_range'_1.mp hr; omega) hk) 0
theorem tally_ho {R : Nat → Nat → Nat} {I I0 : Nat → Nat → Int32} {g : Nat} {T : mo_Tn} (hv : mo_vT T) (hF : mo_fT T) (hS : mo_sT T) (h3 : I0 (R (R g 4) 3) = tAhd R I g T) (h4 : I0 (R (R g 4) 4) = tBhd R I g T) {x j : Nat} (hx : x < tGz T) (hj : j < tGz T) : w_Guess_countHolders_10 R I0 g (tGz T) (tMy T) x j = nI (tHo (tNS T).length (tCS T) (nI j) x) := by
  have hz := (tGz_le hv).1
  rw [tally_r hz hx tMy_lt (fun S hS2 => by rw [h3]; exact ahd_r hv hF hS2) (fun S hS2 => by rw [h4]; exact bhd_r hv hF hS2) hj]
  rw [tGz_r hv hF] at hz hx hj
  rw [tGz_r hv hF, ho_one hz hj hx, may_r hv hF hS hx hj, lo_tr1 hx hj]
  congr 2
  exact cn_congr (al := fun i j => (tMy T i).testBit j) (bl := fun c x => tA T x c) ((List.range (tNS T).length).filter (fun r => !(2 ^ x).testBit r)) (fun r hr k hk => may_r hv hF hS (List.mem_range.mp (List.mem_filter.mp hr).1) hk) _
theorem idx_r {T : mo_Tn} (hv : mo_vT T) (hF : mo_fT T) {q : Int32} : o_Guess_indexOfName (tGz T) (w_Guess_open_4 T).2 q = mo_oi (tPl (tNS T) q) := by
  unfold o_Guess_indexOfName w_Guess_indexOfName_2 tPl
  rw [op4_r hv hF, tGz_r hv hF]
  refine mo_lp_ff (c := fun j => decide (nI ((tNS T).getD j 0) = q)) (fun j u _ => ?_)
  unfold b_Guess_indexOfName_2
  by_cases c : nI ((tNS T).getD j 0) = q
  · rw [if_pos c, if_pos (decide_eq_true c)]
  · rw [if_neg c, if_neg (fun z => c (of_decide_eq_true z))]
theorem could_in {R R' : Nat → Nat → Nat} {I I0 : Nat → Nat → Int32} {L : Nat → Nat → Int64} {g a : Nat} {T : mo_Tn} (hv : mo_vT T) (hF : mo_fT T) (hS : mo_sT T) (h3 : I0 (R (R g 4) 3) = tAhd R I g T) (h4 : I0 (R (R g 4) 4) = tBhd R I g T) {x : Nat} (hx : x < tGz T) : w_Guess_holders_23 R I0 g (tGz T) (tMy T) (w_Guess_open_58 T).2 x = (w_Model_could_27 R' L a T x).1 := by
  have hz := (tGz_le hv).1
  unfold w_Guess_holders_23 w_Model_could_27
  rw [← tGz_r hv hF]
  have key := it_sim (f := b_Guess_holders_23 R I0 g (tGz T) (tMy T) (w_Guess_open_58 T).2 x) (h := b_Model_could_27 R' a T x) (fun i s s' => i ≤ tGz T ∧ s = s'.1) (k := tGz T) (i := 0) (s := 0) (s' := (0, L)) ⟨Nat.zero_le _, rfl⟩ (fun i s s' _ hi hP => by
    refine ⟨by omega, ?_⟩
    unfold b_Guess_holders_23 b_Model_could_27
    rw [tally_ho hv hF hS h3 h4 hx (by omega), hP.2, op58_r hv hF]
    have hlt := tHo_lt (n := (tNS T).length) (by rw [← tGz_r hv hF]; exact hz) (tCS T) (nI i) x
    have hle : nI (tHo (tNS T).length (tCS T) (nI i) x) ≤ 0 ↔ tHo (tNS T).length (tCS T) (nI i) x ≤ 0 := nI_leI (b := 0) hlt (by decide)
    by_cases c : tHo (tNS T).length (tCS T) (nI i) x ≤ 0
    · rw [if_pos (hle.mpr c), if_pos c]
    · rw [if_neg (fun z => c (hle.mp z)), if_neg c])
  exact key.2
theorem could_r {R R' : Nat → Nat → Nat} {I I0 I' : Nat → Nat → Int32} {L : Nat → Nat → Int64} {g a : Nat} {T : mo_Tn} {q : Int32} (hv : mo_vT T) (hF : mo_fT T) (hS : mo_sT T) (h3 : I0 (R (R g 4) 3) = tAhd R I g T) (h4 : I0 (R (R g 4) 4) = tBhd R I g T) : (o_Guess_holders R I0 g (tGz T) (tMy T) (w_Guess_open_58 T).2 (o_Guess_indexOfName (tGz T) (w_Guess_open_4 T).2 q)).1 = (o_Model_could R' I' L a T q).1 := by
  have hz := (tGz_le hv).1
  rw [idx_r hv hF]
  unfold o_Guess_holders o_Model_could
  cases e : tPl (tNS T) q with
  | none => rfl
  | some v =>
    have hv2 := tPl_lt e
    rw [← tGz_r hv hF] at hv2
    show (Option.elim (tN (nI v)) _ _ : Int32 × (Nat → Nat → Int32)).1 = nI (w_Model_could_27 R' L a T v).1
    rw [tN_nI (by omega)]
    show (if v < tGz T then _ else _ : Int32 × (Nat → Nat → Int32)).1 = _
    rw [if_pos hv2]
    show nI _ = nI _
    rw [could_in hv hF hS h3 h4 hv2]
theorem look_in {R : Nat → Nat → Nat} {I I0 : Nat → Nat → Int32} {g : Nat} {T : mo_Tn} (hv : mo_vT T) (hF : mo_fT T) (hS : mo_sT T) (h3 : I0 (R (R g 4) 3) = tAhd R I g T) (h4 : I0 (R (R g 4) 4) = tBhd R I g T) {x : Nat} (hx : x < tGz T) : w_Guess_mostLeft_23 R I0 g (tGz T) (tMy T) x = nI (tLk T x) := by
  have hz := (tGz_le hv).1
  unfold w_Guess_mostLeft_23 tLk
  rw [← tGz_r hv hF]
  have key := it_sim (f := b_Guess_mostLeft_23 R I0 g (tGz T) (tMy T) x) (h := fun i s => if tHo (tGz T) (tCS T) (nI i) x ≤ s then s else tHo (tGz T) (tCS T) (nI i) x) (fun i s s' => i ≤ tGz T ∧ s = nI s' ∧ s' < 2147483648) (k := tGz T) (i := 0) (s := 0) (s' := 0) ⟨Nat.zero_le _, rfl, by decide⟩ (fun i s s' _ hi hP => by
    unfold b_Guess_mostLeft_23
    have hlt := tHo_lt (n := tGz T) hz (tCS T) (nI i) x
    rw [tally_ho hv hF hS h3 h4 hx (by omega), ← tGz_r hv hF, hP.2.1]
    have hle := nI_ltI (a := s') (b := tHo (tGz T) (tCS T) (nI i) x) hP.2.2 hlt
    show _ ∧ (if nI s' < nI (tHo (tGz T) (tCS T) (nI i) x) then nI (tHo (tGz T) (tCS T) (nI i) x) else nI s') = nI (if tHo (tGz T) (tCS T) (nI i) x ≤ s' then s' else tHo (tGz T) (tCS T) (nI i) x) ∧ (if tHo (tGz T) (tCS T) (nI i) x ≤ s' then s' else tHo (tGz T) (tCS T) (nI i) x) < 2147483648
    by_cases c : tHo (tGz T) (tCS T) (nI i) x ≤ s'
    · rw [if_neg (fun z => by have := hle.mp z; omega), if_pos c]; exact ⟨by omega, rfl, hP.2.2⟩
    · rw [if_pos (hle.mpr (by omega)), if_neg c]; exact ⟨by omega, rfl, hlt⟩)
  exact key.2.1
theorem look_r {R R' : Nat → Nat → Nat} {I I0 I' : Nat → Nat → Int32} {L : Nat → Nat → Int64} {g a : Nat} {T : mo_Tn} {q : Int32} (hv : mo_vT T) (hF : mo_fT T) (hS : mo_sT T) (h3 : I0 (R (R g 4) 3) = tAhd R I g T) (h4 : I0 (R (R g 4) 4) = tBhd R I g T) : (o_Guess_mostLeft R I0 g (tGz T) (tMy T) (o_Guess_indexOfName (tGz T) (w_Guess_open_4 T).2 q)).1 = (o_Model_look R' I' L a T q).1 := by
  have hz := (tGz_le hv).1
  rw [idx_r hv hF]
  unfold o_Guess_mostLeft o_Model_look
  cases e : tPl (tNS T) q with
  | none => rfl
  | some v =>
    have hv2 := tPl_lt e
    rw [← tGz_r hv hF] at hv2
    show (Option.elim (tN (nI v)) _ _ : Int32 × (Nat → Nat → Int32)).1 = nI (tLk T v)
    rw [tN_nI (by omega)]
    show (if v < tGz T then _ else _ : Int32 × (Nat → Nat → Int32)).1 = _
    rw [if_pos hv2]
    exact look_in hv hF hS h3 h4 hv2
theorem best_run {R R' : Nat → Nat → Nat} {I : Nat → Nat → Int32} {g a : Nat} {T : mo_Tn} (hv : mo_vT T) (hF : mo_fT T) (hS : mo_sT T) (n53 : R (R g 4) 3 ≠ R (R g 4) 5) (n54 : R (R g 4) 4 ≠ R (R g 4) 5) (hpos : ¬ tAhd R I g T (2 ^ tGz T - 1) ≤ 0) : ∀ k i b l h L, 1 + i + k = tGz T → b < tGz T → l < 2147483648 → h (R (R g 4) 3) = tAhd R I g T → h (R (R g 4) 4) = tBhd R I g T → ∃ u, mo_lp (b_Gate_best_17 R I g T) k (1 + i) (nI ((tNS T).getD b 0), nI l, h) = .inl u ∧ u.1 = nI ((tNS T).getD (mo_it (b_Model_best_37 R' a T) k i (b, l, L)).1 0) := by
  intro k
  have hz := (tGz_le hv).1
  have hN := vT_tNames hv
  induction k with
  | zero => intro i b l h L _ _ _ _ _; exact ⟨_, rfl, rfl⟩
  | succ k ih =>
    intro i b l h L hk hb hl h3 h4
    have hb2 : (tNS T).getD b 0 < tNames T := tGN_lt (by rw [tGz_r hv hF] at hb; exact hb)
    have e1 : ∀ r, mo_rw (mo_fi h (R (R g 4) 5) 0 8 (fun _ => 0)) (R (R g 4) 5) r (R (R g 4) 3) = tAhd R I g T := fun r => by rw [mo_rw_off n53, mo_fiR n53, h3]
    have e2 : ∀ r, mo_rw (mo_fi h (R (R g 4) 5) 0 8 (fun _ => 0)) (R (R g 4) 5) r (R (R g 4) 4) = tBhd R I g T := fun r => by rw [mo_rw_off n54, mo_fiR n54, h4]
    have hlk := look_in hv hF hS h3 h4 (x := 1 + i) (by omega)
    have hlt := tLk_lt hv (1 + i)
    have hle := nI_leI (a := l) (b := tLk T (1 + i)) hl hlt
    have nn : ¬ (nI ((tNS T).getD b 0)) = -1 := mo_nIm rfl (by omega)
    show ∃ u : Int32 × Int32 × (Nat → Nat → Int32), _ ∧ u.1 = nI ((tNS T).getD (mo_it (b_Model_best_37 R' a T) k (i + 1) (b_Model_best_37 R' a T i (b, l, L))).1 0)
    have hb37 : b_Model_best_37 R' a T i (b, l, L) = (if tLk T (1 + i) < l then (1 + i, tLk T (1 + i), tLKH R' L a T (1 + i)) else (b, l, tLKH R' L a T (1 + i))) := rfl
    rw [hb37]
    by_cases c : tLk T (1 + i) < l
    · rw [if_pos c, mo_lp_inlS (s' := (nI ((tNS T).getD (1 + i) 0), nI (tLk T (1 + i)), mo_rw (mo_fi h (R (R g 4) 5) 0 8 (fun _ => 0)) (R (R g 4) 5) (w_Guess_countHolders_10 R h g (tGz T) (tMy T) (1 + i)))) (by
        unfold b_Gate_best_17
        rw [if_neg hpos, if_neg nn]
        show (if nI l ≤ w_Guess_mostLeft_23 R h g (tGz T) (tMy T) (1 + i) then _ else _) = _
        rw [hlk, if_neg (fun z => by have := hle.mp z; omega), op4_r hv hF])]
      exact ih (i + 1) (1 + i) _ _ _ (by omega) (by omega) hlt (e1 _) (e2 _)
    · rw [if_neg c, mo_lp_inlS (s' := (nI ((tNS T).getD b 0), nI l, mo_rw (mo_fi h (R (R g 4) 5) 0 8 (fun _ => 0)) (R (R g 4) 5) (w_Guess_countHolders_10 R h g (tGz T) (tMy T) (1 + i)))) (by
        unfold b_Gate_best_17
        rw [if_neg hpos, if_neg nn]
        show (if nI l ≤ w_Guess_mostLeft_23 R h g (tGz T) (tMy T) (1 + i) then _ else _) = _
        rw [hlk, if_pos (hle.mpr (by omega))])]
      exact ih (i + 1) b l _ _ (by omega) hb hl (e1 _) (e2 _)
theorem best_r {K : mo_K} {R R' : Nat → Nat → Nat} {I I' : Nat → Nat → Int32} {L : Nat → Nat → Int64} {g t a : Nat} {T : mo_Tn} (h : mo_gt K R g t) (hv : mo_vT T) (hF : mo_fT T) (hS : mo_sT T) : (o_Gate_best R I g T).1 = (o_Model_best R' I' L a T).1 := by
  have hz := (tGz_le hv).1
  have n34 : R (R g 4) 3 ≠ R (R g 4) 4 := mo_nd h.2.2.2.1 (i := 32) (j := 33) rfl rfl (by decide)
  have n53 : R (R g 4) 3 ≠ R (R g 4) 5 := mo_nd h.2.2.2.1 (i := 32) (j := 34) rfl rfl (by decide)
  have n54 : R (R g 4) 4 ≠ R (R g 4) 5 := mo_nd h.2.2.2.1 (i := 33) (j := 34) rfl rfl (by decide)
  have h3 : tOW R I g T (R (R g 4) 3) = tAhd R I g T := by rw [ow_o n34]; exact op_a R I g T
  have h4 : tOW R I g T (R (R g 4) 4) = tBhd R I g T := ow_b R I g T
  have hlt := tHo_lt (n := (tNS T).length) (by rw [← tGz_r hv hF]; exact hz) (tCS T) (-1) 0
  have hle : nI (tHo (tNS T).length (tCS T) (-1) 0) ≤ 0 ↔ tHo (tNS T).length (tCS T) (-1) 0 ≤ 0 := nI_leI (b := 0) hlt (by decide)
  have hho := holds_r (R := R) (I := I) (g := g) hv hF hS
  unfold o_Gate_best o_Model_best w_Gate_best_17
  by_cases c0 : (tNS T).length = 0
  · rw [if_pos c0, tGz_r hv hF, c0]
    rfl
  · rw [if_neg c0]
    have hg : tGz T = (tGz T - 1) + 1 := by rw [tGz_r hv hF]; omega
    by_cases c1 : tHo (tNS T).length (tCS T) (-1) 0 = 0
    · rw [if_pos c1]
      conv => lhs; rw [hg]
      rw [mo_lp_inrS (r := (-1, 0, tOW R I g T)) (by
        unfold b_Gate_best_17
        rw [hho, if_pos (hle.mpr (by omega))])]
      rfl
    · rw [if_neg c1]
      have hpos : ¬ tAhd R I g T (2 ^ tGz T - 1) ≤ 0 := by rw [hho]; exact fun z => by have := hle.mp z; omega
      have hlk := look_in hv hF hS h3 h4 (x := 0) (by omega)
      have hb : b_Gate_best_17 R I g T 0 (-1, 0, tOW R I g T) = .inl (nI ((tNS T).getD 0 0), nI (tLk T 0), mo_rw (mo_fi (tOW R I g T) (R (R g 4) 5) 0 8 (fun _ => 0)) (R (R g 4) 5) (w_Guess_countHolders_10 R (tOW R I g T) g (tGz T) (tMy T) 0)) := by
        unfold b_Gate_best_17
        rw [if_neg hpos, if_pos rfl]
        show Sum.inl (_, w_Guess_mostLeft_23 R (tOW R I g T) g (tGz T) (tMy T) 0, _) = _
        rw [hlk, op4_r hv hF]
      obtain ⟨u, e, hu⟩ := best_run (R' := R') (a := a) hv hF hS n53 n54 hpos (tGz T - 1) 0 0 (tLk T 0) (mo_rw (mo_fi (tOW R I g T) (R (R g 4) 5) 0 8 (fun _ => 0)) (R (R g 4) 5) (w_Guess_countHolders_10 R (tOW R I g T) g (tGz T) (tMy T) 0)) (tLKH R' (tHH R' L a (-1) 0 (tNS T).length (tCS T)) a T 0) (by omega) (by omega) (tLk_lt hv 0) (by rw [mo_rw_off n53, mo_fiR n53, h3]) (by rw [mo_rw_off n54, mo_fiR n54, h4])
      have e2 : mo_lp (b_Gate_best_17 R I g T) (tGz T) 0 (-1, 0, tOW R I g T) = .inl u := by
        conv => lhs; rw [hg]
        rw [mo_lp_inlS hb]
        exact e
      rw [e2]
      show u.1 = nI ((tNS T).getD (w_Model_best_37 R' L a T).1 0)
      rw [hu, tGz_r hv hF]
      rfl
