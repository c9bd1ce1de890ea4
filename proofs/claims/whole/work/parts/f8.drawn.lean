/-! Drawn: the name that falls to one, alike. -/
theorem lo_mono {p : Nat → Bool} {i : Nat} : ∀ {j : Nat}, i ≤ j → lo_ct p i ≤ lo_ct p j := by
  intro j
  induction j with
  | zero => intro h; rw [show i = 0 by omega]; exact Nat.le_refl _
  | succ j ih =>
    intro h
    by_cases c : i = j + 1
    · rw [c]; exact Nat.le_refl _
    · exact Nat.le_trans (ih (by omega)) (Nat.le_add_right (lo_ct p j) _)
theorem lo_S (p : Nat → Bool) (i : Nat) : lo_ct p (i + 1) = lo_ct p i + (if p i = true then 1 else 0) := rfl
theorem lo_up {p : Nat → Bool} {i j : Nat} (h : i < j) (hp : p i = true) : lo_ct p i < lo_ct p j := by
  have h1 := lo_mono (p := p) (show i + 1 ≤ j by omega)
  rw [lo_S, if_pos hp] at h1
  omega
theorem lo_nth {p : Nat → Bool} {a : Nat} : ∀ {n : Nat}, a < lo_ct p n → ∃ j, j < n ∧ p j = true ∧ lo_ct p j = a := by
  intro n
  induction n with
  | zero => intro h; exact absurd h (Nat.not_lt_zero a)
  | succ n ih =>
    intro h
    by_cases c : a < lo_ct p n
    · obtain ⟨j, h1, h2⟩ := ih c
      exact ⟨j, by omega, h2⟩
    · rw [lo_S] at h
      by_cases d : p n = true
      · rw [if_pos d] at h
        exact ⟨n, by omega, d, by omega⟩
      · rw [if_neg d] at h; omega
/-- the number of a name among those that are left, by its place -/
def dNth (p : Nat → Bool) (a n : Nat) : Nat := (mo_ff (fun j => p j && decide (lo_ct p j = a)) n).getD 0
theorem dNth_r {p : Nat → Bool} {a n : Nat} (h : a < lo_ct p n) : dNth p a n < n ∧ p (dNth p a n) = true ∧ lo_ct p (dNth p a n) = a := by
  unfold dNth
  cases e : mo_ff (fun j => p j && decide (lo_ct p j = a)) n with
  | none =>
    obtain ⟨j, h1, h2, h3⟩ := lo_nth h
    have := ff_none e h1
    rw [h2, decide_eq_true h3] at this
    cases this
  | some j =>
    have h1 := mo_ff_lt e
    have h2 : (p j && decide (lo_ct p j = a)) = true := h1.2.1
    rw [Bool.and_eq_true] at h2
    exact ⟨h1.1, h2.1, of_decide_eq_true h2.2⟩
theorem bitAt_r {x j : Nat} (hj : j < 32) (hb : x.testBit j = true) : o_Gate_bitAt x (nI (lo_ct (fun k => x.testBit k) j)) = nI j := by
  have bound : ∀ i, lo_ct (fun k => x.testBit k) i ≤ i := fun i => by
    induction i with
    | zero => exact Nat.le_refl 0
    | succ i ih =>
      rw [lo_S]
      by_cases c : x.testBit i = true
      · rw [if_pos c]; omega
      · rw [if_neg c]; omega
  have run : ∀ m i, i + m = 32 → i ≤ j → mo_lp (b_Gate_bitAt_4 x (nI (lo_ct (fun k => x.testBit k) j))) m i (lo_ct (fun k => x.testBit k) i) = .inr (nI j) := fun m => by
    induction m with
    | zero => intro i h1 h2; omega
    | succ m ih =>
      intro i h1 h2
      by_cases e : i = j
      · rw [e]
        refine mo_lp_inrS ?_
        unfold b_Gate_bitAt_4
        rw [if_pos hb, if_pos rfl]
      · by_cases c : x.testBit i = true
        · have hlt := lo_up (p := fun k => x.testBit k) (show i < j by omega) c
          have b1 := bound i
          have b2 := bound j
          rw [mo_lp_inlS (s' := lo_ct (fun k => x.testBit k) i + 1) (by
            unfold b_Gate_bitAt_4
            rw [if_pos c, if_neg (fun z => by have := (nI_eq (by omega) (by omega)).mp z; omega)])]
          have := ih (i + 1) (by omega) (by omega)
          rw [lo_S, if_pos c] at this
          exact this
        · rw [mo_lp_inlS (s' := lo_ct (fun k => x.testBit k) i) (by
            unfold b_Gate_bitAt_4
            rw [if_neg c])]
          have := ih (i + 1) (by omega) (by omega)
          rw [lo_S, if_neg c] at this
          exact this
  unfold o_Gate_bitAt w_Gate_bitAt_4
  have h := run 32 0 (by omega) (Nat.zero_le _)
  have h2 : mo_lp (b_Gate_bitAt_4 x (nI (lo_ct (fun k => x.testBit k) j))) 32 0 0 = .inr (nI j) := h
  rw [h2]
  rfl
theorem b122 {T : mo_Tn} {m i s : Nat} : b_mdraw_122 T m i s = if dAv T m i = true then (if 0 < s then .inl (s - 1) else .inr (i, s)) else .inl s := by
  unfold b_mdraw_122
  by_cases d : i = tOwn T m
  · rw [dAv_o d, if_neg (show ¬ false = true by decide), if_pos d, if_pos d]
    by_cases c : 0 < s
    · rw [if_pos c]
    · rw [if_neg c]
  · rw [if_neg d, if_neg d]
    cases e : tBr T (nI i) (tTd T) with
    | none =>
      rw [dAv_n d e, if_pos rfl]
      by_cases c : 0 < s
      · rw [if_pos c, if_pos c]; rfl
      · rw [if_neg c, if_neg c]; rfl
    | some v =>
      rw [dAv_v e, if_neg (show ¬ false = true by decide)]
      by_cases c : 0 < s
      · rw [if_pos c]; rfl
      · rw [if_neg c]
        rfl
theorem lp122 {T : mo_Tn} {m r : Nat} (h : r < lo_ct (dAv T m) (tNames T)) : mo_lp (b_mdraw_122 T m) (tNames T) 0 r = .inr (dNth (dAv T m) r (tNames T), 0) := by
  obtain ⟨h1, h2, h3⟩ := dNth_r h
  generalize dNth (dAv T m) r (tNames T) = j at h1 h2 h3 ⊢
  have run : ∀ f i s, i + f = tNames T → i ≤ j → s + lo_ct (dAv T m) i = r → mo_lp (b_mdraw_122 T m) f i s = .inr (j, 0) := fun f => by
    induction f with
    | zero => intro i s g1 g2 _; omega
    | succ f ih =>
      intro i s g1 g2 g3
      by_cases c : dAv T m i = true
      · by_cases d : 0 < s
        · have hij : i ≠ j := fun e => by rw [e, h3] at g3; omega
          rw [mo_lp_inlS (s' := s - 1) (by rw [b122, if_pos c, if_pos d])]
          refine ih (i + 1) (s - 1) (by omega) (by omega) ?_
          rw [lo_S, if_pos c]; omega
        · have hs : s = 0 := by omega
          have hij : i = j := by
            apply Classical.byContradiction
            intro hne
            have := lo_up (p := dAv T m) (show i < j by omega) c
            omega
          refine mo_lp_inrS ?_
          rw [b122, if_pos c, if_neg d, hs, hij]
      · have hij : i ≠ j := fun e => by rw [e] at c; exact c h2
        rw [mo_lp_inlS (s' := s) (by rw [b122, if_neg c])]
        refine ih (i + 1) s (by omega) (by omega) ?_
        rw [lo_S, if_neg c]; omega
  exact run (tNames T) 0 r (Nat.zero_add _) (Nat.zero_le _) (Nat.add_zero r)
theorem w122_r {I : Nat → Nat → Int32} {a : Nat} {T : mo_Tn} {m : Nat} (h : dRn (dSd (I a 41)) (w_mdraw_61 T m) < lo_ct (dAv T m) (tNames T)) : w_mdraw_122 I a T m = .inr (dNth (dAv T m) (dRn (dSd (I a 41)) (w_mdraw_61 T m)) (tNames T), 0) := lp122 h
/-- the names that are left for a man, as the class has them -/
theorem left_bit {T : mo_Tn} (hv : mo_vT T) (hF : mo_fT T) {m j : Nat} : (mo_dif (mo_dif ((2 ^ (tNames T)) - 1) (tGs T (nI (tTd T)))) (2 ^ (tOwn T m))).testBit j = (decide (j < tNames T) && dAv T m j) := by
  rw [mo_dif_bit, fr_bit, Nat.testBit_two_pow]
  by_cases c : j < tNames T
  · have hb := vT_tTd hv
    have h1 := gr_bit hv (d := nI (tTd T)) c
    have h2 := bear_r hv hF c (show tTd T < 30 by omega)
    unfold dAv
    rw [← h2, decide_eq_true c]
    have h3 : (tGs T (nI (tTd T))).testBit j = (tGr T (nI j) (nI (tTd T))).isSome := by
      apply Bool.eq_iff_iff.mpr; exact h1
    rw [h3]
    have h4 : decide (tOwn T m = j) = decide (j = tOwn T m) := by
      by_cases e : j = tOwn T m
      · rw [decide_eq_true e, decide_eq_true e.symm]
      · rw [decide_eq_false e, decide_eq_false (fun z => e z.symm)]
    rw [h4]
    cases tGr T (nI j) (nI (tTd T)) with
    | none => cases decide (j = tOwn T m) <;> rfl
    | some v => cases decide (j = tOwn T m) <;> rfl
  · rw [decide_eq_false c]; rfl
theorem left_ct {T : mo_Tn} (hv : mo_vT T) (hF : mo_fT T) {m : Nat} : ∀ i, i ≤ tNames T → lo_ct (fun k => (mo_dif (mo_dif ((2 ^ (tNames T)) - 1) (tGs T (nI (tTd T)))) (2 ^ (tOwn T m))).testBit k) i = lo_ct (dAv T m) i := fun i hi => lo_ct_congr (fun n hn => by
  show (mo_dif (mo_dif ((2 ^ (tNames T)) - 1) (tGs T (nI (tTd T)))) (2 ^ (tOwn T m))).testBit n = dAv T m n
  rw [left_bit hv hF, decide_eq_true (show n < tNames T by omega)]; rfl)
theorem left_pc {T : mo_Tn} (hv : mo_vT T) (hF : mo_fT T) {m : Nat} : mo_pc (mo_dif (mo_dif ((2 ^ (tNames T)) - 1) (tGs T (nI (tTd T)))) (2 ^ (tOwn T m))) = lo_ct (dAv T m) (tNames T) := by
  have hb := vT_tNames hv
  rw [pc_ct, lo_ct_more hb (fun j h1 h2 => by
    show (mo_dif (mo_dif ((2 ^ (tNames T)) - 1) (tGs T (nI (tTd T)))) (2 ^ (tOwn T m))).testBit j = false
    rw [left_bit hv hF, decide_eq_false (by omega)]; rfl)]
  exact left_ct hv hF _ (Nat.le_refl _)
/-- the name drawn for a man -/
def dNm (T : mo_Tn) (m : Nat) (x : Int32) : Nat := dNth (dAv T m) (dRn (dSd x) (lo_ct (dAv T m) (tNames T))) (tNames T)
theorem dNm_r {T : mo_Tn} {m : Nat} {x : Int32} (h : ¬ lo_ct (dAv T m) (tNames T) = 0) : dNm T m x < tNames T ∧ dAv T m (dNm T m x) = true ∧ lo_ct (dAv T m) (dNm T m x) = dRn (dSd x) (lo_ct (dAv T m) (tNames T)) := dNth_r (dRn_lt _ (by omega))
theorem cdraw_r {R : Nat → Nat → Nat} {I : Nat → Nat → Int32} {t : Nat} {T : mo_Tn} {w0 : Nat} {x0 : Int32} {cc : Nat} (hv : mo_vT T) (hF : mo_fT T) : o_cdraw R I t T w0 x0 cc = Option.elim (tGc T cc) (if lo_ct (dAv T (tCm T cc)) (tNames T) = 0 then .inr (x0, w0, I) else .inl (dSd x0, w0 + 1, mo_up I (R (R t 1) 4) cc (nI (dNm T (tCm T cc) x0)))) (fun _ => .inl (x0, w0, I)) := by
  have hb := vT_tNames hv
  unfold o_cdraw
  cases tGc T cc with
  | some v => rfl
  | none =>
    show (if _ then _ else _ : (Int32 × Nat × (Nat → Nat → Int32)) ⊕ (Int32 × Nat × (Nat → Nat → Int32))) = (if _ then _ else _ : (Int32 × Nat × (Nat → Nat → Int32)) ⊕ (Int32 × Nat × (Nat → Nat → Int32)))
    rw [left_pc hv hF]
    by_cases c : lo_ct (dAv T (tCm T cc)) (tNames T) = 0
    · rw [if_pos c, if_pos c]
    · rw [if_neg c, if_neg c]
      obtain ⟨h1, h2, h3⟩ := dNm_r (x := x0) c
      have hle : lo_ct (dAv T (tCm T cc)) (tNames T) < 32 := by
        rw [← left_pc hv hF]; exact mo_pc_lt32 _
      have hp := dr_rem (dSd x0) (n := lo_ct (dAv T (tCm T cc)) (tNames T)) (by omega) hle
      have hp2 : (((((x0 * 1103515245) + 12345).toUInt32) >>> (((8 : Int32).toUInt32) &&& (Int32.toUInt32 31))).toInt32) - (((((((x0 * 1103515245) + 12345).toUInt32) >>> (((8 : Int32).toUInt32) &&& (Int32.toUInt32 31))).toInt32) / (nI (lo_ct (dAv T (tCm T cc)) (tNames T)))) * (nI (lo_ct (dAv T (tCm T cc)) (tNames T)))) = nI (dRn (dSd x0) (lo_ct (dAv T (tCm T cc)) (tNames T))) := hp
      rw [hp2, ← h3, ← left_ct hv hF _ (Nat.le_of_lt h1), bitAt_r (by omega) (by rw [left_bit hv hF, decide_eq_true h1, h2]; rfl)]
      rfl
theorem mdraw_r {R : Nat → Nat → Nat} {I : Nat → Nat → Int32} {a : Nat} {T : mo_Tn} {w0 m0 : Nat} (hv : mo_vT T) (hm : m0 < 8) : o_mdraw R I a T w0 m0 = Option.elim (tGave T (tTd T) m0) (if lo_ct (dAv T m0) (tNames T) = 0 then .inr (nI w0) else .inl (w0 + 1, mo_up (mo_up I a 41 (dSd (I a 41))) (R a 14) ((553 + (8 * (tTd T))) + m0) (nI (dNm T m0 (I a 41) + 1)))) (fun _ => .inl (w0, I)) := by
  have hb := vT_tTd hv
  have hg : ((nI (tGv T (tTd T) m0)) - 1) = (-1) ↔ tGv T (tTd T) m0 = 0 := by
    have := vT_tGv hv (d := tTd T) (m := m0) (by omega) hm
    have hn := vT_tNames hv
    constructor
    · intro e
      have e2 : nI (tGv T (tTd T) m0) = nI 0 := by
        have e3 := congrArg (fun z => z + 1) e
        have e4 : nI (tGv T (tTd T) m0) - 1 + 1 = (-1 : Int32) + 1 := e3
        rw [Int32.sub_add_cancel] at e4
        rw [e4]; decide
      exact (nI_eq (by omega) (by omega)).mp e2
    · intro e; rw [e]; decide
  unfold o_mdraw
  rw [w61_r.1]
  unfold tGave
  by_cases c : tGv T (tTd T) m0 = 0
  · rw [if_pos (hg.mpr c), if_pos c]
    show _ = (if lo_ct (dAv T m0) (tNames T) = 0 then _ else _ : (Nat × (Nat → Nat → Int32)) ⊕ Int32)
    by_cases d : lo_ct (dAv T m0) (tNames T) = 0
    · rw [if_pos d, if_pos d]
    · rw [if_neg d, if_neg d]
      have hlt : dRn (dSd (I a 41)) (w_mdraw_61 T m0) < lo_ct (dAv T m0) (tNames T) := by rw [w61_r.1]; exact dRn_lt _ (by omega)
      rw [w122_r hlt, w61_r.1]
      rfl
  · rw [if_neg (fun z => c (hg.mp z)), if_neg c]
    rfl
