/-! Taken back. -/
theorem gv_none {T : mo_Tn} {d m : Nat} (hv : mo_vT T) (hd : d < 30) (hm : m < 8) (h : nI (tGv T d m) - 1 = -1) : tGv T d m = 0 := by
  by_cases c : tGv T d m = 0
  · exact c
  · have e : tGave T d m = some (tGv T d m - 1) := if_neg c
    have := tGave_lt hv hd hm e
    have hN := vT_tNames hv
    rw [tGave_S e] at h
    exact absurd h (mo_nIm rfl (by omega))
theorem back_no {T : mo_Tn} (hv : mo_vT T) (hF : mo_fT T) {u : Unit} (e : w_Model_back_20 T = .inl u) : ∀ d m, d < 30 → m < 8 → tGv T d m ≠ 0 → d ≤ tTd T - 1 := fun d m hd hm hz => by
  have htd := vT_tTd hv
  have hM := vT_tMen hv
  have h1 := hF.2.1 d m hd hm hz
  by_cases c : d = tTd T
  · exfalso
    subst c
    obtain ⟨_, c0, hc⟩ := h1
    have h2 := tF_lt hc
    have h3 := vT_tCm hv h2.1
    have h4 : tCm T c0 = m := (nI_eq (by omega) (by omega)).mp h2.2.1
    obtain ⟨k, hk, hk2⟩ := tLine_at hv (show m < tMen T by omega) hc
    have P := mo_lp_inl (body := b_Model_back_20 T) (fun i _ => ∀ j, j < i → j < (tLine T (nI (tTd T))).length → tGv T (tTd T) ((tLine T (nI (tTd T))).getD ((tLine T (nI (tTd T))).length - j - 1) 0) = 0) (fun i s z hp hb j hj hl => by
      by_cases cj : j < i
      · exact hp j cj hl
      · have hji : j = i := by omega
        subst hji
        unfold b_Model_back_20 at hb
        by_cases cc : nI (tGv T (tTd T) ((tLine T (nI (tTd T))).getD ((tLine T (nI (tTd T))).length - j - 1) 0)) - 1 = -1
        · have hlt : (tLine T (nI (tTd T))).getD ((tLine T (nI (tTd T))).length - j - 1) 0 < tMen T := tLine_lt (by omega)
          exact gv_none hv htd (by omega) cc
        · rw [if_neg cc] at hb; cases hb) _ 0 () u (fun j hj => absurd hj (Nat.not_lt_zero j)) e
    have := P ((tLine T (nI (tTd T))).length - 1 - k) (by omega) (by omega)
    rw [show (tLine T (nI (tTd T))).length - ((tLine T (nI (tTd T))).length - 1 - k) - 1 = k by omega, hk2] at this
    exact hz this
  · have := h1.1
    omega
section F
variable {s : Bool} {I J : Nat → Nat → Int32} {L M : Nat → Nat → Int64} {T T' : mo_Tn} {xs xs' : List Nat}
theorem P_back (l : Launch) (hI : wInv s I L T xs) : wPair l mm_Gate_back 2 [.ref 1] mm_Model_back 2 [.ref 126] s I L := by
  have e14 : wR s 126 14 = 128 := w_V s (126, 14, 128) (by decide)
  have e22 : wR s 126 22 = 136 := w_V s (126, 22, 136) (by decide)
  have e8 : wR s 1 8 = 73 := w_V s (1, 8, 73) (by decide)
  have hb := wT_b s
  have hv := wv hI
  have hF := wF hI
  have htd := vT_tTd hv
  have hM := vT_tMen hv
  have hlm := tLine_len T (nI (tTd T))
  have hll := line_len hv hF (nI (tTd T))
  have c1 := C_Gate_back l wK (wR s) I L 1 (wT s) T (w_gt s) (wC hI) (line_vL hv hF)
  have hr := back_r (R := wR s) (R' := wR s) (I := I) (I' := (o_Gate_back (wR s) I 1 (wT s) T).2) (g := 1) (t := wT s) (a := 126) hv hF
  have hlw : mo_ct (mo_lw I 73 (tLU T (nI (tTd T)))) (wR s) (wT s) T := by
    have := lw_C (w_gt s) (wC hI) (tLU T (nI (tTd T)))
    rw [e8] at this; exact this
  cases e : w_Model_back_20 T with
  | inl u =>
    by_cases c : tTd T = 0
    · have h1 : (o_Gate_back (wR s) I 1 (wT s) T).2 = mo_lw I 73 (tLU T (nI (tTd T))) := by
        unfold o_Gate_back
        rw [back_in hv hF, e, e8]
        show (if tTd T = 0 then ((-1 : Int32), mo_lw I 73 (tLU T (nI (tTd T)))) else _).2 = _
        rw [if_pos c]
      have h2 : ∀ J, (o_Model_back (wR s) J 126 T).2 = mo_l1 (mo_up J 126 0 0) 126 23 136 (tLine T (nI (tTd T))) := fun J => by
        unfold o_Model_back
        rw [e, e22]
        show (if tTd T = 0 then ((-1 : Int32), mo_l1 (mo_up J 126 0 0) 126 23 136 (tLine T (nI (tTd T)))) else _).2 = _
        rw [if_pos c]
      have hI1 : wInv s (o_Gate_back (wR s) I 1 (wT s) T).2 L T xs := by
        rw [h1]; exact wInv_fr hI (FR.lw (fun k => by cases s <;> rfl) FR.rf) FL.rf
      refine wPair_D (T := T) (xs := xs) c1 (C_Model_back l wK (wR s) _ L 126 T (w_md s) (wN hI1)) (congrArg Value.int hr) ?_
      rw [h2]
      exact wInv_fr hI1 (FR.l1 (by cases s <;> rfl) (fun k => by cases s <;> rfl) (FR.up (by cases s <;> rfl) FR.rf)) FL.rf
    · have h1 : (o_Gate_back (wR s) I 1 (wT s) T).2 = mo_up (mo_lw I 73 (tLU T (nI (tTd T)))) (wT s) 5 (nI (tTd T - 1)) := by
        unfold o_Gate_back
        rw [back_in hv hF, e, e8]
        show (if tTd T = 0 then _ else ((1 : Int32), mo_up (mo_lw I 73 (tLU T (nI (tTd T)))) (wT s) 5 (nI (tTd T - 1)))).2 = _
        rw [if_neg c]
      have h2 : ∀ J, (o_Model_back (wR s) J 126 T).2 = mo_up (mo_l1 (mo_up J 126 0 0) 126 23 136 (tLine T (nI (tTd T)))) 128 552 (nI (tTd T - 1)) := fun J => by
        unfold o_Model_back
        rw [e, e22, e14]
        show (if tTd T = 0 then _ else ((1 : Int32), mo_up (mo_l1 (mo_up J 126 0 0) 126 23 136 (tLine T (nI (tTd T)))) 128 552 (nI (tTd T - 1)))).2 = _
        rw [if_neg c]
      refine wPair_D (T := tDay T (tTd T - 1)) (xs := xs) c1 (C_Model_back l wK (wR s) _ L 126 T (w_md s) ?_) (congrArg Value.int hr) ?_
      · rw [e14, h1, mo_upR (by omega), mo_lwR (by omega)]; exact hI.1.2.1
      · rw [h2, h1]
        refine wInv_same hI (FR.up (by cases s <;> rfl) (FR.l1 (by cases s <;> rfl) (fun k => by cases s <;> rfl) (FR.up (by cases s <;> rfl) (FR.up (by cases s <;> rfl) (FR.lw (fun k => by cases s <;> rfl) FR.rf))))) (ct_fr (ct_day (w_gt s) hlw (show tTd T - 1 < 30 by omega)) (fun x hx => ?_)) ?_ (day_f hF (back_no hv hF e)) (fun k hk => if_neg hk) rfl rfl ?_ ?_
        · have := w_tA s (wT s) (wT_in s) x hx
          rw [mo_upR (by omega), mo_l1Q (by omega) (by omega), mo_upR (by omega)]
        · rw [up_va, mo_l1Q (by omega) (by omega), mo_upR (by omega), mo_upR (by omega), mo_lwR (by omega)]
          exact now_day hI.1.2.1 (by omega)
        · rw [mo_upR (by omega), mo_l1Q (by omega) (by omega), mo_upR (by omega), mo_upR (by omega), mo_lwR (by omega)]
        · rw [mo_upR (by omega), mo_l1Q (by omega) (by omega), mo_upR (by omega), mo_upR (by omega), mo_lwR (by omega)]
  | inr r =>
    obtain ⟨j, t, _, hj, hbj⟩ := mo_lp_inr _ _ _ _ e
    have hr1 : r.1 = j := by
      unfold b_Model_back_20 at hbj
      by_cases cc : nI (tGv T (tTd T) ((tLine T (nI (tTd T))).getD ((tLine T (nI (tTd T))).length - j - 1) 0)) - 1 = -1
      · rw [if_pos cc] at hbj; cases hbj
      · rw [if_neg cc] at hbj; cases hbj; rfl
    have h1 : (o_Gate_back (wR s) I 1 (wT s) T).2 = mo_up (mo_lw I 73 (tLU T (nI (tTd T)))) (wT s + 12) ((tLU T (nI (tTd T))).getD ((tLU T (nI (tTd T))).length - r.1 - 1) 0) (-1) := by
      unfold o_Gate_back
      rw [back_in hv hF, e, e8, w_t1]
      rfl
    have h2 : ∀ J, (o_Model_back (wR s) J 126 T).2 = mo_up (mo_l1 (mo_up J 126 0 0) 126 23 136 (tLine T (nI (tTd T)))) 128 (553 + 8 * tTd T + (tLine T (nI (tTd T))).getD ((tLine T (nI (tTd T))).length - r.1 - 1) 0) 0 := fun J => by
      unfold o_Model_back
      rw [e, e22, e14]
      rfl
    have hlt : (tLU T (nI (tTd T))).length - r.1 - 1 < (tLU T (nI (tTd T))).length := by omega
    have k1 := tLU_lt hlt
    have k2 := line_at hv hF hlt
    have k3 : tCd T ((tLU T (nI (tTd T))).getD ((tLU T (nI (tTd T))).length - r.1 - 1) 0) = tTd T := by
      have hm : (tLU T (nI (tTd T))).getD ((tLU T (nI (tTd T))).length - r.1 - 1) 0 ∈ tLU T (nI (tTd T)) := by
        rw [mo_getD hlt]; exact List.getElem_mem hlt
      have := vT_tCd hv k1
      exact (nI_eq (by omega) (by omega)).mp (tLU_mem hm).2
    have hlt2 : (tLine T (nI (tTd T))).getD ((tLine T (nI (tTd T))).length - r.1 - 1) 0 < tMen T := tLine_lt (by omega)
    have hC2 := ct_put (w_gt s) hlw hF (c := (tLU T (nI (tTd T))).getD ((tLU T (nI (tTd T))).length - r.1 - 1) 0) (x := 0) (y := -1) k1 (by omega) (by rw [if_pos rfl]; rfl)
    rw [w_t1, k3, k2, hll] at hC2
    rw [hll] at h1
    refine wPair_D (T := tPut T (tTd T) ((tLine T (nI (tTd T))).getD ((tLine T (nI (tTd T))).length - r.1 - 1) 0) 0) (xs := xs) c1 (C_Model_back l wK (wR s) _ L 126 T (w_md s) ?_) (congrArg Value.int hr) ?_
    · rw [e14, h1, mo_upR (by omega), mo_lwR (by omega)]; exact hI.1.2.1
    · rw [h2, h1]
      refine wInv_same hI (FR.up (by unfold wP eT; cases s <;> rfl) (FR.l1 (by cases s <;> rfl) (fun k => by cases s <;> rfl) (FR.up (by cases s <;> rfl) (FR.up (by cases s <;> rfl) (FR.lw (fun k => by cases s <;> rfl) FR.rf))))) (ct_fr hC2 (fun x hx => ?_)) ?_ (put_f hF (fun z => absurd rfl z) (fun z => absurd rfl z)) (fun _ _ => rfl) rfl rfl ?_ ?_
      · have := w_tA s (wT s) (wT_in s) x hx
        rw [mo_upR (by omega), mo_l1Q (by omega) (by omega), mo_upR (by omega)]
      · rw [up_va, mo_l1Q (by omega) (by omega), mo_upR (by omega), mo_upR (by omega), mo_lwR (by omega)]
        exact now_put (x := 0) hI.1.2.1 htd (by omega) (by omega)
      · rw [mo_upR (by omega), mo_l1Q (by omega) (by omega), mo_upR (by omega), mo_upR (by omega), mo_lwR (by omega)]
      · rw [mo_upR (by omega), mo_l1Q (by omega) (by omega), mo_upR (by omega), mo_upR (by omega), mo_lwR (by omega)]
end F
