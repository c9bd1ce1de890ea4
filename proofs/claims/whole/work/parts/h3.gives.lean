/-! Names given and taken back: both change alike. -/
theorem give_two {R R' : Nat → Nat → Nat} {I I' : Nat → Nat → Int32} {t a : Nat} {T : mo_Tn} {p q : Int32} (hv : mo_vT T) (hF : mo_fT T) : ((o_Gate_give R I t T p q).2 = I ∧ ((o_Model_give R' I' a T p q).2 = mo_up I' a 0 0 ∨ (o_Model_give R' I' a T p q).2 = mo_l1 (mo_up I' a 0 0) a 23 (R' a 22) (tLine T (nI (tTd T))))) ∨ ∃ m v c, m < tMen T ∧ v < tNames T ∧ tF T (nI m) (nI (tTd T)) = some c ∧ tBr T (nI v) (tTd T) = none ∧ (o_Gate_give R I t T p q).2 = mo_up I (R (R t 1) 4) c (nI v) ∧ (o_Model_give R' I' a T p q).2 = mo_up (mo_l1 (mo_up I' a 0 0) a 23 (R' a 22) (tLine T (nI (tTd T)))) (R' a 14) ((553 + (8 * (tTd T))) + m) (nI (v + 1)) := by
  have hD := vT_tTd hv
  have hM := vT_tMen hv
  have hN := vT_tNames hv
  unfold o_Gate_give o_Model_give
  cases e1 : tB p (tMen T) with
  | none => exact Or.inl ⟨rfl, Or.inl rfl⟩
  | some m =>
    cases e2 : tB q (tNames T) with
    | none => exact Or.inl ⟨rfl, Or.inl rfl⟩
    | some v =>
      have b1 := tB_v (by omega) e1
      have b2 := tB_v (by omega) e2
      dsimp only [Option.elim_some]
      cases e3 : tF T (nI m) (nI (tTd T)) with
      | none => exact Or.inl ⟨rfl, Or.inl rfl⟩
      | some c =>
        dsimp only [Option.elim_some]
        rw [gc_gave hv b1.1 hD e3]
        cases e4 : tGave T (tTd T) m with
        | some w =>
          have := tGave_lt hv hD (by omega) e4
          rw [tGave_S e4, if_neg (mo_nIm rfl (by omega))]
          exact Or.inl ⟨rfl, Or.inl rfl⟩
        | none =>
          rw [tGave_N e4, if_pos rfl]
          dsimp only [Option.elim_none]
          by_cases c1 : tOwn T m = v
          · rw [if_pos c1, if_pos c1]; exact Or.inl ⟨rfl, Or.inl rfl⟩
          · rw [if_neg c1, if_neg c1]
            rcases gr_br hv hF b2.1 hD with ⟨g1, g2⟩ | ⟨c', _, g1, g2⟩
            · rw [g1, g2]
              dsimp only [Option.elim_none]
              rcases give_loop hv hF b1.1 e3 with ⟨h1, h2⟩ | ⟨h1, h2⟩
              · rw [h1, h2]; exact Or.inl ⟨rfl, Or.inr rfl⟩
              · rw [h1, h2]
                exact Or.inr ⟨m, v, c, b1.1, b2.1, e3, g2, rfl, rfl⟩
            · rw [g1, g2]; exact Or.inl ⟨rfl, Or.inl rfl⟩
theorem br_free {T : mo_Tn} (hv : mo_vT T) (hF : mo_fT T) {v d m : Nat} (hd : d < 30) (hm : m < 8) (hvn : v < tNames T) (e : tBr T (nI v) d = none) : tGv T d m ≠ v + 1 := fun z => by
  obtain ⟨_, c, hc⟩ := hF.2.1 d m hd hm (by omega)
  have hM := vT_tMen hv
  have hN := vT_tNames hv
  have h1 := tF_lt hc
  have h2 := vT_tCm hv h1.1
  have h3 := (nI_eq (by omega) (by omega)).mp h1.2.1
  have h4 := ff_none e (show m < tMen T by omega)
  have h5 := of_decide_eq_false h4
  rw [z] at h5
  exact h5 (by rw [show nI (v + 1) = nI v + 1 from (nI_add v 1).symm ▸ rfl]; exact Int32.add_sub_cancel _ _)
section F
variable {s : Bool} {I J : Nat → Nat → Int32} {L M : Nat → Nat → Int64} {T T' : mo_Tn} {xs xs' : List Nat}
theorem P_give (l : Launch) (hI : wInv s I L T xs) (p q : Int32) : wPair l mm_Gate_give 2 [.ref 1, .int p, .int q] mm_Model_give 3 [.ref 126, .int p, .int q] s I L := by
  have e14 : wR s 126 14 = 128 := w_V s (126, 14, 128) (by decide)
  have e22 : wR s 126 22 = 136 := w_V s (126, 22, 136) (by decide)
  have hb := wT_b s
  have hv := wv hI
  have hF := wF hI
  have htd := vT_tTd hv
  have hM := vT_tMen hv
  rcases give_two (R := wR s) (R' := wR s) (I := I) (I' := (o_Gate_give (wR s) I (wT s) T p q).2) (t := wT s) (a := 126) (p := p) (q := q) hv hF with ⟨h1, h2⟩ | ⟨m, v, c, hm, hvn, hc, hbr, h1, h2⟩
  · have hI1 : wInv s (o_Gate_give (wR s) I (wT s) T p q).2 L T xs := by rw [h1]; exact hI
    refine wPair_D (T := T) (xs := xs) (C_Gate_give l wK (wR s) I L 1 (wT s) T p q (w_gt s) (wC hI)) (C_Model_give l wK (wR s) _ L 126 T p q (w_md s) (wN hI1)) (congrArg Value.int (give_r hv hF)) ?_
    rcases h2 with h2 | h2
    · rw [h2]; exact wInv_fr hI1 (FR.up (by cases s <;> rfl) FR.rf) FL.rf
    · rw [h2]; exact wInv_fr hI1 (FR.l1 (by cases s <;> rfl) (sc_r22 s) (FR.up (by cases s <;> rfl) FR.rf)) FL.rf
  · rw [w_t1] at h1
    rw [e14, e22] at h2
    have cl := tF_lt hc
    have b1 := vT_tCm hv cl.1
    have b2 := vT_tCd hv cl.1
    have c1 : tCm T c = m := (nI_eq (by omega) (by omega)).mp cl.2.1
    have c2 : tCd T c = tTd T := (nI_eq (by omega) (by omega)).mp cl.2.2
    have hC2 := ct_put (w_gt s) (wC hI) hF (c := c) (x := v + 1) (y := nI v) cl.1 (by omega) (by rw [if_neg (by omega)]; rfl)
    rw [w_t1, c1, c2] at hC2
    refine wPair_D (T := tPut T (tTd T) m (v + 1)) (xs := xs) (C_Gate_give l wK (wR s) I L 1 (wT s) T p q (w_gt s) (wC hI)) (C_Model_give l wK (wR s) _ L 126 T p q (w_md s) ?_) (congrArg Value.int (give_r hv hF)) ?_
    · rw [e14, h1, mo_upR (by omega)]; exact hI.1.2.1
    · rw [h2, h1]
      refine wInv_same hI (FR.up (by unfold wP eT; cases s <;> rfl) (FR.l1 (by cases s <;> rfl) (fun k => by cases s <;> rfl) (FR.up (by cases s <;> rfl) (FR.up (by cases s <;> rfl) FR.rf)))) (ct_fr hC2 (fun x hx => ?_)) ?_ (put_f hF (fun _ => ⟨Nat.le_refl _, c, hc⟩) (fun _ m' hm' _ => br_free hv hF htd hm' hvn hbr)) (fun _ _ => rfl) rfl rfl ?_ ?_
      · have := w_tA s (wT s) (wT_in s) x hx
        rw [mo_upR (by omega), mo_l1Q (by omega) (by omega), mo_upR (by omega)]
      · rw [up_va, mo_l1Q (by omega) (by omega), mo_upR (by omega), mo_upR (by omega)]
        exact now_put hI.1.2.1 htd (by omega) (by omega)
      · rw [mo_upR (by omega), mo_l1Q (by omega) (by omega), mo_upR (by omega), mo_upR (by omega)]
      · rw [mo_upR (by omega), mo_l1Q (by omega) (by omega), mo_upR (by omega), mo_upR (by omega)]
end F
