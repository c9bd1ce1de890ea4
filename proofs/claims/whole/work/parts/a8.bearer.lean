/-! bearer: the class's answers are the reference's. -/
theorem gv_v {T : mo_Tn} (hv : mo_vT T) {d m v : Nat} (hd : d < 30) (hm : m < 8) (hx : v < 12) : (nI (tGv T d m) - 1 = nI v) ↔ tGave T d m = some v := by
  have hN := vT_tNames hv
  cases e : tGave T d m with
  | none =>
    rw [tGave_N e]
    exact ⟨fun z => absurd z.symm (mo_nIm rfl (by omega)), fun z => by cases z⟩
  | some w =>
    have hw := tGave_lt hv hd hm e
    rw [tGave_S e]
    exact ⟨fun z => congrArg some ((nI_eq (by omega) (by omega)).mp z), fun z => by rw [Option.some.inj z]⟩
theorem gave_gv {T : mo_Tn} {d m v : Nat} (e : tGave T d m = some v) : tGv T d m = v + 1 := by
  unfold tGave at e
  by_cases c : tGv T d m = 0
  · rw [if_pos c] at e; cases e
  · rw [if_neg c] at e
    have := Option.some.inj e
    omega
theorem ff_none {p : Nat → Bool} {n c : Nat} (e : mo_ff p n = none) (hc : c < n) : p c = false := by
  have := List.find?_eq_none.mp e c (List.mem_range.mpr hc)
  exact Bool.eq_false_iff.mpr this
/-- who bears a name on a day, both ways -/
theorem bear_r {T : mo_Tn} (hv : mo_vT T) (hF : mo_fT T) {v d : Nat} (hx : v < tNames T) (hd : d < 30) : (tGr T (nI v) (nI d)).map (tCm T) = tBr T (nI v) d := by
  have hM := vT_tMen hv
  have hN := vT_tNames hv
  cases e : tGr T (nI v) (nI d) with
  | none =>
    cases e2 : tBr T (nI v) d with
    | none => rfl
    | some m =>
      exfalso
      have hm := mo_ff_lt e2
      have hg := (gv_v hv hd (by omega) (by omega)).mp (of_decide_eq_true hm.2.1)
      have hgv := gave_gv hg
      obtain ⟨_, c, hc⟩ := hF.2.1 d m hd (by omega) (by omega)
      have hcl := tF_lt hc
      have e3 := ff_none e hcl.1
      have hcm := (nI_eq (by have := vT_tCm hv hcl.1; omega) (by omega)).mp hcl.2.1
      have hcd := (nI_eq (by have := vT_tCd hv hcl.1; omega) (by omega)).mp hcl.2.2
      have : tGc T c = some v := by unfold tGc; rw [hcm, hcd]; exact hg
      exact absurd (decide_eq_true (show mo_oi (tGc T c) = nI v ∧ nI (tCd T c) = nI d from ⟨mo_oiS this, hcl.2.2⟩)) (by rw [e3]; decide)
  | some c =>
    have hc := mo_ff_lt e
    have hp := of_decide_eq_true hc.2.1
    have hcm := vT_tCm hv hc.1
    have hcd := (nI_eq (by have := vT_tCd hv hc.1; omega) (by omega)).mp hp.2
    have hg : tGave T d (tCm T c) = some v := by
      cases eg : tGc T c with
      | none => rw [mo_oiN eg] at hp; exact absurd hp.1.symm (mo_nIm rfl (by omega))
      | some w =>
        rw [mo_oiS eg] at hp
        have hw := tGc_lt hv hc.1 eg
        have : w = v := (nI_eq (by omega) (by omega)).mp hp.1
        unfold tGc at eg
        rw [hcd] at eg
        rw [eg, this]
    have hgv := gave_gv hg
    show some (tCm T c) = _
    refine (mo_ff_some hcm (decide_eq_true ((gv_v hv hd (by omega) (by omega)).mpr hg)) (fun j hj => decide_eq_false (fun z => ?_))).symm
    have hj2 := gave_gv ((gv_v hv hd (by omega) (by omega)).mp z)
    have := hF.2.2.1 d j (tCm T c) hd (by omega) (by omega) (by omega) (by omega)
    omega
theorem bearer_r {I : Nat → Nat → Int32} {a : Nat} {T : mo_Tn} {p dd : Int32} (hv : mo_vT T) (hF : mo_fT T) : o_Gate_bearer T p dd = (o_Model_bearer I a T p dd).1 := by
  have hM := vT_tMen hv
  have hN := vT_tNames hv
  have hD := vT_tTd hv
  unfold o_Gate_bearer o_Model_bearer
  cases e1 : tB p (tNames T) with
  | none => rfl
  | some v =>
    have b1 := tB_v (by omega) e1
    show (Option.elim (tGr T (nI v) dd) (-1 : Int32) (fun v4 => nI (tCm T v4))) = (Option.elim (tB dd (tTd T + 1)) _ _ : Int32 × (Nat → Nat → Int32)).1
    cases e2 : tB dd (tTd T + 1) with
    | none =>
      cases e3 : tGr T (nI v) dd with
      | none => rfl
      | some c =>
        exfalso
        have hc := mo_ff_lt e3
        have hp := of_decide_eq_true hc.2.1
        have hd := vT_tCd hv hc.1
        have hcm := vT_tCm hv hc.1
        have hz : tGv T (tCd T c) (tCm T c) ≠ 0 := fun z => by
          have : tGc T c = none := by unfold tGc tGave; rw [if_pos z]
          rw [mo_oiN this] at hp
          exact absurd hp.1.symm (mo_nIm rfl (by omega))
        have ht := (hF.2.1 _ _ hd (by omega) hz).1
        rw [← hp.2, tB_of (by omega) (by omega)] at e2
        cases e2
    | some d =>
      have b2 := tB_v (by omega) e2
      have k := bear_r hv hF b1.1 (d := d) (by omega)
      rw [b2.2]
      show _ = (Option.elim (tBr T (nI v) d) _ _ : Int32 × (Nat → Nat → Int32)).1
      rw [← k]
      cases tGr T (nI v) (nI d) with
      | none => rfl
      | some c => rfl
