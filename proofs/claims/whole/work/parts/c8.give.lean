/-! count, back, give: the class's answers are the reference's. -/
theorem gs_len {T : mo_Tn} (hv : mo_vT T) (hF : mo_fT T) : mo_pc (tGs T (nI (tTd T))) = (tGS T).length := by
  have hN := vT_tNames hv
  have hD := vT_tTd hv
  rw [given_len hv hF, pc_ct, lo_ct_more hN (fun j h1 _ => Bool.eq_false_iff.mpr (fun z => by
    obtain ⟨c, hc, _, h2⟩ := (gs_bit (tComs T)).mp z
    have := tGc_lt hv hc h2
    omega))]
  unfold tNS tGN
  rw [← lo_ct_len]
  refine lo_ct_congr (fun k hk => ?_)
  apply Bool.eq_iff_iff.mpr
  rw [gr_bit hv hk, ← bear_r hv hF hk hD]
  cases tGr T (nI k) (nI (tTd T)) <;> rfl
theorem count_7 {T : mo_Tn} (hv : mo_vT T) (hF : mo_fT T) : nI (mo_pc (tGs T (nI (tTd T)))) = w_Model_count_117 T := by
  have hM := vT_tMen hv
  rw [gs_len hv hF]
  unfold w_Model_count_117 tGS tGM
  have key := mo_it_inv (f := b_Model_count_117 T) (fun i s => s = nI ((List.range i).filter (fun m => (tGave T (tTd T) m).isSome)).length) (k := tMen T) (i := 0) (s := 0) rfl (fun i s _ hi hs => by
    unfold b_Model_count_117
    rw [mo_rf_S]
    cases e : tGave T (tTd T) i with
    | none =>
      rw [tGave_N e, if_pos rfl, if_neg (by decide), List.append_nil]
      exact hs
    | some v =>
      have := tGave_lt hv (vT_tTd hv) (by omega) e
      have hN := vT_tNames hv
      rw [tGave_S e, if_neg (mo_nIm rfl (by omega)), if_pos (show (some v).isSome = true from rfl), List.length_append, hs]
      exact (nI_succ _).symm)
  rw [Nat.zero_add] at key
  exact key.symm
theorem lu_td {T : mo_Tn} (hv : mo_vT T) {d k : Nat} (hd : d < 30) (hk : k < (tLU T (nI d)).length) : tCd T ((tLU T (nI d)).getD k 0) = d := by
  have h := tLU_mem (by rw [mo_getD hk]; exact List.getElem_mem hk : (tLU T (nI d)).getD k 0 ∈ tLU T (nI d))
  have := vT_tCd hv h.1
  exact (nI_eq (by omega) (by omega)).mp h.2
theorem lu_gave {T : mo_Tn} (hv : mo_vT T) (hF : mo_fT T) {d k : Nat} (hd : d < 30) (hk : k < (tLU T (nI d)).length) : tGc T ((tLU T (nI d)).getD k 0) = tGave T d ((tLine T (nI d)).getD k 0) := by
  unfold tGc
  rw [lu_td hv hd hk, line_at hv hF hk]
theorem back_in {T : mo_Tn} (hv : mo_vT T) (hF : mo_fT T) : w_Gate_back_26 T = w_Model_back_20 T := by
  have hD := vT_tTd hv
  have hM := vT_tMen hv
  have hN := vT_tNames hv
  unfold w_Gate_back_26 w_Model_back_20
  rw [← line_len hv hF]
  refine mo_lp_congr (fun i _ hi s => ?_)
  unfold b_Gate_back_26 b_Model_back_20
  rw [lu_gave hv hF hD (by omega), ← line_len hv hF]
  have hm : (tLine T (nI (tTd T))).getD ((tLU T (nI (tTd T))).length - i - 1) 0 < tMen T := tLine_lt (by rw [← line_len hv hF]; omega)
  cases e : tGave T (tTd T) ((tLine T (nI (tTd T))).getD ((tLU T (nI (tTd T))).length - i - 1) 0) with
  | none => rw [tGave_N e, if_pos rfl]; rfl
  | some v =>
    have := tGave_lt hv hD (by omega) e
    rw [tGave_S e, if_neg (mo_nIm rfl (by omega))]
    rfl
theorem back_r {R R' : Nat → Nat → Nat} {I I' : Nat → Nat → Int32} {g t a : Nat} {T : mo_Tn} (hv : mo_vT T) (hF : mo_fT T) : (o_Gate_back R I g t T).1 = (o_Model_back R' I' a T).1 := by
  unfold o_Gate_back o_Model_back
  rw [back_in hv hF]
  cases w_Model_back_20 T with
  | inl z =>
    show (if tTd T = 0 then ((-1 : Int32), _) else (1, _)).1 = (if tTd T = 0 then ((-1 : Int32), _) else (1, _)).1
    by_cases c : tTd T = 0
    · rw [if_pos c, if_pos c]
    · rw [if_neg c, if_neg c]
  | inr r => rfl
/-- where a coming stands in the line -/
theorem lu_ahead {T : mo_Tn} (hv : mo_vT T) (hF : mo_fT T) {d : Int32} {i j : Nat} (hi : i < (tLU T d).length) (hj : j < (tLU T d).length) : tAh T ((tLU T d).getD i 0) ((tLU T d).getD j 0) = true ↔ i < j := by
  have hd : ∀ c c', c < tComs T → c' < tComs T → nI (tCd T c) = d → nI (tCd T c') = d → tCd T c = tCd T c' := fun c c' h1 h2 e1 e2 => by
    have := vT_tCd hv h1
    have := vT_tCd hv h2
    exact (nI_eq (by omega) (by omega)).mp (e1.trans e2.symm)
  have hp : (tLU T d).Pairwise (fun a b => tAh T a b = true) := by
    unfold tLU
    rw [List.pairwise_reverse]
    exact ln_pw hF hd (tComs T) (Nat.le_refl _)
  have hlt : ∀ i j (hi : i < (tLU T d).length) (hj : j < (tLU T d).length), i < j → tAh T ((tLU T d).getD i 0) ((tLU T d).getD j 0) = true := fun i j hi hj h => by
    rw [mo_getD hi, mo_getD hj]
    exact List.pairwise_iff_getElem.mp hp i j hi hj h
  constructor
  · intro h
    apply Classical.byContradiction
    intro z
    rw [tAh_iff] at h
    by_cases e : i = j
    · rw [e] at h; omega
    · have := hlt j i hj hi (by omega)
      rw [tAh_iff] at this
      omega
  · exact hlt i j hi hj
theorem give_loop {T : mo_Tn} (hv : mo_vT T) (hF : mo_fT T) {m c : Nat} (hm : m < tMen T) (hc : tF T (nI m) (nI (tTd T)) = some c) : (tWt T c = true ∧ w_Model_give_89 T m = .inr (.inr 5)) ∨ (tWt T c = false ∧ w_Model_give_89 T m = .inr (.inl ())) := by
  have hD := vT_tTd hv
  have hM := vT_tMen hv
  have hN := vT_tNames hv
  have hc1 := tF_lt hc
  have hcm := vT_tCm hv hc1.1
  have hcd := vT_tCd hv hc1.1
  have em : tCm T c = m := (nI_eq (by omega) (by omega)).mp hc1.2.1
  have ed : tCd T c = tTd T := (nI_eq (by omega) (by omega)).mp hc1.2.2
  obtain ⟨k0, hk0, e0⟩ := lu_mem hc1.1 hc1.2.2
  have hlen := line_len hv hF (nI (tTd T))
  have el : (tLine T (nI (tTd T))).getD k0 0 = m := by rw [← line_at hv hF hk0, e0, em]
  have hnd := (tLine_LC T (nI (tTd T))).1
  have huniq : ∀ k, k < (tLine T (nI (tTd T))).length → (tLine T (nI (tTd T))).getD k 0 = m → k = k0 := fun k hk e => by
    have hk0' : k0 < (tLine T (nI (tTd T))).length := by omega
    rw [mo_getD hk] at e
    rw [mo_getD hk0'] at el
    exact (List.getElem_inj hnd).mp (e.trans el.symm)
  have hwt : tWt T c = true ↔ ∃ k, k < k0 ∧ tGave T (tTd T) ((tLine T (nI (tTd T))).getD k 0) = none := by
    unfold tWt
    constructor
    · intro h
      cases e : mo_ff (fun o => decide (tCd T o = tCd T c ∧ tGc T o = none ∧ tAh T o c = true)) (tComs T) with
      | none => rw [e] at h; cases h
      | some o =>
        have ho := mo_ff_lt e
        have hq := of_decide_eq_true ho.2.1
        obtain ⟨k, hk, ek⟩ := lu_mem (d := nI (tTd T)) ho.1 (by rw [hq.1, ed])
        refine ⟨k, ?_, ?_⟩
        · have := hq.2.2
          rw [← ek, ← e0] at this
          exact (lu_ahead hv hF hk hk0).mp this
        · rw [← lu_gave hv hF hD hk, ek]; exact hq.2.1
    · rintro ⟨k, hk, e⟩
      have hk2 : k < (tLU T (nI (tTd T))).length := by omega
      cases ef : mo_ff (fun o => decide (tCd T o = tCd T c ∧ tGc T o = none ∧ tAh T o c = true)) (tComs T) with
      | some o => rfl
      | none =>
        exfalso
        have := ff_none ef (tLU_lt hk2)
        rw [decide_eq_true ⟨by rw [lu_td hv hD hk2, ed], by rw [lu_gave hv hF hD hk2]; exact e, by
          have := (lu_ahead hv hF hk2 hk0).mpr hk
          rw [e0] at this
          exact this⟩] at this
        cases this
  have hmen : ∀ k, k < (tLine T (nI (tTd T))).length → (tLine T (nI (tTd T))).getD k 0 < tMen T := fun k hk => tLine_lt hk
  have step : ∀ n i, i + n = k0 → (∀ k, k < i → tGave T (tTd T) ((tLine T (nI (tTd T))).getD k 0) ≠ none) → ∀ r, ((∃ k, k < k0 ∧ tGave T (tTd T) ((tLine T (nI (tTd T))).getD k 0) = none) ∧ mo_lp (b_Model_give_89 T m) (n + (r + 1)) i () = .inr (.inr 5)) ∨ ((¬ ∃ k, k < k0 ∧ tGave T (tTd T) ((tLine T (nI (tTd T))).getD k 0) = none) ∧ mo_lp (b_Model_give_89 T m) (n + (r + 1)) i () = .inr (.inl ())) := fun n => by
    induction n with
    | zero =>
      intro i hi h r
      have : i = k0 := by omega
      subst this
      refine Or.inr ⟨fun ⟨k, hk, e⟩ => h k hk e, ?_⟩
      rw [Nat.zero_add]
      exact mo_lp_inrS (by unfold b_Model_give_89; rw [if_pos el])
    | succ n ih =>
      intro i hi h r
      have hne : ¬ (tLine T (nI (tTd T))).getD i 0 = m := fun z => by have := huniq i (by omega) z; omega
      rw [show n + 1 + (r + 1) = (n + (r + 1)) + 1 by omega]
      cases e : tGave T (tTd T) ((tLine T (nI (tTd T))).getD i 0) with
      | none => exact Or.inl ⟨⟨i, by omega, e⟩, mo_lp_inrS (by unfold b_Model_give_89; rw [if_neg hne, tGave_N e, if_pos rfl])⟩
      | some v =>
        have := tGave_lt hv hD (by have := hmen i (by omega); omega) e
        rw [mo_lp_inlS (s' := ()) (by unfold b_Model_give_89; rw [if_neg hne, tGave_S e, if_neg (mo_nIm rfl (by omega))])]
        exact ih (i + 1) (by omega) (fun k hk => by
          by_cases e2 : k = i
          · rw [e2, e]; exact fun z => by cases z
          · exact h k (by omega)) r
  have hfin := step k0 0 (by omega) (fun k hk => absurd hk (Nat.not_lt_zero k)) ((tLine T (nI (tTd T))).length - k0 - 1)
  rw [show k0 + ((tLine T (nI (tTd T))).length - k0 - 1 + 1) = (tLine T (nI (tTd T))).length by omega] at hfin
  rcases hfin with ⟨h1, h2⟩ | ⟨h1, h2⟩
  · exact Or.inl ⟨hwt.mpr h1, h2⟩
  · exact Or.inr ⟨Bool.eq_false_iff.mpr (fun z => h1 (hwt.mp z)), h2⟩
theorem gc_gave {T : mo_Tn} (hv : mo_vT T) {m d c : Nat} (hm : m < tMen T) (hd : d < 30) (hc : tF T (nI m) (nI d) = some c) : tGc T c = tGave T d m := by
  have hM := vT_tMen hv
  have h := tF_lt hc
  have h1 := vT_tCm hv h.1
  have h2 := vT_tCd hv h.1
  unfold tGc
  rw [(nI_eq (by omega) (by omega)).mp h.2.1, (nI_eq (by omega) (by omega)).mp h.2.2]
theorem give_r {R R' : Nat → Nat → Nat} {I I' : Nat → Nat → Int32} {t a : Nat} {T : mo_Tn} {p q : Int32} (hv : mo_vT T) (hF : mo_fT T) : (o_Gate_give R I t T p q).1 = (o_Model_give R' I' a T p q).1 := by
  have hD := vT_tTd hv
  have hM := vT_tMen hv
  have hN := vT_tNames hv
  unfold o_Gate_give o_Model_give
  cases e1 : tB p (tMen T) with
  | none => rfl
  | some m =>
    cases e2 : tB q (tNames T) with
    | none => rfl
    | some v =>
      have b1 := tB_v (by omega) e1
      have b2 := tB_v (by omega) e2
      show (Option.elim (tF T (nI m) (nI (tTd T))) _ _ : Int32 × (Nat → Nat → Int32)).1 = (Option.elim (tF T (nI m) (nI (tTd T))) _ _ : Int32 × (Nat → Nat → Int32)).1
      cases e3 : tF T (nI m) (nI (tTd T)) with
      | none => rfl
      | some c =>
        show (Option.elim (tGc T c) (if tOwn T m = v then ((3 : Int32), I) else Option.elim (tGr T (nI v) (nI (tTd T))) (if tWt T c = true then (5, I) else (0, _)) (fun _ => (4, I))) (fun _ => (2, I))).1 = (if nI (tGv T (tTd T) m) - 1 = -1 then (if tOwn T m = v then ((3 : Int32), mo_up I' a 0 0) else Option.elim (tBr T (nI v) (tTd T)) (Sum.elim _ (Sum.elim _ _) (w_Model_give_89 T m)) (fun _ => (4, mo_up I' a 0 0))) else (2, mo_up I' a 0 0)).1
        rw [gc_gave hv b1.1 hD e3]
        cases e4 : tGave T (tTd T) m with
        | some w =>
          have := tGave_lt hv hD (by omega) e4
          rw [tGave_S e4, if_neg (mo_nIm rfl (by omega))]
          rfl
        | none =>
          rw [tGave_N e4, if_pos rfl]
          show (if tOwn T m = v then ((3 : Int32), I) else _).1 = _
          by_cases c1 : tOwn T m = v
          · rw [if_pos c1, if_pos c1]
          · rw [if_neg c1, if_neg c1]
            rcases gr_br hv hF b2.1 hD with ⟨g1, g2⟩ | ⟨c', _, g1, g2⟩
            · rw [g1, g2]
              show (if tWt T c = true then ((5 : Int32), I) else (0, _)).1 = (Sum.elim _ (Sum.elim _ _) (w_Model_give_89 T m) : Int32 × (Nat → Nat → Int32)).1
              rcases give_loop hv hF b1.1 e3 with ⟨h1, h2⟩ | ⟨h1, h2⟩
              · rw [h1, h2]; rfl
              · rw [h1, h2]; rfl
            · rw [g1, g2]; rfl
