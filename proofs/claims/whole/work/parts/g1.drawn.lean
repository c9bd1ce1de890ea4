/-! Drawn: the contracts of both. -/
theorem dRun_same (ms : List Nat) : ∀ (r k : Nat) (s : Int32 × Nat × mo_Tn), (dRun ms r k s).2.2.1 = s.2.2.1 ∧ (dRun ms r k s).2.2.2.1 = s.2.2.2.1 ∧ (dRun ms r k s).2.2.2.2.1 = s.2.2.2.2.1 := by
  intro r
  induction r with
  | zero => intro k s; exact ⟨rfl, rfl, rfl⟩
  | succ r ih =>
    intro k s
    obtain ⟨x, w, T⟩ := s
    cases e : tGave T (tTd T) (ms.getD k 0) with
    | some v => rw [dRun_s e]; exact ih (k + 1) (x, w, T)
    | none =>
      by_cases c : lo_ct (dAv T (ms.getD k 0)) (tNames T) = 0
      · rw [dRun_0 e c]; exact ⟨rfl, rfl, rfl⟩
      · rw [dRun_n e c]
        exact ih (k + 1) (dSd x, w + 1, tPut T (tTd T) (ms.getD k 0) (dNm T (ms.getD k 0) x + 1))
/-- the day drawn to its end -/
def dEnd (T : mo_Tn) (x : Int32) : Int32 × Nat × mo_Tn := dRun (tLine T (nI (tTd T))) (tLine T (nI (tTd T))).length 0 (x, 0, T)
theorem lw_C {K : mo_K} {R : Nat → Nat → Nat} {I : Nat → Nat → Int32} {g t : Nat} {T : mo_Tn} (h : mo_gt K R g t) (hC : mo_ct I R t T) (xs : List Nat) : mo_ct (mo_lw I (R g 8) xs) R t T := ct_fr hC (fun x hx => mo_lwR (gt_out h (j := 22) rfl (by decide) (show (100 : Nat) ≤ 100 by decide) x hx))
theorem C_Gate_drawn (l : Launch) (K : mo_K) (R : Nat → Nat → Nat) (I : Nat → Nat → Int32) (L : Nat → Nat → Int64) (g t : Nat) (T : mo_Tn) (x0 : Int32) (h : mo_gt K R g t) (hC : mo_ct I R t T) (hF : mo_fT T) : mo_C l mm_Gate_drawn 6 0 0 false [.ref g, .int x0] (K, R, I, L, 0) (fun r σ' => ∃ I', σ' = (K, R, I', L, 0) ∧ r = some (.int (nI (dEnd T x0).2.1)) ∧ mo_ct I' R t (dEnd T x0).2.2 ∧ mo_fT (dEnd T x0).2.2 ∧ ∀ q, q ≠ R g 8 → q ≠ R (R t 1) 4 → I' q = I q) := by
  have hv := ct_v hC
  have hlen := line_len hv hF (nI (tTd T))
  have hlm := tLine_len T (nI (tTd T))
  have hb := vT_tMen hv
  have htd := vT_tTd hv
  refine mo_C_of (by decide +kernel) (Nat.le_of_ble_eq_true rfl) (fun z => by cases z) ?_
  refine Q_cdraw_start l K R I L g t T x0 h hC (line_vL hv hF) _ ?_
  refine cdraw_loop l K R L g t (tLU T (nI (tTd T))).length (tLU T (nI (tTd T))) (tLine T (nI (tTd T))) h (by omega) I L _ (tLine T (nI (tTd T))).length 0 x0 0 _ T (by omega) (Nat.le_refl _) (lw_C h hC _) hF (fun j hj => mo_lwA hj) (fun j hj => ?_) (fun I' g1 g2 g3 => ⟨I', rfl, rfl, g1, g2, fun q q1 q2 => ?_⟩)
  · have c1 := tLU_lt hj
    refine ⟨c1, ?_, line_at hv hF hj⟩
    have hm : (tLU T (nI (tTd T))).getD j 0 ∈ tLU T (nI (tTd T)) := by
      rw [mo_getD hj]
      exact List.getElem_mem hj
    have c2 := (tLU_mem hm).2
    have c3 := vT_tCd hv c1
    exact (nI_eq (by omega) (by omega)).mp c2
  · rw [g3 q q2, mo_lwR q1]
theorem C_Model_drawn (l : Launch) (K : mo_K) (R : Nat → Nat → Nat) (I : Nat → Nat → Int32) (L : Nat → Nat → Int64) (a : Nat) (T : mo_Tn) (x0 : Int32) (h : mo_md K R a) (hN : mo_now (I (R a 14)) T) : mo_C l mm_Model_drawn 4 0 0 false [.ref a, .int x0] (K, R, I, L, 0) (fun r σ' => ∃ I', σ' = (K, R, I', L, 0) ∧ r = some (.int (nI (dEnd T x0).2.1)) ∧ mo_now (I' (R a 14)) (dEnd T x0).2.2 ∧ (∀ q, q ≠ a → q ≠ R a 14 → q ≠ R a 22 → I' q = I q) ∧ ∀ f, f ≠ 0 → f ≠ 23 → f ≠ 41 → I' a f = I a f) := by
  have hv := now_v hN
  have hlm := tLine_len T (nI (tTd T))
  have hb := vT_tMen hv
  have n14 : R a 14 ≠ a := mo_nekd (mo_mk14 h) h.1 (by decide)
  have n22 : R a 22 ≠ a := mo_nekd (mo_mk22 h) h.1 (by decide)
  have n12 : R a 14 ≠ R a 22 := h.2.2 (14, 100, 842) (by decide) (22, 100, 8) (by decide) (by decide)
  refine mo_C_of (by decide +kernel) (Nat.le_of_ble_eq_true rfl) (fun z => by cases z) ?_
  refine Q_mdraw_start l K R I L a T x0 h hN _ ?_
  refine mdraw_loop l K R L a (tLine T (nI (tTd T))).length (tLine T (nI (tTd T))) h (by omega) I L _ (tLine T (nI (tTd T))).length 0 x0 0 _ T (by omega) (Nat.le_refl _) ?_ (mo_l1C _ _ _ _ _) ?_ (fun j hj => ⟨mo_l1A n22 hj, tLine_lt hj⟩) (fun I' g1 g2 g3 => ⟨I', rfl, rfl, g1, fun q q1 q2 q3 => ?_, fun f f0 f1 f2 => ?_⟩)
  · rw [mo_l1Q n12 n14, mo_upR n14, mo_upR n14]
    exact hN
  · rw [mo_l1F n22.symm (by decide), mo_upA]
  · rw [g2 q q1 q2, mo_l1Q q3 q1, mo_upR q1, mo_upR q1]
  · rw [g3 f f2, mo_l1F n22.symm f1, mo_upK _ _ _ f2, mo_upK _ _ _ f0]
