/-! Given names and their givers are the same for both, and who may have which. -/
theorem op4_r {T : mo_Tn} (hv : mo_vT T) (hF : mo_fT T) : w_Guess_open_4 T = ((tNS T).length, tNS T) := by
  have hM := vT_tMen hv
  have hD := vT_tTd hv
  unfold w_Guess_open_4
  have key := mo_it_inv (f := b_Guess_open_4 T) (fun i s => i ≤ tNames T ∧ s = ((tGN T i).length, tGN T i)) (k := tNames T) (i := 0) (s := (0, [])) ⟨Nat.zero_le _, rfl⟩ (fun i s _ hi hP => by
    have hi' : i < tNames T := by omega
    refine ⟨by omega, ?_⟩
    rw [hP.2]
    unfold b_Guess_open_4
    rcases gr_br hv hF hi' hD with ⟨e1, f1⟩ | ⟨c, _, e1, f1⟩
    · rw [e1, ← tGN_skip rfl f1]
      show (if 8 ≤ _ then _ else _) = _
      split <;> rfl
    · have hp := tGN_push hv hi' rfl f1
      rw [e1, ← hp.1, if_neg (by show ¬ 8 ≤ (tGN T i).length; omega), List.length_append]
      rfl)
  rw [Nat.zero_add] at key
  exact key.2
theorem op58_r {T : mo_Tn} (hv : mo_vT T) (hF : mo_fT T) : w_Guess_open_58 T = ((tGS T).length, tGS T) := by
  have hD := vT_tTd hv
  unfold w_Guess_open_58
  have key := mo_it_inv (f := b_Guess_open_58 T) (fun i s => i ≤ tMen T ∧ s = ((tGM T i).length, tGM T i)) (k := tMen T) (i := 0) (s := (0, [])) ⟨Nat.zero_le _, rfl⟩ (fun i s _ hi hP => by
    have hi' : i < tMen T := by omega
    refine ⟨by omega, ?_⟩
    rw [hP.2]
    unfold b_Guess_open_58
    rw [gb_gave hv hF hi' hD]
    cases e : tGave T (tTd T) i with
    | none => rw [← tGM_skip rfl e]; rfl
    | some v =>
      rw [← tGM_push rfl e, List.length_append]
      rfl)
  rw [Nat.zero_add] at key
  exact key.2
theorem given_len {T : mo_Tn} (hv : mo_vT T) (hF : mo_fT T) : (tGS T).length = (tNS T).length := by
  have hM := vT_tMen hv
  have hD := vT_tTd hv
  have hN := vT_tNames hv
  refine Nat.le_antisymm ?_ (tNS_le hv)
  rw [← List.length_map (f := fun m => tGv T (tTd T) m - 1)]
  refine mo_php2 _ _ ?_ (fun y hy => ?_)
  · rw [List.Nodup, List.pairwise_map]
    refine List.Pairwise.imp_of_mem (fun {a b} ha hb hab z => hab ?_) (List.Pairwise.filter _ (List.nodup_range (n := tMen T)))
    obtain ⟨h1, v, e1⟩ := tGM_mem ha
    obtain ⟨h2, w, e2⟩ := tGM_mem hb
    have g1 := gave_gv e1
    have g2 := gave_gv e2
    exact hF.2.2.1 (tTd T) a b hD (by omega) (by omega) (by omega) (by omega)
  · obtain ⟨m, hm, e⟩ := List.mem_map.mp hy
    obtain ⟨h1, v, e1⟩ := tGM_mem hm
    have g1 := gave_gv e1
    have hv2 := tGave_lt hv hD (by omega) e1
    have ey : y = v := by rw [← e]; show tGv T (tTd T) m - 1 = v; omega
    rw [ey]
    refine List.mem_filter.mpr ⟨List.mem_range.mpr hv2, ?_⟩
    rw [(br_iff hv hF h1 hv2 hD).mpr (tGave_S e1)]
    rfl
theorem tGz_r {T : mo_Tn} (hv : mo_vT T) (hF : mo_fT T) : tGz T = (tNS T).length := by
  unfold tGz
  rw [op4_r hv hF, op58_r hv hF]
  show min (tNS T).length (tGS T).length = _
  rw [given_len hv hF, Nat.min_self]
/-- what is seen is told of sets of men -/
def mo_sT (T : mo_Tn) : Prop := ∀ k, k < tSts T → ∃ z, z < 256 ∧ tSs T k = nI z
theorem sm_all : (List.range 8).all (fun k => (List.range 256).all (fun z => decide ((mo_inB (nI k) (nI z) = 0) ↔ ¬ mo_has (nI z) (nI k) = 1) && decide ((mo_inB (nI k) (nI z ^^^ (-1)) = 0) ↔ ¬ mo_has (nI z) (nI k) = 0))) = true := by decide +kernel
theorem sm_r {T : mo_Tn} (hS : mo_sT T) {s x : Nat} (hs : s < tSts T) (hx : x < 8) : (mo_inB (nI x) (tSm T s) = 0) ↔ (if tSi T s = 1 then ¬ mo_has (tSs T s) (nI x) = 1 else ¬ mo_has (tSs T s) (nI x) = 0) := by
  obtain ⟨z, hz, e⟩ := hS s hs
  have k := List.all_eq_true.mp (List.all_eq_true.mp sm_all x (List.mem_range.mpr hx)) z (List.mem_range.mpr hz)
  rw [Bool.and_eq_true] at k
  unfold tSm
  rw [e]
  by_cases c : tSi T s = 1
  · rw [if_pos c, if_pos c]; exact of_decide_eq_true k.1
  · rw [if_neg c, if_neg c]; exact of_decide_eq_true k.2
theorem allow_c {T : mo_Tn} {y x : Nat} : (o_callow T y x = 0 ∧ ∃ s, s < tSts T ∧ tSn T s = y ∧ mo_inB (nI x) (tSm T s) = 0) ∨ (o_callow T y x = 1 ∧ ∀ s, s < tSts T → tSn T s = y → ¬ mo_inB (nI x) (tSm T s) = 0) := by
  unfold o_callow w_callow_2
  have run : ∀ k i, (∀ s, s < i → tSn T s = y → ¬ mo_inB (nI x) (tSm T s) = 0) → (∃ r, mo_lp (b_callow_2 T y x) k i () = .inr r ∧ r = 0 ∧ ∃ s, s < i + k ∧ tSn T s = y ∧ mo_inB (nI x) (tSm T s) = 0) ∨ (mo_lp (b_callow_2 T y x) k i () = .inl () ∧ ∀ s, s < i + k → tSn T s = y → ¬ mo_inB (nI x) (tSm T s) = 0) := fun k => by
    induction k with
    | zero => intro i h; exact Or.inr ⟨rfl, h⟩
    | succ k ih =>
      intro i h
      have go : b_callow_2 T y x i () = .inl () → ¬ (tSn T i = y ∧ mo_inB (nI x) (tSm T i) = 0) → (∃ r, mo_lp (b_callow_2 T y x) (k + 1) i () = .inr r ∧ r = 0 ∧ ∃ s, s < i + (k + 1) ∧ tSn T s = y ∧ mo_inB (nI x) (tSm T s) = 0) ∨ (mo_lp (b_callow_2 T y x) (k + 1) i () = .inl () ∧ ∀ s, s < i + (k + 1) → tSn T s = y → ¬ mo_inB (nI x) (tSm T s) = 0) := fun e hn => by
        rw [mo_lp_inlS e, show i + (k + 1) = i + 1 + k by omega]
        exact ih (i + 1) (fun s hs hy => by
          by_cases e : s = i
          · subst e; exact fun z => hn ⟨hy, z⟩
          · exact h s (by omega) hy)
      by_cases c1 : tSn T i = y
      · by_cases c2 : mo_inB (nI x) (tSm T i) = 0
        · exact Or.inl ⟨0, mo_lp_inrS (by unfold b_callow_2; rw [if_pos c1, if_pos c2]), rfl, i, by omega, c1, c2⟩
        · exact go (by unfold b_callow_2; rw [if_pos c1, if_neg c2]) (fun z => c2 z.2)
      · exact go (by unfold b_callow_2; rw [if_neg c1]) (fun z => c1 z.1)
  rcases run (tSts T) 0 (fun s hs => absurd hs (Nat.not_lt_zero s)) with ⟨r, e, hr, s, hs⟩ | ⟨e, h⟩
  · rw [Nat.zero_add] at hs
    exact Or.inl ⟨by rw [e]; exact hr, s, hs⟩
  · rw [Nat.zero_add] at h
    exact Or.inr ⟨by rw [e]; rfl, h⟩
theorem allow_m {T : mo_Tn} {x i : Nat} {ns : List Nat} : (w_Model_canOf_36x T x ns i = 0 ∧ ∃ s, s < tSts T ∧ tSn T s = ns.getD i 0 ∧ (if tSi T s = 1 then ¬ mo_has (tSs T s) (nI x) = 1 else ¬ mo_has (tSs T s) (nI x) = 0)) ∨ (w_Model_canOf_36x T x ns i = 1 ∧ ∀ s, s < tSts T → tSn T s = ns.getD i 0 → ¬ (if tSi T s = 1 then ¬ mo_has (tSs T s) (nI x) = 1 else ¬ mo_has (tSs T s) (nI x) = 0)) := by
  have key := mo_it_inv (f := b_Model_canOf_36 T x ns i) (fun j t => (t = 0 ∧ ∃ s, s < j ∧ tSn T s = ns.getD i 0 ∧ (if tSi T s = 1 then ¬ mo_has (tSs T s) (nI x) = 1 else ¬ mo_has (tSs T s) (nI x) = 0)) ∨ (t = 1 ∧ ∀ s, s < j → tSn T s = ns.getD i 0 → ¬ (if tSi T s = 1 then ¬ mo_has (tSs T s) (nI x) = 1 else ¬ mo_has (tSs T s) (nI x) = 0))) (k := tSts T) (i := 0) (s := 1) (Or.inr ⟨rfl, fun s hs => absurd hs (Nat.not_lt_zero s)⟩) (fun j t _ _ hP => by
    unfold b_Model_canOf_36
    by_cases c1 : tSn T j = ns.getD i 0
    · rw [if_pos c1]
      rcases hP with ⟨h1, s, h2, h3⟩ | ⟨h1, h2⟩
      · rw [if_pos h1]; exact Or.inl ⟨rfl, s, by omega, h3⟩
      · rw [h1, if_neg (by decide)]
        have yes : ¬ (if tSi T j = 1 then ¬ mo_has (tSs T j) (nI x) = 1 else ¬ mo_has (tSs T j) (nI x) = 0) → ∀ s, s < j + 1 → tSn T s = ns.getD i 0 → ¬ (if tSi T s = 1 then ¬ mo_has (tSs T s) (nI x) = 1 else ¬ mo_has (tSs T s) (nI x) = 0) := fun hn s hs hy => by
          by_cases e : s = j
          · rw [e]; exact hn
          · exact h2 s (by omega) hy
        by_cases c2 : tSi T j = 1
        · rw [if_pos c2]
          by_cases c3 : mo_has (tSs T j) (nI x) = 1
          · rw [if_pos c3]
            exact Or.inr ⟨rfl, yes (by rw [if_pos c2]; exact fun z => z c3)⟩
          · rw [if_neg c3]
            exact Or.inl ⟨rfl, j, Nat.lt_succ_self j, c1, by rw [if_pos c2]; exact c3⟩
        · rw [if_neg c2]
          by_cases c3 : mo_has (tSs T j) (nI x) = 0
          · rw [if_pos c3]
            exact Or.inr ⟨rfl, yes (by rw [if_neg c2]; exact fun z => z c3)⟩
          · rw [if_neg c3]
            exact Or.inl ⟨rfl, j, Nat.lt_succ_self j, c1, by rw [if_neg c2]; exact c3⟩
    · rw [if_neg c1]
      rcases hP with ⟨h1, s, h2, h3⟩ | ⟨h1, h2⟩
      · exact Or.inl ⟨h1, s, by omega, h3⟩
      · refine Or.inr ⟨h1, fun s hs hy => ?_⟩
        by_cases e : s = j
        · rw [e] at hy; exact absurd hy c1
        · exact h2 s (by omega) hy)
  rw [Nat.zero_add] at key
  exact key
theorem allow_r {T : mo_Tn} (hS : mo_sT T) {x i : Nat} {ns : List Nat} (hx : x < 8) : o_callow T (ns.getD i 0) x = 0 ↔ w_Model_canOf_36x T x ns i = 0 := by
  rcases allow_c (T := T) (y := ns.getD i 0) (x := x) with ⟨h1, s, h2, h3, h4⟩ | ⟨h1, h2⟩
  · rcases allow_m (T := T) (x := x) (i := i) (ns := ns) with ⟨g1, _⟩ | ⟨_, g2⟩
    · rw [h1, g1]
    · exact absurd ((sm_r hS h2 hx).mp h4) (g2 s h2 h3)
  · rcases allow_m (T := T) (x := x) (i := i) (ns := ns) with ⟨_, s, g2, g3, g4⟩ | ⟨g1, _⟩
    · exact absurd ((sm_r hS g2 hx).mpr g4) (h2 s g2 g3)
    · rw [h1, g1]
/-- the j-th man may have the i-th name -/
def tA (T : mo_Tn) (j i : Nat) : Bool := ((tCS T).getD j 0).testBit i
theorem may_r {T : mo_Tn} (hv : mo_vT T) (hF : mo_fT T) (hS : mo_sT T) {i j : Nat} (hi : i < (tNS T).length) (hj : j < (tNS T).length) : (tMy T i).testBit j = tA T j i := by
  have hM := vT_tMen hv
  have hj2 : j < (tGS T).length := by rw [given_len hv hF]; exact hj
  have hx := tGS_lt hj2
  unfold tMy tA
  rw [mo_bs_bit, tGz_r hv hF, decide_eq_true hj, Bool.true_and]
  have e : (tCS T).getD j 0 = tCan T (tNS T) ((tGS T).getD j 0) := by
    unfold tCS
    rw [List.getD_eq_getElem?_getD, List.getElem?_map, List.getElem?_eq_getElem hj2, mo_getD hj2]
    rfl
  rw [e]
  unfold tCan
  rw [mo_bs_bit, decide_eq_true hi, Bool.true_and]
  unfold tMyb tMay
  rw [op4_r hv hF, op58_r hv hF]
  have := allow_r hS (x := (tGS T).getD j 0) (i := i) (ns := tNS T) (by omega)
  congr 2
  exact decide_eq_decide.mpr this
