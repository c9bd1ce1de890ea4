/-! matched and wanted: the class's sums and names are the reference's. -/
theorem mo_it_pairs {β : Type} {f : Nat → List β → List β} {q : Nat → Bool} {h : Nat → β} : ∀ {n : Nat}, (∀ i s, i < n → f i s = if q i = true then s ++ [h i] else s) → mo_it f n 0 [] = ((List.range n).filter q).map h
  | 0, _ => rfl
  | n + 1, hf => by
    rw [mo_it_last, Nat.zero_add, hf n _ (Nat.lt_succ_self n), mo_it_pairs (fun i s hi => hf i s (by omega)), List.range_succ, List.filter_append, List.map_append]
    by_cases c : q n = true
    · rw [if_pos c, List.filter_cons_of_pos c]; rfl
    · rw [if_neg c, List.filter_cons_of_neg c]
      simp
theorem open_r {T : mo_Tn} {dd p : Int32} : w_Market_open_28 T dd p = (tRow T dd p).map (fun m => (m, tOwn T m)) := by
  unfold w_Market_open_28 tRow
  refine mo_it_pairs (fun i s _ => ?_)
  unfold b_Market_open_28
  cases tF T (nI i) dd with
  | none => show (if p = -1 then s else if tPurse T i = p then s else s) = s; rw [ite_self, ite_self]
  | some c =>
    show (if p = -1 then s ++ [(i, tOwn T i)] else if tPurse T i = p then s ++ [(i, tOwn T i)] else s) = if (decide (p = -1) || decide (tPurse T i = p)) = true then s ++ [(i, tOwn T i)] else s
    by_cases c1 : p = -1
    · rw [if_pos c1, decide_eq_true c1]; rfl
    · rw [if_neg c1, decide_eq_false c1]
      by_cases c2 : tPurse T i = p
      · rw [if_pos c2, decide_eq_true c2]; rfl
      · rw [if_neg c2, decide_eq_false c2]; rfl
theorem open_z {T : mo_Tn} {dd p : Int32} : tMz T dd p = (tRow T dd p).length := by unfold tMz; rw [open_r, List.length_map]
theorem open_k {T : mo_Tn} {dd p : Int32} {k : Nat} (hk : k < (tRow T dd p).length) : tMn T dd p k = (tRow T dd p).getD k 0 ∧ tMo T dd p k = tOwn T ((tRow T dd p).getD k 0) := by
  have e : tMk T dd p k = ((tRow T dd p).getD k 0, tOwn T ((tRow T dd p).getD k 0)) := by
    unfold tMk
    rw [open_r, List.getD_eq_getElem?_getD, List.getElem?_map, List.getElem?_eq_getElem hk, mo_getD hk]
    rfl
  unfold tMn tMo
  rw [e]
  exact ⟨rfl, rfl⟩
theorem open_os {T : mo_Tn} {dd p : Int32} {f : Nat} (hf : f ≤ (tRow T dd p).length) : (List.range' f (tMz T dd p - f)).map (tMo T dd p) = ((tRow T dd p).drop f).map (tOwn T) := by
  rw [open_z]
  apply List.ext_getElem
  · simp
  · intro i h1 h2
    rw [List.length_map, List.length_drop] at h2
    rw [List.getElem_map, List.getElem_map, List.getElem_range', List.getElem_drop, (open_k (by omega)).2, mo_getD (by omega)]
    congr 2
    omega
/-- both tell the same sum, or both that there is none -/
def mq_R (x y : Int64) : Prop := (x = -1000000000000000 ∧ y = -4611686018427387904) ∨ (x = y ∧ x ≠ -1000000000000000 ∧ y ≠ -4611686018427387904 ∧ -8796093022208 ≤ x.toInt ∧ x.toInt ≤ 8796093022208)
theorem mq_R_of {c : Int} {x y : Int64} {r : Option Int} (hc : c ≤ 8796093022208) (h1 : mq_rep c x r) (h2 : mq_rpc c y r) : mq_R x y := by
  cases r with
  | none => exact Or.inl ⟨h1, h2⟩
  | some v =>
    refine Or.inr ⟨Int64.toInt_inj.mp (h1.1.trans h2.1.symm), mq_rep_ne (by omega) h1, fun e => ?_, ?_, ?_⟩
    · have g1 := h2.1
      have g2 := h2.2.1
      rw [e, show (-4611686018427387904 : Int64).toInt = -4611686018427387904 by decide] at g1
      omega
    · have := h1.2; rw [h1.1]; omega
    · have := h1.2; rw [h1.1]; omega
theorem mt_eq {R : Nat → Nat → Nat} {I : Nat → Nat → Int32} {L : Nat → Nat → Int64} {g : Nat} {T : mo_Tn} {dd p : Int32} {wo set S f : Nat} (hv : mo_vT T) (hF : mo_fT T) (hG : mo_gT T) (hf : f ≤ (tRow T dd p).length) (hS : ∀ n, n < tNames T → S.testBit n = !(set ||| wo).testBit n) : mq_R (tM T dd wo (tRow T dd p) f set) (o_Market_most R (tMkl R L g T dd) g (tMR R I L g T dd) (tMo T dd p) (tMz T dd p) f S) := by
  have hN := vT_tNames hv
  have hM := vT_tMen hv
  have hr := tRow_len T dd p
  obtain ⟨xs, hx, hrk⟩ := rk_tRk (R := R) (I := I) (L := tMkl R L g T dd) (g := g) hN
  have hval : ∀ v, v ∈ xs → tMkl R L g T dd (R (R g 3) 0) v = tW T dd v := fun v hvx => by
    have := (hx.2.1 v).mp hvx
    unfold tMkl
    rw [mo_fiZ (by omega), su_w hv hG (by omega)]
  have hb : ∀ n, n < tNames T → -1099511627776 ≤ (tW T dd n).toInt ∧ (tW T dd n).toInt ≤ 1099511627776 := fun n hn => by
    have := su_b hv hG (d := dd) (n := n)
    rw [su_w hv hG (by omega)] at this
    omega
  have hs : xs.Pairwise (fun a b => (tW T dd b).toInt ≤ (tW T dd a).toInt) := List.Pairwise.imp_of_mem (fun {a b} ha hb h => by rw [hval a ha, hval b hb] at h; exact h) hx.2.2.2
  have ho := own_list hv hF (rs := (tRow T dd p).drop f) (List.Pairwise.drop row_nodup) (fun m hm => by
    have := List.mem_of_mem_drop hm
    exact List.mem_range.mp (List.mem_filter.mp this).1)
  have hlen : (((tRow T dd p).drop f).map (tOwn T)).length = tMz T dd p - f := by rw [List.length_map, List.length_drop, open_z]
  have h1 := mq_main (W := tW T dd) (N := tNames T) (wo := wo) hx.1 hx.2.1 hs hb (((tRow T dd p).drop f).map (tOwn T)) ho.1 (by rw [hlen, open_z]; omega) set
  have h2 := most_rep (R := R) (L := tMkl R L g T dd) (g := g) (mz := tMz T dd p) (f := f) (S := S) (rk := tMR R I L g T dd) (ow := tMo T dd p) (xs := xs) (W := tW T dd) (by rw [hx.2.2.1]; exact hN) hrk (fun v hvx => ⟨hval v hvx, hb v ((hx.2.1 v).mp hvx)⟩) (by rw [open_z]; omega)
  rw [open_os hf, List.filter_congr (q := fun n => !(set ||| wo).testBit n) (fun n hn => hS n ((hx.2.1 n).mp hn))] at h2
  rw [hlen] at h1
  have hz : tMz T dd p ≤ 8 := by rw [open_z]; omega
  exact mq_R_of (by omega) h1 h2
theorem ms_eq {R : Nat → Nat → Nat} {I : Nat → Nat → Int32} {L : Nat → Nat → Int64} {g : Nat} {T : mo_Tn} {dd p : Int32} (hv : mo_vT T) (hF : mo_fT T) (hG : mo_gT T) : mq_R (tM T dd 0 (tRow T dd p) 0 0) (tMs R I L g T dd p (2 ^ tNames T - 1)) := mt_eq hv hF hG (Nat.zero_le _) (fun n hn => by
  rw [Nat.testBit_two_pow_sub_one, decide_eq_true hn, Nat.or_zero, Nat.zero_testBit]
  rfl)
theorem mw_eq {R : Nat → Nat → Nat} {I : Nat → Nat → Int32} {L : Nat → Nat → Int64} {g : Nat} {T : mo_Tn} {dd p : Int32} {x : Nat} (hv : mo_vT T) (hF : mo_fT T) (hG : mo_gT T) : mq_R (tM T dd (2 ^ x) (tRow T dd p) 0 0) (tMs R I L g T dd p (mo_dif (2 ^ tNames T - 1) (2 ^ x))) := mt_eq hv hF hG (Nat.zero_le _) (fun n hn => by
  rw [mo_dif_bit, Nat.testBit_two_pow_sub_one, decide_eq_true hn, Nat.zero_or, Bool.true_and])
theorem lp_least {q : Nat → Bool} {body : Nat → Unit → Unit ⊕ (Nat × Unit)} {N n0 : Nat} (hb : ∀ n, n < N → body n () = if q n = true then .inr (n, ()) else .inl ()) (h0 : n0 < N) (hq : q n0 = true) (hl : ∀ j, j < n0 → q j = false) : ∀ k i, i + k = N → i ≤ n0 → mo_lp body k i () = .inr (n0, ())
  | 0, i, hi, hi0 => by omega
  | k + 1, i, hi, hi0 => by
    by_cases e : i = n0
    · subst e
      exact mo_lp_inrS (by rw [hb i h0, if_pos hq])
    · rw [mo_lp_inlS (s' := ()) (by rw [hb i (by omega), if_neg (by rw [hl i (by omega)]; decide)])]
      exact lp_least hb h0 hq hl k (i + 1) (by omega) (by omega)
theorem it_sim {S S' : Type} {f : Nat → S → S} {h : Nat → S' → S'} (P : Nat → S → S' → Prop) : ∀ {k i : Nat} {s : S} {s' : S'}, P i s s' → (∀ j t t', i ≤ j → j < i + k → P j t t' → P (j + 1) (f j t) (h j t')) → P (i + k) (mo_it f k i s) (mo_it h k i s')
  | 0, i, s, s', hp, _ => hp
  | k + 1, i, s, s', hp, hs => by
    have := it_sim (f := f) (h := h) P (k := k) (i := i + 1) (hs i s s' (Nat.le_refl i) (by omega) hp) (fun j t t' h1 h2 => hs j t t' (by omega) (by omega))
    rw [show i + 1 + k = i + (k + 1) by omega] at this
    exact this
theorem ff_same {p q : Nat → Bool} {n0 a b : Nat} (ha : n0 < a) (hb : n0 < b) (hp : p n0 = true) (hq : q n0 = true) (h : ∀ j, j < n0 → p j = q j) : mo_ff p a = some n0 → mo_ff q b = some n0 := fun e => by
  have := mo_ff_lt e
  exact mo_ff_some hb hq (fun j hj => by rw [← h j hj]; exact this.2.2 j hj)
theorem tM_cons {T : mo_Tn} {dd : Int32} {wo i set : Nat} {rs : List Nat} (hi : i < rs.length) : tM T dd wo rs i set = mo_mx (tW T dd) (tNames T) wo (tOwn T (rs.getD i 0) :: ((rs.drop (i + 1)).map (tOwn T))) set := by
  unfold tM
  rw [List.drop_eq_getElem_cons hi, List.map_cons, mo_getD hi]
theorem choose_r {R R' : Nat → Nat → Nat} {I I' I2 : Nat → Nat → Int32} {L : Nat → Nat → Int64} {g a : Nat} {T : mo_Tn} {p : Int32} {d : Nat} (hv : mo_vT T) (hF : mo_fT T) (hG : mo_gT T) (h0 : tM T (nI d) 0 (tRow T (nI d) p) 0 0 ≠ -1000000000000000) {m : Nat} (hm : m < 8) : (w_Market_choose_10 R I2 (tMkl R L g T (nI d)) g (tMR R I L g T (nI d)) (tMo T (nI d) p) (tMz T (nI d) p) (tMn T (nI d) p) (2 ^ tNames T - 1)).2 m = (w_Model_matched_102 R' I' a T p d).1 (R' a 27) m := by
  have hN := vT_tNames hv
  have hM := vT_tMen hv
  have hr := tRow_len T (nI d) p
  unfold w_Market_choose_10 w_Model_matched_102
  rw [open_z]
  have key := it_sim (f := b_Market_choose_10 R (tMkl R L g T (nI d)) g (tMR R I L g T (nI d)) (tMo T (nI d) p) (tRow T (nI d) p).length (tMn T (nI d) p)) (h := b_Model_matched_102 R' a T p d) (fun i z z' => i ≤ (tRow T (nI d) p).length ∧ (∀ n, z.1.testBit n = (decide (n < tNames T) && !z'.2.testBit n)) ∧ tM T (nI d) 0 (tRow T (nI d) p) i z'.2 ≠ -1000000000000000 ∧ ∀ m, m < 8 → z.2 m = z'.1 (R' a 27) m) (k := (tRow T (nI d) p).length) (i := 0) (s := (2 ^ tNames T - 1, (mo_fi I2 (R g 5) 0 8 (fun _ => -1)) (R g 5))) (s' := (w_Model_matched_75 R' I' a T p d, 0)) ⟨Nat.zero_le _, fun n => by
      show (2 ^ tNames T - 1).testBit n = (decide (n < tNames T) && !(0 : Nat).testBit n)
      rw [Nat.testBit_two_pow_sub_one, Nat.zero_testBit, Bool.not_false, Bool.and_true], h0, fun m hm => by
      show mo_fi I2 (R g 5) 0 8 (fun _ => -1) (R g 5) m = w_Model_matched_75 R' I' a T p d (R' a 27) m
      rw [mo_fiZ hm]
      unfold w_Model_matched_75
      have := mo_it_inv (f := b_Model_matched_75 R' a) (fun j s => ∀ m, m < j → s (R' a 27) m = -1) (k := 8) (i := 0) (s := (mo_up (mo_up (mo_l1 I' a 29 (R' a 26) (tRow T (nI d) p)) a 0 0) a 30 1)) (fun m hm => absurd hm (Nat.not_lt_zero m)) (fun j s _ _ hs m hm => by
        unfold b_Model_matched_75
        by_cases e : m = j
        · rw [e, mo_upA]
        · rw [mo_upK _ _ _ e]; exact hs m (by omega))
      exact (this m (by omega)).symm⟩ (fun i z z' _ hi hP => by
    obtain ⟨hp0, hp1, hp2, hp3⟩ := hP
    have hi' : i < (tRow T (nI d) p).length := by omega
    have hok := open_k hi'
    have hmr := tRow_lt hi'
    have hown := vT_tOwn hv hmr
    have e1 := mt_eq (R := R) (I := I) (L := L) (g := g) (p := p) (dd := nI d) (wo := 0) (set := z'.2) (S := z.1) (f := i) hv hF hG (by omega) (fun n hn => by rw [hp1 n, decide_eq_true hn, Nat.or_zero, Bool.true_and])
    have e1' : tM T (nI d) 0 (tRow T (nI d) p) i z'.2 = o_Market_most R (tMkl R L g T (nI d)) g (tMR R I L g T (nI d)) (tMo T (nI d) p) (tRow T (nI d) p).length i z.1 := by
      rw [open_z] at e1
      rcases e1 with w | w
      · exact absurd w.1 hp2
      · exact w.1
    have e2 : ∀ n, n < tNames T → mq_R (tM T (nI d) 0 (tRow T (nI d) p) (i + 1) (z'.2 ||| 2 ^ n)) (o_Market_most R (tMkl R L g T (nI d)) g (tMR R I L g T (nI d)) (tMo T (nI d) p) (tRow T (nI d) p).length (i + 1) (mo_dif z.1 (2 ^ n))) := fun n _ => by
      have := mt_eq (R := R) (I := I) (L := L) (g := g) (p := p) (dd := nI d) (wo := 0) (set := z'.2 ||| 2 ^ n) (S := mo_dif z.1 (2 ^ n)) (f := i + 1) hv hF hG (by omega) (fun k hk => by rw [mo_dif_bit, hp1 k, decide_eq_true hk, Nat.or_zero, Bool.true_and, Nat.testBit_or, Bool.not_or])
      rw [open_z] at this
      exact this
    generalize hq : (fun n => !z'.2.testBit n && (!decide (tOwn T ((tRow T (nI d) p).getD i 0) = n) && (!decide (tM T (nI d) 0 (tRow T (nI d) p) (i + 1) (z'.2 ||| 2 ^ n) = -1000000000000000) && decide (tM T (nI d) 0 (tRow T (nI d) p) (i + 1) (z'.2 ||| 2 ^ n) + tW T (nI d) n = tM T (nI d) 0 (tRow T (nI d) p) i z'.2)))) = q
    have hex : ∃ n, n < tNames T ∧ q n = true := by
      rw [tM_cons hi'] at hp2
      obtain ⟨n, hn, c1, c2, c3, c4⟩ := mo_mx_some hp2
      rw [← tM_cons hi'] at c4
      refine ⟨n, hn, ?_⟩
      rw [← hq]
      have c1' : z'.2.testBit n = false := by
        rw [Nat.or_zero] at c1
        cases w : z'.2.testBit n
        · rfl
        · exact absurd w c1
      show (!z'.2.testBit n && _) = true
      rw [c1', decide_eq_false c2, decide_eq_false (show ¬ tM T (nI d) 0 (tRow T (nI d) p) (i + 1) (z'.2 ||| 2 ^ n) = -1000000000000000 from c3), decide_eq_true (show tM T (nI d) 0 (tRow T (nI d) p) (i + 1) (z'.2 ||| 2 ^ n) + tW T (nI d) n = tM T (nI d) 0 (tRow T (nI d) p) i z'.2 from c4.symm)]
      rfl
    obtain ⟨nx, hnx, hqx⟩ := hex
    have hff : ∃ n0, mo_ff q (tNames T) = some n0 := by
      cases e : mo_ff q (tNames T) with
      | none => have := ff_none e hnx; rw [hqx] at this; cases this
      | some n0 => exact ⟨n0, rfl⟩
    obtain ⟨n0, hn0⟩ := hff
    have hl := mo_ff_lt hn0
    have hkp : ∀ n, n < tNames T → tKp R (tMkl R L g T (nI d)) g (tMR R I L g T (nI d)) (tMo T (nI d) p) (tRow T (nI d) p).length i z.1 n = q n := fun n hn => by
      rw [← hq]
      unfold tKp
      rw [hok.2, hp1 n, decide_eq_true hn, Bool.true_and, ← e1']
      show _ = (!z'.2.testBit n && (!decide (tOwn T ((tRow T (nI d) p).getD i 0) = n) && (!decide (tM T (nI d) 0 (tRow T (nI d) p) (i + 1) (z'.2 ||| 2 ^ n) = -1000000000000000) && decide (tM T (nI d) 0 (tRow T (nI d) p) (i + 1) (z'.2 ||| 2 ^ n) + tW T (nI d) n = tM T (nI d) 0 (tRow T (nI d) p) i z'.2))))
      have hw : tMkl R L g T (nI d) (R (R g 3) 0) n = tW T (nI d) n := by unfold tMkl; rw [mo_fiZ (by omega), su_w hv hG (by omega)]
      rw [hw, show decide (n = tOwn T ((tRow T (nI d) p).getD i 0)) = decide (tOwn T ((tRow T (nI d) p).getD i 0) = n) from decide_eq_decide.mpr ⟨Eq.symm, Eq.symm⟩]
      rcases e2 n hn with ⟨w1, w2⟩ | ⟨w1, w2, w3, _⟩
      · rw [w1, w2, decide_eq_true rfl, decide_eq_true rfl]
        cases z'.2.testBit n <;> cases decide (tOwn T ((tRow T (nI d) p).getD i 0) = n) <;> rfl
      · rw [decide_eq_false w2, decide_eq_false w3, ← w1]
        cases z'.2.testBit n <;> cases decide (tOwn T ((tRow T (nI d) p).getD i 0) = n) <;> rfl
    have hc : mo_ff (tKp R (tMkl R L g T (nI d)) g (tMR R I L g T (nI d)) (tMo T (nI d) p) (tRow T (nI d) p).length i z.1) 12 = some n0 := mo_ff_some (by omega) (by rw [hkp n0 hl.1]; exact hl.2.1) (fun j hj => by rw [hkp j (by omega)]; exact hl.2.2 j hj)
    have hm : w_Model_matched_114 T p d i z' = .inr (n0, ()) := by
      unfold w_Model_matched_114
      refine lp_least (q := q) (fun n hn => ?_) hl.1 hl.2.1 hl.2.2 (tNames T) 0 (Nat.zero_add _) (Nat.zero_le _)
      rw [← hq]
      unfold b_Model_matched_114
      show _ = if (!z'.2.testBit n && (!decide (tOwn T ((tRow T (nI d) p).getD i 0) = n) && (!decide (tM T (nI d) 0 (tRow T (nI d) p) (i + 1) (z'.2 ||| 2 ^ n) = -1000000000000000) && decide (tM T (nI d) 0 (tRow T (nI d) p) (i + 1) (z'.2 ||| 2 ^ n) + tW T (nI d) n = tM T (nI d) 0 (tRow T (nI d) p) i z'.2)))) = true then (Sum.inr (n, ()) : Unit ⊕ (Nat × Unit)) else .inl ()
      by_cases c1 : z'.2.testBit n = true
      · rw [if_pos c1, c1]; rfl
      · have c1' : z'.2.testBit n = false := by cases w : z'.2.testBit n <;> simp_all
        rw [if_neg c1, c1']
        by_cases c2 : tOwn T ((tRow T (nI d) p).getD i 0) = n
        · rw [if_pos c2, decide_eq_true c2]; rfl
        · rw [if_neg c2, decide_eq_false c2]
          by_cases c3 : tM T (nI d) 0 (tRow T (nI d) p) (i + 1) (z'.2 ||| 2 ^ n) = -1000000000000000
          · rw [if_pos (lc_eq0.mpr c3), decide_eq_true c3]; rfl
          · rw [if_neg (fun w => c3 (lc_eq0.mp w)), decide_eq_false c3]
            by_cases c4 : tM T (nI d) 0 (tRow T (nI d) p) (i + 1) (z'.2 ||| 2 ^ n) + tW T (nI d) n = tM T (nI d) 0 (tRow T (nI d) p) i z'.2
            · rw [if_pos (lc_eq0.mpr c4), decide_eq_true c4]; rfl
            · rw [if_neg (fun w => c4 (lc_eq0.mp w)), decide_eq_false c4]; rfl
    have hq0 := hl.2.1
    rw [← hq] at hq0
    have hq1 : tM T (nI d) 0 (tRow T (nI d) p) (i + 1) (z'.2 ||| 2 ^ n0) ≠ -1000000000000000 := by
      have hq0 : (!z'.2.testBit n0 && (!decide (tOwn T ((tRow T (nI d) p).getD i 0) = n0) && (!decide (tM T (nI d) 0 (tRow T (nI d) p) (i + 1) (z'.2 ||| 2 ^ n0) = -1000000000000000) && decide (tM T (nI d) 0 (tRow T (nI d) p) (i + 1) (z'.2 ||| 2 ^ n0) + tW T (nI d) n0 = tM T (nI d) 0 (tRow T (nI d) p) i z'.2)))) = true := hq0
      rw [Bool.and_eq_true, Bool.and_eq_true, Bool.and_eq_true] at hq0
      intro w
      rw [decide_eq_true w] at hq0
      exact absurd hq0.2.2.1 (by decide)
    unfold b_Market_choose_10 b_Model_matched_102
    rw [hc, hm]
    show i + 1 ≤ _ ∧ _
    have hmn : ¬ 8 ≤ tMn T (nI d) p i := by rw [hok.1]; omega
    show i + 1 ≤ (tRow T (nI d) p).length ∧ (∀ n, (if 8 ≤ tMn T (nI d) p i then (z.1, z.2) else (mo_dif z.1 (2 ^ n0), va_up z.2 (tMn T (nI d) p i) (nI n0))).1.testBit n = (decide (n < tNames T) && !(z'.2 ||| 2 ^ n0).testBit n)) ∧ tM T (nI d) 0 (tRow T (nI d) p) (i + 1) (z'.2 ||| 2 ^ n0) ≠ -1000000000000000 ∧ ∀ m, m < 8 → (if 8 ≤ tMn T (nI d) p i then (z.1, z.2) else (mo_dif z.1 (2 ^ n0), va_up z.2 (tMn T (nI d) p i) (nI n0))).2 m = mo_up z'.1 (R' a 27) ((tRow T (nI d) p).getD i 0) (nI n0) (R' a 27) m
    rw [if_neg hmn, hok.1]
    refine ⟨by omega, fun n => ?_, hq1, fun m hm8 => ?_⟩
    · show (mo_dif z.1 (2 ^ n0)).testBit n = _
      rw [mo_dif_bit, hp1 n, Nat.testBit_or, Bool.not_or, Bool.and_assoc]
    · show va_up z.2 ((tRow T (nI d) p).getD i 0) (nI n0) m = _
      rw [mo_up_va]
      by_cases e : m = (tRow T (nI d) p).getD i 0
      · rw [e, va_up_self, va_up_self]
      · rw [va_up_ne _ _ e, va_up_ne _ _ e, hp3 m hm8])
  rw [Nat.zero_add] at key
  exact key.2.2.2 m hm
