/-! The market's ranks, and the most by them. -/
/-- a row that holds names by rank -/
def rk_ok (W : Nat → Int64) (n : Nat) (xs : List Nat) : Prop := xs.Nodup ∧ (∀ k, k ∈ xs ↔ k < n) ∧ xs.length = n ∧ xs.Pairwise (fun a b => (W b).toInt ≤ (W a).toInt)
theorem rk_in {W : Nat → Int64} {n k : Nat} {xs : List Nat} (h : rk_ok W n xs) (hk : k ≤ n) (h1 : 0 < k → (W n).toInt ≤ (W (xs.getD (k - 1) 0)).toInt) (h2 : ∀ q, k ≤ q → q < n → (W (xs.getD q 0)).toInt ≤ (W n).toInt) : rk_ok W (n + 1) (xs.take k ++ n :: xs.drop k) := by
  obtain ⟨a1, a2, a3, a4⟩ := h
  have hp : (xs.take k ++ n :: xs.drop k).Perm (n :: xs) := by
    have := List.perm_middle (a := n) (l₁ := xs.take k) (l₂ := xs.drop k)
    rw [List.take_append_drop] at this
    exact this
  refine ⟨hp.nodup_iff.mpr (List.nodup_cons.mpr ⟨fun z => by have := (a2 n).mp z; omega, a1⟩), fun q => ?_, ?_, ?_⟩
  · rw [hp.mem_iff, List.mem_cons, a2 q]
    omega
  · rw [hp.length_eq, List.length_cons, a3]
  · rw [List.pairwise_append]
    have hpw : (xs.take k ++ xs.drop k).Pairwise (fun a b => (W b).toInt ≤ (W a).toInt) := by rw [List.take_append_drop]; exact a4
    rw [List.pairwise_append] at hpw
    have hdrop : ∀ b, b ∈ xs.drop k → (W b).toInt ≤ (W n).toInt := fun b hb => by
      obtain ⟨q, hq, e⟩ := List.mem_iff_getElem.mp hb
      rw [List.length_drop] at hq
      rw [List.getElem_drop] at e
      have := h2 (k + q) (by omega) (by omega)
      rw [mo_getD (by omega), e] at this
      exact this
    have htake : ∀ a, a ∈ xs.take k → (W n).toInt ≤ (W a).toInt := fun a ha => by
      obtain ⟨q, hq, e⟩ := List.mem_iff_getElem.mp ha
      rw [List.length_take] at hq
      rw [List.getElem_take] at e
      have hk1 := h1 (by omega)
      rw [mo_getD (by omega)] at hk1
      by_cases e2 : q = k - 1
      · subst e2
        rw [← e]
        exact hk1
      · have := List.pairwise_iff_getElem.mp a4 q (k - 1) (by omega) (by omega) (by omega)
        rw [e] at this
        omega
    refine ⟨hpw.1, List.pairwise_cons.mpr ⟨hdrop, hpw.2.1⟩, fun a ha b hb => ?_⟩
    rcases List.mem_cons.mp hb with z | z
    · rw [z]; exact htake a ha
    · exact hpw.2.2 a ha b z
theorem rk_get {n k p : Nat} {xs : List Nat} (hl : xs.length = n) (hk : k ≤ n) : (p < k → (xs.take k ++ n :: xs.drop k).getD p 0 = xs.getD p 0) ∧ (p = k → (xs.take k ++ n :: xs.drop k).getD p 0 = n) ∧ (k < p → p ≤ n → (xs.take k ++ n :: xs.drop k).getD p 0 = xs.getD (p - 1) 0) := by
  have hlt : (xs.take k).length = k := by rw [List.length_take]; omega
  refine ⟨fun h => ?_, fun h => ?_, fun h1 h2 => ?_⟩
  · rw [List.getD_eq_getElem?_getD, List.getD_eq_getElem?_getD, List.getElem?_append_left (by omega), List.getElem?_take_of_lt h]
  · rw [List.getD_eq_getElem?_getD, List.getElem?_append_right (by omega), hlt, h, Nat.sub_self]
    rfl
  · rw [List.getD_eq_getElem?_getD, List.getD_eq_getElem?_getD, List.getElem?_append_right (by omega), hlt, show p - k = (p - k - 1) + 1 by omega, List.getElem?_cons_succ, List.getElem?_drop, show k + (p - k - 1) = p - 1 by omega]
theorem rk_loop {R : Nat → Nat → Nat} {L : Nat → Nat → Int64} {g n : Nat} {xs : List Nat} {s : Nat → Int32} (hn : n < 12) (h : rk_ok (L (R (R g 3) 0)) n xs) (hs : ∀ k, k < n → s k = nI (xs.getD k 0)) : ∀ m j u, j + m = n → (∀ p, p < n - j → u p = s p) → (∀ p, n - j < p → p ≤ n → u p = s (p - 1)) → (∀ q, n - j ≤ q → q < n → (L (R (R g 3) 0) (xs.getD q 0)).toInt ≤ (L (R (R g 3) 0) n).toInt) → ∃ k u', k ≤ n ∧ (mo_lp (b_Market_rank_23 R L g n) m j (n - j, u) = .inl (k, u') ∨ mo_lp (b_Market_rank_23 R L g n) m j (n - j, u) = .inr (k, u')) ∧ (∀ p, p < k → u' p = s p) ∧ (∀ p, k < p → p ≤ n → u' p = s (p - 1)) ∧ (0 < k → (L (R (R g 3) 0) n).toInt ≤ (L (R (R g 3) 0) (xs.getD (k - 1) 0)).toInt) ∧ (∀ q, k ≤ q → q < n → (L (R (R g 3) 0) (xs.getD q 0)).toInt ≤ (L (R (R g 3) 0) n).toInt)
  | 0, j, u, hj, h1, h2, h3 => ⟨n - j, u, by omega, Or.inl rfl, h1, h2, fun z => by omega, h3⟩
  | m + 1, j, u, hj, h1, h2, h3 => by
    have hx : xs.getD (n - j - 1) 0 < n := by
      rw [mo_getD (by rw [h.2.2.1]; omega)]
      exact (h.2.1 _).mp (List.getElem_mem _)
    have hcl : (u (n - j - 1)).toNatClampNeg = xs.getD (n - j - 1) 0 := by rw [h1 _ (by omega), hs _ (by omega), nI_clamp (by omega)]
    by_cases c : lg_cmp (L (R (R g 3) 0) n) (L (R (R g 3) 0) (xs.getD (n - j - 1) 0)) ≤ 0
    · have hle := Int.not_lt.mp (fun z => (lc_leG.mp c) (Int64.lt_iff_toInt_lt.mpr z))
      exact ⟨n - j, u, by omega, Or.inr (mo_lp_inrS (by unfold b_Market_rank_23; rw [hcl, if_pos c])), h1, h2, fun _ => hle, h3⟩
    · have hlt : L (R (R g 3) 0) (xs.getD (n - j - 1) 0) < L (R (R g 3) 0) n := Classical.byContradiction (fun z => c (lc_leG.mpr z))
      have hlt := Int64.lt_iff_toInt_lt.mp hlt
      rw [mo_lp_inlS (s' := (n - j - 1, va_up u (n - j) (u (n - j - 1)))) (by unfold b_Market_rank_23; rw [hcl, if_neg c]), show n - j - 1 = n - (j + 1) by omega]
      refine rk_loop hn h hs m (j + 1) _ (by omega) (fun p hp => ?_) (fun p hp hp2 => ?_) (fun q hq hq2 => ?_)
      · rw [va_up_ne _ _ (by omega)]; exact h1 p (by omega)
      · by_cases e : p = n - j
        · rw [e, va_up_self, h1 _ (by omega), show n - (j + 1) = n - j - 1 by omega]
        · rw [va_up_ne _ _ e]; exact h2 p (by omega) hp2
      · by_cases e : q = n - (j + 1)
        · rw [e, show n - (j + 1) = n - j - 1 by omega]; omega
        · exact h3 q (by omega) hq2
theorem rk_all {R : Nat → Nat → Nat} {I : Nat → Nat → Int32} {L : Nat → Nat → Int64} {g : Nat} : ∀ {n : Nat}, n ≤ 12 → ∃ xs, rk_ok (L (R (R g 3) 0)) n xs ∧ ∀ k, k < n → w_Market_rank_10 R I L g n k = nI (xs.getD k 0)
  | 0, _ => ⟨[], ⟨List.nodup_nil, fun k => by simp, rfl, List.Pairwise.nil⟩, fun k hk => absurd hk (Nat.not_lt_zero k)⟩
  | n + 1, hn => by
    obtain ⟨xs, h, hs⟩ := rk_all (R := R) (I := I) (L := L) (g := g) (n := n) (by omega)
    obtain ⟨k, u', hk, hr, g1, g2, g3, g4⟩ := rk_loop (by omega) h hs n 0 (w_Market_rank_10 R I L g n) (by omega) (fun p _ => rfl) (fun p h1 h2 => by omega) (fun q h1 h2 => by omega)
    refine ⟨xs.take k ++ n :: xs.drop k, rk_in h hk g3 g4, fun p hp => ?_⟩
    have e : w_Market_rank_10 R I L g (n + 1) = va_up u' k (nI n) := by
      unfold w_Market_rank_10
      rw [mo_it_last, Nat.zero_add]
      show b_Market_rank_10 R L g n (w_Market_rank_10 R I L g n) = _
      unfold b_Market_rank_10 w_Market_rank_23
      rw [Nat.sub_zero] at hr
      rcases hr with hr | hr
      · rw [hr]; rfl
      · rw [hr]; rfl
    have hg := rk_get (p := p) h.2.2.1 hk
    rw [e]
    rcases Nat.lt_trichotomy p k with z | z | z
    · rw [va_up_ne _ _ (by omega), g1 p z, hg.1 z, hs p (by omega)]
    · rw [hg.2.1 z, z, va_up_self]
    · rw [va_up_ne _ _ (by omega), g2 p z (by omega), hg.2.2 z (by omega), hs (p - 1) (by omega)]
theorem rk_tRk {R : Nat → Nat → Nat} {I : Nat → Nat → Int32} {L : Nat → Nat → Int64} {g n : Nat} (hn : n ≤ 12) : ∃ xs, rk_ok (L (R (R g 3) 0)) n xs ∧ ∀ k, k < 12 → tRk R I L g n k = xs[k]? := by
  obtain ⟨xs, h, hs⟩ := rk_all (R := R) (I := I) (L := L) (g := g) hn
  refine ⟨xs, h, fun k hk => ?_⟩
  unfold tRk
  by_cases c : k < n
  · have hx : xs.getD k 0 < n := by
      rw [mo_getD (by rw [h.2.2.1]; omega)]
      exact (h.2.1 _).mp (List.getElem_mem _)
    rw [hs k c, if_neg (mo_nIm rfl (by omega)), nI_clamp (by omega), mo_getD (by rw [h.2.2.1]; omega)]
    exact (List.getElem?_eq_getElem _).symm
  · rw [(rank_all hn k).2 (by omega) hk, if_pos rfl, List.getElem?_eq_none (by rw [h.2.2.1]; omega)]
def mq_rpc (c : Int) (x : Int64) : Option Int → Prop
  | none => x = -4611686018427387904
  | some v => x.toInt = v ∧ -c ≤ v ∧ v ≤ c
theorem most_loop {R : Nat → Nat → Nat} {L : Nat → Nat → Int64} {g mz f S B : Nat} {rk : Nat → Option Nat} {xs : List Nat} {W : Nat → Int64} (hrk : ∀ k, k < 12 → rk k = xs[k]?) (hxs : ∀ v, v ∈ xs → L (R (R g 3) 0) v = W v ∧ -1099511627776 ≤ (W v).toInt ∧ (W v).toInt ≤ 1099511627776) (hz : mz ≤ 8) : ∀ m i t s, i + m = 12 → t ≤ mz - f → (-((t : Int) * 1099511627776) ≤ s.toInt ∧ s.toInt ≤ (t : Int) * 1099511627776) → ∃ t' s', (mo_lp (b_mostB_35 R L g rk mz f S B) m i (t, s) = .inl (t', s') ∨ mo_lp (b_mostB_35 R L g rk mz f S B) m i (t, s) = .inr (t', s')) ∧ t' = t + min (mz - f - t) (((xs.take 12).drop i).filter (fun n => (mo_dif S B).testBit n)).length ∧ s'.toInt = s.toInt + (((((xs.take 12).drop i).filter (fun n => (mo_dif S B).testBit n)).take (mz - f - t)).map (fun n => (W n).toInt)).sum ∧ (-((t' : Int) * 1099511627776) ≤ s'.toInt ∧ s'.toInt ≤ (t' : Int) * 1099511627776) := by
  intro m
  induction m with
  | zero =>
    intro i t s hi ht hb
    refine ⟨t, s, Or.inl rfl, ?_, ?_, hb⟩
    · rw [List.drop_eq_nil_of_le (by rw [List.length_take]; omega)]
      simp
    · rw [List.drop_eq_nil_of_le (by rw [List.length_take]; omega)]
      simp
  | succ m ih =>
    intro i t s hi ht hb
    by_cases c0 : mz - f ≤ t
    · refine ⟨t, s, Or.inr (mo_lp_inrS (by unfold b_mostB_35; rw [if_pos c0])), ?_, ?_, hb⟩
      · rw [show mz - f - t = 0 by omega]; simp
      · rw [show mz - f - t = 0 by omega]; simp
    · have hr := hrk i (by omega)
      cases e : xs[i]? with
      | none =>
        rw [e] at hr
        have hlen := List.getElem?_eq_none_iff.mp e
        have hnil : ∀ j, i ≤ j → (xs.take 12).drop j = [] := fun j hj => List.drop_eq_nil_of_le (by rw [List.length_take]; omega)
        obtain ⟨t', s', h1, h2, h3, h4⟩ := ih (i + 1) t s (by omega) ht hb
        refine ⟨t', s', ?_, ?_, ?_, h4⟩
        · rw [mo_lp_inlS (s' := (t, s)) (by unfold b_mostB_35; rw [if_neg c0, hr]; rfl)]; exact h1
        · rw [hnil i (Nat.le_refl _)]; rw [hnil (i + 1) (by omega)] at h2; exact h2
        · rw [hnil i (Nat.le_refl _)]; rw [hnil (i + 1) (by omega)] at h3; exact h3
      | some v =>
        rw [e] at hr
        obtain ⟨hil, hie⟩ := List.getElem?_eq_some_iff.mp e
        have hvx : v ∈ xs := by rw [← hie]; exact List.getElem_mem hil
        obtain ⟨hw1, hw2⟩ := hxs v hvx
        have hcons : (xs.take 12).drop i = v :: (xs.take 12).drop (i + 1) := by
          rw [List.drop_eq_getElem_cons (by rw [List.length_take]; omega), List.getElem_take, hie]
        by_cases c1 : (mo_dif S B).testBit v = true
        · have hs2 := mo_bd (x := s) (y := W v) (c := (t : Int) * 1099511627776) (b := 1099511627776) (by omega) hb (by decide) hw2
          have hadd : (s + W v).toInt = s.toInt + (W v).toInt := mq_add (c := (t : Int) * 1099511627776) (by omega) hb hw2
          obtain ⟨t', s', h1, h2, h3, h4⟩ := ih (i + 1) (t + 1) (s + W v) (by omega) (by omega) (by omega)
          refine ⟨t', s', ?_, ?_, ?_, h4⟩
          · rw [mo_lp_inlS (s' := (t + 1, s + W v)) (by
              unfold b_mostB_35
              rw [if_neg c0, hr]
              show (if (mo_dif S B).testBit v = true then _ else _) = _
              rw [if_pos c1, hw1])]
            exact h1
          · rw [hcons, List.filter_cons_of_pos (p := fun n => (mo_dif S B).testBit n) c1, List.length_cons, h2]; omega
          · rw [hcons, List.filter_cons_of_pos (p := fun n => (mo_dif S B).testBit n) c1, show mz - f - t = (mz - f - (t + 1)) + 1 by omega, List.take_succ_cons, List.map_cons, List.sum_cons, h3, hadd]; omega
        · obtain ⟨t', s', h1, h2, h3, h4⟩ := ih (i + 1) t s (by omega) ht hb
          refine ⟨t', s', ?_, ?_, ?_, h4⟩
          · rw [mo_lp_inlS (s' := (t, s)) (by
              unfold b_mostB_35
              rw [if_neg c0, hr]
              show (if (mo_dif S B).testBit v = true then _ else _) = _
              rw [if_neg c1])]
            exact h1
          · rw [hcons, List.filter_cons_of_neg (p := fun n => (mo_dif S B).testBit n) c1]; exact h2
          · rw [hcons, List.filter_cons_of_neg (p := fun n => (mo_dif S B).testBit n) c1]; exact h3
theorem mostB_rep {R : Nat → Nat → Nat} {L : Nat → Nat → Int64} {g mz f S B : Nat} {rk : Nat → Option Nat} {xs : List Nat} {W : Nat → Int64} (hl : xs.length ≤ 12) (hrk : ∀ k, k < 12 → rk k = xs[k]?) (hxs : ∀ v, v ∈ xs → L (R (R g 3) 0) v = W v ∧ -1099511627776 ≤ (W v).toInt ∧ (W v).toInt ≤ 1099511627776) (hz : mz ≤ 8) : mq_rpc (((mz - f : Nat) : Int) * 1099511627776) (o_mostB R L g rk mz f S B) (mq_tk (fun n => (W n).toInt) (mz - f) (xs.filter (fun n => (mo_dif S B).testBit n))) := by
  obtain ⟨t', s', h1, h2, h3, h4⟩ := most_loop (B := B) (S := S) (f := f) hrk hxs hz 12 0 0 0 (by decide) (Nat.zero_le _) ⟨by decide, by decide⟩
  have ht : xs.take 12 = xs := List.take_of_length_le hl
  rw [List.drop_zero, ht] at h2 h3
  rw [Nat.sub_zero] at h2 h3
  have e : o_mostB R L g rk mz f S B = if t' = mz - f then s' else -4611686018427387904 := by
    unfold o_mostB w_mostB_35
    rcases h1 with h1 | h1
    · rw [h1]; rfl
    · rw [h1]; rfl
  rw [e]
  unfold mq_tk
  by_cases c : mz - f ≤ (xs.filter (fun n => (mo_dif S B).testBit n)).length
  · have ht2 : t' = mz - f := by omega
    rw [if_pos c, if_pos ht2]
    rw [ht2] at h4
    have h3 : s'.toInt = (((xs.filter (fun n => (mo_dif S B).testBit n)).take (mz - f)).map (fun n => (W n).toInt)).sum := by
      rw [h3]
      show (0 : Int64).toInt + _ = _
      rw [show (0 : Int64).toInt = 0 by decide, Int.zero_add]
    exact ⟨h3, by rw [← h3]; exact h4.1, by rw [← h3]; exact h4.2⟩
  · rw [if_neg c, if_neg (by omega)]
    rfl
theorem most_rep {R : Nat → Nat → Nat} {L : Nat → Nat → Int64} {g mz f S : Nat} {rk : Nat → Option Nat} {ow : Nat → Nat} {xs : List Nat} {W : Nat → Int64} (hl : xs.length ≤ 12) (hrk : ∀ k, k < 12 → rk k = xs[k]?) (hxs : ∀ v, v ∈ xs → L (R (R g 3) 0) v = W v ∧ -1099511627776 ≤ (W v).toInt ∧ (W v).toInt ≤ 1099511627776) (hz : mz ≤ 8) : mq_rpc (((mz - f : Nat) : Int) * 1099511627776) (o_Market_most R L g rk ow mz f S) (mq_t (fun n => (W n).toInt) ((List.range' f (mz - f)).map ow) (xs.filter (fun n => S.testBit n))) := by
  unfold o_Market_most
  have hd0 : (fun n => (mo_dif S 0).testBit n) = (fun n => S.testBit n) := funext (fun n => by rw [mo_dif_bit, Nat.zero_testBit, Bool.not_false, Bool.and_true])
  by_cases c : mz - f = 1
  · rw [if_pos c]
    have h := mostB_rep (f := f) (S := S) (B := 2 ^ ow f) (W := W) hl hrk hxs hz
    rw [c] at h ⊢
    show mq_rpc _ _ (mq_tk _ 1 ((xs.filter (fun n => S.testBit n)).filter (fun n => !decide (n = ow f))))
    rw [List.filter_filter, show (fun n => (!decide (n = ow f)) && S.testBit n) = (fun n => (mo_dif S (2 ^ ow f)).testBit n) from funext (fun n => by
      rw [mo_dif_bit, Nat.testBit_two_pow, Bool.and_comm, show decide (n = ow f) = decide (ow f = n) from decide_eq_decide.mpr ⟨Eq.symm, Eq.symm⟩])]
    exact h
  · rw [if_neg c]
    have h := mostB_rep (f := f) (S := S) (B := 0) (W := W) hl hrk hxs hz
    rw [hd0] at h
    cases e : mz - f with
    | zero =>
      rw [e] at h
      exact h
    | succ k =>
      cases k with
      | zero => exact absurd e c
      | succ k =>
        rw [e] at h
        rw [List.range'_succ, List.range'_succ, List.map_cons, List.map_cons]
        show mq_rpc _ _ (mq_tk _ (((List.range' (f + 1 + 1) k).map ow).length + 2) _)
        rw [List.length_map, List.length_range']
        exact h
