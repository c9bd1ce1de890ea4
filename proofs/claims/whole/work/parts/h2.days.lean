/-! Days and names given: both change alike. -/
theorem same_c {T T' : mo_Tn} (h0 : T'.1 0 = T.1 0) (h3 : T'.2.2.1 = T.2.2.1) : w_Model_count_71 T' = w_Model_count_71 T := by
  obtain ⟨c, n, i, g⟩ := T
  obtain ⟨c', n', i', g'⟩ := T'
  have h3 : i' = i := h3
  subst h3
  have h0 : c' 0 = c 0 := h0
  show mo_it (b_Model_count_71 (c', n', i', g')) (c' 0) 0 0 = mo_it (b_Model_count_71 (c, n, i', g)) (c 0) 0 0
  rw [h0]
  rfl
theorem wTn_same {I J : Nat → Nat → Int32} {R : Nat → Nat → Nat} {t : Nat} {ρ ρ' : Nat → Int32} {ν : Nat → Int64} {T T' : mo_Tn} (h : wTn I R t ρ ν T) (hc : mo_ct J R t T') (hn : mo_now ρ' T') (hf : mo_fT T') (h1 : ∀ k, k ≠ 5 → T'.1 k = T.1 k) (h2 : T'.2.1 = T.2.1) (h3 : T'.2.2.1 = T.2.2.1) (j7 : J (R t 0) 7 = I (R t 0) 7) (j3 : J (R (R t 0) 3) = I (R (R t 0) 3)) : wTn J R t ρ' ν T' := by
  obtain ⟨_, _, _, g4, g5, g6, g7, g8⟩ := h
  have a0 : tMen T' = tMen T := h1 0 (by decide)
  have a1 : tNames T' = tNames T := h1 1 (by decide)
  have a3 : tBrs T' = tBrs T := h1 3 (by decide)
  have a6 : tSts T' = tSts T := h1 6 (by decide)
  have f0 : ∀ m, tFoes T' m = tFoes T m := fun m => by unfold tFoes; rw [h3]
  have f1 : ∀ m, tGa T' m = tGa T m := fun m => by unfold tGa; rw [h3]
  have f2 : ∀ m, tSs T' m = tSs T m := fun m => by unfold tSs; rw [h3]
  refine ⟨hc, hn, hf, fun m hm => ?_, fun k hk => ?_, fun k hk => ?_, ?_, ?_⟩
  · rw [a0] at hm
    have := g4 m hm
    unfold tFo at this ⊢
    rw [f0]; exact this
  · rw [a3] at hk; rw [f1]; exact g5 k hk
  · rw [a6] at hk; rw [f2]; exact g6 k hk
  · rw [j7, same_c (h1 0 (by decide)) h3]; exact g7
  · rw [j3, a1]; exact g8
section F
variable {s : Bool} {I J : Nat → Nat → Int32} {L M : Nat → Nat → Int64} {T T' : mo_Tn} {xs xs' : List Nat}
theorem w_t0 (s : Bool) : wR s (wT s) 0 = wT s + 1 := by cases s <;> decide +kernel
theorem w_t1 (s : Bool) : wR s (wR s (wT s) 1) 4 = wT s + 12 := by cases s <;> decide +kernel
theorem w_t3 (s : Bool) : wR s (wR s (wT s) 0) 3 = wT s + 5 := by cases s <;> decide +kernel
theorem wT_b (s : Bool) : wT s = 76 ∨ wT s = 101 := by cases s <;> decide
/-- the town is changed within what both tell -/
theorem wInv_same (hI : wInv s I L T xs) (hF : FR (wP s (eT s)) I J) (hc : mo_ct J (wR s) (wT s) T') (hn : mo_now (J 128) T') (hf : mo_fT T') (h1 : ∀ k, k ≠ 5 → T'.1 k = T.1 k) (h2 : T'.2.1 = T.2.1) (h3 : T'.2.2.1 = T.2.2.1) (j7 : J (wT s + 1) 7 = I (wT s + 1) 7) (j3 : J (wT s + 5) = I (wT s + 5)) : wInv s J L T' xs :=
  wInv_town hI hF rfl (wTn_same hI.1 hc hn hf h1 h2 h3 (by rw [w_t0]; exact j7) (by rw [w_t3]; exact j3))
theorem P_dawn (l : Launch) (hI : wInv s I L T xs) : wPair l mm_Gate_dawn 0 [.ref 1] mm_Model_dawn 1 [.ref 126] s I L := by
  have e14 : wR s 126 14 = 128 := w_V s (126, 14, 128) (by decide)
  have hb := wT_b s
  by_cases c : tTd T + 1 < 30
  · have e1 : (o_Gate_dawn I (wT s) T).2 = mo_up I (wT s) 5 (nI (tTd T + 1)) := by unfold o_Gate_dawn; rw [if_pos c]
    have e2 : ∀ J, (o_Model_dawn (wR s) J 126 T).2 = mo_up (mo_up J 126 0 0) 128 552 (nI (tTd T + 1)) := fun J => by unfold o_Model_dawn; rw [if_neg (by omega), e14]
    refine wPair_D (T := tDay T (tTd T + 1)) (xs := xs) (C_Gate_dawn l wK (wR s) I L 1 (wT s) T (w_gt s) (wC hI)) (C_Model_dawn l wK (wR s) _ L 126 T (w_md s) ?_) (congrArg Value.int (dawn_r (wv hI))) ?_
    · rw [e1, e14, mo_upR (by omega)]; exact hI.1.2.1
    · rw [e2, e1]
      refine wInv_same hI (FR.up (by cases s <;> rfl) (FR.up (by cases s <;> rfl) (FR.up (by cases s <;> rfl) FR.rf))) (ct_fr (ct_day (w_gt s) (wC hI) c) (fun x hx => ?_)) ?_ (day_f (wF hI) (fun d' m' hd hm hz => by have := ((wF hI).2.1 d' m' hd hm hz).1; omega)) (fun k hk => if_neg hk) rfl rfl ?_ ?_
      · have := w_tA s (wT s) (wT_in s) x hx
        rw [mo_upR (by omega), mo_upR (by omega)]
      · rw [up_va, mo_upR (by omega), mo_upR (by omega)]
        exact now_day hI.1.2.1 c
      · rw [mo_upR (by omega), mo_upR (by omega), mo_upR (by omega)]
      · rw [mo_upR (by omega), mo_upR (by omega), mo_upR (by omega)]
  · have hd := vT_tTd (wv hI)
    have e1 : (o_Gate_dawn I (wT s) T).2 = I := by unfold o_Gate_dawn; rw [if_neg c]
    have e2 : ∀ J, (o_Model_dawn (wR s) J 126 T).2 = mo_up J 126 0 0 := fun J => by unfold o_Model_dawn; rw [if_pos (by omega)]
    refine wPair_D (T := T) (xs := xs) (C_Gate_dawn l wK (wR s) I L 1 (wT s) T (w_gt s) (wC hI)) (C_Model_dawn l wK (wR s) _ L 126 T (w_md s) ?_) (congrArg Value.int (dawn_r (wv hI))) ?_
    · rw [e1]; exact wN hI
    · rw [e2, e1]
      exact wInv_fr hI (FR.up (by cases s <;> rfl) FR.rf) FL.rf
theorem P_drawn (l : Launch) (hI : wInv s I L T xs) (x : Int32) : wPair l mm_Gate_drawn 6 [.ref 1, .int x] mm_Model_drawn 4 [.ref 126, .int x] s I L := by
  have e14 : wR s 126 14 = 128 := w_V s (126, 14, 128) (by decide)
  have e22 : wR s 126 22 = 136 := w_V s (126, 22, 136) (by decide)
  have e8 : wR s 1 8 = 73 := w_V s (1, 8, 73) (by decide)
  have hb := wT_b s
  refine ⟨_, C_Gate_drawn l wK (wR s) I L 1 (wT s) T x (w_gt s) (wC hI) (wF hI), fun r1 K1 R1 I1 L1 x1 h => ?_⟩
  obtain ⟨J, h, rfl, h2, h3, h4⟩ := h
  cases h
  rw [e8, w_t1] at h4
  have j128 : I1 128 = I 128 := h4 128 (by omega) (by omega)
  refine ⟨_, s, rfl, ⟨_, rfl⟩, rfl, rfl, rfl, _, C_Model_drawn l wK (wR s) I1 L 126 T x (w_md s) (by rw [e14, j128]; exact hI.1.2.1), fun r2 K2 R2 I2 L2 x2 h => ?_⟩
  obtain ⟨J2, h, rfl, g2, g3, g4⟩ := h
  cases h
  rw [e14] at g2
  rw [e14, e22] at g3
  obtain ⟨d1, d2, d3⟩ := dRun_same (tLine T (nI (tTd T))) (tLine T (nI (tTd T))).length 0 (x, 0, T)
  have fr : FR (wP s (eT s)) I I2 := fun q k hq => by
    by_cases c1 : q = 126
    · subst c1
      rw [g4 k (fun z => by rw [z] at hq; cases s <;> cases hq) (fun z => by rw [z] at hq; cases s <;> cases hq) (fun z => by rw [z] at hq; cases s <;> cases hq), h4 126 (by omega) (by omega)]
    · rw [g3 q c1 (fun z => by rw [z] at hq; cases s <;> cases hq) (fun z => by rw [z] at hq; cases s <;> cases hq), h4 q (fun z => by rw [z] at hq; cases s <;> cases hq) (fun z => by rw [z] at hq; cases s <;> cases hq)]
  refine ⟨rfl, rfl, rfl, rfl, _, xs, wInv_same hI fr (ct_fr h2 (fun y hy => ?_)) g2 h3 (fun k _ => congrFun d1 k) d2 d3 ?_ ?_⟩
  · have := w_tA s (wT s) (wT_in s) y hy
    exact g3 y (by omega) (by omega) (by omega)
  · rw [g3 (wT s + 1) (by omega) (by omega) (by omega), h4 (wT s + 1) (by omega) (by omega)]
  · rw [g3 (wT s + 5) (by omega) (by omega) (by omega), h4 (wT s + 5) (by omega) (by omega)]
end F
