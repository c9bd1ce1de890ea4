/-! Image and restore, both. -/
section F
variable {s : Bool} {I J : Nat → Nat → Int32} {L M : Nat → Nat → Int64} {T T' : mo_Tn} {xs xs' : List Nat} {e : Nat → Nat → Bool}
/-- told by a row and names that are alike as far as they are read -/
theorem wTn_row {R : Nat → Nat → Nat} {t : Nat} {ρ ρ' : Nat → Int32} {ν ν' : Nat → Int64} (h : wTn I R t ρ ν T) (hx : ∀ x ∈ mo_tA R t, J x = I x) (hρ : ∀ i, i < 842 → ρ' i = ρ i) (hν : ∀ i, i < 12 → ν' i = ν i) : wTn J R t ρ' ν' T := by
  have hn := wTn_fr h hx (ρ' := ρ) (ν' := ν) rfl rfl
  have hc := vT_tNames hn.2.1.1
  refine ⟨hn.1, now_fr hn.2.1 hρ, hn.2.2.1, hn.2.2.2.1, hn.2.2.2.2.1, hn.2.2.2.2.2.1, hn.2.2.2.2.2.2.1, fun c hc2 => ?_⟩
  rw [hν c (by omega)]
  exact hn.2.2.2.2.2.2.2 c hc2
theorem wTb (s : Bool) {v : Nat} (hv : v < 2) : 6 + 25 * v ∈ [6, 31, 76, 101] ∧ 6 + 25 * v + 25 ≤ wT s := by
  rcases (show v = 0 ∨ v = 1 by omega) with rfl | rfl <;> cases s <;> decide
theorem eT_128 (s : Bool) (k : Nat) : wP s (eT s) 128 k = true := by cases s <;> rfl
theorem eT_126 (s : Bool) : wP s (eT s) 126 0 = true := by cases s <;> rfl
theorem P_restore (l : Launch) (hI : wInv s I L T xs) (p : Int32) : wPair l mm_Gate_restore 3 [.ref 1, .int p] mm_Model_restore 1 [.ref 126, .int p] s I L := by
  have c1 := C_Gate_restore l wK (wR s) I L 1 (wT s) p w_kd0 (w_kd1 s) (w_tb1 s) (w_kT s (wT s) (wT_in s)) (w_11 s) (by rw [show wR s 1 2 = 5 from w_V s (1, 2, 5) (by decide)]; decide +kernel) (fun k hk => by rw [w_k2 s hk]; exact w_kT s _ (wTb s hk).1)
  have e21 : wR s 126 21 = 135 := w_V s (126, 21, 135) (by decide)
  have hb := wT_b s
  have plain : ∀ r : Int32, o_Gate_restore (wR s) I 1 (wT s) p = (r, I) → o_Model_restore (wR s) I L 126 p = (r, mo_up I 126 0 0, L) → wPair l mm_Gate_restore 3 [.ref 1, .int p] mm_Model_restore 1 [.ref 126, .int p] s I L := fun r g1 g2 => by
    rw [g1] at c1
    have c2 := C_Model_restore l wK (wR s) I L 126 p (w_md s)
    rw [g2] at c2
    exact wPair_D (T := T) (xs := xs) c1 c2 rfl (wInv_fr hI (FR.up (by cases s <;> rfl) FR.rf) FL.rf)
  cases e1 : tN p with
  | none =>
    refine plain 0 ?_ ?_
    · unfold o_Gate_restore; rw [e1]; rfl
    · unfold o_Model_restore; rw [tN_Bn e1]; rfl
  | some v =>
    have e2 := tN_B e1
    by_cases c : v < 2
    · rw [if_pos c] at e2
      have hk : wKp I L s v := by
        rcases (show v = 0 ∨ v = 1 by omega) with rfl | rfl
        · exact hI.2.2.2.2.1
        · exact hI.2.2.2.2.2
      by_cases cz : I 135 v = 0
      · refine plain 0 ?_ ?_
        · unfold o_Gate_restore
          rw [e1]
          show (if 2 ≤ v then ((0 : Int32), I) else _) = _
          rw [if_neg (by omega), if_pos (hk.1.mpr cz)]
        · unfold o_Model_restore
          rw [e2, e21]
          show (if I 135 v = 0 then ((0 : Int32), mo_up I 126 0 0, L) else _) = _
          rw [if_pos cz]
      · obtain ⟨Tk, hT⟩ := hk.2 cz
        obtain ⟨b1, b2⟩ := wTb s c
        have g1 : o_Gate_restore (wR s) I 1 (wT s) p = (1, cpN I (wT s) (6 + 25 * v)) := by
          unfold o_Gate_restore
          rw [e1]
          show (if 2 ≤ v then ((0 : Int32), I) else _) = _
          rw [if_neg (by omega), if_neg (fun z => cz (hk.1.mp z)), w_k2 s c, cp_N s (wT_in s) b1 (by omega)]
        have g2 : o_Model_restore (wR s) (cpN I (wT s) (6 + 25 * v)) L 126 p = (1, mo_fi (mo_up (cpN I (wT s) (6 + 25 * v)) 126 0 0) 128 0 842 (fun i => cpN I (wT s) (6 + 25 * v) 131 (842 * v + i)), mo_fi L 132 0 12 (fun i => L 134 (12 * v + i))) := by
          unfold o_Model_restore
          rw [e2, e21]
          show (if cpN I (wT s) (6 + 25 * v) 135 v = 0 then ((0 : Int32), mo_up (cpN I (wT s) (6 + 25 * v)) 126 0 0, L) else _) = _
          rw [cpN_o (by omega), if_neg cz, rst27, rst60]
        rw [g1] at c1
        have c2 := C_Model_restore l wK (wR s) (cpN I (wT s) (6 + 25 * v)) L 126 p (w_md s)
        rw [g2] at c2
        have c3 : mo_D l mm_Model_restore 1 [.ref 126, .int p] (wK, wR s, cpN I (wT s) (6 + 25 * v), L, 0) (some (.int 1)) (wK, wR s, mo_fi (mo_up (cpN I (wT s) (6 + 25 * v)) 126 0 0) 128 0 842 (fun i => cpN I (wT s) (6 + 25 * v) 131 (842 * v + i)), mo_fi L 132 0 12 (fun i => L 134 (12 * v + i)), 0) := c2
        clear c2
        refine wPair_D (T := Tk) (xs := xs) c1 c3 rfl (wInv_town hI ?_ (by rw [mo_fiR (by decide)]) ?_)
        · refine FR.fi (eT_128 s) (FR.up (eT_126 s) (fun q k hq => ?_))
          rw [cpN_o ?_]
          by_cases cq : q < wT s ∨ wT s + 25 ≤ q
          · exact cq
          · exfalso
            have : wP s (eT s) q k = true := by
              unfold wP eT
              rw [decide_eq_true (show wT s ≤ q ∧ q < wT s + 25 by omega)]
              cases wS s q k <;> rfl
            rw [this] at hq; cases hq
        · refine wTn_row (wTn_cp (wT_in s) b1 (by omega) hT) (fun x hx => ?_) (fun i hi => ?_) (fun i hi => ?_)
          · have := w_tA s (wT s) (wT_in s) x hx
            rw [mo_fiR (by omega), mo_upR (by omega)]
          · show (if 128 = 128 ∧ 0 ≤ i ∧ i < 0 + 842 then cpN I (wT s) (6 + 25 * v) 131 (842 * v + (i - 0)) else _) = _
            rw [if_pos ⟨rfl, Nat.zero_le _, by omega⟩, cpN_o (by omega)]
            rfl
          · show (if 132 = 132 ∧ 0 ≤ i ∧ i < 0 + 12 then L 134 (12 * v + (i - 0)) else _) = _
            rw [if_pos ⟨rfl, Nat.zero_le _, by omega⟩]
            rfl
    · rw [if_neg c] at e2
      refine plain 0 ?_ ?_
      · unfold o_Gate_restore
        rw [e1]
        show (if 2 ≤ v then ((0 : Int32), I) else _) = _
        rw [if_pos (by omega)]
      · unfold o_Model_restore; rw [e2]; rfl
def eI (v q k : Nat) : Bool := decide (6 + 25 * v ≤ q ∧ q < 31 + 25 * v) || (q == 1 && k == 13 || (q == 131 && decide (842 * v ≤ k ∧ k < 842 * v + 842) || q == 135 && k == v))
theorem eI_f {v q k : Nat} (h1 : ¬ (6 + 25 * v ≤ q ∧ q < 31 + 25 * v)) (h2 : ¬ (q = 1 ∧ k = 13)) (h3 : ¬ (q = 131 ∧ 842 * v ≤ k ∧ k < 842 * v + 842)) (h4 : ¬ (q = 135 ∧ k = v)) : eI v q k = false := by
  unfold eI
  rw [decide_eq_false h1]
  have a2 : (q == 1 && k == 13) = false := by
    rw [Bool.and_eq_false_iff]
    by_cases c : q = 1
    · exact Or.inr (bq (fun z => h2 ⟨c, z⟩))
    · exact Or.inl (bq c)
  have a3 : (q == 131 && decide (842 * v ≤ k ∧ k < 842 * v + 842)) = false := by
    rw [Bool.and_eq_false_iff]
    by_cases c : q = 131
    · exact Or.inr (decide_eq_false (fun z => h3 ⟨c, z⟩))
    · exact Or.inl (bq c)
  have a4 : (q == 135 && k == v) = false := by
    rw [Bool.and_eq_false_iff]
    by_cases c : q = 135
    · exact Or.inr (bq (fun z => h4 ⟨c, z⟩))
    · exact Or.inl (bq c)
  rw [a2, a3, a4]
  rfl
theorem P_image (l : Launch) (hI : wInv s I L T xs) (p : Int32) : wPair l mm_Gate_image 3 [.ref 1, .int p] mm_Model_image 1 [.ref 126, .int p] s I L := by
  have c1 := C_Gate_image l wK (wR s) I L 1 (wT s) p w_kd0 (w_kd1 s) (w_tb1 s) (w_kT s (wT s) (wT_in s)) (w_11 s) (by rw [show wR s 1 2 = 5 from w_V s (1, 2, 5) (by decide)]; decide +kernel) (fun k hk => by rw [w_k2 s hk]; exact w_kT s _ (wTb s hk).1)
  have e21 : wR s 126 21 = 135 := w_V s (126, 21, 135) (by decide)
  have hb := wT_b s
  have plain : o_Gate_image (wR s) I 1 (wT s) p = (0, I) → o_Model_image (wR s) I L 126 p = (0, mo_up I 126 0 0, L) → wPair l mm_Gate_image 3 [.ref 1, .int p] mm_Model_image 1 [.ref 126, .int p] s I L := fun g1 g2 => by
    rw [g1] at c1
    have c2 := C_Model_image l wK (wR s) I L 126 p (w_md s)
    rw [g2] at c2
    exact wPair_D (T := T) (xs := xs) c1 c2 rfl (wInv_fr hI (FR.up (by cases s <;> rfl) FR.rf) FL.rf)
  cases e1 : tN p with
  | none =>
    refine plain ?_ ?_
    · unfold o_Gate_image; rw [e1]; rfl
    · unfold o_Model_image; rw [tN_Bn e1]; rfl
  | some v =>
    have e2 := tN_B e1
    by_cases c : v < 2
    · rw [if_pos c] at e2
      obtain ⟨b1, b2⟩ := wTb s c
      have g1 : o_Gate_image (wR s) I 1 (wT s) p = (1, mo_up (cpN I (6 + 25 * v) (wT s)) 1 13 (I 1 13 ||| ((1 : Int32) <<< ((nI v) &&& 31)))) := by
        unfold o_Gate_image
        rw [e1]
        show (if v < 2 then _ else ((0 : Int32), I)) = _
        rw [if_pos c, w_k2 s c, cp_N s b1 (wT_in s) (by omega), show cpN I (6 + 25 * v) (wT s) 1 = I 1 from cpN_o (by omega)]
      rw [g1] at c1
      have c2 := C_Model_image l wK (wR s) (mo_up (cpN I (6 + 25 * v) (wT s)) 1 13 (I 1 13 ||| ((1 : Int32) <<< ((nI v) &&& 31)))) L 126 p (w_md s)
      have g2 : ∀ H, o_Model_image (wR s) H L 126 p = (1, mo_up (mo_fi (mo_up H 126 0 0) 131 (842 * v) 842 (H 128)) 135 v 1, mo_fi L 134 (12 * v) 12 (L 132)) := fun H => by
        unfold o_Model_image
        rw [e2, e21]
        show ((1 : Int32), mo_up (w_Model_image_18 (wR s) H 126 v) 135 v (vp_nar .boolean 1), w_Model_image_51 (wR s) L 126 v) = _
        rw [img18, img51]
        rfl
      rw [g2] at c2
      refine wPair_D (T := T) (xs := xs) c1 c2 rfl ?_
      have h128 : mo_up (cpN I (6 + 25 * v) (wT s)) 1 13 (I 1 13 ||| ((1 : Int32) <<< ((nI v) &&& 31))) 128 = I 128 := by rw [mo_upR (by decide), cpN_o (by omega)]
      rw [h128]
      have hF : FR (wP s (eI v)) I (mo_up (mo_fi (mo_up (mo_up (cpN I (6 + 25 * v) (wT s)) 1 13 (I 1 13 ||| ((1 : Int32) <<< ((nI v) &&& 31)))) 126 0 0) 131 (842 * v) 842 (I 128)) 135 v 1) := fun q k hq => by
        have hq2 : wS s q k = false ∧ eI v q k = false := by
          unfold wP at hq
          exact Bool.or_eq_false_iff.mp hq
        obtain ⟨z1, z2⟩ := hq2
        unfold eI at z2
        obtain ⟨y1, z2⟩ := Bool.or_eq_false_iff.mp z2
        obtain ⟨y2, z2⟩ := Bool.or_eq_false_iff.mp z2
        obtain ⟨y3, y4⟩ := Bool.or_eq_false_iff.mp z2
        have y1 := of_decide_eq_false y1
        show (if q = 135 ∧ k = v then (1 : Int32) else if q = 131 ∧ 842 * v ≤ k ∧ k < 842 * v + 842 then I 128 (k - 842 * v) else if q = 126 ∧ k = 0 then 0 else if q = 1 ∧ k = 13 then _ else cpN I (6 + 25 * v) (wT s) q k) = I q k
        rw [if_neg (fun z => by rw [z.1, z.2] at y4; simp at y4), if_neg (fun z => by rw [z.1, decide_eq_true z.2] at y3; cases y3), if_neg (fun z => by rw [z.1, z.2] at z1; cases s <;> cases z1), if_neg (fun z => by rw [z.1, z.2] at y2; cases y2), cpN_o (by omega)]
      generalize hJ : mo_up (mo_fi (mo_up (mo_up (cpN I (6 + 25 * v) (wT s)) 1 13 (I 1 13 ||| ((1 : Int32) <<< ((nI v) &&& 31)))) 126 0 0) 131 (842 * v) 842 (I 128)) 135 v 1 = H at hF ⊢
      have j13 : H 1 13 = I 1 13 ||| ((1 : Int32) <<< ((nI v) &&& 31)) := by rw [← hJ, mo_upR (by decide), mo_fiR (by decide), mo_upR (by decide), mo_upA]
      have j135 : H 135 v = 1 := by rw [← hJ, mo_upA]
      have j131 : ∀ i, i < 842 → H 131 (842 * v + i) = I 128 i := fun i hi => by
        rw [← hJ, mo_upR (by decide)]
        show (if 131 = 131 ∧ 842 * v ≤ 842 * v + i ∧ 842 * v + i < 842 * v + 842 then I 128 (842 * v + i - 842 * v) else _) = _
        rw [if_pos ⟨rfl, by omega, by omega⟩, Nat.add_sub_cancel_left]
      have jt : ∀ x, 6 + 25 * v ≤ x ∧ x < 31 + 25 * v → H x = cpN I (6 + 25 * v) (wT s) x := fun x hx => by rw [← hJ, mo_upR (by omega), mo_fiR (by omega), mo_upR (by omega), mo_upR (by omega)]
      have hKv : wKp H (mo_fi L 134 (12 * v) 12 (L 132)) s v := by
        refine ⟨?_, fun _ => ⟨T, wTn_row (wTn_cp b1 (wT_in s) (by omega) hI.1) (fun x hx => jt x (by have := w_tA s _ b1 x hx; omega)) j131 (fun i hi => ?_)⟩⟩
        · rw [kb_get _ c, j13, kb_or _ c c, j135, decide_eq_true rfl, Bool.or_true]
          exact ⟨fun z => (by cases z), fun z => (by cases z)⟩
        · show (if 134 = 134 ∧ 12 * v ≤ 12 * v + i ∧ 12 * v + i < 12 * v + 12 then L 132 (12 * v + i - 12 * v) else _) = _
          rw [if_pos ⟨rfl, by omega, by omega⟩, Nat.add_sub_cancel_left]
      have hKo : ∀ k, k < 2 → k ≠ v → wKp I L s k → wKp H (mo_fi L 134 (12 * v) 12 (L 132)) s k := fun k hk hne h => by
        obtain ⟨d1, d2⟩ := wTb s hk
        have f135 : H 135 k = I 135 k := hF 135 k (wP_f (by cases s <;> rfl) (eI_f (by omega) (by omega) (by omega) (by omega)))
        refine ⟨?_, fun z => ?_⟩
        · rw [kb_get _ hk, j13, kb_or _ c hk, f135, decide_eq_false hne, Bool.or_false, ← kb_get _ hk]
          exact h.1
        · rw [f135] at z
          obtain ⟨Tk, hT⟩ := h.2 z
          refine ⟨Tk, wTn_row hT (fun x hx => ?_) (fun i hi => hF 131 _ (wP_f (by cases s <;> rfl) (eI_f (by omega) (by omega) (by omega) (by omega)))) (fun i hi => ?_)⟩
          · have := w_tA s _ d1 x hx
            funext j
            exact hF x j (wP_f (wS_t s (Or.inl (by omega)) j) (eI_f (by omega) (by omega) (by omega) (by omega)))
          · show (if 134 = 134 ∧ 12 * v ≤ 12 * k + i ∧ 12 * k + i < 12 * v + 12 then _ else L 134 (12 * k + i)) = _
            rw [if_neg (by omega)]
      refine ⟨cT_k hI hF (fun q k h => eI_f (by omega) (by omega) (by omega) (by omega)) (show mo_fi L 134 (12 * v) 12 (L 132) 132 = L 132 from mo_fiR (by decide)), cX_k hI hF (fun k => ⟨eI_f (by omega) (by omega) (by omega) (by omega), eI_f (by omega) (by omega) (by omega) (by omega)⟩) ⟨eI_f (by omega) (by omega) (by omega) (by omega), eI_f (by omega) (by omega) (by omega) (by omega)⟩, cF_k hI hF ⟨eI_f (by omega) (by omega) (by omega) (by omega), eI_f (by omega) (by omega) (by omega) (by omega)⟩, ⟨cM_k hI hF (fun k => ⟨eI_f (by omega) (by omega) (by omega) (by omega), eI_f (by omega) (by omega) (by omega) (by omega)⟩) (eI_f (by omega) (by omega) (by omega) (by omega)), cS_k hI hF (fun k => ⟨eI_f (by omega) (by omega) (by omega) (by omega), eI_f (by omega) (by omega) (by omega) (by omega)⟩) (eI_f (by omega) (by omega) (by omega) (by omega))⟩, ?_, ?_⟩
      · by_cases c0 : v = 0
        · rw [c0] at hKv ⊢; exact hKv
        · exact hKo 0 (by decide) (fun z => c0 z.symm) hI.2.2.2.2.1
      · by_cases c0 : v = 1
        · rw [c0] at hKv ⊢; exact hKv
        · exact hKo 1 (by decide) (fun z => c0 z.symm) hI.2.2.2.2.2
    · rw [if_neg c] at e2
      refine plain ?_ ?_
      · unfold o_Gate_image
        rw [e1]
        show (if v < 2 then _ else ((0 : Int32), I)) = _
        rw [if_neg c]
      · unfold o_Model_image; rw [e2]; rfl
end F
