/-! The reference's next token. -/
def mo_kk (k : Int32) : Int32 := if k = 0 then 1 else if k = 1 then 0 else if k = 2 then 2 else if k = 3 then 2 else if k = 4 then 3 else 4
/-- the reference's heap with this token -/
def rtI (xs : List Nat) (lim : Nat) (I : Nat → Nat → Int32) (a p : Nat) (u v : Int32) : Nat → Nat → Int32 := fun x y => if x = a then (if y = 5 then nI (tkN xs lim p) else if y = 6 then nI (tkP xs lim p) else if y = 7 then mo_kk (tkK xs lim p) else if y = 8 then u else if y = 9 then v else I x y) else I x y
/-- what the token's parts tell -/
def tkOK (xs : List Nat) (lim p : Nat) (u v : Int32) (w : Int64) : Prop := ((tkK xs lim p = 2 ∨ tkK xs lim p = 3) → tkWd (tkV xs lim p) w) ∧ (tkK xs lim p = 4 → u = tkV xs lim p) ∧ (tkK xs lim p = 5 → v = tkV xs lim p)
theorem rtI_of {xs : List Nat} {lim : Nat} {I H : Nat → Nat → Int32} {a p : Nat} {u v : Int32} (h5 : H a 5 = nI (tkN xs lim p)) (h6 : H a 6 = nI (tkP xs lim p)) (h7 : H a 7 = mo_kk (tkK xs lim p)) (h8 : H a 8 = u) (h9 : H a 9 = v) (hf : ∀ y, y ≠ 5 → y ≠ 6 → y ≠ 7 → y ≠ 8 → y ≠ 9 → H a y = I a y) (hq : ∀ x, x ≠ a → H x = I x) : H = rtI xs lim I a p u v := by
  funext x y
  unfold rtI
  by_cases hx : x = a
  · subst hx
    rw [if_pos rfl]
    by_cases c5 : y = 5
    · subst c5; rw [if_pos rfl, h5]
    · by_cases c6 : y = 6
      · subst c6; rw [if_neg c5, if_pos rfl, h6]
      · by_cases c7 : y = 7
        · subst c7; rw [if_neg c5, if_neg c6, if_pos rfl, h7]
        · by_cases c8 : y = 8
          · subst c8; rw [if_neg c5, if_neg c6, if_neg c7, if_pos rfl, h8]
          · by_cases c9 : y = 9
            · subst c9; rw [if_neg c5, if_neg c6, if_neg c7, if_neg c8, if_pos rfl, h9]
            · rw [if_neg c5, if_neg c6, if_neg c7, if_neg c8, if_neg c9, hf y c5 c6 c7 c8 c9]
  · rw [if_neg hx, hq x hx]
theorem tkR_none {xs : List Nat} {q : Nat} (hb : ∀ k, k < xs.length → xs.getD k 0 < 256) (hq : q < xs.length) (cl : ¬ (97 ≤ xs.getD q 0 ∧ xs.getD q 0 ≤ 122)) (cd : ¬ (48 ≤ xs.getD q 0 ∧ xs.getD q 0 ≤ 57)) : tkR xs q 0 = (0, 0, q, 0) := by
  obtain ⟨⟨s1, s2⟩, ⟨s3, s4⟩, _⟩ := mo_sxc (hb q hq)
  have e1 : b_Tape_takeRun_4 xs 0 (0, 0, q, 0) = .inr (0, 0, q, 0) := by
    unfold b_Tape_takeRun_4
    by_cases c1 : mo_sx (xs.getD q 0) < 97
    · rw [if_pos c1]
      by_cases c2 : mo_sx (xs.getD q 0) < 48
      · rw [if_pos c2]
      · rw [if_neg c2, if_pos (by rw [s4]; rw [s1] at c1; rw [s3] at c2; omega)]
    · rw [if_neg c1, if_pos (by rw [s2]; rw [s1] at c1; omega), if_neg (by rw [s3]; rw [s1] at c1; omega), if_pos (by rw [s4]; rw [s1] at c1; omega)]
  unfold tkR
  rw [show xs.length - q = (xs.length - q - 1) + 1 by omega, mo_lp_inrS e1]
  rfl
theorem tkS_m {xs : List Nat} {p : Nat} (hb : ∀ k, k < xs.length → xs.getD k 0 < 256) : Sum.elim (fun z => z) (fun z => z) (w_Model_go_0 xs p) = tkS xs p := by
  have hb2 : ∀ k, xs.getD k 0 < 256 := fun k => by
    by_cases c : k < xs.length
    · exact hb k c
    · rw [List.getD_eq_getElem?_getD, List.getElem?_eq_none (by omega)]; decide
  unfold tkS w_Model_go_0
  congr 1
  apply mo_lp_congr
  intro j _ _ t
  unfold b_Model_go_0
  obtain ⟨_, _, _, ⟨s1, s2⟩, _⟩ := mo_sxc (hb2 t)
  by_cases c1 : xs.getD t 0 = 32
  · rw [if_pos c1, if_pos (s1.mpr c1)]
  · rw [if_neg c1, if_neg (fun z => c1 (s1.mp z))]
    by_cases c2 : xs.getD t 0 = 10
    · rw [if_pos c2, if_pos (s2.mpr c2)]
    · rw [if_neg c2, if_neg (fun z => c2 (s2.mp z))]
theorem tkk_4 {r : Nat × Nat × Nat × Int32} (h : tkk r = 4) : r.1 = 0 ∧ r.2.1 ≤ 2 := by
  unfold tkk at h
  (repeat' split at h) <;> first | (exact absurd h (by decide)) | (constructor <;> omega)
theorem tkk_3 {r : Nat × Nat × Nat × Int32} (h : tkk r = 3) : r.2.1 = 0 ∧ r.1 ≤ 6 := by
  unfold tkk at h
  (repeat' split at h) <;> first | (exact absurd h (by decide)) | (constructor <;> omega)
def o_go2 (I : Nat → Nat → Int32) (L : Nat → Nat → Int64) (a : Nat) (xs : List Nat) (lim z0 : Nat) : (Nat → Nat → Int32) × (Nat → Nat → Int64) := (if xs.length ≤ lim then (if z0 < xs.length then ((o_gotok (mo_up (mo_up I a 5 (nI z0)) a 6 (nI z0)) L a xs z0).1, (o_gotok (mo_up (mo_up I a 5 (nI z0)) a 6 (nI z0)) L a xs z0).2) else (mo_up (mo_up (mo_up I a 5 (nI z0)) a 6 (nI z0)) a 7 0, L)) else (if z0 < lim then (if z0 < xs.length then ((o_gotok (mo_up (mo_up I a 5 (nI z0)) a 6 (nI z0)) L a xs z0).1, (o_gotok (mo_up (mo_up I a 5 (nI z0)) a 6 (nI z0)) L a xs z0).2) else (mo_up (mo_up (mo_up I a 5 (nI z0)) a 6 (nI z0)) a 7 0, L)) else (mo_up (mo_up (mo_up (mo_up I a 5 (nI z0)) a 6 (nI z0)) a 6 (nI lim)) a 7 1, L)))
theorem go_2 {I : Nat → Nat → Int32} {L : Nat → Nat → Int64} {a : Nat} {xs : List Nat} {lim p : Nat} (hb : ∀ k, k < xs.length → xs.getD k 0 < 256) : o_Model_go I L a xs lim p = o_go2 I L a xs lim (tkS xs p) := by
  rw [← tkS_m hb]
  unfold o_Model_go o_go2
  cases w_Model_go_0 xs p with
  | inl z => rfl
  | inr z => rfl
theorem mo_upN {α : Type} {H : Nat → Nat → α} {a f : Nat} : mo_up H a f (H a f) = H := mo_upS H a f
theorem go_E {I : Nat → Nat → Int32} {L : Nat → Nat → Int64} {a : Nat} {xs : List Nat} {lim p : Nat} (hb : ∀ k, k < xs.length → xs.getD k 0 < 256) (hp : p ≤ xs.length) : ∃ u v w, tkOK xs lim p u v w ∧ o_Model_go I L a xs lim p = (rtI xs lim I a p u v, mo_up L a 12 w) := by
  rw [go_2 hb]
  have hs := tkS_le hp
  by_cases cA : lim < xs.length ∧ lim ≤ tkS xs p
  · have k0 : tkK xs lim p = 0 := by unfold tkK; rw [if_pos cA]
    refine ⟨I a 8, I a 9, L a 12, ⟨fun z => by rw [k0] at z; exact absurd z (by decide), fun z => by rw [k0] at z; exact absurd z (by decide), fun z => by rw [k0] at z; exact absurd z (by decide)⟩, ?_⟩
    unfold o_go2
    rw [if_neg (by omega), if_neg (by omega), mo_upN]
    refine congrArg (fun z => (z, L)) (rtI_of ?_ ?_ ?_ ?_ ?_ ?_ ?_)
    · unfold tkN; rw [if_pos cA]; simp [mo_up]
    · unfold tkP; rw [if_pos cA]; simp [mo_up]
    · rw [k0]; simp [mo_up, mo_kk]
    · simp [mo_up]
    · simp [mo_up]
    · intro y h5 h6 h7 h8 h9; simp [mo_up, h5, h6, h7]
    · intro x hx; funext y; simp [mo_up, hx]
  · by_cases cB : xs.length ≤ tkS xs p
    · have k0 : tkK xs lim p = 1 := by unfold tkK; rw [if_neg cA, if_pos cB]
      refine ⟨I a 8, I a 9, L a 12, ⟨fun z => by rw [k0] at z; exact absurd z (by decide), fun z => by rw [k0] at z; exact absurd z (by decide), fun z => by rw [k0] at z; exact absurd z (by decide)⟩, ?_⟩
      have e : o_go2 I L a xs lim (tkS xs p) = (mo_up (mo_up (mo_up I a 5 (nI (tkS xs p))) a 6 (nI (tkS xs p))) a 7 0, L) := by
        unfold o_go2
        by_cases c1 : xs.length ≤ lim
        · rw [if_pos c1, if_neg (by omega)]
        · rw [if_neg c1, if_pos (by omega), if_neg (by omega)]
      rw [e, mo_upN]
      refine congrArg (fun z => (z, L)) (rtI_of ?_ ?_ ?_ ?_ ?_ ?_ ?_)
      · unfold tkN; rw [if_neg cA, if_pos cB]; simp [mo_up]
      · unfold tkP; rw [if_neg cA]; simp [mo_up]
      · rw [k0]; simp [mo_up, mo_kk]
      · simp [mo_up]
      · simp [mo_up]
      · intro y h5 h6 h7 h8 h9; simp [mo_up, h5, h6, h7]
      · intro x hx; funext y; simp [mo_up, hx]
    · have e : o_go2 I L a xs lim (tkS xs p) = o_gotok (mo_up (mo_up I a 5 (nI (tkS xs p))) a 6 (nI (tkS xs p))) L a xs (tkS xs p) := by
        unfold o_go2
        by_cases c1 : xs.length ≤ lim
        · rw [if_pos c1, if_pos (by omega)]
        · rw [if_neg c1, if_pos (by omega), if_pos (by omega)]
      rw [e]
      have hlt : tkS xs p < xs.length := by omega
      have hP : tkP xs lim p = tkS xs p := by unfold tkP; rw [if_neg cA]
      have hc := hb (tkS xs p) hlt
      by_cases cl : 97 ≤ xs.getD (tkS xs p) 0 ∧ xs.getD (tkS xs p) 0 ≤ 122
      · obtain ⟨lt', dg', v', u', w', good', r1, r2, ⟨_, r3⟩, r4, r5, r6⟩ := run_L (a := a) (L := L) (q := tkS xs p) hs.2 hb (xs.length - tkS xs p) 0 0 0 0 0 0 1 (by omega) rfl (Or.inl ⟨rfl, rfl⟩) (fun _ _ => ⟨0, rfl, rfl, by unfold mo_vw; decide, by decide⟩) (fun _ _ => rfl)
        have hlt' := (r3 (by omega)).1 cl
        simp only [Nat.add_zero] at r1 r2
        have hR : tkR xs (tkS xs p) 0 = (lt', dg', tkS xs p + (lt' + dg'), v') := r1
        have hne : ¬ (tkR xs (tkS xs p) 0).2.2.1 = tkS xs p := by rw [hR]; show ¬ tkS xs p + (lt' + dg') = tkS xs p; omega
        have hN : tkN xs lim p = tkS xs p + (lt' + dg') := by unfold tkN; rw [if_neg cA, if_neg cB, if_neg hne, hR]
        have hV : tkV xs lim p = v' := by unfold tkV; rw [if_neg cA, if_neg cB, if_neg hne, hR]
        have hK : tkK xs lim p = if tkk (lt', dg', tkS xs p + (lt' + dg'), v') = 3 then (if tkW v' = 0 then 3 else 2) else tkk (lt', dg', tkS xs p + (lt' + dg'), v') := by unfold tkK; rw [if_neg cA, if_neg cB, if_neg hne, hR]
        have hkk : tkk (lt', dg', tkS xs p + (lt' + dg'), v') = if dg' = 0 then (if 6 < lt' then 0 else 3) else 0 := by
          unfold tkk
          by_cases c0 : dg' = 0
          · simp only [c0, if_true]
            by_cases c6 : 6 < lt'
            · rw [if_pos c6, if_neg (by omega), if_pos c6]
            · rw [if_neg c6, if_neg c6]
          · simp only [c0, if_false]
            rw [if_neg (by omega)]
        have hT : o_gotok (mo_up (mo_up I a 5 (nI (tkS xs p))) a 6 (nI (tkS xs p))) L a xs (tkS xs p) = (mo_up (mo_up (mo_up (mo_up (mo_up I a 5 (nI (tkS xs p))) a 6 (nI (tkS xs p))) a 5 (nI (tkS xs p + (lt' + dg')))) a 8 u') a 7 (if dg' = 0 then (if 6 < lt' then 1 else 2) else 1), mo_up L a 12 w') := by
          unfold o_gotok
          rw [if_pos cl]
          show o_gorun _ L a xs (tkS xs p) = _
          unfold o_gorun w_gorun_197
          rw [if_pos cl, r2]
          show (if good' = 0 then _ else _) = _
          rcases r4 with ⟨g1, g2⟩ | ⟨g1, g2⟩
          · rw [g1, if_neg (by decide), if_pos g2]
            by_cases c6 : 6 < lt'
            · rw [if_neg (by show ¬ tkS xs p + (lt' + dg') - tkS xs p ≤ 6; omega), if_pos c6]
            · rw [if_pos (by show tkS xs p + (lt' + dg') - tkS xs p ≤ 6; omega), if_neg c6]
          · rw [g1, if_pos rfl, if_neg (by omega)]
        refine ⟨u', I a 9, w', ⟨fun z => ?_, fun z => ?_, fun z => ?_⟩, ?_⟩
        · rw [hV]
          have : tkk (lt', dg', tkS xs p + (lt' + dg'), v') = 3 := by
            by_cases c3 : tkk (lt', dg', tkS xs p + (lt' + dg'), v') = 3
            · exact c3
            · rw [hK, if_neg c3] at z
              exfalso
              rcases z with z | z
              · rw [hkk] at z
                (repeat' split at z) <;> exact absurd z (by decide)
              · exact c3 z
          have k3 := tkk_3 this
          exact tkWb_Wd (r5 k3.1 k3.2)
        · rw [hK, hkk] at z
          exfalso
          (repeat' split at z) <;> exact absurd z (by decide)
        · rw [hK, hkk] at z
          exfalso
          (repeat' split at z) <;> exact absurd z (by decide)
        · rw [hT]
          refine congrArg (fun z => (z, mo_up L a 12 w')) (rtI_of ?_ ?_ ?_ ?_ ?_ ?_ ?_)
          · rw [hN]; simp [mo_up]
          · rw [hP]; simp [mo_up]
          · rw [hK, hkk]
            simp only [mo_upA]
            unfold mo_kk
            by_cases c0 : dg' = 0
            · by_cases c6 : 6 < lt'
              · simp [c0, c6]
              · by_cases cw : tkW v' = 0 <;> simp [c0, c6, cw]
            · simp [c0]
          · simp [mo_up]
          · simp [mo_up]
          · intro y h5 h6 h7 h8 h9; simp [mo_up, h5, h6, h7, h8]
          · intro x hx; funext y; simp [mo_up, hx]
      · by_cases cd : 48 ≤ xs.getD (tkS xs p) 0 ∧ xs.getD (tkS xs p) 0 ≤ 57
        · obtain ⟨lt', dg', v', u', w', good', r1, r2, ⟨_, r3⟩, r4, r5, r6⟩ := run_D (a := a) (L := L) (q := tkS xs p) hs.2 hb (xs.length - tkS xs p) 0 0 0 0 0 0 1 (by omega) rfl (Or.inl ⟨rfl, rfl⟩) (fun _ _ => ⟨0, rfl, rfl, by unfold mo_vw; decide, by decide⟩) (fun _ _ => rfl)
          have hdg' := (r3 (by omega)).2 cd
          simp only [Nat.add_zero] at r1 r2
          have hR : tkR xs (tkS xs p) 0 = (lt', dg', tkS xs p + (lt' + dg'), v') := r1
          have hne : ¬ (tkR xs (tkS xs p) 0).2.2.1 = tkS xs p := by rw [hR]; show ¬ tkS xs p + (lt' + dg') = tkS xs p; omega
          have hN : tkN xs lim p = tkS xs p + (lt' + dg') := by unfold tkN; rw [if_neg cA, if_neg cB, if_neg hne, hR]
          have hV : tkV xs lim p = v' := by unfold tkV; rw [if_neg cA, if_neg cB, if_neg hne, hR]
          have hK0 : tkK xs lim p = if tkk (lt', dg', tkS xs p + (lt' + dg'), v') = 3 then (if tkW v' = 0 then 3 else 2) else tkk (lt', dg', tkS xs p + (lt' + dg'), v') := by unfold tkK; rw [if_neg cA, if_neg cB, if_neg hne, hR]
          have hkk : tkk (lt', dg', tkS xs p + (lt' + dg'), v') = if lt' = 0 then (if 2 < dg' then 0 else 4) else 0 := by
            unfold tkk
            rw [if_neg (show ¬ dg' = 0 by omega)]
          have hK : tkK xs lim p = if lt' = 0 then (if 2 < dg' then 0 else 4) else 0 := by
            rw [hK0, if_neg, hkk]
            rw [hkk]
            intro z
            (repeat' split at z) <;> exact absurd z (by decide)
          have hT : o_gotok (mo_up (mo_up I a 5 (nI (tkS xs p))) a 6 (nI (tkS xs p))) L a xs (tkS xs p) = (mo_up (mo_up (mo_up (mo_up (mo_up I a 5 (nI (tkS xs p))) a 6 (nI (tkS xs p))) a 5 (nI (tkS xs p + (lt' + dg')))) a 8 u') a 7 (if lt' = 0 then (if 2 < dg' then 1 else 3) else 1), mo_up L a 12 w') := by
            unfold o_gotok
            rw [if_neg cl, if_pos cd]
            show o_gorun _ L a xs (tkS xs p) = _
            unfold o_gorun w_gorun_197x
            rw [if_neg cl, r2]
            show (if good' = 0 then _ else _) = _
            rcases r4 with ⟨g1, g2⟩ | ⟨g1, g2⟩
            · rw [g1, if_neg (by decide), if_pos g2]
              by_cases c6 : 2 < dg'
              · rw [if_neg (by show ¬ tkS xs p + (lt' + dg') - tkS xs p ≤ 2; omega), if_pos c6]
              · rw [if_pos (by show tkS xs p + (lt' + dg') - tkS xs p ≤ 2; omega), if_neg c6]
            · rw [g1, if_pos rfl, if_neg (by omega)]
          refine ⟨u', I a 9, w', ⟨fun z => ?_, fun z => ?_, fun z => ?_⟩, ?_⟩
          · rw [hK] at z
            exfalso
            rcases z with z | z <;> (repeat' split at z) <;> exact absurd z (by decide)
          · rw [hV]
            have k4 : tkk (lt', dg', tkS xs p + (lt' + dg'), v') = 4 := by rw [hkk, ← hK]; exact z
            have k5 := tkk_4 k4
            exact r6 k5.1 k5.2
          · rw [hK] at z
            exfalso
            (repeat' split at z) <;> exact absurd z (by decide)
          · rw [hT]
            refine congrArg (fun z => (z, mo_up L a 12 w')) (rtI_of ?_ ?_ ?_ ?_ ?_ ?_ ?_)
            · rw [hN]; simp [mo_up]
            · rw [hP]; simp [mo_up]
            · rw [hK]
              simp only [mo_upA]
              unfold mo_kk
              by_cases c0 : lt' = 0
              · by_cases c6 : 2 < dg'
                · simp [c0, c6]
                · simp [c0, c6]
              · simp [c0]
            · simp [mo_up]
            · simp [mo_up]
            · intro y h5 h6 h7 h8 h9; simp [mo_up, h5, h6, h7, h8]
            · intro x hx; funext y; simp [mo_up, hx]
        · have hR := tkR_none hb hlt cl cd
          have heq : (tkR xs (tkS xs p) 0).2.2.1 = tkS xs p := by rw [hR]
          have hN : tkN xs lim p = tkS xs p + 1 := by unfold tkN; rw [if_neg cA, if_neg cB, if_pos heq]
          have hV : tkV xs lim p = mo_sx (xs.getD (tkS xs p) 0) := by unfold tkV; rw [if_neg cA, if_neg cB, if_pos heq]
          have hK : tkK xs lim p = tkO (mo_sx (xs.getD (tkS xs p) 0)) := by unfold tkK; rw [if_neg cA, if_neg cB, if_pos heq]
          obtain ⟨_, _, ⟨s5, _⟩, _, s59, s45, s47⟩ := mo_sxc hc
          have hK2 : tkK xs lim p = if xs.getD (tkS xs p) 0 = 59 ∨ xs.getD (tkS xs p) 0 = 45 ∨ xs.getD (tkS xs p) 0 = 47 then 5 else 0 := by
            rw [hK]
            unfold tkO
            by_cases c1 : xs.getD (tkS xs p) 0 = 59
            · rw [if_pos (s59.mpr c1), if_pos (Or.inl c1)]
            · rw [if_neg (fun z => c1 (s59.mp z))]
              by_cases c2 : xs.getD (tkS xs p) 0 = 45
              · rw [if_pos (s45.mpr c2), if_pos (Or.inr (Or.inl c2))]
              · rw [if_neg (fun z => c2 (s45.mp z))]
                by_cases c3 : xs.getD (tkS xs p) 0 = 47
                · rw [if_pos (s47.mpr c3), if_pos (Or.inr (Or.inr c3))]
                · rw [if_neg (fun z => c3 (s47.mp z)), if_neg (fun z => z.elim c1 (fun z => z.elim c2 c3))]
          have hT : o_gotok (mo_up (mo_up I a 5 (nI (tkS xs p))) a 6 (nI (tkS xs p))) L a xs (tkS xs p) = (mo_up (mo_up (mo_up (mo_up (mo_up I a 5 (nI (tkS xs p))) a 6 (nI (tkS xs p))) a 7 (if xs.getD (tkS xs p) 0 = 59 ∨ xs.getD (tkS xs p) 0 = 45 ∨ xs.getD (tkS xs p) 0 = 47 then 4 else 1)) a 9 (nI (xs.getD (tkS xs p) 0))) a 5 (nI (tkS xs p + 1)), L) := by
            unfold o_gotok
            rw [if_neg cl, if_neg cd]
            by_cases c1 : xs.getD (tkS xs p) 0 = 59
            · rw [if_pos c1, if_pos (Or.inl c1)]
            · rw [if_neg c1]
              by_cases c2 : xs.getD (tkS xs p) 0 = 45
              · rw [if_pos c2, if_pos (Or.inr (Or.inl c2))]
              · rw [if_neg c2]
                by_cases c3 : xs.getD (tkS xs p) 0 = 47
                · rw [if_pos c3, if_pos (Or.inr (Or.inr c3))]
                · rw [if_neg c3, if_neg (fun z => z.elim c1 (fun z => z.elim c2 c3))]
          refine ⟨I a 8, nI (xs.getD (tkS xs p) 0), L a 12, ⟨fun z => ?_, fun z => ?_, fun z => ?_⟩, ?_⟩
          · rw [hK2] at z
            exfalso
            rcases z with z | z <;> split at z <;> exact absurd z (by decide)
          · rw [hK2] at z
            exfalso
            split at z <;> exact absurd z (by decide)
          · rw [hV]
            rw [hK2] at z
            split at z
            · rename_i c
              exact (s5 (by omega)).symm
            · exact absurd z (by decide)
          · rw [hT, mo_upN]
            refine congrArg (fun z => (z, L)) (rtI_of ?_ ?_ ?_ ?_ ?_ ?_ ?_)
            · rw [hN]; simp [mo_up]
            · rw [hP]; simp [mo_up]
            · rw [hK2]
              rw [mo_upK _ _ _ (by decide), mo_upK _ _ _ (by decide), mo_upA]
              unfold mo_kk
              by_cases c : xs.getD (tkS xs p) 0 = 59 ∨ xs.getD (tkS xs p) 0 = 45 ∨ xs.getD (tkS xs p) 0 = 47
              · rw [if_pos c, if_pos c]; rfl
              · rw [if_neg c, if_neg c]; rfl
            · simp [mo_up]
            · simp [mo_up]
            · intro y h5 h6 h7 h8 h9; simp [mo_up, h5, h6, h7, h9]
            · intro x hx; funext y; simp [mo_up, hx]
