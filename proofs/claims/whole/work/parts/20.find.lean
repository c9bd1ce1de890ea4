/-! First looks over rows; Comings. -/
/-- the first place below n with p -/
def mo_ff (p : Nat → Bool) (n : Nat) : Option Nat := (List.range n).find? p
theorem mo_ff_some {p : Nat → Bool} {n c : Nat} (hc : c < n) (hp : p c = true) (h : ∀ j, j < c → p j = false) : mo_ff p n = some c := by
  unfold mo_ff
  rw [List.find?_range_eq_some]
  exact ⟨hp, List.mem_range.mpr hc, fun j hj => by rw [h j hj]; rfl⟩
theorem mo_ff_none {p : Nat → Bool} {n : Nat} (h : ∀ j, j < n → p j = false) : mo_ff p n = none := by
  unfold mo_ff
  rw [List.find?_range_eq_none]
  intro j hj
  rw [h j hj]; rfl
/-- a place or NONE -/
def mo_oi : Option Nat → Int32
  | some c => nI c
  | none => -1
/-- a row of Comings at a -/
def mo_cm (K : mo_K) (R : Nat → Nat → Nat) (a : Nat) : Prop := mo_kd K a = 5 ∧ ∀ k, k < 5 → mo_kd K (R a k) = 100 ∧ mo_ln K (R a k) = 40
theorem vc_Comings_find_0 (X : mo_X) (k : mo_F → Prop) (a : Nat) (m d : Int32) (K : mo_K) (R : Nat → Nat → Nat) (I : Nat → Nat → Int32) (L : Nat → Nat → Int64) (x : Nat) : mo_wq X cc_Comings_find [2] 200 (0, [some (.ref a), some (.int m), some (.int d), none], [], (K, R, I, L, x)) k = (k (2, [some (.ref a), some (.int m), some (.int d), some (.int 0)], [], (K, R, I, L, x))) := rfl
theorem vc_Comings_find_2 (X : mo_X) (k : mo_F → Prop) (a : Nat) (m d i : Int32) (K : mo_K) (R : Nat → Nat → Nat) (I : Nat → Nat → Int32) (L : Nat → Nat → Int64) (x : Nat) : mo_wq X cc_Comings_find [2] 200 (2, [some (.ref a), some (.int m), some (.int d), some (.int i)], [], (K, R, I, L, x)) k = (mo_kd K a = 5 ∧ (((I a 5) ≤ i) → k (39, [some (.ref a), some (.int m), some (.int d), some (.int i)], [.int (-1)], (K, R, I, L, x))) ∧ (¬ ((I a 5) ≤ i) → mo_kd K a = 5 ∧ (mo_kd K (R a 0) = 100 ∧ vp_in i (mo_ln K (R a 0))) ∧ (((I (R a 0) i.toNatClampNeg) = m) → mo_kd K a = 5 ∧ (mo_kd K (R a 1) = 100 ∧ vp_in i (mo_ln K (R a 1))) ∧ (((I (R a 1) i.toNatClampNeg) = d) → k (31, [some (.ref a), some (.int m), some (.int d), some (.int i)], [.int i], (K, R, I, L, x))) ∧ (¬ ((I (R a 1) i.toNatClampNeg) = d) → k (2, [some (.ref a), some (.int m), some (.int d), some (.int (i + 1))], [], (K, R, I, L, x)))) ∧ (¬ ((I (R a 0) i.toNatClampNeg) = m) → k (2, [some (.ref a), some (.int m), some (.int d), some (.int (i + 1))], [], (K, R, I, L, x))))) := rfl
theorem C_Comings_find (l : Launch) (K : mo_K) (R : Nat → Nat → Nat) (I : Nat → Nat → Int32) (L : Nat → Nat → Int64) (a n : Nat) (m d : Int32) (h : mo_cm K R a) (hs : I a 5 = nI n) (hn : n ≤ 40) : mo_D l mm_Comings_find 0 [.ref a, .int m, .int d] (K, R, I, L, 0) (some (.int (mo_oi (mo_ff (fun c => decide (I (R a 0) c = m ∧ I (R a 1) c = d)) n)))) (K, R, I, L, 0) := by
  refine mo_D_of (by decide +kernel) (Nat.le_of_ble_eq_true rfl) (fun Ψ hΨ => ?_)
  have loop : ∀ k i, i + k = n → (∀ j, j < i → decide (I (R a 0) j = m ∧ I (R a 1) j = d) = false) → mo_J l mm_Comings_find 0 0 0 false (K, R, I, L, 0) Ψ (2, [some (.ref a), some (.int m), some (.int d), some (.int (nI i))], [], (K, R, I, L, 0)) := by
    intro k
    induction k with
    | zero =>
      intro i hi hp
      have hi : i = n := by omega
      subst hi
      refine mo_J_run ok_Comings_find (fun z => by cases z) [2] 200 _ ?_
      rw [vc_Comings_find_2]
      refine ⟨h.1, fun _ => ?_, fun z => absurd (by rw [hs]; exact nI_le (Nat.le_refl _) (by omega)) z⟩
      refine mo_ir ok_Comings_find rfl rfl ?_
      rw [mo_ff_none hp] at hΨ
      exact hΨ
    | succ k ih =>
      intro i hi hp
      have hin : vp_in (nI i) 40 := vp_in_nI (by omega) (by omega)
      have hcl : (nI i).toNatClampNeg = i := nI_clamp (by omega)
      refine mo_J_run ok_Comings_find (fun z => by cases z) [2] 200 _ ?_
      rw [vc_Comings_find_2, (h.2 0 (by omega)).2, (h.2 1 (by omega)).2, hcl]
      refine ⟨h.1, fun z => absurd z (by rw [hs]; exact nI_ge (by omega) (by omega)), fun _ => ⟨h.1, ⟨(h.2 0 (by omega)).1, hin⟩, fun h1 => ⟨h.1, ⟨(h.2 1 (by omega)).1, hin⟩, fun h2 => ?_, fun h2 => ?_⟩, fun h1 => ?_⟩⟩
      · refine mo_ir ok_Comings_find rfl rfl ?_
        rw [mo_ff_some (c := i) (by omega) (decide_eq_true ⟨h1, h2⟩) hp] at hΨ
        exact hΨ
      · rw [nI_1]
        exact ih (i + 1) (by omega) (lt_s hp (decide_eq_false (fun z => h2 z.2)))
      · rw [nI_1]
        exact ih (i + 1) (by omega) (lt_s hp (decide_eq_false (fun z => h1 z.1)))
  refine mo_J_run ok_Comings_find (fun z => by cases z) [2] 200 _ ?_
  show mo_wq (mo_Xo false 0 0 (K, R, I, L, 0)) cc_Comings_find [2] 200 (0, [some (.ref a), some (.int m), some (.int d), none], [], (K, R, I, L, 0)) _
  rw [vc_Comings_find_0]
  exact loop n 0 (by omega) (fun j hj => by omega)
