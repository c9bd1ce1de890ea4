/-! meets: the class's answers are the reference's. -/
theorem inB_has {x k : Nat} (hk : k < 12) (hx : x < 4096) : (mo_inB (nI k) (nI x) = 0) ↔ (mo_has (nI x) (nI k) = 0) := by
  have h := mo_bit_n hk hx
  unfold mo_inB
  by_cases c : x.testBit k = true
  · rw [mo_hasT hk hx c, if_neg (fun z => h.2.mp z c)]
  · rw [mo_hasF hk hx c, if_pos (h.2.mpr c)]
theorem foe_r {T : mo_Tn} (hv : mo_vT T) (hV : mo_vF T) {m k : Nat} (hm : m < tMen T) (hk : k < 12) : (mo_inB (nI k) (tFoes T m) = 0) ↔ (mo_has (tFoes T m) (nI k) = 0) := by
  have := hV m hm
  rw [this.1]
  exact inB_has hk (by omega)
theorem lap_r {T : mo_Tn} {m q d : Int32} : o_coverlap T m q d = o_Model_meet T m q d 0 := rfl
theorem meets_in {T : mo_Tn} (hv : mo_vT T) (hV : mo_vF T) {p : Int32} {d i : Nat} {s : Int32} (hi : i < tMen T) : w_Gate_meets_40 T p d i s = w_Model_meets_34 T p d i s := by
  have hM := vT_tMen hv
  unfold w_Gate_meets_40 w_Model_meets_34
  refine mo_lp_congr (fun j _ hj t => ?_)
  unfold b_Gate_meets_40 b_Model_meets_34
  rw [lap_r]
  have := foe_r hv hV hi (k := (i + 1) + j) (by omega)
  by_cases c : mo_has (tFoes T i) (nI ((i + 1) + j)) = 0
  · rw [if_pos c, if_pos (this.mpr c)]
  · rw [if_neg c, if_neg (fun z => c (this.mp z))]
theorem meets_out {T : mo_Tn} (hv : mo_vT T) (hV : mo_vF T) {p : Int32} {d : Nat} : w_Gate_meets_19 T p d = w_Model_meets_19 T p d := by
  unfold w_Gate_meets_19 w_Model_meets_19
  refine mo_lp_congr (fun j _ hj t => ?_)
  unfold b_Gate_meets_19 b_Model_meets_19
  rw [meets_in hv hV (by omega)]
theorem lp_inv {S ρ : Type} {f : Nat → S → S ⊕ ρ} (P : Nat → S → Prop) : ∀ {k i : Nat} {s : S}, P i s → (∀ j t, i ≤ j → j < i + k → P j t → ∃ t', f j t = .inl t' ∧ P (j + 1) t') → ∃ s', mo_lp f k i s = .inl s' ∧ P (i + k) s'
  | 0, _, s, h, _ => ⟨s, rfl, h⟩
  | k + 1, i, s, h, hs => by
    obtain ⟨t', e, h'⟩ := hs i s (Nat.le_refl i) (by omega) h
    obtain ⟨s', e2, h2⟩ := lp_inv (f := f) P (k := k) (i := i + 1) h' (fun j t h1 h2 => hs j t (by omega) (by omega))
    refine ⟨s', by rw [mo_lp_inlS e]; exact e2, ?_⟩
    rw [show i + (k + 1) = i + 1 + k by omega]
    exact h2
theorem meets_neg {T : mo_Tn} (hv : mo_vT T) {p : Int32} {d : Nat} (hp : p < 0) : ∃ s, w_Model_meets_19 T p d = .inl s := by
  have hM := vT_tMen hv
  have key : ∃ s', w_Model_meets_19 T p d = .inl s' ∧ ∃ c, s' = nI c ∧ c ≤ 8 * (0 + tMen T) := by
    unfold w_Model_meets_19
    refine lp_inv (fun j s => ∃ c, s = nI c ∧ c ≤ 8 * j) ⟨0, rfl, Nat.zero_le _⟩ (fun j t _ hj ht => ?_)
    obtain ⟨c, hc, hc2⟩ := ht
    have k2 : ∃ s', w_Model_meets_34 T p d j t = .inl s' ∧ ∃ c', s' = nI c' ∧ c' ≤ c + (0 + (tMen T - (j + 1))) := by
      unfold w_Model_meets_34
      refine lp_inv (fun i s => ∃ c', s = nI c' ∧ c' ≤ c + i) ⟨c, hc, Nat.le_refl _⟩ (fun i t _ hi ht => ?_)
      obtain ⟨c', hc', hc2'⟩ := ht
      unfold b_Model_meets_34
      by_cases c1 : mo_has (tFoes T j) (nI ((j + 1) + i)) = 0
      · rw [if_pos c1]; exact ⟨t, rfl, c', hc', by omega⟩
      · rw [if_neg c1]
        by_cases c2 : o_Model_meet T (nI j) (nI ((j + 1) + i)) (nI d) 0 = 0
        · rw [if_pos c2]; exact ⟨t, rfl, c', hc', by omega⟩
        · rw [if_neg c2, if_neg (fun z => nI_pos (n := c') (by omega) (by rw [← hc', z]; exact hp))]
          exact ⟨t + 1, rfl, c' + 1, by rw [hc', nI_succ], by omega⟩
    obtain ⟨s', e1, c', e2, e3⟩ := k2
    unfold b_Model_meets_19
    rw [e1]
    exact ⟨s', rfl, c', e2, by omega⟩
  obtain ⟨s', e, _⟩ := key
  exact ⟨s', e⟩
theorem meets_r {I : Nat → Nat → Int32} {a : Nat} {T : mo_Tn} {dd p : Int32} (hv : mo_vT T) (hV : mo_vF T) : o_Gate_meets T dd p = (o_Model_meets I a T dd p).1 := by
  unfold o_Gate_meets o_Model_meets
  cases tB dd 30 with
  | none => rfl
  | some d =>
    show (if (-1) ≤ p then (Sum.elim (fun z19 => (if p = (-1) then z19 else -1)) (fun r19 => r19) (w_Gate_meets_19 T p d)) else -1) = (Sum.elim (fun z19 => (if p = (-1) then (z19, mo_up I a 0 0) else ((-1 : Int32), mo_up I a 0 0))) (fun r19 => (r19, mo_up I a 0 0)) (w_Model_meets_19 T p d)).1
    by_cases c : (-1) ≤ p
    · rw [if_pos c, meets_out hv hV]
      cases w_Model_meets_19 T p d with
      | inl z =>
        show (if p = -1 then z else -1) = (if p = -1 then (z, _) else ((-1 : Int32), _)).1
        by_cases c2 : p = -1
        · rw [if_pos c2, if_pos c2]
        · rw [if_neg c2, if_neg c2]
      | inr r => rfl
    · rw [if_neg c]
      have hp : p < -1 := Int32.not_le.mp c
      obtain ⟨s, e⟩ := meets_neg (d := d) hv (Int32.lt_trans hp (by decide))
      rw [e]
      show (-1 : Int32) = (if p = -1 then (s, _) else ((-1 : Int32), _)).1
      rw [if_neg (fun z => by rw [z] at hp; exact absurd hp (by decide))]
