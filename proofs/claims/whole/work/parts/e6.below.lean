/-! The fewest, from above and from below. -/
def tFb2 (vg : Nat → Bool) (b x : Nat) : Nat := if vg x = true then b else if mo_pc x < mo_pc b then x else b
theorem fewest_eq {n : Nat} {vg : Nat → Bool} (hn : n ≤ 8) : mo_it (fun k b => tFw n vg b (2 ^ n - k - 1)) (2 ^ n) 0 (2 ^ n - 1) = mo_it (fun k b => tFb2 vg b k) (2 ^ n) 0 (2 ^ n - 1) := by
  have hp := Nat.two_pow_pos n
  have k1 := mo_it_inv (f := fun k b => tFw n vg b (2 ^ n - k - 1)) (fun k r => k ≤ 2 ^ n ∧ r < 2 ^ n ∧ (vg r = false ∨ r = 2 ^ n - 1) ∧ ∀ x, x < 2 ^ n → (vg x = false ∧ 2 ^ n - k ≤ x) ∨ x = 2 ^ n - 1 → mo_pc r < mo_pc x ∨ (mo_pc r = mo_pc x ∧ r ≤ x)) (k := 2 ^ n) (i := 0) (s := 2 ^ n - 1) ⟨Nat.zero_le _, by omega, Or.inr rfl, fun x hx h => by
      have : x = 2 ^ n - 1 := by rcases h with h | h <;> omega
      rw [this]; exact Or.inr ⟨rfl, Nat.le_refl _⟩⟩ (fun k r _ hk hP => by
    obtain ⟨_, h1, h2, h3⟩ := hP
    show _ ∧ tFw n vg r (2 ^ n - k - 1) < 2 ^ n ∧ _
    unfold tFw
    cases hv : vg (2 ^ n - k - 1) with
    | true =>
      rw [if_pos rfl]
      refine ⟨by omega, h1, h2, fun x hx h => h3 x hx ?_⟩
      rcases h with h | h
      · refine Or.inl ⟨h.1, ?_⟩
        have : x ≠ 2 ^ n - k - 1 := fun e => by rw [e, hv] at h; cases h.1
        omega
      · exact Or.inr h
    | false =>
      rw [if_neg (by decide)]
      by_cases c : mo_pc r < mo_pc (2 ^ n - k - 1)
      · rw [if_pos c]
        refine ⟨by omega, h1, h2, fun x hx h => ?_⟩
        by_cases e : x = 2 ^ n - k - 1
        · rw [e]; exact Or.inl c
        · refine h3 x hx ?_
          rcases h with h | h
          · exact Or.inl ⟨h.1, by omega⟩
          · exact Or.inr h
      · rw [if_neg c]
        refine ⟨by omega, by omega, Or.inl hv, fun x hx h => ?_⟩
        by_cases e : x = 2 ^ n - k - 1
        · rw [e]; exact Or.inr ⟨rfl, Nat.le_refl _⟩
        · have := h3 x hx (by
            rcases h with h | h
            · exact Or.inl ⟨h.1, by omega⟩
            · exact Or.inr h)
          rcases h with h | h
          · omega
          · omega)
  have k2 := mo_it_inv (f := fun k b => tFb2 vg b k) (fun k r => k ≤ 2 ^ n ∧ r < 2 ^ n ∧ (r < k ∨ r = 2 ^ n - 1) ∧ (vg r = false ∨ r = 2 ^ n - 1) ∧ ∀ x, x < 2 ^ n → (vg x = false ∧ x < k) ∨ x = 2 ^ n - 1 → mo_pc r < mo_pc x ∨ (mo_pc r = mo_pc x ∧ r ≤ x)) (k := 2 ^ n) (i := 0) (s := 2 ^ n - 1) ⟨Nat.zero_le _, by omega, Or.inr rfl, Or.inr rfl, fun x hx h => by
      have : x = 2 ^ n - 1 := by rcases h with h | h <;> omega
      rw [this]; exact Or.inr ⟨rfl, Nat.le_refl _⟩⟩ (fun k r _ hk hP => by
    obtain ⟨_, h1, h0, h2, h3⟩ := hP
    show _ ∧ tFb2 vg r k < 2 ^ n ∧ _
    unfold tFb2
    cases hv : vg k with
    | true =>
      rw [if_pos rfl]
      refine ⟨by omega, h1, by omega, h2, fun x hx h => h3 x hx ?_⟩
      rcases h with h | h
      · refine Or.inl ⟨h.1, ?_⟩
        have : x ≠ k := fun e => by rw [e, hv] at h; cases h.1
        omega
      · exact Or.inr h
    | false =>
      rw [if_neg (by decide)]
      have hfull := (mo_pcb hn (x := k) (by omega)).2.2
      have hfl := (mo_pcb hn (x := r) h1).1
      by_cases c : mo_pc k < mo_pc r
      · rw [if_pos c]
        refine ⟨by omega, by omega, by omega, Or.inl hv, fun x hx h => ?_⟩
        by_cases e : x = k
        · rw [e]; exact Or.inr ⟨rfl, Nat.le_refl _⟩
        · have := h3 x hx (by
            rcases h with h | h
            · exact Or.inl ⟨h.1, by omega⟩
            · exact Or.inr h)
          omega
      · rw [if_neg c]
        refine ⟨by omega, h1, by omega, h2, fun x hx h => ?_⟩
        by_cases e : x = k
        · rw [e]
          rcases h0 with w | w
          · omega
          · have := h3 (2 ^ n - 1) (by omega) (Or.inr rfl)
            by_cases e2 : k = 2 ^ n - 1
            · rw [e2, w]; exact Or.inr ⟨rfl, Nat.le_refl _⟩
            · exfalso
              have hk2 := hfull (by omega)
              have hr : mo_pc r = n := by
                have h5 := pc_fr (n := n) (by omega) (x := r) h1
                have h6 : lo_fr n r = 0 := mo_sm_zero (fun j hj => by show (if (!r.testBit j) = true then 1 else 0) = 0; rw [w, Nat.testBit_two_pow_sub_one, decide_eq_true hj]; rfl)
                omega
              omega
        · refine h3 x hx ?_
          rcases h with h | h
          · exact Or.inl ⟨h.1, by omega⟩
          · exact Or.inr h)
  rw [Nat.zero_add] at k1 k2
  obtain ⟨_, a1, a2, a3⟩ := k1
  obtain ⟨_, b1, _, b2, b3⟩ := k2
  generalize mo_it (fun k b => tFw n vg b (2 ^ n - k - 1)) (2 ^ n) 0 (2 ^ n - 1) = p at a1 a2 a3 ⊢
  generalize mo_it (fun k b => tFb2 vg b k) (2 ^ n) 0 (2 ^ n - 1) = q at b1 b2 b3 ⊢
  have c1 := a3 q b1 (by rcases b2 with w | w; exact Or.inl ⟨w, by omega⟩; exact Or.inr w)
  have c2 := b3 p a1 (by rcases a2 with w | w; exact Or.inl ⟨w, a1⟩; exact Or.inr w)
  omega
