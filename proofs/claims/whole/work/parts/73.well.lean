/-! The class: a town is read. -/
abbrev mo_Z : Type := Int32 × (Nat → Nat → Int32) × Nat
/-- read well: told on, and where it goes on -/
def tkG (K : mo_K) (R : Nat → Nat → Nat) (b ro co ga ow : Nat) (xs : List Nat) (lim : Nat) (z : mo_Z) : Prop := (z.1 = 0 ∨ z.1 = 1) ∧ (z.1 = 1 → mo_rl_ z.2.1 R ro ∧ mo_rc_ z.2.1 co ga ow) ∧ (mo_xp z.2.1 R b xs ∧ z.2.1 b 2 = nI lim) ∧ z.2.2 ≤ xs.length
theorem mo_pif {c : Prop} [Decidable c] {α : Type} {P : α → Prop} {A B : α} (h1 : c → P A) (h2 : ¬ c → P B) : P (if c then A else B) := by
  by_cases h : c
  · rw [if_pos h]; exact h1 h
  · rw [if_neg h]; exact h2 h
theorem mo_pop {α β : Type} {P : α → Prop} {o : Option β} {A : α} {B : β → α} (h1 : o = none → P A) (h2 : ∀ v, o = some v → P (B v)) : P (Option.elim o A B) := by
  cases o with
  | none => exact h1 rfl
  | some v => exact h2 v rfl
theorem mo_oi_rd {x : Int32} {o : Option Nat} (h : x = mo_oi o) (hv : ∀ v, o = some v → v < 2147483648) : (if x = -1 then none else some x.toNatClampNeg) = o := by
  cases o with
  | none => rw [if_pos (show x = -1 from h)]
  | some v =>
    rw [if_neg (by rw [h]; exact mo_nIm rfl (hv v rfl)), h]
    show some (nI v).toNatClampNeg = _
    rw [nI_clamp (hv v rfl)]
theorem mo_rl_of {I : Nat → Nat → Int32} {R : Nat → Nat → Nat} {ro M N : Nat} {O : Nat → Option Nat} (h5 : I ro 5 = nI M) (hM : M ≤ 8) (h6 : I ro 6 = nI N) (hN : N ≤ 12) (ho : ∀ k, k < N → I (R ro 4) k = mo_oi (O k) ∧ ∀ v, O k = some v → v < M) : mo_rl_ I R ro := by
  have e1 : cM I ro = M := mo_ncl h5 (by omega)
  have e2 : cN I ro = N := mo_ncl h6 (by omega)
  unfold mo_rl_
  rw [e1, e2]
  refine ⟨h5, hM, h6, hN, fun k hk => ?_⟩
  have e3 : cOw I R ro k = O k := mo_oi_rd (ho k hk).1 (fun v hv => by have := (ho k hk).2 v hv; omega)
  rw [e3]
  exact ho k hk
theorem mo_rl_fr {I I' : Nat → Nat → Int32} {R : Nat → Nat → Nat} {ro : Nat} (h : mo_rl_ I R ro) (h1 : I' ro = I ro) (h2 : I' (R ro 4) = I (R ro 4)) : mo_rl_ I' R ro :=
  mo_rl_of (O := cOw I R ro) (by rw [h1]; exact h.1) h.2.1 (by rw [h1]; exact h.2.2.1) h.2.2.2.1 (fun k hk => by rw [h2]; exact h.2.2.2.2 k hk)
theorem mo_rc_of {I : Nat → Nat → Int32} {co ga ow a b c : Nat} (h1 : I co 5 = nI a) (ha : a ≤ 40) (h2 : I ga 3 = nI b) (hb : b ≤ 40) (h3 : I ow 4 = nI c) (hc : c ≤ 40) : mo_rc_ I co ga ow := by
  have e1 : cC I co = a := mo_ncl h1 (by omega)
  have e2 : cG I ga = b := mo_ncl h2 (by omega)
  have e3 : cO I ow = c := mo_ncl h3 (by omega)
  unfold mo_rc_
  rw [e1, e2, e3]
  exact ⟨⟨h1, ha⟩, ⟨h2, hb⟩, h3, hc⟩
theorem mo_rc_fr {I I' : Nat → Nat → Int32} {co ga ow : Nat} (h : mo_rc_ I co ga ow) (h1 : I' co = I co) (h2 : I' ga = I ga) (h3 : I' ow = I ow) : mo_rc_ I' co ga ow :=
  mo_rc_of (by rw [h1]; exact h.1.1) h.1.2 (by rw [h2]; exact h.2.1.1) h.2.1.2 (by rw [h3]; exact h.2.2.1) h.2.2.2
theorem addName_co {K : mo_K} {R : Nat → Nat → Nat} {I : Nat → Nat → Int32} {e b ro co ga ow si : Nat} (h : mo_rr K R e b ro co ga ow si) {n : Nat} {u v : Int32} : o_Roll_addName R I ro n u v co = I co := by
  unfold o_Roll_addName
  simp only [mo_upR (a := R ro 3) (mo_nekd (show mo_kd K co = 5 from mo_ob_ h.2.1 (i := 3) rfl) (show mo_kd K (R ro 3) = 100 from mo_rk h.2.2.1 (i := 4) rfl) (by decide)), mo_upR (a := R ro 4) (mo_nekd (show mo_kd K co = 5 from mo_ob_ h.2.1 (i := 3) rfl) (show mo_kd K (R ro 4) = 100 from mo_rk h.2.2.1 (i := 5) rfl) (by decide)), mo_upR (a := ro) (mo_nekd (show mo_kd K co = 5 from mo_ob_ h.2.1 (i := 3) rfl) (show mo_kd K ro = 4 from mo_ob_ h.2.1 (i := 2) rfl) (by decide))]
theorem addName_ga {K : mo_K} {R : Nat → Nat → Nat} {I : Nat → Nat → Int32} {e b ro co ga ow si : Nat} (h : mo_rr K R e b ro co ga ow si) {n : Nat} {u v : Int32} : o_Roll_addName R I ro n u v ga = I ga := by
  unfold o_Roll_addName
  simp only [mo_upR (a := R ro 3) (mo_nekd (show mo_kd K ga = 6 from mo_ob_ h.2.1 (i := 4) rfl) (show mo_kd K (R ro 3) = 100 from mo_rk h.2.2.1 (i := 4) rfl) (by decide)), mo_upR (a := R ro 4) (mo_nekd (show mo_kd K ga = 6 from mo_ob_ h.2.1 (i := 4) rfl) (show mo_kd K (R ro 4) = 100 from mo_rk h.2.2.1 (i := 5) rfl) (by decide)), mo_upR (a := ro) (mo_nekd (show mo_kd K ga = 6 from mo_ob_ h.2.1 (i := 4) rfl) (show mo_kd K ro = 4 from mo_ob_ h.2.1 (i := 2) rfl) (by decide))]
theorem addName_ow {K : mo_K} {R : Nat → Nat → Nat} {I : Nat → Nat → Int32} {e b ro co ga ow si : Nat} (h : mo_rr K R e b ro co ga ow si) {n : Nat} {u v : Int32} : o_Roll_addName R I ro n u v ow = I ow := by
  unfold o_Roll_addName
  simp only [mo_upR (a := R ro 3) (mo_nekd (show mo_kd K ow = 7 from mo_ob_ h.2.1 (i := 5) rfl) (show mo_kd K (R ro 3) = 100 from mo_rk h.2.2.1 (i := 4) rfl) (by decide)), mo_upR (a := R ro 4) (mo_nekd (show mo_kd K ow = 7 from mo_ob_ h.2.1 (i := 5) rfl) (show mo_kd K (R ro 4) = 100 from mo_rk h.2.2.1 (i := 5) rfl) (by decide)), mo_upR (a := ro) (mo_nekd (show mo_kd K ow = 7 from mo_ob_ h.2.1 (i := 5) rfl) (show mo_kd K ro = 4 from mo_ob_ h.2.1 (i := 2) rfl) (by decide))]
theorem addName_si {K : mo_K} {R : Nat → Nat → Nat} {I : Nat → Nat → Int32} {e b ro co ga ow si : Nat} (h : mo_rr K R e b ro co ga ow si) {n : Nat} {u v : Int32} : o_Roll_addName R I ro n u v si = I si := by
  unfold o_Roll_addName
  simp only [mo_upR (a := R ro 3) (mo_nekd (show mo_kd K si = 8 from mo_ob_ h.2.1 (i := 6) rfl) (show mo_kd K (R ro 3) = 100 from mo_rk h.2.2.1 (i := 4) rfl) (by decide)), mo_upR (a := R ro 4) (mo_nekd (show mo_kd K si = 8 from mo_ob_ h.2.1 (i := 6) rfl) (show mo_kd K (R ro 4) = 100 from mo_rk h.2.2.1 (i := 5) rfl) (by decide)), mo_upR (a := ro) (mo_nekd (show mo_kd K si = 8 from mo_ob_ h.2.1 (i := 6) rfl) (show mo_kd K ro = 4 from mo_ob_ h.2.1 (i := 2) rfl) (by decide))]
theorem addName_e {K : mo_K} {R : Nat → Nat → Nat} {I : Nat → Nat → Int32} {e b ro co ga ow si : Nat} (h : mo_rr K R e b ro co ga ow si) {n : Nat} {u v : Int32} : o_Roll_addName R I ro n u v e = I e := by
  unfold o_Roll_addName
  simp only [mo_upR (a := R ro 3) (mo_nekd (show mo_kd K e = 1 from mo_ob_ h.2.1 (i := 0) rfl) (show mo_kd K (R ro 3) = 100 from mo_rk h.2.2.1 (i := 4) rfl) (by decide)), mo_upR (a := R ro 4) (mo_nekd (show mo_kd K e = 1 from mo_ob_ h.2.1 (i := 0) rfl) (show mo_kd K (R ro 4) = 100 from mo_rk h.2.2.1 (i := 5) rfl) (by decide)), mo_upR (a := ro) (mo_nekd (show mo_kd K e = 1 from mo_ob_ h.2.1 (i := 0) rfl) (show mo_kd K ro = 4 from mo_ob_ h.2.1 (i := 2) rfl) (by decide))]
theorem addMan_co {K : mo_K} {R : Nat → Nat → Nat} {I : Nat → Nat → Int32} {e b ro co ga ow si : Nat} (h : mo_rr K R e b ro co ga ow si) {m n : Nat} {u v : Int32} : o_Roll_addMan R I ro m n u v co = I co := by
  unfold o_Roll_addMan
  simp only [mo_upR (a := R ro 0) (mo_nekd (show mo_kd K co = 5 from mo_ob_ h.2.1 (i := 3) rfl) (show mo_kd K (R ro 0) = 100 from mo_rk h.2.2.1 (i := 1) rfl) (by decide)), mo_upR (a := R ro 1) (mo_nekd (show mo_kd K co = 5 from mo_ob_ h.2.1 (i := 3) rfl) (show mo_kd K (R ro 1) = 100 from mo_rk h.2.2.1 (i := 2) rfl) (by decide)), mo_upR (a := R ro 2) (mo_nekd (show mo_kd K co = 5 from mo_ob_ h.2.1 (i := 3) rfl) (show mo_kd K (R ro 2) = 100 from mo_rk h.2.2.1 (i := 3) rfl) (by decide)), mo_upR (a := R ro 3) (mo_nekd (show mo_kd K co = 5 from mo_ob_ h.2.1 (i := 3) rfl) (show mo_kd K (R ro 3) = 100 from mo_rk h.2.2.1 (i := 4) rfl) (by decide)), mo_upR (a := R ro 4) (mo_nekd (show mo_kd K co = 5 from mo_ob_ h.2.1 (i := 3) rfl) (show mo_kd K (R ro 4) = 100 from mo_rk h.2.2.1 (i := 5) rfl) (by decide)), mo_upR (a := ro) (mo_nekd (show mo_kd K co = 5 from mo_ob_ h.2.1 (i := 3) rfl) (show mo_kd K ro = 4 from mo_ob_ h.2.1 (i := 2) rfl) (by decide))]
theorem addMan_ga {K : mo_K} {R : Nat → Nat → Nat} {I : Nat → Nat → Int32} {e b ro co ga ow si : Nat} (h : mo_rr K R e b ro co ga ow si) {m n : Nat} {u v : Int32} : o_Roll_addMan R I ro m n u v ga = I ga := by
  unfold o_Roll_addMan
  simp only [mo_upR (a := R ro 0) (mo_nekd (show mo_kd K ga = 6 from mo_ob_ h.2.1 (i := 4) rfl) (show mo_kd K (R ro 0) = 100 from mo_rk h.2.2.1 (i := 1) rfl) (by decide)), mo_upR (a := R ro 1) (mo_nekd (show mo_kd K ga = 6 from mo_ob_ h.2.1 (i := 4) rfl) (show mo_kd K (R ro 1) = 100 from mo_rk h.2.2.1 (i := 2) rfl) (by decide)), mo_upR (a := R ro 2) (mo_nekd (show mo_kd K ga = 6 from mo_ob_ h.2.1 (i := 4) rfl) (show mo_kd K (R ro 2) = 100 from mo_rk h.2.2.1 (i := 3) rfl) (by decide)), mo_upR (a := R ro 3) (mo_nekd (show mo_kd K ga = 6 from mo_ob_ h.2.1 (i := 4) rfl) (show mo_kd K (R ro 3) = 100 from mo_rk h.2.2.1 (i := 4) rfl) (by decide)), mo_upR (a := R ro 4) (mo_nekd (show mo_kd K ga = 6 from mo_ob_ h.2.1 (i := 4) rfl) (show mo_kd K (R ro 4) = 100 from mo_rk h.2.2.1 (i := 5) rfl) (by decide)), mo_upR (a := ro) (mo_nekd (show mo_kd K ga = 6 from mo_ob_ h.2.1 (i := 4) rfl) (show mo_kd K ro = 4 from mo_ob_ h.2.1 (i := 2) rfl) (by decide))]
theorem addMan_ow {K : mo_K} {R : Nat → Nat → Nat} {I : Nat → Nat → Int32} {e b ro co ga ow si : Nat} (h : mo_rr K R e b ro co ga ow si) {m n : Nat} {u v : Int32} : o_Roll_addMan R I ro m n u v ow = I ow := by
  unfold o_Roll_addMan
  simp only [mo_upR (a := R ro 0) (mo_nekd (show mo_kd K ow = 7 from mo_ob_ h.2.1 (i := 5) rfl) (show mo_kd K (R ro 0) = 100 from mo_rk h.2.2.1 (i := 1) rfl) (by decide)), mo_upR (a := R ro 1) (mo_nekd (show mo_kd K ow = 7 from mo_ob_ h.2.1 (i := 5) rfl) (show mo_kd K (R ro 1) = 100 from mo_rk h.2.2.1 (i := 2) rfl) (by decide)), mo_upR (a := R ro 2) (mo_nekd (show mo_kd K ow = 7 from mo_ob_ h.2.1 (i := 5) rfl) (show mo_kd K (R ro 2) = 100 from mo_rk h.2.2.1 (i := 3) rfl) (by decide)), mo_upR (a := R ro 3) (mo_nekd (show mo_kd K ow = 7 from mo_ob_ h.2.1 (i := 5) rfl) (show mo_kd K (R ro 3) = 100 from mo_rk h.2.2.1 (i := 4) rfl) (by decide)), mo_upR (a := R ro 4) (mo_nekd (show mo_kd K ow = 7 from mo_ob_ h.2.1 (i := 5) rfl) (show mo_kd K (R ro 4) = 100 from mo_rk h.2.2.1 (i := 5) rfl) (by decide)), mo_upR (a := ro) (mo_nekd (show mo_kd K ow = 7 from mo_ob_ h.2.1 (i := 5) rfl) (show mo_kd K ro = 4 from mo_ob_ h.2.1 (i := 2) rfl) (by decide))]
theorem addMan_si {K : mo_K} {R : Nat → Nat → Nat} {I : Nat → Nat → Int32} {e b ro co ga ow si : Nat} (h : mo_rr K R e b ro co ga ow si) {m n : Nat} {u v : Int32} : o_Roll_addMan R I ro m n u v si = I si := by
  unfold o_Roll_addMan
  simp only [mo_upR (a := R ro 0) (mo_nekd (show mo_kd K si = 8 from mo_ob_ h.2.1 (i := 6) rfl) (show mo_kd K (R ro 0) = 100 from mo_rk h.2.2.1 (i := 1) rfl) (by decide)), mo_upR (a := R ro 1) (mo_nekd (show mo_kd K si = 8 from mo_ob_ h.2.1 (i := 6) rfl) (show mo_kd K (R ro 1) = 100 from mo_rk h.2.2.1 (i := 2) rfl) (by decide)), mo_upR (a := R ro 2) (mo_nekd (show mo_kd K si = 8 from mo_ob_ h.2.1 (i := 6) rfl) (show mo_kd K (R ro 2) = 100 from mo_rk h.2.2.1 (i := 3) rfl) (by decide)), mo_upR (a := R ro 3) (mo_nekd (show mo_kd K si = 8 from mo_ob_ h.2.1 (i := 6) rfl) (show mo_kd K (R ro 3) = 100 from mo_rk h.2.2.1 (i := 4) rfl) (by decide)), mo_upR (a := R ro 4) (mo_nekd (show mo_kd K si = 8 from mo_ob_ h.2.1 (i := 6) rfl) (show mo_kd K (R ro 4) = 100 from mo_rk h.2.2.1 (i := 5) rfl) (by decide)), mo_upR (a := ro) (mo_nekd (show mo_kd K si = 8 from mo_ob_ h.2.1 (i := 6) rfl) (show mo_kd K ro = 4 from mo_ob_ h.2.1 (i := 2) rfl) (by decide))]
theorem addMan_e {K : mo_K} {R : Nat → Nat → Nat} {I : Nat → Nat → Int32} {e b ro co ga ow si : Nat} (h : mo_rr K R e b ro co ga ow si) {m n : Nat} {u v : Int32} : o_Roll_addMan R I ro m n u v e = I e := by
  unfold o_Roll_addMan
  simp only [mo_upR (a := R ro 0) (mo_nekd (show mo_kd K e = 1 from mo_ob_ h.2.1 (i := 0) rfl) (show mo_kd K (R ro 0) = 100 from mo_rk h.2.2.1 (i := 1) rfl) (by decide)), mo_upR (a := R ro 1) (mo_nekd (show mo_kd K e = 1 from mo_ob_ h.2.1 (i := 0) rfl) (show mo_kd K (R ro 1) = 100 from mo_rk h.2.2.1 (i := 2) rfl) (by decide)), mo_upR (a := R ro 2) (mo_nekd (show mo_kd K e = 1 from mo_ob_ h.2.1 (i := 0) rfl) (show mo_kd K (R ro 2) = 100 from mo_rk h.2.2.1 (i := 3) rfl) (by decide)), mo_upR (a := R ro 3) (mo_nekd (show mo_kd K e = 1 from mo_ob_ h.2.1 (i := 0) rfl) (show mo_kd K (R ro 3) = 100 from mo_rk h.2.2.1 (i := 4) rfl) (by decide)), mo_upR (a := R ro 4) (mo_nekd (show mo_kd K e = 1 from mo_ob_ h.2.1 (i := 0) rfl) (show mo_kd K (R ro 4) = 100 from mo_rk h.2.2.1 (i := 5) rfl) (by decide)), mo_upR (a := ro) (mo_nekd (show mo_kd K e = 1 from mo_ob_ h.2.1 (i := 0) rfl) (show mo_kd K ro = 4 from mo_ob_ h.2.1 (i := 2) rfl) (by decide))]
theorem addFoes_co {K : mo_K} {R : Nat → Nat → Nat} {I : Nat → Nat → Int32} {e b ro co ga ow si : Nat} (h : mo_rr K R e b ro co ga ow si) {x y : Nat} : o_Roll_addFoes R I ro x y co = I co := by
  unfold o_Roll_addFoes
  simp only [mo_upR (a := R ro 2) (mo_nekd (show mo_kd K co = 5 from mo_ob_ h.2.1 (i := 3) rfl) (show mo_kd K (R ro 2) = 100 from mo_rk h.2.2.1 (i := 3) rfl) (by decide)), mo_upR (a := ro) (mo_nekd (show mo_kd K co = 5 from mo_ob_ h.2.1 (i := 3) rfl) (show mo_kd K ro = 4 from mo_ob_ h.2.1 (i := 2) rfl) (by decide))]
theorem addFoes_ga {K : mo_K} {R : Nat → Nat → Nat} {I : Nat → Nat → Int32} {e b ro co ga ow si : Nat} (h : mo_rr K R e b ro co ga ow si) {x y : Nat} : o_Roll_addFoes R I ro x y ga = I ga := by
  unfold o_Roll_addFoes
  simp only [mo_upR (a := R ro 2) (mo_nekd (show mo_kd K ga = 6 from mo_ob_ h.2.1 (i := 4) rfl) (show mo_kd K (R ro 2) = 100 from mo_rk h.2.2.1 (i := 3) rfl) (by decide)), mo_upR (a := ro) (mo_nekd (show mo_kd K ga = 6 from mo_ob_ h.2.1 (i := 4) rfl) (show mo_kd K ro = 4 from mo_ob_ h.2.1 (i := 2) rfl) (by decide))]
theorem addFoes_ow {K : mo_K} {R : Nat → Nat → Nat} {I : Nat → Nat → Int32} {e b ro co ga ow si : Nat} (h : mo_rr K R e b ro co ga ow si) {x y : Nat} : o_Roll_addFoes R I ro x y ow = I ow := by
  unfold o_Roll_addFoes
  simp only [mo_upR (a := R ro 2) (mo_nekd (show mo_kd K ow = 7 from mo_ob_ h.2.1 (i := 5) rfl) (show mo_kd K (R ro 2) = 100 from mo_rk h.2.2.1 (i := 3) rfl) (by decide)), mo_upR (a := ro) (mo_nekd (show mo_kd K ow = 7 from mo_ob_ h.2.1 (i := 5) rfl) (show mo_kd K ro = 4 from mo_ob_ h.2.1 (i := 2) rfl) (by decide))]
theorem addFoes_si {K : mo_K} {R : Nat → Nat → Nat} {I : Nat → Nat → Int32} {e b ro co ga ow si : Nat} (h : mo_rr K R e b ro co ga ow si) {x y : Nat} : o_Roll_addFoes R I ro x y si = I si := by
  unfold o_Roll_addFoes
  simp only [mo_upR (a := R ro 2) (mo_nekd (show mo_kd K si = 8 from mo_ob_ h.2.1 (i := 6) rfl) (show mo_kd K (R ro 2) = 100 from mo_rk h.2.2.1 (i := 3) rfl) (by decide)), mo_upR (a := ro) (mo_nekd (show mo_kd K si = 8 from mo_ob_ h.2.1 (i := 6) rfl) (show mo_kd K ro = 4 from mo_ob_ h.2.1 (i := 2) rfl) (by decide))]
theorem addFoes_e {K : mo_K} {R : Nat → Nat → Nat} {I : Nat → Nat → Int32} {e b ro co ga ow si : Nat} (h : mo_rr K R e b ro co ga ow si) {x y : Nat} : o_Roll_addFoes R I ro x y e = I e := by
  unfold o_Roll_addFoes
  simp only [mo_upR (a := R ro 2) (mo_nekd (show mo_kd K e = 1 from mo_ob_ h.2.1 (i := 0) rfl) (show mo_kd K (R ro 2) = 100 from mo_rk h.2.2.1 (i := 3) rfl) (by decide)), mo_upR (a := ro) (mo_nekd (show mo_kd K e = 1 from mo_ob_ h.2.1 (i := 0) rfl) (show mo_kd K ro = 4 from mo_ob_ h.2.1 (i := 2) rfl) (by decide))]
theorem addFoes_Rro4 {K : mo_K} {R : Nat → Nat → Nat} {I : Nat → Nat → Int32} {e b ro co ga ow si : Nat} (h : mo_rr K R e b ro co ga ow si) {x y : Nat} : o_Roll_addFoes R I ro x y (R ro 4) = I (R ro 4) := by
  unfold o_Roll_addFoes
  simp only [mo_upR (a := R ro 2) (show R ro 4 ≠ R ro 2 from mo_nd h.2.2.2 (i := 5) (j := 3) rfl rfl (by decide)), mo_upR (a := ro) (mo_nekd (show mo_kd K (R ro 4) = 100 from mo_rk h.2.2.1 (i := 5) rfl) (show mo_kd K ro = 4 from mo_ob_ h.2.1 (i := 2) rfl) (by decide))]
theorem cadd_ro {K : mo_K} {R : Nat → Nat → Nat} {I : Nat → Nat → Int32} {e b ro co ga ow si : Nat} (h : mo_rr K R e b ro co ga ow si) {n : Nat} {u v w z : Int32} : o_cadd R I co n u v w z ro = I ro := by
  unfold o_cadd
  simp only [mo_upR (a := R co 0) (mo_nekd (show mo_kd K ro = 4 from mo_ob_ h.2.1 (i := 2) rfl) (show mo_kd K (R co 0) = 100 from mo_rk h.2.2.1 (i := 6) rfl) (by decide)), mo_upR (a := R co 1) (mo_nekd (show mo_kd K ro = 4 from mo_ob_ h.2.1 (i := 2) rfl) (show mo_kd K (R co 1) = 100 from mo_rk h.2.2.1 (i := 7) rfl) (by decide)), mo_upR (a := R co 2) (mo_nekd (show mo_kd K ro = 4 from mo_ob_ h.2.1 (i := 2) rfl) (show mo_kd K (R co 2) = 100 from mo_rk h.2.2.1 (i := 8) rfl) (by decide)), mo_upR (a := R co 3) (mo_nekd (show mo_kd K ro = 4 from mo_ob_ h.2.1 (i := 2) rfl) (show mo_kd K (R co 3) = 100 from mo_rk h.2.2.1 (i := 9) rfl) (by decide)), mo_upR (a := R co 4) (mo_nekd (show mo_kd K ro = 4 from mo_ob_ h.2.1 (i := 2) rfl) (show mo_kd K (R co 4) = 100 from mo_rk h.2.2.1 (i := 10) rfl) (by decide)), mo_upR (a := co) (mo_nekd (show mo_kd K ro = 4 from mo_ob_ h.2.1 (i := 2) rfl) (show mo_kd K co = 5 from mo_ob_ h.2.1 (i := 3) rfl) (by decide))]
theorem cadd_ga {K : mo_K} {R : Nat → Nat → Nat} {I : Nat → Nat → Int32} {e b ro co ga ow si : Nat} (h : mo_rr K R e b ro co ga ow si) {n : Nat} {u v w z : Int32} : o_cadd R I co n u v w z ga = I ga := by
  unfold o_cadd
  simp only [mo_upR (a := R co 0) (mo_nekd (show mo_kd K ga = 6 from mo_ob_ h.2.1 (i := 4) rfl) (show mo_kd K (R co 0) = 100 from mo_rk h.2.2.1 (i := 6) rfl) (by decide)), mo_upR (a := R co 1) (mo_nekd (show mo_kd K ga = 6 from mo_ob_ h.2.1 (i := 4) rfl) (show mo_kd K (R co 1) = 100 from mo_rk h.2.2.1 (i := 7) rfl) (by decide)), mo_upR (a := R co 2) (mo_nekd (show mo_kd K ga = 6 from mo_ob_ h.2.1 (i := 4) rfl) (show mo_kd K (R co 2) = 100 from mo_rk h.2.2.1 (i := 8) rfl) (by decide)), mo_upR (a := R co 3) (mo_nekd (show mo_kd K ga = 6 from mo_ob_ h.2.1 (i := 4) rfl) (show mo_kd K (R co 3) = 100 from mo_rk h.2.2.1 (i := 9) rfl) (by decide)), mo_upR (a := R co 4) (mo_nekd (show mo_kd K ga = 6 from mo_ob_ h.2.1 (i := 4) rfl) (show mo_kd K (R co 4) = 100 from mo_rk h.2.2.1 (i := 10) rfl) (by decide)), mo_upR (a := co) (mo_nekd (show mo_kd K ga = 6 from mo_ob_ h.2.1 (i := 4) rfl) (show mo_kd K co = 5 from mo_ob_ h.2.1 (i := 3) rfl) (by decide))]
theorem cadd_ow {K : mo_K} {R : Nat → Nat → Nat} {I : Nat → Nat → Int32} {e b ro co ga ow si : Nat} (h : mo_rr K R e b ro co ga ow si) {n : Nat} {u v w z : Int32} : o_cadd R I co n u v w z ow = I ow := by
  unfold o_cadd
  simp only [mo_upR (a := R co 0) (mo_nekd (show mo_kd K ow = 7 from mo_ob_ h.2.1 (i := 5) rfl) (show mo_kd K (R co 0) = 100 from mo_rk h.2.2.1 (i := 6) rfl) (by decide)), mo_upR (a := R co 1) (mo_nekd (show mo_kd K ow = 7 from mo_ob_ h.2.1 (i := 5) rfl) (show mo_kd K (R co 1) = 100 from mo_rk h.2.2.1 (i := 7) rfl) (by decide)), mo_upR (a := R co 2) (mo_nekd (show mo_kd K ow = 7 from mo_ob_ h.2.1 (i := 5) rfl) (show mo_kd K (R co 2) = 100 from mo_rk h.2.2.1 (i := 8) rfl) (by decide)), mo_upR (a := R co 3) (mo_nekd (show mo_kd K ow = 7 from mo_ob_ h.2.1 (i := 5) rfl) (show mo_kd K (R co 3) = 100 from mo_rk h.2.2.1 (i := 9) rfl) (by decide)), mo_upR (a := R co 4) (mo_nekd (show mo_kd K ow = 7 from mo_ob_ h.2.1 (i := 5) rfl) (show mo_kd K (R co 4) = 100 from mo_rk h.2.2.1 (i := 10) rfl) (by decide)), mo_upR (a := co) (mo_nekd (show mo_kd K ow = 7 from mo_ob_ h.2.1 (i := 5) rfl) (show mo_kd K co = 5 from mo_ob_ h.2.1 (i := 3) rfl) (by decide))]
theorem cadd_si {K : mo_K} {R : Nat → Nat → Nat} {I : Nat → Nat → Int32} {e b ro co ga ow si : Nat} (h : mo_rr K R e b ro co ga ow si) {n : Nat} {u v w z : Int32} : o_cadd R I co n u v w z si = I si := by
  unfold o_cadd
  simp only [mo_upR (a := R co 0) (mo_nekd (show mo_kd K si = 8 from mo_ob_ h.2.1 (i := 6) rfl) (show mo_kd K (R co 0) = 100 from mo_rk h.2.2.1 (i := 6) rfl) (by decide)), mo_upR (a := R co 1) (mo_nekd (show mo_kd K si = 8 from mo_ob_ h.2.1 (i := 6) rfl) (show mo_kd K (R co 1) = 100 from mo_rk h.2.2.1 (i := 7) rfl) (by decide)), mo_upR (a := R co 2) (mo_nekd (show mo_kd K si = 8 from mo_ob_ h.2.1 (i := 6) rfl) (show mo_kd K (R co 2) = 100 from mo_rk h.2.2.1 (i := 8) rfl) (by decide)), mo_upR (a := R co 3) (mo_nekd (show mo_kd K si = 8 from mo_ob_ h.2.1 (i := 6) rfl) (show mo_kd K (R co 3) = 100 from mo_rk h.2.2.1 (i := 9) rfl) (by decide)), mo_upR (a := R co 4) (mo_nekd (show mo_kd K si = 8 from mo_ob_ h.2.1 (i := 6) rfl) (show mo_kd K (R co 4) = 100 from mo_rk h.2.2.1 (i := 10) rfl) (by decide)), mo_upR (a := co) (mo_nekd (show mo_kd K si = 8 from mo_ob_ h.2.1 (i := 6) rfl) (show mo_kd K co = 5 from mo_ob_ h.2.1 (i := 3) rfl) (by decide))]
theorem cadd_e {K : mo_K} {R : Nat → Nat → Nat} {I : Nat → Nat → Int32} {e b ro co ga ow si : Nat} (h : mo_rr K R e b ro co ga ow si) {n : Nat} {u v w z : Int32} : o_cadd R I co n u v w z e = I e := by
  unfold o_cadd
  simp only [mo_upR (a := R co 0) (mo_nekd (show mo_kd K e = 1 from mo_ob_ h.2.1 (i := 0) rfl) (show mo_kd K (R co 0) = 100 from mo_rk h.2.2.1 (i := 6) rfl) (by decide)), mo_upR (a := R co 1) (mo_nekd (show mo_kd K e = 1 from mo_ob_ h.2.1 (i := 0) rfl) (show mo_kd K (R co 1) = 100 from mo_rk h.2.2.1 (i := 7) rfl) (by decide)), mo_upR (a := R co 2) (mo_nekd (show mo_kd K e = 1 from mo_ob_ h.2.1 (i := 0) rfl) (show mo_kd K (R co 2) = 100 from mo_rk h.2.2.1 (i := 8) rfl) (by decide)), mo_upR (a := R co 3) (mo_nekd (show mo_kd K e = 1 from mo_ob_ h.2.1 (i := 0) rfl) (show mo_kd K (R co 3) = 100 from mo_rk h.2.2.1 (i := 9) rfl) (by decide)), mo_upR (a := R co 4) (mo_nekd (show mo_kd K e = 1 from mo_ob_ h.2.1 (i := 0) rfl) (show mo_kd K (R co 4) = 100 from mo_rk h.2.2.1 (i := 10) rfl) (by decide)), mo_upR (a := co) (mo_nekd (show mo_kd K e = 1 from mo_ob_ h.2.1 (i := 0) rfl) (show mo_kd K co = 5 from mo_ob_ h.2.1 (i := 3) rfl) (by decide))]
theorem cadd_Rro4 {K : mo_K} {R : Nat → Nat → Nat} {I : Nat → Nat → Int32} {e b ro co ga ow si : Nat} (h : mo_rr K R e b ro co ga ow si) {n : Nat} {u v w z : Int32} : o_cadd R I co n u v w z (R ro 4) = I (R ro 4) := by
  unfold o_cadd
  simp only [mo_upR (a := R co 0) (show R ro 4 ≠ R co 0 from mo_nd h.2.2.2 (i := 5) (j := 6) rfl rfl (by decide)), mo_upR (a := R co 1) (show R ro 4 ≠ R co 1 from mo_nd h.2.2.2 (i := 5) (j := 7) rfl rfl (by decide)), mo_upR (a := R co 2) (show R ro 4 ≠ R co 2 from mo_nd h.2.2.2 (i := 5) (j := 8) rfl rfl (by decide)), mo_upR (a := R co 3) (show R ro 4 ≠ R co 3 from mo_nd h.2.2.2 (i := 5) (j := 9) rfl rfl (by decide)), mo_upR (a := R co 4) (show R ro 4 ≠ R co 4 from mo_nd h.2.2.2 (i := 5) (j := 10) rfl rfl (by decide)), mo_upR (a := co) (mo_nekd (show mo_kd K (R ro 4) = 100 from mo_rk h.2.2.1 (i := 5) rfl) (show mo_kd K co = 5 from mo_ob_ h.2.1 (i := 3) rfl) (by decide))]
theorem gadd_ro {K : mo_K} {R : Nat → Nat → Nat} {I : Nat → Nat → Int32} {e b ro co ga ow si : Nat} (h : mo_rr K R e b ro co ga ow si) {n : Nat} {u v w : Int32} : o_gadd R I ga n u v w ro = I ro := by
  unfold o_gadd
  simp only [mo_upR (a := R ga 0) (mo_nekd (show mo_kd K ro = 4 from mo_ob_ h.2.1 (i := 2) rfl) (show mo_kd K (R ga 0) = 100 from mo_rk h.2.2.1 (i := 11) rfl) (by decide)), mo_upR (a := R ga 1) (mo_nekd (show mo_kd K ro = 4 from mo_ob_ h.2.1 (i := 2) rfl) (show mo_kd K (R ga 1) = 100 from mo_rk h.2.2.1 (i := 12) rfl) (by decide)), mo_upR (a := R ga 2) (mo_nekd (show mo_kd K ro = 4 from mo_ob_ h.2.1 (i := 2) rfl) (show mo_kd K (R ga 2) = 100 from mo_rk h.2.2.1 (i := 13) rfl) (by decide)), mo_upR (a := ga) (mo_nekd (show mo_kd K ro = 4 from mo_ob_ h.2.1 (i := 2) rfl) (show mo_kd K ga = 6 from mo_ob_ h.2.1 (i := 4) rfl) (by decide))]
theorem gadd_co {K : mo_K} {R : Nat → Nat → Nat} {I : Nat → Nat → Int32} {e b ro co ga ow si : Nat} (h : mo_rr K R e b ro co ga ow si) {n : Nat} {u v w : Int32} : o_gadd R I ga n u v w co = I co := by
  unfold o_gadd
  simp only [mo_upR (a := R ga 0) (mo_nekd (show mo_kd K co = 5 from mo_ob_ h.2.1 (i := 3) rfl) (show mo_kd K (R ga 0) = 100 from mo_rk h.2.2.1 (i := 11) rfl) (by decide)), mo_upR (a := R ga 1) (mo_nekd (show mo_kd K co = 5 from mo_ob_ h.2.1 (i := 3) rfl) (show mo_kd K (R ga 1) = 100 from mo_rk h.2.2.1 (i := 12) rfl) (by decide)), mo_upR (a := R ga 2) (mo_nekd (show mo_kd K co = 5 from mo_ob_ h.2.1 (i := 3) rfl) (show mo_kd K (R ga 2) = 100 from mo_rk h.2.2.1 (i := 13) rfl) (by decide)), mo_upR (a := ga) (mo_nekd (show mo_kd K co = 5 from mo_ob_ h.2.1 (i := 3) rfl) (show mo_kd K ga = 6 from mo_ob_ h.2.1 (i := 4) rfl) (by decide))]
theorem gadd_ow {K : mo_K} {R : Nat → Nat → Nat} {I : Nat → Nat → Int32} {e b ro co ga ow si : Nat} (h : mo_rr K R e b ro co ga ow si) {n : Nat} {u v w : Int32} : o_gadd R I ga n u v w ow = I ow := by
  unfold o_gadd
  simp only [mo_upR (a := R ga 0) (mo_nekd (show mo_kd K ow = 7 from mo_ob_ h.2.1 (i := 5) rfl) (show mo_kd K (R ga 0) = 100 from mo_rk h.2.2.1 (i := 11) rfl) (by decide)), mo_upR (a := R ga 1) (mo_nekd (show mo_kd K ow = 7 from mo_ob_ h.2.1 (i := 5) rfl) (show mo_kd K (R ga 1) = 100 from mo_rk h.2.2.1 (i := 12) rfl) (by decide)), mo_upR (a := R ga 2) (mo_nekd (show mo_kd K ow = 7 from mo_ob_ h.2.1 (i := 5) rfl) (show mo_kd K (R ga 2) = 100 from mo_rk h.2.2.1 (i := 13) rfl) (by decide)), mo_upR (a := ga) (mo_nekd (show mo_kd K ow = 7 from mo_ob_ h.2.1 (i := 5) rfl) (show mo_kd K ga = 6 from mo_ob_ h.2.1 (i := 4) rfl) (by decide))]
theorem gadd_si {K : mo_K} {R : Nat → Nat → Nat} {I : Nat → Nat → Int32} {e b ro co ga ow si : Nat} (h : mo_rr K R e b ro co ga ow si) {n : Nat} {u v w : Int32} : o_gadd R I ga n u v w si = I si := by
  unfold o_gadd
  simp only [mo_upR (a := R ga 0) (mo_nekd (show mo_kd K si = 8 from mo_ob_ h.2.1 (i := 6) rfl) (show mo_kd K (R ga 0) = 100 from mo_rk h.2.2.1 (i := 11) rfl) (by decide)), mo_upR (a := R ga 1) (mo_nekd (show mo_kd K si = 8 from mo_ob_ h.2.1 (i := 6) rfl) (show mo_kd K (R ga 1) = 100 from mo_rk h.2.2.1 (i := 12) rfl) (by decide)), mo_upR (a := R ga 2) (mo_nekd (show mo_kd K si = 8 from mo_ob_ h.2.1 (i := 6) rfl) (show mo_kd K (R ga 2) = 100 from mo_rk h.2.2.1 (i := 13) rfl) (by decide)), mo_upR (a := ga) (mo_nekd (show mo_kd K si = 8 from mo_ob_ h.2.1 (i := 6) rfl) (show mo_kd K ga = 6 from mo_ob_ h.2.1 (i := 4) rfl) (by decide))]
theorem gadd_e {K : mo_K} {R : Nat → Nat → Nat} {I : Nat → Nat → Int32} {e b ro co ga ow si : Nat} (h : mo_rr K R e b ro co ga ow si) {n : Nat} {u v w : Int32} : o_gadd R I ga n u v w e = I e := by
  unfold o_gadd
  simp only [mo_upR (a := R ga 0) (mo_nekd (show mo_kd K e = 1 from mo_ob_ h.2.1 (i := 0) rfl) (show mo_kd K (R ga 0) = 100 from mo_rk h.2.2.1 (i := 11) rfl) (by decide)), mo_upR (a := R ga 1) (mo_nekd (show mo_kd K e = 1 from mo_ob_ h.2.1 (i := 0) rfl) (show mo_kd K (R ga 1) = 100 from mo_rk h.2.2.1 (i := 12) rfl) (by decide)), mo_upR (a := R ga 2) (mo_nekd (show mo_kd K e = 1 from mo_ob_ h.2.1 (i := 0) rfl) (show mo_kd K (R ga 2) = 100 from mo_rk h.2.2.1 (i := 13) rfl) (by decide)), mo_upR (a := ga) (mo_nekd (show mo_kd K e = 1 from mo_ob_ h.2.1 (i := 0) rfl) (show mo_kd K ga = 6 from mo_ob_ h.2.1 (i := 4) rfl) (by decide))]
theorem gadd_Rro4 {K : mo_K} {R : Nat → Nat → Nat} {I : Nat → Nat → Int32} {e b ro co ga ow si : Nat} (h : mo_rr K R e b ro co ga ow si) {n : Nat} {u v w : Int32} : o_gadd R I ga n u v w (R ro 4) = I (R ro 4) := by
  unfold o_gadd
  simp only [mo_upR (a := R ga 0) (show R ro 4 ≠ R ga 0 from mo_nd h.2.2.2 (i := 5) (j := 11) rfl rfl (by decide)), mo_upR (a := R ga 1) (show R ro 4 ≠ R ga 1 from mo_nd h.2.2.2 (i := 5) (j := 12) rfl rfl (by decide)), mo_upR (a := R ga 2) (show R ro 4 ≠ R ga 2 from mo_nd h.2.2.2 (i := 5) (j := 13) rfl rfl (by decide)), mo_upR (a := ga) (mo_nekd (show mo_kd K (R ro 4) = 100 from mo_rk h.2.2.1 (i := 5) rfl) (show mo_kd K ga = 6 from mo_ob_ h.2.1 (i := 4) rfl) (by decide))]
theorem oadd_ro {K : mo_K} {R : Nat → Nat → Nat} {I : Nat → Nat → Int32} {e b ro co ga ow si : Nat} (h : mo_rr K R e b ro co ga ow si) {n : Nat} {u v w z : Int32} : o_oadd R I ow n u v w z ro = I ro := by
  unfold o_oadd
  simp only [mo_upR (a := R ow 0) (mo_nekd (show mo_kd K ro = 4 from mo_ob_ h.2.1 (i := 2) rfl) (show mo_kd K (R ow 0) = 100 from mo_rk h.2.2.1 (i := 14) rfl) (by decide)), mo_upR (a := R ow 1) (mo_nekd (show mo_kd K ro = 4 from mo_ob_ h.2.1 (i := 2) rfl) (show mo_kd K (R ow 1) = 100 from mo_rk h.2.2.1 (i := 15) rfl) (by decide)), mo_upR (a := R ow 2) (mo_nekd (show mo_kd K ro = 4 from mo_ob_ h.2.1 (i := 2) rfl) (show mo_kd K (R ow 2) = 100 from mo_rk h.2.2.1 (i := 16) rfl) (by decide)), mo_upR (a := R ow 3) (mo_nekd (show mo_kd K ro = 4 from mo_ob_ h.2.1 (i := 2) rfl) (show mo_kd K (R ow 3) = 100 from mo_rk h.2.2.1 (i := 17) rfl) (by decide)), mo_upR (a := ow) (mo_nekd (show mo_kd K ro = 4 from mo_ob_ h.2.1 (i := 2) rfl) (show mo_kd K ow = 7 from mo_ob_ h.2.1 (i := 5) rfl) (by decide))]
theorem oadd_co {K : mo_K} {R : Nat → Nat → Nat} {I : Nat → Nat → Int32} {e b ro co ga ow si : Nat} (h : mo_rr K R e b ro co ga ow si) {n : Nat} {u v w z : Int32} : o_oadd R I ow n u v w z co = I co := by
  unfold o_oadd
  simp only [mo_upR (a := R ow 0) (mo_nekd (show mo_kd K co = 5 from mo_ob_ h.2.1 (i := 3) rfl) (show mo_kd K (R ow 0) = 100 from mo_rk h.2.2.1 (i := 14) rfl) (by decide)), mo_upR (a := R ow 1) (mo_nekd (show mo_kd K co = 5 from mo_ob_ h.2.1 (i := 3) rfl) (show mo_kd K (R ow 1) = 100 from mo_rk h.2.2.1 (i := 15) rfl) (by decide)), mo_upR (a := R ow 2) (mo_nekd (show mo_kd K co = 5 from mo_ob_ h.2.1 (i := 3) rfl) (show mo_kd K (R ow 2) = 100 from mo_rk h.2.2.1 (i := 16) rfl) (by decide)), mo_upR (a := R ow 3) (mo_nekd (show mo_kd K co = 5 from mo_ob_ h.2.1 (i := 3) rfl) (show mo_kd K (R ow 3) = 100 from mo_rk h.2.2.1 (i := 17) rfl) (by decide)), mo_upR (a := ow) (mo_nekd (show mo_kd K co = 5 from mo_ob_ h.2.1 (i := 3) rfl) (show mo_kd K ow = 7 from mo_ob_ h.2.1 (i := 5) rfl) (by decide))]
theorem oadd_ga {K : mo_K} {R : Nat → Nat → Nat} {I : Nat → Nat → Int32} {e b ro co ga ow si : Nat} (h : mo_rr K R e b ro co ga ow si) {n : Nat} {u v w z : Int32} : o_oadd R I ow n u v w z ga = I ga := by
  unfold o_oadd
  simp only [mo_upR (a := R ow 0) (mo_nekd (show mo_kd K ga = 6 from mo_ob_ h.2.1 (i := 4) rfl) (show mo_kd K (R ow 0) = 100 from mo_rk h.2.2.1 (i := 14) rfl) (by decide)), mo_upR (a := R ow 1) (mo_nekd (show mo_kd K ga = 6 from mo_ob_ h.2.1 (i := 4) rfl) (show mo_kd K (R ow 1) = 100 from mo_rk h.2.2.1 (i := 15) rfl) (by decide)), mo_upR (a := R ow 2) (mo_nekd (show mo_kd K ga = 6 from mo_ob_ h.2.1 (i := 4) rfl) (show mo_kd K (R ow 2) = 100 from mo_rk h.2.2.1 (i := 16) rfl) (by decide)), mo_upR (a := R ow 3) (mo_nekd (show mo_kd K ga = 6 from mo_ob_ h.2.1 (i := 4) rfl) (show mo_kd K (R ow 3) = 100 from mo_rk h.2.2.1 (i := 17) rfl) (by decide)), mo_upR (a := ow) (mo_nekd (show mo_kd K ga = 6 from mo_ob_ h.2.1 (i := 4) rfl) (show mo_kd K ow = 7 from mo_ob_ h.2.1 (i := 5) rfl) (by decide))]
theorem oadd_si {K : mo_K} {R : Nat → Nat → Nat} {I : Nat → Nat → Int32} {e b ro co ga ow si : Nat} (h : mo_rr K R e b ro co ga ow si) {n : Nat} {u v w z : Int32} : o_oadd R I ow n u v w z si = I si := by
  unfold o_oadd
  simp only [mo_upR (a := R ow 0) (mo_nekd (show mo_kd K si = 8 from mo_ob_ h.2.1 (i := 6) rfl) (show mo_kd K (R ow 0) = 100 from mo_rk h.2.2.1 (i := 14) rfl) (by decide)), mo_upR (a := R ow 1) (mo_nekd (show mo_kd K si = 8 from mo_ob_ h.2.1 (i := 6) rfl) (show mo_kd K (R ow 1) = 100 from mo_rk h.2.2.1 (i := 15) rfl) (by decide)), mo_upR (a := R ow 2) (mo_nekd (show mo_kd K si = 8 from mo_ob_ h.2.1 (i := 6) rfl) (show mo_kd K (R ow 2) = 100 from mo_rk h.2.2.1 (i := 16) rfl) (by decide)), mo_upR (a := R ow 3) (mo_nekd (show mo_kd K si = 8 from mo_ob_ h.2.1 (i := 6) rfl) (show mo_kd K (R ow 3) = 100 from mo_rk h.2.2.1 (i := 17) rfl) (by decide)), mo_upR (a := ow) (mo_nekd (show mo_kd K si = 8 from mo_ob_ h.2.1 (i := 6) rfl) (show mo_kd K ow = 7 from mo_ob_ h.2.1 (i := 5) rfl) (by decide))]
theorem oadd_e {K : mo_K} {R : Nat → Nat → Nat} {I : Nat → Nat → Int32} {e b ro co ga ow si : Nat} (h : mo_rr K R e b ro co ga ow si) {n : Nat} {u v w z : Int32} : o_oadd R I ow n u v w z e = I e := by
  unfold o_oadd
  simp only [mo_upR (a := R ow 0) (mo_nekd (show mo_kd K e = 1 from mo_ob_ h.2.1 (i := 0) rfl) (show mo_kd K (R ow 0) = 100 from mo_rk h.2.2.1 (i := 14) rfl) (by decide)), mo_upR (a := R ow 1) (mo_nekd (show mo_kd K e = 1 from mo_ob_ h.2.1 (i := 0) rfl) (show mo_kd K (R ow 1) = 100 from mo_rk h.2.2.1 (i := 15) rfl) (by decide)), mo_upR (a := R ow 2) (mo_nekd (show mo_kd K e = 1 from mo_ob_ h.2.1 (i := 0) rfl) (show mo_kd K (R ow 2) = 100 from mo_rk h.2.2.1 (i := 16) rfl) (by decide)), mo_upR (a := R ow 3) (mo_nekd (show mo_kd K e = 1 from mo_ob_ h.2.1 (i := 0) rfl) (show mo_kd K (R ow 3) = 100 from mo_rk h.2.2.1 (i := 17) rfl) (by decide)), mo_upR (a := ow) (mo_nekd (show mo_kd K e = 1 from mo_ob_ h.2.1 (i := 0) rfl) (show mo_kd K ow = 7 from mo_ob_ h.2.1 (i := 5) rfl) (by decide))]
theorem oadd_Rro4 {K : mo_K} {R : Nat → Nat → Nat} {I : Nat → Nat → Int32} {e b ro co ga ow si : Nat} (h : mo_rr K R e b ro co ga ow si) {n : Nat} {u v w z : Int32} : o_oadd R I ow n u v w z (R ro 4) = I (R ro 4) := by
  unfold o_oadd
  simp only [mo_upR (a := R ow 0) (show R ro 4 ≠ R ow 0 from mo_nd h.2.2.2 (i := 5) (j := 14) rfl rfl (by decide)), mo_upR (a := R ow 1) (show R ro 4 ≠ R ow 1 from mo_nd h.2.2.2 (i := 5) (j := 15) rfl rfl (by decide)), mo_upR (a := R ow 2) (show R ro 4 ≠ R ow 2 from mo_nd h.2.2.2 (i := 5) (j := 16) rfl rfl (by decide)), mo_upR (a := R ow 3) (show R ro 4 ≠ R ow 3 from mo_nd h.2.2.2 (i := 5) (j := 17) rfl rfl (by decide)), mo_upR (a := ow) (mo_nekd (show mo_kd K (R ro 4) = 100 from mo_rk h.2.2.1 (i := 5) rfl) (show mo_kd K ow = 7 from mo_ob_ h.2.1 (i := 5) rfl) (by decide))]
theorem sadd_ro {K : mo_K} {R : Nat → Nat → Nat} {I : Nat → Nat → Int32} {e b ro co ga ow si : Nat} (h : mo_rr K R e b ro co ga ow si) {n : Nat} {u v : Int32} : o_sadd R I si n u v ro = I ro := by
  unfold o_sadd
  simp only [mo_upR (a := R si 0) (mo_nekd (show mo_kd K ro = 4 from mo_ob_ h.2.1 (i := 2) rfl) (show mo_kd K (R si 0) = 100 from mo_rk h.2.2.1 (i := 18) rfl) (by decide)), mo_upR (a := R si 1) (mo_nekd (show mo_kd K ro = 4 from mo_ob_ h.2.1 (i := 2) rfl) (show mo_kd K (R si 1) = 100 from mo_rk h.2.2.1 (i := 19) rfl) (by decide)), mo_upR (a := si) (mo_nekd (show mo_kd K ro = 4 from mo_ob_ h.2.1 (i := 2) rfl) (show mo_kd K si = 8 from mo_ob_ h.2.1 (i := 6) rfl) (by decide))]
theorem sadd_co {K : mo_K} {R : Nat → Nat → Nat} {I : Nat → Nat → Int32} {e b ro co ga ow si : Nat} (h : mo_rr K R e b ro co ga ow si) {n : Nat} {u v : Int32} : o_sadd R I si n u v co = I co := by
  unfold o_sadd
  simp only [mo_upR (a := R si 0) (mo_nekd (show mo_kd K co = 5 from mo_ob_ h.2.1 (i := 3) rfl) (show mo_kd K (R si 0) = 100 from mo_rk h.2.2.1 (i := 18) rfl) (by decide)), mo_upR (a := R si 1) (mo_nekd (show mo_kd K co = 5 from mo_ob_ h.2.1 (i := 3) rfl) (show mo_kd K (R si 1) = 100 from mo_rk h.2.2.1 (i := 19) rfl) (by decide)), mo_upR (a := si) (mo_nekd (show mo_kd K co = 5 from mo_ob_ h.2.1 (i := 3) rfl) (show mo_kd K si = 8 from mo_ob_ h.2.1 (i := 6) rfl) (by decide))]
theorem sadd_ga {K : mo_K} {R : Nat → Nat → Nat} {I : Nat → Nat → Int32} {e b ro co ga ow si : Nat} (h : mo_rr K R e b ro co ga ow si) {n : Nat} {u v : Int32} : o_sadd R I si n u v ga = I ga := by
  unfold o_sadd
  simp only [mo_upR (a := R si 0) (mo_nekd (show mo_kd K ga = 6 from mo_ob_ h.2.1 (i := 4) rfl) (show mo_kd K (R si 0) = 100 from mo_rk h.2.2.1 (i := 18) rfl) (by decide)), mo_upR (a := R si 1) (mo_nekd (show mo_kd K ga = 6 from mo_ob_ h.2.1 (i := 4) rfl) (show mo_kd K (R si 1) = 100 from mo_rk h.2.2.1 (i := 19) rfl) (by decide)), mo_upR (a := si) (mo_nekd (show mo_kd K ga = 6 from mo_ob_ h.2.1 (i := 4) rfl) (show mo_kd K si = 8 from mo_ob_ h.2.1 (i := 6) rfl) (by decide))]
theorem sadd_ow {K : mo_K} {R : Nat → Nat → Nat} {I : Nat → Nat → Int32} {e b ro co ga ow si : Nat} (h : mo_rr K R e b ro co ga ow si) {n : Nat} {u v : Int32} : o_sadd R I si n u v ow = I ow := by
  unfold o_sadd
  simp only [mo_upR (a := R si 0) (mo_nekd (show mo_kd K ow = 7 from mo_ob_ h.2.1 (i := 5) rfl) (show mo_kd K (R si 0) = 100 from mo_rk h.2.2.1 (i := 18) rfl) (by decide)), mo_upR (a := R si 1) (mo_nekd (show mo_kd K ow = 7 from mo_ob_ h.2.1 (i := 5) rfl) (show mo_kd K (R si 1) = 100 from mo_rk h.2.2.1 (i := 19) rfl) (by decide)), mo_upR (a := si) (mo_nekd (show mo_kd K ow = 7 from mo_ob_ h.2.1 (i := 5) rfl) (show mo_kd K si = 8 from mo_ob_ h.2.1 (i := 6) rfl) (by decide))]
theorem sadd_e {K : mo_K} {R : Nat → Nat → Nat} {I : Nat → Nat → Int32} {e b ro co ga ow si : Nat} (h : mo_rr K R e b ro co ga ow si) {n : Nat} {u v : Int32} : o_sadd R I si n u v e = I e := by
  unfold o_sadd
  simp only [mo_upR (a := R si 0) (mo_nekd (show mo_kd K e = 1 from mo_ob_ h.2.1 (i := 0) rfl) (show mo_kd K (R si 0) = 100 from mo_rk h.2.2.1 (i := 18) rfl) (by decide)), mo_upR (a := R si 1) (mo_nekd (show mo_kd K e = 1 from mo_ob_ h.2.1 (i := 0) rfl) (show mo_kd K (R si 1) = 100 from mo_rk h.2.2.1 (i := 19) rfl) (by decide)), mo_upR (a := si) (mo_nekd (show mo_kd K e = 1 from mo_ob_ h.2.1 (i := 0) rfl) (show mo_kd K si = 8 from mo_ob_ h.2.1 (i := 6) rfl) (by decide))]
theorem sadd_Rro4 {K : mo_K} {R : Nat → Nat → Nat} {I : Nat → Nat → Int32} {e b ro co ga ow si : Nat} (h : mo_rr K R e b ro co ga ow si) {n : Nat} {u v : Int32} : o_sadd R I si n u v (R ro 4) = I (R ro 4) := by
  unfold o_sadd
  simp only [mo_upR (a := R si 0) (show R ro 4 ≠ R si 0 from mo_nd h.2.2.2 (i := 5) (j := 18) rfl rfl (by decide)), mo_upR (a := R si 1) (show R ro 4 ≠ R si 1 from mo_nd h.2.2.2 (i := 5) (j := 19) rfl rfl (by decide)), mo_upR (a := si) (mo_nekd (show mo_kd K (R ro 4) = 100 from mo_rk h.2.2.1 (i := 5) rfl) (show mo_kd K si = 8 from mo_ob_ h.2.1 (i := 6) rfl) (by decide))]
theorem addName_rl {K : mo_K} {R : Nat → Nat → Nat} {I : Nat → Nat → Int32} {e b ro co ga ow si : Nat} (h : mo_rr K R e b ro co ga ow si) {u : Int32} {o : Option Nat} (hD : mo_rl_ I R ro) (hn : cN I ro < 12) (ho : ∀ v, o = some v → v < cM I ro) : mo_rl_ (o_Roll_addName R I ro (cN I ro) u (mo_oi o)) R ro := by
  refine mo_rl_of (M := cM I ro) (N := cN I ro + 1) (O := fun k => if k = cN I ro then o else cOw I R ro k) ?_ hD.2.1 ?_ (by omega) ?_
  · unfold o_Roll_addName
    rw [mo_upK _ _ _ (by decide), mo_upQ _ _ _ (mo_nekd (show mo_kd K ro = 4 from mo_ob_ h.2.1 (i := 2) rfl) (show mo_kd K (R ro 4) = 100 from mo_rk h.2.2.1 (i := 5) rfl) (by decide)), mo_upQ _ _ _ (mo_nekd (show mo_kd K ro = 4 from mo_ob_ h.2.1 (i := 2) rfl) (show mo_kd K (R ro 3) = 100 from mo_rk h.2.2.1 (i := 4) rfl) (by decide))]
    exact hD.1
  · unfold o_Roll_addName
    rw [mo_upA]
  · intro k hk
    unfold o_Roll_addName
    rw [mo_upQ _ _ _ (Ne.symm (mo_nekd (show mo_kd K ro = 4 from mo_ob_ h.2.1 (i := 2) rfl) (show mo_kd K (R ro 4) = 100 from mo_rk h.2.2.1 (i := 5) rfl) (by decide)))]
    by_cases c : k = cN I ro
    · subst c
      rw [mo_upA, if_pos rfl]
      exact ⟨rfl, ho⟩
    · rw [mo_upK _ _ _ c, mo_upQ _ _ _ (show R ro 4 ≠ R ro 3 from mo_nd h.2.2.2 (i := 5) (j := 4) rfl rfl (by decide)), if_neg c]
      exact hD.2.2.2.2 k (by omega)
theorem addMan_rl {K : mo_K} {R : Nat → Nat → Nat} {I : Nat → Nat → Int32} {e b ro co ga ow si : Nat} (h : mo_rr K R e b ro co ga ow si) {u v : Int32} (hD : mo_rl_ I R ro) (hm : cM I ro < 8) (hn : cN I ro < 12) : mo_rl_ (o_Roll_addMan R I ro (cM I ro) (cN I ro) u v) R ro := by
  refine mo_rl_of (M := cM I ro + 1) (N := cN I ro + 1) (O := fun k => if k = cN I ro then some (cM I ro) else cOw I R ro k) ?_ (by omega) ?_ (by omega) ?_
  · unfold o_Roll_addMan
    rw [mo_upA]
  · unfold o_Roll_addMan
    rw [mo_upK _ _ _ (by decide), mo_upA]
  · intro k hk
    unfold o_Roll_addMan
    rw [mo_upQ _ _ _ (Ne.symm (mo_nekd (show mo_kd K ro = 4 from mo_ob_ h.2.1 (i := 2) rfl) (show mo_kd K (R ro 4) = 100 from mo_rk h.2.2.1 (i := 5) rfl) (by decide))), mo_upQ _ _ _ (Ne.symm (mo_nekd (show mo_kd K ro = 4 from mo_ob_ h.2.1 (i := 2) rfl) (show mo_kd K (R ro 4) = 100 from mo_rk h.2.2.1 (i := 5) rfl) (by decide)))]
    by_cases c : k = cN I ro
    · subst c
      rw [mo_upA, if_pos rfl]
      exact ⟨rfl, fun v hv => by have := Option.some.inj hv; omega⟩
    · rw [mo_upK _ _ _ c, mo_upQ _ _ _ (show R ro 4 ≠ R ro 3 from mo_nd h.2.2.2 (i := 5) (j := 4) rfl rfl (by decide)), mo_upQ _ _ _ (show R ro 4 ≠ R ro 2 from mo_nd h.2.2.2 (i := 5) (j := 3) rfl rfl (by decide)), mo_upQ _ _ _ (show R ro 4 ≠ R ro 1 from mo_nd h.2.2.2 (i := 5) (j := 2) rfl rfl (by decide)), mo_upQ _ _ _ (show R ro 4 ≠ R ro 0 from mo_nd h.2.2.2 (i := 5) (j := 1) rfl rfl (by decide)), if_neg c]
      exact ⟨(hD.2.2.2.2 k (by omega)).1, fun v hv => Nat.lt_succ_of_lt ((hD.2.2.2.2 k (by omega)).2 v hv)⟩
theorem addFoes_rl {K : mo_K} {R : Nat → Nat → Nat} {I : Nat → Nat → Int32} {e b ro co ga ow si : Nat} (h : mo_rr K R e b ro co ga ow si) {x y : Nat} (hD : mo_rl_ I R ro) : mo_rl_ (o_Roll_addFoes R I ro x y) R ro := by
  refine mo_rl_of (M := cM I ro) (N := cN I ro) (O := cOw I R ro) ?_ hD.2.1 ?_ hD.2.2.2.1 ?_
  · unfold o_Roll_addFoes
    rw [mo_upK _ _ _ (by decide), mo_upQ _ _ _ (mo_nekd (show mo_kd K ro = 4 from mo_ob_ h.2.1 (i := 2) rfl) (show mo_kd K (R ro 2) = 100 from mo_rk h.2.2.1 (i := 3) rfl) (by decide)), mo_upQ _ _ _ (mo_nekd (show mo_kd K ro = 4 from mo_ob_ h.2.1 (i := 2) rfl) (show mo_kd K (R ro 2) = 100 from mo_rk h.2.2.1 (i := 3) rfl) (by decide))]
    exact hD.1
  · unfold o_Roll_addFoes
    rw [mo_upK _ _ _ (by decide), mo_upQ _ _ _ (mo_nekd (show mo_kd K ro = 4 from mo_ob_ h.2.1 (i := 2) rfl) (show mo_kd K (R ro 2) = 100 from mo_rk h.2.2.1 (i := 3) rfl) (by decide)), mo_upQ _ _ _ (mo_nekd (show mo_kd K ro = 4 from mo_ob_ h.2.1 (i := 2) rfl) (show mo_kd K (R ro 2) = 100 from mo_rk h.2.2.1 (i := 3) rfl) (by decide))]
    exact hD.2.2.1
  · intro k hk
    rw [addFoes_Rro4 h]
    exact hD.2.2.2.2 k hk
theorem cadd_rc {K : mo_K} {R : Nat → Nat → Nat} {I : Nat → Nat → Int32} {e b ro co ga ow si : Nat} (h : mo_rr K R e b ro co ga ow si) {u v w z : Int32} (hE : mo_rc_ I co ga ow) (hn : cC I co < 40) : mo_rc_ (o_cadd R I co (cC I co) u v w z) co ga ow :=
  mo_rc_of (a := cC I co + 1) (by unfold o_cadd; rw [mo_upA]) (by omega) (by rw [cadd_ga h]; exact hE.2.1.1) hE.2.1.2 (by rw [cadd_ow h]; exact hE.2.2.1) hE.2.2.2
theorem gadd_rc {K : mo_K} {R : Nat → Nat → Nat} {I : Nat → Nat → Int32} {e b ro co ga ow si : Nat} (h : mo_rr K R e b ro co ga ow si) {u v w : Int32} (hE : mo_rc_ I co ga ow) (hn : cG I ga < 40) : mo_rc_ (o_gadd R I ga (cG I ga) u v w) co ga ow :=
  mo_rc_of (b := cG I ga + 1) (by rw [gadd_co h]; exact hE.1.1) hE.1.2 (by unfold o_gadd; rw [mo_upA]) (by omega) (by rw [gadd_ow h]; exact hE.2.2.1) hE.2.2.2
theorem oadd_rc {K : mo_K} {R : Nat → Nat → Nat} {I : Nat → Nat → Int32} {e b ro co ga ow si : Nat} (h : mo_rr K R e b ro co ga ow si) {u v w z : Int32} (hE : mo_rc_ I co ga ow) (hn : cO I ow < 40) : mo_rc_ (o_oadd R I ow (cO I ow) u v w z) co ga ow :=
  mo_rc_of (c := cO I ow + 1) (by rw [oadd_co h]; exact hE.1.1) hE.1.2 (by rw [oadd_ga h]; exact hE.2.1.1) hE.2.1.2 (by unfold o_oadd; rw [mo_upA]) (by omega)
theorem tkG_0 {K : mo_K} {R : Nat → Nat → Nat} {I : Nat → Nat → Int32} {e b ro co ga ow si : Nat} (h : mo_rr K R e b ro co ga ow si) {xs : List Nat} {lim q : Nat} {v : Int32} (hX : mo_xp I R b xs) (hl : I b 2 = nI lim) (hq : q ≤ xs.length) : tkG K R b ro co ga ow xs lim (0, mo_up I e 1 v, q) :=
  ⟨Or.inl rfl, fun z => absurd (show (0 : Int32) = 1 from z) (by decide), ⟨mo_xp_off hX (mo_nekd (show mo_kd K b = 2 from mo_ob_ h.2.1 (i := 1) rfl) (show mo_kd K e = 1 from mo_ob_ h.2.1 (i := 0) rfl) (by decide)) (mo_nekd (show mo_kd K (R b 0) = 102 from mo_rk h.2.2.1 (i := 0) rfl) (show mo_kd K e = 1 from mo_ob_ h.2.1 (i := 0) rfl) (by decide)), (mo_upQ _ _ _ (mo_nekd (show mo_kd K b = 2 from mo_ob_ h.2.1 (i := 1) rfl) (show mo_kd K e = 1 from mo_ob_ h.2.1 (i := 0) rfl) (by decide))).trans hl⟩, hq⟩
theorem tkG_1 {K : mo_K} {R : Nat → Nat → Nat} {I : Nat → Nat → Int32} {b ro co ga ow : Nat} {xs : List Nat} {lim q : Nat} (hX : mo_xp I R b xs) (hl : I b 2 = nI lim) (hD : mo_rl_ I R ro) (hE : mo_rc_ I co ga ow) (hq : q ≤ xs.length) : tkG K R b ro co ga ow xs lim (1, I, q) :=
  ⟨Or.inr rfl, fun _ => ⟨hD, hE⟩, ⟨hX, hl⟩, hq⟩
set_option maxHeartbeats 4000000 in
theorem readMan_G {K : mo_K} {R : Nat → Nat → Nat} {I : Nat → Nat → Int32} {e b ro co ga ow si : Nat} (h : mo_rr K R e b ro co ga ow si) {xs : List Nat} {lim p : Nat} (hX : mo_xp I R b xs) (hl : I b 2 = nI lim) (hp : p ≤ xs.length) (hD : mo_rl_ I R ro) (hE : mo_rc_ I co ga ow) : tkG K R b ro co ga ow xs lim (o_Reader_readMan R I e ro xs lim p) := by
  have hd1 := hD.2.1
  have hd2 := hD.2.2.2.1
  have he1 := hE.1.2
  have he2 := hE.2.1.2
  have he3 := hE.2.2.2
  unfold o_Reader_readMan
  repeat' (first | (refine mo_pif (fun _ => ?_) (fun _ => ?_)) | (refine mo_pop (fun _ => ?_) (fun _ _ => ?_)))
  all_goals (first | (exact tkG_0 h hX hl (by first | assumption | (repeat (first | assumption | apply tkN_le)))) | (exact tkG_0 h (mo_xp_fr hX (addMan_b h) (addMan_b0 h)) ((congrFun (addMan_b h) 2).trans hl) (by repeat (first | assumption | apply tkN_le))) | (exact tkG_1 (mo_xp_fr hX (addMan_b h) (addMan_b0 h)) ((congrFun (addMan_b h) 2).trans hl) (addMan_rl h hD (by omega) (by omega)) (mo_rc_fr hE (addMan_co h) (addMan_ga h) (addMan_ow h)) (by repeat (first | assumption | apply tkN_le))))
set_option maxHeartbeats 4000000 in
theorem readName_G {K : mo_K} {R : Nat → Nat → Nat} {I : Nat → Nat → Int32} {e b ro co ga ow si : Nat} (h : mo_rr K R e b ro co ga ow si) {xs : List Nat} {lim p : Nat} (hX : mo_xp I R b xs) (hl : I b 2 = nI lim) (hp : p ≤ xs.length) (hD : mo_rl_ I R ro) (hE : mo_rc_ I co ga ow) : tkG K R b ro co ga ow xs lim (o_Reader_readName R I e ro xs lim p) := by
  have hd1 := hD.2.1
  have hd2 := hD.2.2.2.1
  have he1 := hE.1.2
  have he2 := hE.2.1.2
  have he3 := hE.2.2.2
  unfold o_Reader_readName
  repeat' (first | (refine mo_pif (fun _ => ?_) (fun _ => ?_)) | (refine mo_pop (fun _ => ?_) (fun _ _ => ?_)))
  all_goals (first | (exact tkG_0 h hX hl (by first | assumption | (repeat (first | assumption | apply tkN_le)))) | (exact tkG_0 h (mo_xp_fr hX (addName_b h) (addName_b0 h)) ((congrFun (addName_b h) 2).trans hl) (by repeat (first | assumption | apply tkN_le))) | (exact tkG_1 (mo_xp_fr hX (addName_b h) (addName_b0 h)) ((congrFun (addName_b h) 2).trans hl) (addName_rl (o := none) h hD (by omega) (fun v z => by cases z)) (mo_rc_fr hE (addName_co h) (addName_ga h) (addName_ow h)) (by repeat (first | assumption | apply tkN_le))))
set_option maxHeartbeats 4000000 in
theorem readComes_G {K : mo_K} {R : Nat → Nat → Nat} {I : Nat → Nat → Int32} {e b ro co ga ow si : Nat} (h : mo_rr K R e b ro co ga ow si) {xs : List Nat} {lim p : Nat} (hX : mo_xp I R b xs) (hl : I b 2 = nI lim) (hp : p ≤ xs.length) (hD : mo_rl_ I R ro) (hE : mo_rc_ I co ga ow) : tkG K R b ro co ga ow xs lim (o_Reader_readComes R I e ro co xs lim p) := by
  have hd1 := hD.2.1
  have hd2 := hD.2.2.2.1
  have he1 := hE.1.2
  have he2 := hE.2.1.2
  have he3 := hE.2.2.2
  unfold o_Reader_readComes
  repeat' (first | (refine mo_pif (fun _ => ?_) (fun _ => ?_)) | (refine mo_pop (fun _ => ?_) (fun _ _ => ?_)))
  all_goals (first | (exact tkG_0 h hX hl (by first | assumption | (repeat (first | assumption | apply tkN_le)))) | (exact tkG_0 h (mo_xp_fr hX (cadd_b h) (cadd_b0 h)) ((congrFun (cadd_b h) 2).trans hl) (by repeat (first | assumption | apply tkN_le))) | (exact tkG_1 (mo_xp_fr hX (cadd_b h) (cadd_b0 h)) ((congrFun (cadd_b h) 2).trans hl) (mo_rl_fr hD (cadd_ro h) (cadd_Rro4 h)) (cadd_rc h hE (by omega)) (by repeat (first | assumption | apply tkN_le))))
set_option maxHeartbeats 4000000 in
theorem readBrings_G {K : mo_K} {R : Nat → Nat → Nat} {I : Nat → Nat → Int32} {e b ro co ga ow si : Nat} (h : mo_rr K R e b ro co ga ow si) {xs : List Nat} {lim p : Nat} (hX : mo_xp I R b xs) (hl : I b 2 = nI lim) (hp : p ≤ xs.length) (hD : mo_rl_ I R ro) (hE : mo_rc_ I co ga ow) : tkG K R b ro co ga ow xs lim (o_Reader_readBrings R I e ro ga xs lim p) := by
  have hd1 := hD.2.1
  have hd2 := hD.2.2.2.1
  have he1 := hE.1.2
  have he2 := hE.2.1.2
  have he3 := hE.2.2.2
  unfold o_Reader_readBrings
  repeat' (first | (refine mo_pif (fun _ => ?_) (fun _ => ?_)) | (refine mo_pop (fun _ => ?_) (fun _ _ => ?_)))
  all_goals (first | (exact tkG_0 h hX hl (by first | assumption | (repeat (first | assumption | apply tkN_le)))) | (exact tkG_0 h (mo_xp_fr hX (gadd_b h) (gadd_b0 h)) ((congrFun (gadd_b h) 2).trans hl) (by repeat (first | assumption | apply tkN_le))) | (exact tkG_1 (mo_xp_fr hX (gadd_b h) (gadd_b0 h)) ((congrFun (gadd_b h) 2).trans hl) (mo_rl_fr hD (gadd_ro h) (gadd_Rro4 h)) (gadd_rc h hE (by omega)) (by repeat (first | assumption | apply tkN_le))))
set_option maxHeartbeats 4000000 in
theorem readOwes_G {K : mo_K} {R : Nat → Nat → Nat} {I : Nat → Nat → Int32} {e b ro co ga ow si : Nat} (h : mo_rr K R e b ro co ga ow si) {xs : List Nat} {lim p : Nat} (hX : mo_xp I R b xs) (hl : I b 2 = nI lim) (hp : p ≤ xs.length) (hD : mo_rl_ I R ro) (hE : mo_rc_ I co ga ow) : tkG K R b ro co ga ow xs lim (o_Reader_readOwes R I e ro ow xs lim p) := by
  have hd1 := hD.2.1
  have hd2 := hD.2.2.2.1
  have he1 := hE.1.2
  have he2 := hE.2.1.2
  have he3 := hE.2.2.2
  unfold o_Reader_readOwes
  repeat' (first | (refine mo_pif (fun _ => ?_) (fun _ => ?_)) | (refine mo_pop (fun _ => ?_) (fun _ _ => ?_)))
  all_goals (first | (exact tkG_0 h hX hl (by first | assumption | (repeat (first | assumption | apply tkN_le)))) | (exact tkG_0 h (mo_xp_fr hX (oadd_b h) (oadd_b0 h)) ((congrFun (oadd_b h) 2).trans hl) (by repeat (first | assumption | apply tkN_le))) | (exact tkG_1 (mo_xp_fr hX (oadd_b h) (oadd_b0 h)) ((congrFun (oadd_b h) 2).trans hl) (mo_rl_fr hD (oadd_ro h) (oadd_Rro4 h)) (oadd_rc h hE (by omega)) (by repeat (first | assumption | apply tkN_le))))
set_option maxHeartbeats 4000000 in
theorem readFoes_G {K : mo_K} {R : Nat → Nat → Nat} {I : Nat → Nat → Int32} {e b ro co ga ow si : Nat} (h : mo_rr K R e b ro co ga ow si) {xs : List Nat} {lim p : Nat} (hX : mo_xp I R b xs) (hl : I b 2 = nI lim) (hp : p ≤ xs.length) (hD : mo_rl_ I R ro) (hE : mo_rc_ I co ga ow) : tkG K R b ro co ga ow xs lim (o_Reader_readFoes R I e ro xs lim p) := by
  have hd1 := hD.2.1
  have hd2 := hD.2.2.2.1
  have he1 := hE.1.2
  have he2 := hE.2.1.2
  have he3 := hE.2.2.2
  unfold o_Reader_readFoes
  repeat' (first | (refine mo_pif (fun _ => ?_) (fun _ => ?_)) | (refine mo_pop (fun _ => ?_) (fun _ _ => ?_)))
  all_goals (first | (exact tkG_0 h hX hl (by first | assumption | (repeat (first | assumption | apply tkN_le)))) | (exact tkG_0 h (mo_xp_fr hX (addFoes_b h) (addFoes_b0 h)) ((congrFun (addFoes_b h) 2).trans hl) (by repeat (first | assumption | apply tkN_le))) | (exact tkG_1 (mo_xp_fr hX (addFoes_b h) (addFoes_b0 h)) ((congrFun (addFoes_b h) 2).trans hl) (addFoes_rl h hD) (mo_rc_fr hE (addFoes_co h) (addFoes_ga h) (addFoes_ow h)) (by repeat (first | assumption | apply tkN_le))))
