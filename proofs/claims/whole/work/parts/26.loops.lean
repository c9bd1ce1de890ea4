/-! Loops told as iterations. -/
def mo_it {S : Type} (body : Nat → S → S) : Nat → Nat → S → S
  | 0, _, s => s
  | k + 1, i, s => mo_it body k (i + 1) (body i s)
theorem mo_itJ {S : Type} {J : mo_F → Prop} {N : Nat} {body : Nat → S → S} {head : Nat → S → mo_F} {Inv : Nat → S → Prop}
    (hs : ∀ i s, i < N → Inv i s → (∀ s', body i s = s' → Inv (i + 1) s' → J (head (i + 1) s')) → J (head i s)) :
    ∀ k i s, i + k = N → Inv i s → (Inv N (mo_it body k i s) → J (head N (mo_it body k i s))) → J (head i s)
  | 0, i, s, h, hi, kx => by
    have e : i = N := by omega
    subst e
    exact kx hi
  | k + 1, i, s, h, hi, kx => hs i s (by omega) hi (fun s' e h' => mo_itJ hs k (i + 1) s' (by omega) h' (by subst e; exact kx))
def mo_lp {S ρ : Type} (body : Nat → S → S ⊕ ρ) : Nat → Nat → S → S ⊕ ρ
  | 0, _, s => .inl s
  | k + 1, i, s => match body i s with
    | .inl s' => mo_lp body k (i + 1) s'
    | .inr r => .inr r
theorem mo_lpJ {S ρ : Type} {J : mo_F → Prop} {N : Nat} {body : Nat → S → S ⊕ ρ} {head : Nat → S → mo_F} {Inv : Nat → S → Prop} {JR : ρ → Prop}
    (hs : ∀ i s, i < N → Inv i s → (∀ s', body i s = .inl s' → Inv (i + 1) s' → J (head (i + 1) s')) → (∀ r, body i s = .inr r → JR r) → J (head i s)) :
    ∀ k i s, i + k = N → Inv i s → (∀ s', mo_lp body k i s = .inl s' → Inv N s' → J (head N s')) → (∀ r, mo_lp body k i s = .inr r → JR r) → J (head i s)
  | 0, i, s, h, hi, kx, _ => by
    have e : i = N := by omega
    subst e
    exact kx s rfl hi
  | k + 1, i, s, h, hi, kx, kr => hs i s (by omega) hi (fun s' e h' => mo_lpJ hs k (i + 1) s' (by omega) h' (fun s2 e2 => kx s2 (by show (match body i s with | .inl s' => mo_lp body k (i + 1) s' | .inr r => .inr r) = _; rw [e]; exact e2)) (fun r e2 => kr r (by show (match body i s with | .inl s' => mo_lp body k (i + 1) s' | .inr r => .inr r) = _; rw [e]; exact e2))) (fun r e => kr r (by show (match body i s with | .inl s' => mo_lp body k (i + 1) s' | .inr r => .inr r) = _; rw [e]))
theorem mo_nadd {a b : Int32} {A B : Nat} (ha : a = nI A) (hb : b = nI B) : a + b = nI (A + B) := by rw [ha, hb, nI_add]
theorem mo_nmul {a b : Int32} {A B : Nat} (ha : a = nI A) (hb : b = nI B) : a * b = nI (A * B) := by rw [ha, hb, pk_mul]
theorem mo_nsub {a b : Int32} {A B : Nat} (ha : a = nI A) (hb : b = nI B) (h : B ≤ A) : a - b = nI (A - B) := by
  obtain ⟨C, rfl⟩ := Nat.exists_eq_add_of_le h
  rw [ha, hb, ← nI_add, Nat.add_sub_cancel_left, Int32.add_comm, Int32.add_sub_cancel]
theorem mo_ndec {a : Int32} {A : Nat} (ha : a = nI A) (h : 1 ≤ A) : a + -1 = nI (A - 1) := by
  rw [← Int32.sub_eq_add_neg]; exact mo_nsub ha rfl h
theorem mo_ncl {a : Int32} {A : Nat} (ha : a = nI A) (h : A < 2147483648) : a.toNatClampNeg = A := by rw [ha]; exact nI_clamp h
theorem mo_vpn {x : Int32} {n N : Nat} (p : x = nI n) (h : n < N) (hN : N < 2147483648) : vp_in x N := by rw [p]; exact vp_in_nI h hN
theorem mo_cLE {a b : Int32} {A B : Nat} (ha : a = nI A) (hb : b = nI B) (hA : A < 2147483648) (hB : B < 2147483648) : a ≤ b ↔ A ≤ B := by rw [ha, hb]; exact nI_leI hA hB
theorem mo_cLT {a b : Int32} {A B : Nat} (ha : a = nI A) (hb : b = nI B) (hA : A < 2147483648) (hB : B < 2147483648) : a < b ↔ A < B := by rw [ha, hb]; exact nI_ltI hA hB
theorem mo_cEQ {a b : Int32} {A B : Nat} (ha : a = nI A) (hb : b = nI B) (hA : A < 2147483648) (hB : B < 2147483648) : a = b ↔ A = B := by rw [ha, hb]; exact nI_eq hA hB
theorem mo_nekd {K : mo_K} {a b x y : Nat} (ha : mo_kd K a = x) (hb : mo_kd K b = y) (h : x ≠ y) : a ≠ b := fun e => h (by rw [← ha, ← hb, e])
theorem mo_upA {α : Type} (f : Nat → Nat → α) (a k : Nat) (v : α) : mo_up f a k v a k = v := if_pos ⟨rfl, rfl⟩
theorem mo_upK {α : Type} (f : Nat → Nat → α) (a : Nat) (v : α) {k y : Nat} (h : y ≠ k) {x : Nat} : mo_up f a k v x y = f x y := if_neg (fun z => h z.2)
theorem mo_upQ {α : Type} (f : Nat → Nat → α) (k : Nat) (v : α) {a x : Nat} (h : x ≠ a) {y : Nat} : mo_up f a k v x y = f x y := if_neg (fun z => h z.1)
theorem mo_01 (c : Prop) [Decidable c] : (if c then (1 : Int32) else 0) = 0 ∨ (if c then (1 : Int32) else 0) = 1 := by
  by_cases h : c
  · rw [if_pos h]; exact Or.inr rfl
  · rw [if_neg h]; exact Or.inl rfl
/-- a counter that falls: N - 1 - i -/
def mo_dn (N i : Nat) : Int32 := nI (N - i) - 1
theorem mo_dnp {N i : Nat} (h : i < N) : mo_dn N i = nI (N - i - 1) := mo_nsub rfl rfl (by omega)
theorem mo_dn0 (N : Nat) : mo_dn N 0 = nI N - 1 := rfl
theorem mo_dnN (N : Nat) : mo_dn N N = -1 := by unfold mo_dn; rw [Nat.sub_self]; rfl
theorem mo_dnS {N i : Nat} (h : i < N) : mo_dn N i + -1 = mo_dn N (i + 1) := by
  unfold mo_dn
  rw [show N - i = (N - (i + 1)) + 1 by omega, nI_succ, Int32.add_sub_cancel, Int32.sub_eq_add_neg]
theorem mo_optcase {α : Type} {P : Prop} (o : Option α) (h1 : o = none → P) (h2 : ∀ c, o = some c → P) : P := match o, h1, h2 with
  | none, h1, _ => h1 rfl
  | some c, _, h2 => h2 c rfl
theorem mo_optN {α β : Type} {o : Option α} {A : β} {B : α → β} (e : o = none) : Option.elim o A B = A := by rw [e]; rfl
theorem mo_optS {α β : Type} {o : Option α} {c : α} {A : β} {B : α → β} (e : o = some c) : Option.elim o A B = B c := by rw [e]; rfl
theorem mo_sumL {α β γ : Type} {o : α ⊕ β} {c : α} {A : α → γ} {B : β → γ} (e : o = .inl c) : Sum.elim A B o = A c := by rw [e]; rfl
theorem mo_sumR {α β γ : Type} {o : α ⊕ β} {c : β} {A : α → γ} {B : β → γ} (e : o = .inr c) : Sum.elim A B o = B c := by rw [e]; rfl
theorem mo_nIm {x : Int32} {n : Nat} (p : x = nI n) (h : n < 2147483648) : ¬ x = -1 := by
  rw [p]
  intro e
  have := nI_pos h
  rw [e] at this
  exact this (by decide)
