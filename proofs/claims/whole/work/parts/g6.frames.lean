/-! What a call leaves alone. -/
/-- places that nobody reads across calls -/
def wS (s : Bool) (q k : Nat) : Bool := decide (wD s ≤ q ∧ q < wD s + 25) || ([56, 58, 59, 60, 61, 62, 63, 64, 65, 66, 67, 69, 72, 73, 74, 129, 130, 136, 139, 143, 144, 145, 146, 147, 148].contains q || ((q == 126 && !([2, 10, 30, 31].contains k)) || (q == 3 && !(k == 1))))
def wSL (q : Nat) : Bool := [57, 68, 75, 126, 133, 137, 138, 142, 149].contains q
def FR (P : Nat → Nat → Bool) (I J : Nat → Nat → Int32) : Prop := ∀ q k, P q k = false → J q k = I q k
def FL (P : Nat → Bool) (L M : Nat → Nat → Int64) : Prop := ∀ q, P q = false → M q = L q
section F
variable {P : Nat → Nat → Bool} {I J J' : Nat → Nat → Int32} {Q : Nat → Bool} {L M : Nat → Nat → Int64}
theorem FR.rf : FR P I I := fun _ _ _ => rfl
theorem FR.trans (h : FR P I J) (h' : FR P J J') : FR P I J' := fun q k z => (h' q k z).trans (h q k z)
theorem FR.up {a f : Nat} {v : Int32} (ha : P a f = true) (h : FR P I J) : FR P I (mo_up J a f v) := fun q k z => by
  show (if q = a ∧ k = f then v else J q k) = I q k
  rw [if_neg (fun c => by rw [c.1, c.2, ha] at z; cases z)]
  exact h q k z
theorem FR.lw {a : Nat} {xs : List Nat} (ha : ∀ k, P a k = true) (h : FR P I J) : FR P I (mo_lw J a xs) := fun q k z => by
  show (if q = a ∧ k < xs.length then nI (xs.getD k 0) else J q k) = I q k
  rw [if_neg (fun c => by rw [c.1, ha] at z; cases z)]
  exact h q k z
theorem FR.rw {a : Nat} {r : Nat → Int32} (ha : ∀ k, P a k = true) (h : FR P I J) : FR P I (mo_rw J a r) := fun q k z => by
  show (if q = a then r else J q) k = I q k
  rw [if_neg (fun c => by rw [c, ha] at z; cases z)]
  exact h q k z
theorem FR.fi {a c N : Nat} {r : Nat → Int32} (ha : ∀ k, P a k = true) (h : FR P I J) : FR P I (mo_fi J a c N r) := fun q k z => by
  show (if q = a ∧ c ≤ k ∧ k < c + N then r (k - c) else J q k) = I q k
  rw [if_neg (fun c => by rw [c.1, ha] at z; cases z)]
  exact h q k z
theorem FR.l1 {a f b : Nat} {xs : List Nat} (ha : P a f = true) (hb : ∀ k, P b k = true) (h : FR P I J) : FR P I (mo_l1 J a f b xs) := FR.up ha (FR.lw hb h)
theorem FR.l2 {a f b c : Nat} {xs : List (Nat × Nat)} (ha : P a f = true) (hb : ∀ k, P b k = true) (hc : ∀ k, P c k = true) (h : FR P I J) : FR P I (mo_l2 J a f b c xs) := FR.up ha (FR.lw hc (FR.lw hb h))
theorem FR.cp {a b sp dp n : Nat} (hb : ∀ k, P b k = true) (h : FR P I J) : FR P I (mo_cp J a b sp dp n) := fun q k z => by
  show (if q = b then va_cpy (J a) (J b) sp dp n else J q) k = I q k
  rw [if_neg (fun c => by rw [c, hb] at z; cases z)]
  exact h q k z
theorem FR.it {S : Type} {body : Nat → S → S} {f : S → Nat → Nat → Int32} (hb : ∀ i s, FR P I (f s) → FR P I (f (body i s))) : ∀ n i s, FR P I (f s) → FR P I (f (mo_it body n i s)) := by
  intro n
  induction n with
  | zero => intro i s h; exact h
  | succ n ih => intro i s h; exact ih (i + 1) (body i s) (hb i s h)
theorem FL.rf : FL Q L L := fun _ _ => rfl
theorem FL.up {a f : Nat} {v : Int64} (ha : Q a = true) (h : FL Q L M) : FL Q L (mo_up M a f v) := fun q z => by
  rw [mo_upR (fun c => by rw [c, ha] at z; cases z)]
  exact h q z
theorem FL.fi {a c N : Nat} {r : Nat → Int64} (ha : Q a = true) (h : FL Q L M) : FL Q L (mo_fi M a c N r) := fun q z => by
  funext k
  show (if q = a ∧ c ≤ k ∧ k < c + N then r (k - c) else M q k) = L q k
  rw [if_neg (fun c => by rw [c.1, ha] at z; cases z), h q z]
theorem FL.rw {a : Nat} {r : Nat → Int64} (ha : Q a = true) (h : FL Q L M) : FL Q L (mo_rw M a r) := fun q z => by
  show (if q = a then r else M q) = L q
  rw [if_neg (fun c => by rw [c, ha] at z; cases z)]
  exact h q z
theorem FL.it {S : Type} {body : Nat → S → S} {f : S → Nat → Nat → Int64} (hb : ∀ i s, FL Q L (f s) → FL Q L (f (body i s))) : ∀ n i s, FL Q L (f s) → FL Q L (f (mo_it body n i s)) := by
  intro n
  induction n with
  | zero => intro i s h; exact h
  | succ n ih => intro i s h; exact ih (i + 1) (body i s) (hb i s h)
end F
/-- a predicate on what a tree gives -/
theorem pe_opt {α β : Type} {P : β → Prop} {o : Option α} {n : β} {f : α → β} (h1 : P n) (h2 : ∀ v, P (f v)) : P (Option.elim o n f) := by
  cases o
  · exact h1
  · exact h2 _
theorem pe_sum {α β γ : Type} {P : γ → Prop} {o : α ⊕ β} {f : α → γ} {g : β → γ} (h1 : ∀ v, P (f v)) (h2 : ∀ v, P (g v)) : P (Sum.elim f g o) := by
  cases o
  · exact h1 _
  · exact h2 _
theorem pe_ite {β : Type} {P : β → Prop} {c : Prop} {inst : Decidable c} {a b : β} (h1 : P a) (h2 : P b) : P (@ite β c inst a b) := by
  by_cases z : c
  · rw [if_pos z]; exact h1
  · rw [if_neg z]; exact h2
