/-! feed and end: the class's answers are the reference's. -/
def tFd (xs : List Nat) (p q r u w : Int32) : List Nat := if xs.length + 20 ≤ 940 then (((((xs ++ mo_bts p) ++ mo_bts q) ++ mo_bts r) ++ mo_bts u) ++ mo_bts w) else xs
theorem feed_c {K : mo_K} {R : Nat → Nat → Nat} {I : Nat → Nat → Int32} {g : Nat} {xs : List Nat} {p q r u w : Int32} (h : mo_tb K R (R g 1)) (hX : mo_xp I R (R g 1) xs) : mo_xp (o_Gate_feed R I g xs.length p q r u w).2 R (R g 1) (tFd xs p q r u w) := by
  unfold o_Gate_feed tFd
  by_cases c : xs.length + 20 ≤ 940
  · rw [if_pos c, if_pos c]
    have l1 := mo_lenb xs p
    have l2 := mo_lenb (xs ++ mo_bts p) q
    have l3 := mo_lenb ((xs ++ mo_bts p) ++ mo_bts q) r
    have l4 := mo_lenb (((xs ++ mo_bts p) ++ mo_bts q) ++ mo_bts r) u
    have h1 := put_xp (q := p) h hX (by omega)
    have h2 := put_xp (q := q) h h1 (by omega)
    have h3 := put_xp (q := r) h h2 (by omega)
    have h4 := put_xp (q := u) h h3 (by omega)
    have h5 := put_xp (q := w) h h4 (by omega)
    rw [l4, l3, l2, l1] at h5
    exact h5
  · rw [if_neg c, if_neg c]
    exact hX
theorem feed_m {K : mo_K} {R : Nat → Nat → Nat} {I : Nat → Nat → Int32} {a : Nat} {xs : List Nat} {p q r u w : Int32} (h : mo_md K R a) (hX : mo_li I a 2 (R a 1) xs) : mo_li (o_Model_feed R I a xs p q r u w).2 a 2 (R a 1) (tFd xs p q r u w) := by
  have hne : R a 1 ≠ a := mo_nekd (mo_mk1 h) h.1 (by decide)
  unfold o_Model_feed tFd
  by_cases c : xs.length + 20 ≤ 940
  · rw [if_pos c, if_pos c]
    exact mo_li_l1 hne
  · rw [if_neg c, if_neg c]
    exact mo_li_of hX (mo_upK _ _ _ (by decide)) (mo_upR hne)
theorem feed_r {R R' : Nat → Nat → Nat} {I I' : Nat → Nat → Int32} {g a : Nat} {xs : List Nat} {p q r u w : Int32} : (o_Gate_feed R I g xs.length p q r u w).1 = (o_Model_feed R' I' a xs p q r u w).1 := by
  unfold o_Gate_feed o_Model_feed
  by_cases c : xs.length + 20 ≤ 940
  · rw [if_pos c, if_pos c]
    show nI _ = nI _
    rw [mo_lenb, mo_lenb, mo_lenb, mo_lenb, mo_lenb]
  · rw [if_neg c, if_neg c]
theorem feed_b {xs : List Nat} {p q r u w : Int32} (hx : xs.length ≤ 940) (hb : ∀ k, k < xs.length → xs.getD k 0 < 256) : (tFd xs p q r u w).length ≤ 940 := by
  unfold tFd
  by_cases c : xs.length + 20 ≤ 940
  · rw [if_pos c, mo_lenb, mo_lenb, mo_lenb, mo_lenb, mo_lenb]; omega
  · rw [if_neg c]; exact hx
/-- end cuts the tape -/
def tEd (xs : List Nat) (p : Int32) : List Nat := Option.elim (tN p) xs (fun v => if v ≤ xs.length then xs.take v else xs)
theorem end_r {R : Nat → Nat → Nat} {I I' : Nat → Nat → Int32} {g a : Nat} {xs : List Nat} {p : Int32} : (o_Gate_end R I g xs.length p).1 = (o_Model_end I' a xs p).1 := by
  unfold o_Gate_end o_Model_end
  cases tN p with
  | none => rfl
  | some v =>
    show (if v ≤ xs.length then _ else _ : Int32 × (Nat → Nat → Int32)).1 = (if v ≤ xs.length then _ else _ : Int32 × (Nat → Nat → Int32)).1
    by_cases c : v ≤ xs.length
    · rw [if_pos c, if_pos c]
    · rw [if_neg c, if_neg c]
theorem end_c {K : mo_K} {R : Nat → Nat → Nat} {I : Nat → Nat → Int32} {g : Nat} {xs : List Nat} {p : Int32} (h : mo_tb K R (R g 1)) (hX : mo_xp I R (R g 1) xs) : mo_xp (o_Gate_end R I g xs.length p).2 R (R g 1) (tEd xs p) := by
  unfold o_Gate_end tEd
  cases tN p with
  | none => exact hX
  | some v =>
    show mo_xp (if v ≤ xs.length then _ else _ : Int32 × (Nat → Nat → Int32)).2 R (R g 1) (if v ≤ xs.length then _ else _)
    by_cases c : v ≤ xs.length
    · rw [if_pos c, if_pos c]
      have hl : (xs.take v).length = v := by rw [List.length_take, Nat.min_eq_left c]
      refine ⟨by rw [hl]; exact mo_upA _ _ _ _, by rw [hl]; have := hX.2.1; omega, fun k hk => ?_⟩
      rw [hl] at hk
      have e : (xs.take v).getD k 0 = xs.getD k 0 := by rw [List.getD_eq_getElem?_getD, List.getD_eq_getElem?_getD, List.getElem?_take, if_pos hk]
      rw [e]
      show mo_up I (R g 1) 1 (nI v) (R (R g 1) 0) k = _ ∧ _
      rw [mo_upQ _ _ _ (mo_tb_ne h)]
      exact hX.2.2 k (by omega)
    · rw [if_neg c, if_neg c]
      exact hX
theorem end_m {K : mo_K} {R : Nat → Nat → Nat} {I : Nat → Nat → Int32} {a : Nat} {xs : List Nat} {p : Int32} (h : mo_md K R a) (hX : mo_li I a 2 (R a 1) xs) : mo_li (o_Model_end I a xs p).2 a 2 (R a 1) (tEd xs p) := by
  have hne : R a 1 ≠ a := mo_nekd (mo_mk1 h) h.1 (by decide)
  have h0 : mo_li (mo_up I a 0 0) a 2 (R a 1) xs := mo_li_of hX (mo_upK _ _ _ (by decide)) (mo_upR hne)
  unfold o_Model_end tEd
  cases tN p with
  | none => exact h0
  | some v =>
    show mo_li (if v ≤ xs.length then _ else _ : Int32 × (Nat → Nat → Int32)).2 a 2 (R a 1) (if v ≤ xs.length then _ else _)
    by_cases c : v ≤ xs.length
    · rw [if_pos c, if_pos c]
      exact mo_l1Z hne h0 c
    · rw [if_neg c, if_neg c]
      exact h0
