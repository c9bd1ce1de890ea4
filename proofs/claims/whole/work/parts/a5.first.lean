/-! The first looks: the class's answers are the reference's. -/
theorem owner_r {I : Nat → Nat → Int32} {a : Nat} {T : mo_Tn} {p : Int32} : o_Gate_owner T p = (o_Model_owner I a T p).1 := by
  unfold o_Gate_owner o_Model_owner
  cases tB p (tNames T) with
  | none => rfl
  | some v =>
    show mo_oi (tOwner T (nI v)) = (Option.elim (tOwner T (nI v)) _ _ : Int32 × (Nat → Nat → Int32)).1
    cases tOwner T (nI v) with
    | none => rfl
    | some c => rfl
theorem dawn_r {R : Nat → Nat → Nat} {I I' : Nat → Nat → Int32} {a t : Nat} {T : mo_Tn} (hv : mo_vT T) : (o_Gate_dawn I t T).1 = (o_Model_dawn R I' a T).1 := by
  have := vT_tTd hv
  unfold o_Gate_dawn o_Model_dawn
  by_cases c : tTd T = 29
  · rw [if_pos c, if_neg (by omega)]
  · rw [if_neg c, if_pos (by omega)]
