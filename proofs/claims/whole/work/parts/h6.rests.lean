/-! Prices: both empty their tapes. -/
section F
variable {s : Bool} {I J : Nat → Nat → Int32} {L M : Nat → Nat → Int64} {T T' : mo_Tn} {xs xs' : List Nat}
theorem wXt (hI : wInv s I L T xs) : mo_xt I (wR s) 1 xs := by
  have hX := hI.2.1.1
  have h0 := w_11t s
  have h1 := w_30 s
  refine ⟨?_, hX.2.1, fun k hk => ?_⟩
  · rw [h0]; exact hX.1
  · have := hX.2.2 k hk
    rw [h0]
    exact this
theorem P_rests (l : Launch) (hI : wInv s I L T xs) : wPair l mm_Gate_rests 2 [.ref 1] mm_Model_rests 2 [.ref 126] s I L := by
  have hX := hI.2.1.1
  have g1 : (o_Gate_rests (wR s) I L 1 T xs).2.1 = mo_up I 3 1 0 := by
    unfold o_Gate_rests
    rw [w_11t]
    exact pe_ite (P := fun z : Int32 × (Nat → Nat → Int32) × (Nat → Nat → Int64) => z.2.1 = mo_up I 3 1 0) (pe_sum (P := fun z : Int32 × (Nat → Nat → Int32) × (Nat → Nat → Int64) => z.2.1 = mo_up I 3 1 0) (fun _ => rfl) (fun _ => rfl)) rfl
  have g2 : FL wSL L (o_Gate_rests (wR s) I L 1 T xs).2.2 := by
    unfold o_Gate_rests
    exact pe_ite (P := fun z : Int32 × (Nat → Nat → Int32) × (Nat → Nat → Int64) => FL wSL L z.2.2) (pe_sum (P := fun z : Int32 × (Nat → Nat → Int32) × (Nat → Nat → Int64) => FL wSL L z.2.2) (fun _ => fl_crests FL.rf) (fun _ => fl_crests FL.rf)) FL.rf
  have m1 : ∀ J M, (o_Model_rests (wR s) J M 126 T xs).2.1 = mo_up (mo_up J 126 0 0) 126 2 0 := fun J M => by
    unfold o_Model_rests
    exact pe_ite (P := fun z : Int32 × (Nat → Nat → Int32) × (Nat → Nat → Int64) => z.2.1 = mo_up (mo_up J 126 0 0) 126 2 0) (pe_sum (P := fun z : Int32 × (Nat → Nat → Int32) × (Nat → Nat → Int64) => z.2.1 = mo_up (mo_up J 126 0 0) 126 2 0) (fun _ => rfl) (fun _ => rfl)) rfl
  have m2 : ∀ J M, FL wSL L M → FL wSL L (o_Model_rests (wR s) J M 126 T xs).2.2 := fun J M h => by
    unfold o_Model_rests
    exact pe_ite (P := fun z : Int32 × (Nat → Nat → Int32) × (Nat → Nat → Int64) => FL wSL L z.2.2) (pe_sum (P := fun z : Int32 × (Nat → Nat → Int32) × (Nat → Nat → Int64) => FL wSL L z.2.2) (fun _ => fl_mrests h) (fun _ => fl_mrests h)) h
  have f1 : FR (wP s eC) I (o_Gate_rests (wR s) I L 1 T xs).2.1 := by rw [g1]; exact FR.up (by cases s <;> rfl) FR.rf
  have hl := tape_l hI f1
  refine wPair_D (T := T) (xs := []) (C_Gate_rests l wK (wR s) I L 1 (wT s) T xs (w_gt s) (wC hI) (wXt hI)) (C_Model_rests l wK (wR s) _ _ 126 T xs (w_md s) (tape_n hI f1) (by rw [w_1261]; exact hl) hX.2.1 (fun k hk => (hX.2.2 k hk).2)) (congrArg Value.int (rests_r (wv hI) (wF hI) hI.1.2.2.2.2.1)) (tape_go hI f1 ?_ (m2 _ _ g2) ?_ ?_)
  · rw [m1]; exact FR.up (by cases s <;> rfl) (FR.up (by cases s <;> rfl) FR.rf)
  · rw [g1]; exact ⟨mo_upA _ _ _ _, Nat.zero_le _, fun k hk => absurd hk (Nat.not_lt_zero k)⟩
  · rw [m1]; exact ⟨mo_upA _ _ _ _, fun k hk => absurd hk (Nat.not_lt_zero k)⟩
end F
