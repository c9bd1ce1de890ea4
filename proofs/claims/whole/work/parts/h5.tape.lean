/-! The tape: both change alike. -/
def eC (q _ : Nat) : Bool := q == 4 || q == 3
def eR (q k : Nat) : Bool := q == 127 || (q == 126 && k == 2)
theorem FR.mono {P P' : Nat → Nat → Bool} {I J : Nat → Nat → Int32} (h : FR P I J) (hp : ∀ q k, P q k = true → P' q k = true) : FR P' I J := fun q k z => h q k (by
  cases c : P q k with
  | false => rfl
  | true => rw [hp q k c] at z; cases z)
section F
variable {s : Bool} {I J : Nat → Nat → Int32} {L M : Nat → Nat → Int64} {T T' : mo_Tn} {xs xs' : List Nat}
theorem eC_X (h : FR (wP s eC) I J) : FR (wP s eX) I J := h.mono (fun q k z => by
  unfold wP at z ⊢
  cases c : wS s q k with
  | true => rfl
  | false =>
    rw [c] at z
    unfold eC at z
    unfold eX
    have z : (q == 4 || q == 3) = true := z
    cases c4 : q == 4 with
    | true => rfl
    | false =>
      rw [c4] at z
      have z : (q == 3) = true := z
      rw [z]; rfl)
theorem eR_X (h : FR (wP s eR) I J) : FR (wP s eX) I J := h.mono (fun q k z => by
  unfold wP at z ⊢
  cases c : wS s q k with
  | true => rfl
  | false =>
    rw [c] at z
    unfold eR at z
    unfold eX
    have z : (q == 127 || (q == 126 && k == 2)) = true := z
    rw [z]
    cases q == 4 <;> cases q == 3 <;> rfl)
theorem w_11t (s : Bool) : wR s 1 1 = 3 := w_V s (1, 1, 3) (by decide)
theorem w_30 (s : Bool) : wR s 3 0 = 4 := w_V s (3, 0, 4) (by decide)
theorem w_1261 (s : Bool) : wR s 126 1 = 127 := w_V s (126, 1, 127) (by decide)
theorem fr_put {n : Nat} {q : Int32} (h : FR (wP s eC) I J) : FR (wP s eC) I (o_Tape_put (wR s) J 3 n q) := by
  unfold o_Tape_put
  rw [w_30]
  repeat' (first | exact h | refine FR.up (by cases s <;> rfl) ?_)
theorem xp_fr (h : mo_xp I (wR s) 3 xs) (h1 : J 3 1 = I 3 1) (h2 : J 4 = I 4) : mo_xp J (wR s) 3 xs := by
  refine ⟨by rw [h1]; exact h.1, h.2.1, fun k hk => ?_⟩
  have := h.2.2 k hk
  rw [w_30] at this ⊢
  rw [h2]; exact this
theorem li_fr (h : mo_li I 126 2 127 xs) (h1 : J 126 2 = I 126 2) (h2 : J 127 = I 127) : mo_li J 126 2 127 xs := ⟨by rw [h1]; exact h.1, fun k hk => by rw [h2]; exact h.2 k hk⟩
/-- a class that has changed its tape, a reference that changes its own -/
theorem tape_go (hI : wInv s I L T xs) {I1 I2 : Nat → Nat → Int32} {L2 : Nat → Nat → Int64} (f1 : FR (wP s eC) I I1) (f2 : FR (wP s eR) I1 I2) (hL : FL wSL L L2) (hx : mo_xp I1 (wR s) 3 xs') (hl : mo_li I2 126 2 127 xs') : wInv s I2 L2 T xs' :=
  wInv_tape hI ((eC_X f1).trans (eR_X f2)) hL ⟨xp_fr hx (f2 3 1 (by cases s <;> rfl)) (funext (fun k => f2 4 k (by cases s <;> rfl))), hl⟩
theorem tape_l (hI : wInv s I L T xs) {I1 : Nat → Nat → Int32} (f1 : FR (wP s eC) I I1) : mo_li I1 126 2 127 xs := li_fr hI.2.1.2 (f1 126 2 (by cases s <;> rfl)) (funext (fun k => f1 127 k (by cases s <;> rfl)))
theorem tape_n (hI : wInv s I L T xs) {I1 : Nat → Nat → Int32} (f1 : FR (wP s eC) I I1) : mo_now (I1 (wR s 126 14)) T := by
  rw [w_V s (126, 14, 128) (by decide)]
  show mo_now (I1 128) T
  rw [show I1 128 = I 128 from funext (fun k => f1 128 k (by cases s <;> rfl))]
  exact hI.1.2.1
theorem P_feed (l : Launch) (hI : wInv s I L T xs) (p q r u w : Int32) : wPair l mm_Gate_feed 1 [.ref 1, .int p, .int q, .int r, .int u, .int w] mm_Model_feed 1 [.ref 126, .int p, .int q, .int r, .int u, .int w] s I L := by
  have hX := hI.2.1.1
  have f1 : FR (wP s eC) I (o_Gate_feed (wR s) I 1 xs.length p q r u w).2 := by
    unfold o_Gate_feed
    rw [w_11t]
    exact pe_ite (P := fun z : Int32 × (Nat → Nat → Int32) => FR (wP s eC) I z.2) (fr_put (fr_put (fr_put (fr_put (fr_put FR.rf))))) FR.rf
  have hl := tape_l hI f1
  have f2 : FR (wP s eR) (o_Gate_feed (wR s) I 1 xs.length p q r u w).2 (o_Model_feed (wR s) (o_Gate_feed (wR s) I 1 xs.length p q r u w).2 126 xs p q r u w).2 := by
    unfold o_Model_feed
    rw [w_1261]
    refine pe_ite (P := fun z : Int32 × (Nat → Nat → Int32) => FR (wP s eR) _ z.2) ?_ ?_
    · repeat' (first | exact FR.rf | refine FR.l1 (by cases s <;> rfl) (fun k => by cases s <;> rfl) ?_ | refine FR.up (by cases s <;> rfl) ?_)
    · exact FR.up (by cases s <;> rfl) FR.rf
  refine wPair_D (T := T) (xs := tFd xs p q r u w) (C_Gate_feed l wK (wR s) I L 1 xs.length p q r u w w_kd0 (w_kd1 s) (w_tb1 s) (by rw [w_11t]; exact hX.1) hX.2.1) (C_Model_feed l wK (wR s) _ L 126 xs p q r u w (w_md s) (by rw [w_1261]; exact hl) hX.2.1) (congrArg Value.int feed_r) (tape_go hI f1 f2 FL.rf ?_ ?_)
  · have := feed_c (p := p) (q := q) (r := r) (u := u) (w := w) (w_tb1 s) (show mo_xp I (wR s) (wR s 1 1) xs by rw [w_11t]; exact hX)
    rw [w_11t] at this
    exact this
  · have := feed_m (p := p) (q := q) (r := r) (u := u) (w := w) (w_md s) (show mo_li (o_Gate_feed (wR s) I 1 xs.length p q r u w).2 126 2 (wR s 126 1) xs by rw [w_1261]; exact hl)
    rw [w_1261] at this
    exact this
theorem P_end (l : Launch) (hI : wInv s I L T xs) (p : Int32) : wPair l mm_Gate_end 0 [.ref 1, .int p] mm_Model_end 0 [.ref 126, .int p] s I L := by
  have hX := hI.2.1.1
  have f1 : FR (wP s eC) I (o_Gate_end (wR s) I 1 xs.length p).2 := by
    unfold o_Gate_end
    rw [w_11t]
    exact pe_opt (P := fun z : Int32 × (Nat → Nat → Int32) => FR (wP s eC) I z.2) FR.rf (fun _ => pe_ite (P := fun z : Int32 × (Nat → Nat → Int32) => FR (wP s eC) I z.2) (FR.up (by cases s <;> rfl) FR.rf) FR.rf)
  have hl := tape_l hI f1
  have f2 : FR (wP s eR) (o_Gate_end (wR s) I 1 xs.length p).2 (o_Model_end (o_Gate_end (wR s) I 1 xs.length p).2 126 xs p).2 := by
    unfold o_Model_end
    exact pe_opt (P := fun z : Int32 × (Nat → Nat → Int32) => FR (wP s eR) _ z.2) (FR.up (by cases s <;> rfl) FR.rf) (fun _ => pe_ite (P := fun z : Int32 × (Nat → Nat → Int32) => FR (wP s eR) _ z.2) (FR.up (by cases s <;> rfl) (FR.up (by cases s <;> rfl) FR.rf)) (FR.up (by cases s <;> rfl) FR.rf))
  refine wPair_D (T := T) (xs := tEd xs p) (C_Gate_end l wK (wR s) I L 1 xs.length p w_kd0 (w_kd1 s) (w_tb1 s) (by rw [w_11t]; exact hX.1) hX.2.1) (C_Model_end l wK (wR s) _ L 126 xs p (w_md s) (by rw [w_1261]; exact hl) hX.2.1) (congrArg Value.int end_r) (tape_go hI f1 f2 FL.rf ?_ ?_)
  · have := end_c (p := p) (w_tb1 s) (show mo_xp I (wR s) (wR s 1 1) xs by rw [w_11t]; exact hX)
    rw [w_11t] at this
    exact this
  · have := end_m (p := p) (w_md s) (show mo_li (o_Gate_end (wR s) I 1 xs.length p).2 126 2 (wR s 126 1) xs by rw [w_1261]; exact hl)
    rw [w_1261] at this
    exact this
end F
