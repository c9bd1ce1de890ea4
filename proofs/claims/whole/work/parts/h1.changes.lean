/-! Calls that change a part of what is told. -/
def wP (s : Bool) (e : Nat → Nat → Bool) (q k : Nat) : Bool := wS s q k || e q k
def eT (s : Bool) (q _ : Nat) : Bool := decide (wT s ≤ q ∧ q < wT s + 25) || q == 128
def eX (q k : Nat) : Bool := q == 4 || (q == 3 || (q == 127 || (q == 126 && k == 2)))
def eM (q k : Nat) : Bool := q == 70 || (q == 140 || (q == 126 && k == 30))
def eS (q k : Nat) : Bool := q == 71 || (q == 141 || (q == 126 && k == 31))
theorem bq {a b : Nat} (h : a ≠ b) : (a == b) = false := beq_eq_false_iff_ne.mpr h
theorem now_fr {ρ ρ' : Nat → Int32} {T : mo_Tn} (h : mo_now ρ T) (e : ∀ i, i < 842 → ρ' i = ρ i) : mo_now ρ' T := by
  have hv := now_v h
  have b0 := vT_tMen hv; have b2 := vT_tComs hv; have b3 := vT_tBrs hv; have b4 := vT_tOws hv; have b6 := vT_tSts hv
  refine ⟨hv, ?_⟩
  have h2 := h.2
  refine ⟨?_, ?_, ?_, ?_, ?_, ?_, ?_, ?_, ?_, ?_, ?_, ?_, ?_, ?_, ?_, ?_, ?_, ?_, ?_, ?_, ?_, ?_, ?_, ?_, ?_, ?_, ?_⟩
  · rw [e 0 (by omega)]; exact now_tMen h
  · rw [e 1 (by omega)]; exact now_tNames h
  · rw [e 2 (by omega)]; exact now_tComs h
  · rw [e 3 (by omega)]; exact now_tBrs h
  · rw [e 4 (by omega)]; exact now_tOws h
  · rw [e 552 (by omega)]; exact now_tTd h
  · rw [e 793 (by omega)]; exact now_tSts h
  · intro m hm; rw [e (8 + 3 * m) (by omega)]; exact now_tOwn h hm rfl
  · intro m hm; rw [e (8 + 3 * m + 1) (by omega)]; exact now_tPurse h hm rfl
  · intro m hm; rw [e (8 + 3 * m + 2) (by omega)]; exact now_tFoes h hm rfl
  · intro m hm; rw [e (32 + 4 * m) (by omega)]; exact now_tCm h hm rfl
  · intro m hm; rw [e (32 + 4 * m + 1) (by omega)]; exact now_tCd h hm rfl
  · intro m hm; rw [e (32 + 4 * m + 2) (by omega)]; exact now_tCi h hm rfl
  · intro m hm; rw [e (32 + 4 * m + 3) (by omega)]; exact now_tCo h hm rfl
  · intro m hm; rw [e (192 + 5 * m) (by omega)]; exact now_tGn h hm rfl
  · intro m hm; rw [e (192 + 5 * m + 1) (by omega)]; exact now_tGd h hm rfl
  · intro m hm; rw [e (192 + 5 * m + 2) (by omega)]; exact now_tGa h hm rfl
  · intro m hm; rw [e (192 + 5 * m + 3) (by omega)]; exact now_tGk h hm rfl
  · intro m hm; rw [e (192 + 5 * m + 4) (by omega)]; exact now_tGo h hm rfl
  · intro m hm; rw [e (392 + 4 * m) (by omega)]; exact now_tOf h hm rfl
  · intro m hm; rw [e (392 + 4 * m + 1) (by omega)]; exact now_tOt h hm rfl
  · intro m hm; rw [e (392 + 4 * m + 2) (by omega)]; exact now_tOd h hm rfl
  · intro m hm; rw [e (392 + 4 * m + 3) (by omega)]; exact now_tOs h hm rfl
  · intro m hm; rw [e (794 + 3 * m) (by omega)]; exact now_tSn h hm rfl
  · intro m hm; rw [e (794 + 3 * m + 1) (by omega)]; exact now_tSi h hm rfl
  · intro m hm; rw [e (794 + 3 * m + 2) (by omega)]; exact now_tSs h hm rfl
  · intro d m hd hm; rw [e (553 + 8 * d + m) (by omega)]; exact now_tGv h hd hm rfl
section F
variable {s : Bool} {I J : Nat → Nat → Int32} {L M : Nat → Nat → Int64} {T T' : mo_Tn} {xs xs' : List Nat} {e : Nat → Nat → Bool}
theorem wP_f {q k : Nat} (h1 : wS s q k = false) (h2 : e q k = false) : wP s e q k = false := by unfold wP; rw [h1, h2]; rfl
theorem FR.wide (hF : FR (wS s) I J) : FR (wP s e) I J := fun q k h => hF q k (by
  unfold wP at h
  cases c : wS s q k with
  | false => rfl
  | true => rw [c] at h; cases h)
theorem cT_k (hI : wInv s I L T xs) (hF : FR (wP s e) I J) (h1 : ∀ q k, (wT s ≤ q ∧ q < wT s + 25) ∨ q = 128 → e q k = false) (hL : M 132 = L 132) : wTn J (wR s) (wT s) (J 128) (M 132) T :=
  wTn_fr hI.1 (fun x hx => by
    have := w_tA s (wT s) (wT_in s) x hx
    funext k
    exact hF x k (wP_f (wS_t s (Or.inr this) k) (h1 x k (Or.inl this)))) (funext (fun k => hF 128 k (wP_f (by cases s <;> rfl) (h1 128 k (Or.inr rfl))))) hL
theorem cX_k (hI : wInv s I L T xs) (hF : FR (wP s e) I J) (h1 : ∀ k, e 4 k = false ∧ e 127 k = false) (h2 : e 3 1 = false ∧ e 126 2 = false) : mo_xp J (wR s) 3 xs ∧ mo_li J 126 2 127 xs := by
  obtain ⟨a1, a2⟩ := hI.2.1
  have w4 : wR s 3 0 = 4 := w_V s (3, 0, 4) (by decide)
  have e4 : J 4 = I 4 := funext (fun k => hF 4 k (wP_f (by cases s <;> rfl) (h1 k).1))
  have e127 : J 127 = I 127 := funext (fun k => hF 127 k (wP_f (by cases s <;> rfl) (h1 k).2))
  have f1 : J 3 1 = I 3 1 := hF 3 1 (wP_f (by cases s <;> rfl) h2.1)
  have f2 : J 126 2 = I 126 2 := hF 126 2 (wP_f (by cases s <;> rfl) h2.2)
  refine ⟨⟨?_, a1.2.1, ?_⟩, ?_, ?_⟩
  · rw [f1]; exact a1.1
  · intro k hk
    have := a1.2.2 k hk
    rw [w4] at this ⊢
    rw [e4]; exact this
  · rw [f2]; exact a2.1
  · intro k hk; rw [e127]; exact a2.2 k hk
theorem cF_k (hI : wInv s I L T xs) (hF : FR (wP s e) I J) (h1 : e 2 1 = false ∧ e 126 10 = false) : J 2 1 = J 126 10 := by
  rw [hF 2 1 (wP_f (by cases s <;> rfl) h1.1), hF 126 10 (wP_f (by cases s <;> rfl) h1.2)]
  exact hI.2.2.1
theorem cM_k (hI : wInv s I L T xs) (hF : FR (wP s e) I J) (h1 : ∀ k, e 70 k = false ∧ e 140 k = false) (h2 : e 126 30 = false) : ∀ m, m < 8 → J 70 m = if J 126 30 = 0 then -1 else J 140 m := fun m hm => by
  rw [hF 70 m (wP_f (by cases s <;> rfl) (h1 m).1), hF 140 m (wP_f (by cases s <;> rfl) (h1 m).2), hF 126 30 (wP_f (by cases s <;> rfl) h2)]
  exact hI.2.2.2.1.1 m hm
theorem cS_k (hI : wInv s I L T xs) (hF : FR (wP s e) I J) (h1 : ∀ k, e 71 k = false ∧ e 141 k = false) (h2 : e 126 31 = false) : ∀ m, m < 8 → J 71 m = if J 126 31 = 0 then -1 else J 141 m := fun m hm => by
  rw [hF 71 m (wP_f (by cases s <;> rfl) (h1 m).1), hF 141 m (wP_f (by cases s <;> rfl) (h1 m).2), hF 126 31 (wP_f (by cases s <;> rfl) h2)]
  exact hI.2.2.2.1.2 m hm
theorem cK_k {k : Nat} (hk : k = 0 ∨ k = 1) (hI : wKp I L s k) (hF : FR (wP s e) I J) (h1 : ∀ q j, 6 + 25 * k ≤ q ∧ q < 31 + 25 * k → e q j = false) (h2 : e 1 13 = false ∧ e 135 k = false) (h3 : ∀ i, i < 842 → e 131 (842 * k + i) = false) (hL : ∀ i, i < 12 → M 134 (12 * k + i) = L 134 (12 * k + i)) : wKp J M s k := by
  have f13 : J 1 13 = I 1 13 := hF 1 13 (wP_f (by cases s <;> rfl) h2.1)
  have f135 : J 135 k = I 135 k := hF 135 k (wP_f (by cases s <;> rfl) h2.2)
  refine ⟨by rw [f13, f135]; exact hI.1, fun z => ?_⟩
  rw [f135] at z
  obtain ⟨Tk, h⟩ := hI.2 z
  have hb : 6 + 25 * k ∈ [6, 31, 76, 101] := by rcases hk with rfl | rfl <;> decide
  have hx : ∀ x ∈ mo_tA (wR s) (6 + 25 * k), J x = I x := fun x hx => by
    have := w_tA s _ hb x hx
    funext j
    exact hF x j (wP_f (wS_t s (Or.inl (by omega)) j) (h1 x j (by omega)))
  have hn := wTn_fr h hx (ρ' := fun i => I 131 (842 * k + i)) (ν' := fun i => L 134 (12 * k + i)) rfl rfl
  have hc := vT_tNames hn.2.1.1
  refine ⟨Tk, hn.1, now_fr hn.2.1 (fun i hi => ?_), hn.2.2.1, hn.2.2.2.1, hn.2.2.2.2.1, hn.2.2.2.2.2.1, hn.2.2.2.2.2.2.1, fun c hc2 => ?_⟩
  · exact hF 131 _ (wP_f (by cases s <;> rfl) (h3 i hi))
  · show tkWd _ (M 134 (12 * k + c))
    rw [hL c (by omega)]
    exact hn.2.2.2.2.2.2.2 c hc2
/-- a change of the town alone -/
theorem wInv_town (hI : wInv s I L T xs) (hF : FR (wP s (eT s)) I J) (hL : M 134 = L 134) (hT : wTn J (wR s) (wT s) (J 128) (M 132) T') : wInv s J M T' xs := by
  have ht : ∀ q k, 6 ≤ q ∧ q < 56 → eT s q k = false := fun q k h => by
    unfold eT
    cases s
    · show (decide (76 ≤ q ∧ q < 76 + 25) || q == 128) = false
      rw [decide_eq_false (show ¬ (76 ≤ q ∧ q < 76 + 25) by omega), bq (by omega)]; rfl
    · show (decide (101 ≤ q ∧ q < 101 + 25) || q == 128) = false
      rw [decide_eq_false (show ¬ (101 ≤ q ∧ q < 101 + 25) by omega), bq (by omega)]; rfl
  exact ⟨hT, cX_k hI hF (fun k => by cases s <;> exact ⟨rfl, rfl⟩) (by cases s <;> exact ⟨rfl, rfl⟩), cF_k hI hF (by cases s <;> exact ⟨rfl, rfl⟩), ⟨cM_k hI hF (fun k => by cases s <;> exact ⟨rfl, rfl⟩) (by cases s <;> rfl), cS_k hI hF (fun k => by cases s <;> exact ⟨rfl, rfl⟩) (by cases s <;> rfl)⟩, cK_k (Or.inl rfl) hI.2.2.2.2.1 hF (fun q j h => ht q j (by omega)) (by cases s <;> exact ⟨rfl, rfl⟩) (fun i _ => by cases s <;> rfl) (fun i _ => by rw [hL]), cK_k (Or.inr rfl) hI.2.2.2.2.2 hF (fun q j h => ht q j (by omega)) (by cases s <;> exact ⟨rfl, rfl⟩) (fun i _ => by cases s <;> rfl) (fun i _ => by rw [hL])⟩
theorem e_tape {q k : Nat} (h : (6 ≤ q ∧ q < 56) ∨ (76 ≤ q ∧ q < 126) ∨ q = 128 ∨ q = 131 ∨ q = 135 ∨ q = 1) : eX q k = false := by
  unfold eX
  rw [bq (a := q) (b := 4) (by omega), bq (a := q) (b := 3) (by omega), bq (a := q) (b := 127) (by omega), bq (a := q) (b := 126) (by omega)]
  rfl
theorem wInv_tape (hI : wInv s I L T xs) (hF : FR (wP s eX) I J) (hL : FL wSL L M) (hX : mo_xp J (wR s) 3 xs' ∧ mo_li J 126 2 127 xs') : wInv s J M T xs' := by
  have ht := wT_in s
  exact ⟨cT_k hI hF (fun q k h => e_tape (by cases s <;> (rcases h with h | h <;> first | (have h : 76 ≤ q ∧ q < 76 + 25 := h; omega) | (have h : 101 ≤ q ∧ q < 101 + 25 := h; omega) | omega))) (hL 132 rfl), hX, cF_k hI hF ⟨rfl, rfl⟩, ⟨cM_k hI hF (fun k => ⟨rfl, rfl⟩) rfl, cS_k hI hF (fun k => ⟨rfl, rfl⟩) rfl⟩, cK_k (Or.inl rfl) hI.2.2.2.2.1 hF (fun q j h => e_tape (by omega)) ⟨e_tape (by decide), e_tape (by decide)⟩ (fun i _ => e_tape (by decide)) (fun i _ => by rw [hL 134 rfl]), cK_k (Or.inr rfl) hI.2.2.2.2.2 hF (fun q j h => e_tape (by omega)) ⟨e_tape (by decide), e_tape (by decide)⟩ (fun i _ => e_tape (by decide)) (fun i _ => by rw [hL 134 rfl])⟩
theorem e_mat {q k : Nat} (h : (6 ≤ q ∧ q < 56) ∨ (76 ≤ q ∧ q < 126) ∨ q = 128 ∨ q = 131 ∨ q = 135 ∨ q = 1) : eM q k = false := by
  unfold eM
  rw [bq (a := q) (b := 70) (by omega), bq (a := q) (b := 140) (by omega), bq (a := q) (b := 126) (by omega)]
  rfl
theorem wInv_mat (hI : wInv s I L T xs) (hF : FR (wP s eM) I J) (hL : FL wSL L M) (hX : ∀ m, m < 8 → J 70 m = if J 126 30 = 0 then -1 else J 140 m) : wInv s J M T xs := by
  have ht := wT_in s
  exact ⟨cT_k hI hF (fun q k h => e_mat (by cases s <;> (rcases h with h | h <;> first | (have h : 76 ≤ q ∧ q < 76 + 25 := h; omega) | (have h : 101 ≤ q ∧ q < 101 + 25 := h; omega) | omega))) (hL 132 rfl), cX_k hI hF (fun k => ⟨rfl, rfl⟩) ⟨rfl, rfl⟩, cF_k hI hF ⟨rfl, rfl⟩, ⟨hX, cS_k hI hF (fun k => ⟨rfl, rfl⟩) rfl⟩, cK_k (Or.inl rfl) hI.2.2.2.2.1 hF (fun q j h => e_mat (by omega)) ⟨e_mat (by decide), e_mat (by decide)⟩ (fun i _ => e_mat (by decide)) (fun i _ => by rw [hL 134 rfl]), cK_k (Or.inr rfl) hI.2.2.2.2.2 hF (fun q j h => e_mat (by omega)) ⟨e_mat (by decide), e_mat (by decide)⟩ (fun i _ => e_mat (by decide)) (fun i _ => by rw [hL 134 rfl])⟩
theorem e_ser {q k : Nat} (h : (6 ≤ q ∧ q < 56) ∨ (76 ≤ q ∧ q < 126) ∨ q = 128 ∨ q = 131 ∨ q = 135 ∨ q = 1) : eS q k = false := by
  unfold eS
  rw [bq (a := q) (b := 71) (by omega), bq (a := q) (b := 141) (by omega), bq (a := q) (b := 126) (by omega)]
  rfl
theorem wInv_ser (hI : wInv s I L T xs) (hF : FR (wP s eS) I J) (hL : FL wSL L M) (hX : ∀ m, m < 8 → J 71 m = if J 126 31 = 0 then -1 else J 141 m) : wInv s J M T xs := by
  have ht := wT_in s
  exact ⟨cT_k hI hF (fun q k h => e_ser (by cases s <;> (rcases h with h | h <;> first | (have h : 76 ≤ q ∧ q < 76 + 25 := h; omega) | (have h : 101 ≤ q ∧ q < 101 + 25 := h; omega) | omega))) (hL 132 rfl), cX_k hI hF (fun k => ⟨rfl, rfl⟩) ⟨rfl, rfl⟩, cF_k hI hF ⟨rfl, rfl⟩, ⟨cM_k hI hF (fun k => ⟨rfl, rfl⟩) rfl, hX⟩, cK_k (Or.inl rfl) hI.2.2.2.2.1 hF (fun q j h => e_ser (by omega)) ⟨e_ser (by decide), e_ser (by decide)⟩ (fun i _ => e_ser (by decide)) (fun i _ => by rw [hL 134 rfl]), cK_k (Or.inr rfl) hI.2.2.2.2.2 hF (fun q j h => e_ser (by omega)) ⟨e_ser (by decide), e_ser (by decide)⟩ (fun i _ => e_ser (by decide)) (fun i _ => by rw [hL 134 rfl])⟩
end F
