/-! Lines of a town: class and reference alike. -/
theorem wb_r {b : Nat} (hb : b ∈ [6, 31, 76, 101]) : 6 ≤ b ∧ b ≤ 101 := by
  rcases List.mem_cons.mp hb with rfl | hb
  · decide
  rcases List.mem_cons.mp hb with rfl | hb
  · decide
  rcases List.mem_cons.mp hb with rfl | hb
  · decide
  rcases List.mem_cons.mp hb with rfl | hb
  · decide
  · cases hb
theorem wb0 (s : Bool) {b : Nat} (hb : b ∈ [6, 31, 76, 101]) : wR s b 0 = b + 1 := w_W s b hb (b, 0, b + 1) (List.mem_of_getElem? (i := 0) rfl)
theorem wb1 (s : Bool) {b : Nat} (hb : b ∈ [6, 31, 76, 101]) : wR s b 1 = b + 7 := w_W s b hb (b, 1, b + 7) (List.mem_of_getElem? (i := 1) rfl)
theorem wb2 (s : Bool) {b : Nat} (hb : b ∈ [6, 31, 76, 101]) : wR s b 2 = b + 13 := w_W s b hb (b, 2, b + 13) (List.mem_of_getElem? (i := 2) rfl)
theorem wb3 (s : Bool) {b : Nat} (hb : b ∈ [6, 31, 76, 101]) : wR s b 3 = b + 17 := w_W s b hb (b, 3, b + 17) (List.mem_of_getElem? (i := 3) rfl)
theorem wb4 (s : Bool) {b : Nat} (hb : b ∈ [6, 31, 76, 101]) : wR s b 4 = b + 22 := w_W s b hb (b, 4, b + 22) (List.mem_of_getElem? (i := 4) rfl)
theorem wb5 (s : Bool) {b : Nat} (hb : b ∈ [6, 31, 76, 101]) : wR s (b + 1) 0 = b + 2 := w_W s b hb (b + 1, 0, b + 2) (List.mem_of_getElem? (i := 5) rfl)
theorem wb6 (s : Bool) {b : Nat} (hb : b ∈ [6, 31, 76, 101]) : wR s (b + 1) 1 = b + 3 := w_W s b hb (b + 1, 1, b + 3) (List.mem_of_getElem? (i := 6) rfl)
theorem wb7 (s : Bool) {b : Nat} (hb : b ∈ [6, 31, 76, 101]) : wR s (b + 1) 2 = b + 4 := w_W s b hb (b + 1, 2, b + 4) (List.mem_of_getElem? (i := 7) rfl)
theorem wb8 (s : Bool) {b : Nat} (hb : b ∈ [6, 31, 76, 101]) : wR s (b + 1) 3 = b + 5 := w_W s b hb (b + 1, 3, b + 5) (List.mem_of_getElem? (i := 8) rfl)
theorem wb9 (s : Bool) {b : Nat} (hb : b ∈ [6, 31, 76, 101]) : wR s (b + 1) 4 = b + 6 := w_W s b hb (b + 1, 4, b + 6) (List.mem_of_getElem? (i := 9) rfl)
theorem wb10 (s : Bool) {b : Nat} (hb : b ∈ [6, 31, 76, 101]) : wR s (b + 7) 0 = b + 8 := w_W s b hb (b + 7, 0, b + 8) (List.mem_of_getElem? (i := 10) rfl)
theorem wb11 (s : Bool) {b : Nat} (hb : b ∈ [6, 31, 76, 101]) : wR s (b + 7) 1 = b + 9 := w_W s b hb (b + 7, 1, b + 9) (List.mem_of_getElem? (i := 11) rfl)
theorem wb12 (s : Bool) {b : Nat} (hb : b ∈ [6, 31, 76, 101]) : wR s (b + 7) 2 = b + 10 := w_W s b hb (b + 7, 2, b + 10) (List.mem_of_getElem? (i := 12) rfl)
theorem wb13 (s : Bool) {b : Nat} (hb : b ∈ [6, 31, 76, 101]) : wR s (b + 7) 3 = b + 11 := w_W s b hb (b + 7, 3, b + 11) (List.mem_of_getElem? (i := 13) rfl)
theorem wb14 (s : Bool) {b : Nat} (hb : b ∈ [6, 31, 76, 101]) : wR s (b + 7) 4 = b + 12 := w_W s b hb (b + 7, 4, b + 12) (List.mem_of_getElem? (i := 14) rfl)
theorem wb15 (s : Bool) {b : Nat} (hb : b ∈ [6, 31, 76, 101]) : wR s (b + 13) 0 = b + 14 := w_W s b hb (b + 13, 0, b + 14) (List.mem_of_getElem? (i := 15) rfl)
theorem wb16 (s : Bool) {b : Nat} (hb : b ∈ [6, 31, 76, 101]) : wR s (b + 13) 1 = b + 15 := w_W s b hb (b + 13, 1, b + 15) (List.mem_of_getElem? (i := 16) rfl)
theorem wb17 (s : Bool) {b : Nat} (hb : b ∈ [6, 31, 76, 101]) : wR s (b + 13) 2 = b + 16 := w_W s b hb (b + 13, 2, b + 16) (List.mem_of_getElem? (i := 17) rfl)
theorem wb18 (s : Bool) {b : Nat} (hb : b ∈ [6, 31, 76, 101]) : wR s (b + 17) 0 = b + 18 := w_W s b hb (b + 17, 0, b + 18) (List.mem_of_getElem? (i := 18) rfl)
theorem wb19 (s : Bool) {b : Nat} (hb : b ∈ [6, 31, 76, 101]) : wR s (b + 17) 1 = b + 19 := w_W s b hb (b + 17, 1, b + 19) (List.mem_of_getElem? (i := 19) rfl)
theorem wb20 (s : Bool) {b : Nat} (hb : b ∈ [6, 31, 76, 101]) : wR s (b + 17) 2 = b + 20 := w_W s b hb (b + 17, 2, b + 20) (List.mem_of_getElem? (i := 20) rfl)
theorem wb21 (s : Bool) {b : Nat} (hb : b ∈ [6, 31, 76, 101]) : wR s (b + 17) 3 = b + 21 := w_W s b hb (b + 17, 3, b + 21) (List.mem_of_getElem? (i := 21) rfl)
theorem wb22 (s : Bool) {b : Nat} (hb : b ∈ [6, 31, 76, 101]) : wR s (b + 22) 0 = b + 23 := w_W s b hb (b + 22, 0, b + 23) (List.mem_of_getElem? (i := 22) rfl)
theorem wb23 (s : Bool) {b : Nat} (hb : b ∈ [6, 31, 76, 101]) : wR s (b + 22) 1 = b + 24 := w_W s b hb (b + 22, 1, b + 24) (List.mem_of_getElem? (i := 23) rfl)
theorem w129 (s : Bool) : wR s 126 15 = 129 := w_V s (126, 15, 129) (by decide)
theorem w133 (s : Bool) : wR s 126 19 = 133 := w_V s (126, 19, 133) (by decide)
theorem cadd_n {s : Bool} {b : Nat} (hb : b ∈ [6, 31, 76, 101]) {H : Nat → Nat → Int32} {n : Nat} {u v w z : Int32} : o_cadd (wR s) H (b + 7) n u v w z = mo_up (mo_up (mo_up (mo_up (mo_up (mo_up H (b + 8) n u) (b + 9) n v) (b + 10) n w) (b + 11) n z) (b + 12) n (-1)) (b + 7) 5 (nI (n + 1)) := by
  unfold o_cadd
  rw [wb10 s hb, wb11 s hb, wb12 s hb, wb13 s hb, wb14 s hb]
theorem gadd_n {s : Bool} {b : Nat} (hb : b ∈ [6, 31, 76, 101]) {H : Nat → Nat → Int32} {n : Nat} {u v w : Int32} : o_gadd (wR s) H (b + 13) n u v w = mo_up (mo_up (mo_up (mo_up H (b + 14) n u) (b + 15) n v) (b + 16) n w) (b + 13) 3 (nI (n + 1)) := by
  unfold o_gadd
  rw [wb15 s hb, wb16 s hb, wb17 s hb]
theorem oadd_n {s : Bool} {b : Nat} (hb : b ∈ [6, 31, 76, 101]) {H : Nat → Nat → Int32} {n : Nat} {u v w z : Int32} : o_oadd (wR s) H (b + 17) n u v w z = mo_up (mo_up (mo_up (mo_up (mo_up H (b + 18) n u) (b + 19) n v) (b + 20) n w) (b + 21) n z) (b + 17) 4 (nI (n + 1)) := by
  unfold o_oadd
  rw [wb18 s hb, wb19 s hb, wb20 s hb, wb21 s hb]
theorem addName_n {s : Bool} {b : Nat} (hb : b ∈ [6, 31, 76, 101]) {H : Nat → Nat → Int32} {n : Nat} {u v : Int32} : o_Roll_addName (wR s) H (b + 1) n u v = mo_up (mo_up (mo_up H (b + 5) n u) (b + 6) n v) (b + 1) 6 (nI (n + 1)) := by
  unfold o_Roll_addName
  rw [wb8 s hb, wb9 s hb]
theorem addMan_n {s : Bool} {b : Nat} (hb : b ∈ [6, 31, 76, 101]) {H : Nat → Nat → Int32} {m n : Nat} {u v : Int32} : o_Roll_addMan (wR s) H (b + 1) m n u v = mo_up (mo_up (mo_up (mo_up (mo_up (mo_up (mo_up H (b + 2) m (nI n)) (b + 3) m v) (b + 4) m 0) (b + 5) n u) (b + 6) n (nI m)) (b + 1) 6 (nI (n + 1))) (b + 1) 5 (nI (m + 1)) := by
  unfold o_Roll_addMan
  rw [wb5 s hb, wb6 s hb, wb7 s hb, wb8 s hb, wb9 s hb]
theorem addFoes_n {s : Bool} {b : Nat} (hb : b ∈ [6, 31, 76, 101]) {H : Nat → Nat → Int32} {x y : Nat} : o_Roll_addFoes (wR s) H (b + 1) x y = mo_up (mo_up (mo_up H (b + 4) x ((H (b + 4) x) ||| ((1 : Int32) <<< ((nI y) &&& 31)))) (b + 4) y (((mo_up H (b + 4) x ((H (b + 4) x) ||| ((1 : Int32) <<< ((nI y) &&& 31)))) (b + 4) y) ||| ((1 : Int32) <<< ((nI x) &&& 31)))) (b + 1) 7 ((H (b + 1) 7) + 1) := by
  unfold o_Roll_addFoes
  rw [wb7 s hb]
/-- what a line leaves behind, on both sides -/
def alk (b : Nat) (xs : List Nat) (lim : Nat) (z : mo_Z) (y : mo_Y) : Prop :=
  (z.1 = 0 ∧ y.1 = 0 ∧ z.2.1 2 1 = y.2.1 126 10 ∧ y.2.1 126 11 = nI (tkP xs lim z.2.2)) ∨ (z.1 = 1 ∧ y.1 = 1 ∧ y.2.2.1 = tkN xs lim z.2.2 ∧ (z.2.1 2 1 = 0 ∧ y.2.1 126 10 = 0) ∧ ∃ M N C G Z, rdA z.2.1 b (y.2.1 129) (y.2.2.2 133) M N C G Z)
def alq (b : Nat) (xs : List Nat) (lim : Nat) (z : mo_Z) (y : mo_Y) : Prop := alk b xs lim z (mo_lend xs lim 126 y)
theorem bf_k {xs : List Nat} {lim p : Nat} {k : Int32} (h : ¬ tkK xs lim p = 0) : mo_bf xs lim p k = k := if_neg h
section A
variable {b : Nat} {xs : List Nat} {lim : Nat}
theorem alk_f {H B : Nat → Nat → Int32} {f : Int32} {q q' : Nat} {L' : Nat → Nat → Int64} (h1 : B 126 10 = f) (h2 : B 126 11 = nI (tkP xs lim q)) : alk b xs lim (0, mo_up H 2 1 f, q) (0, B, q', L') := Or.inl ⟨rfl, rfl, (mo_upA H 2 1 f).trans h1.symm, h2⟩
theorem alq_f {H B : Nat → Nat → Int32} {f : Int32} {q q' : Nat} {L' : Nat → Nat → Int64} (h1 : B 126 10 = f) (h2 : B 126 11 = nI (tkP xs lim q)) : alq b xs lim (0, mo_up H 2 1 f, q) (0, B, q', L') := alk_f h1 h2
theorem alk_g {H B : Nat → Nat → Int32} {f f' : Int32} {q q' : Nat} {L' : Nat → Nat → Int64} (h1 : f' = f) : alk b xs lim (0, mo_up H 2 1 f, q) (0, mo_up (mo_up B 126 10 f') 126 11 (nI (tkP xs lim q)), q', L') := alk_f (by rw [mo_upK _ _ _ (by decide), mo_upA]; exact h1) (mo_upA _ _ _ _)
theorem alq_g {H B : Nat → Nat → Int32} {f f' : Int32} {q q' : Nat} {L' : Nat → Nat → Int64} (h1 : f' = f) : alq b xs lim (0, mo_up H 2 1 f, q) (0, mo_up (mo_up B 126 10 f') 126 11 (nI (tkP xs lim q)), q', L') := alk_g h1
theorem alq_e {H B : Nat → Nat → Int32} {q : Nat} {L' : Nat → Nat → Int64} (h1 : H 2 1 = 0) (h2 : B 126 10 = 0) (h : ∃ M N C G Z, rdA H b (B 129) (L' 133) M N C G Z) : alq b xs lim (if tkK xs lim q = 5 ∧ tkV xs lim q = 59 then (1, H, q) else (0, mo_up H 2 1 1, q)) (1, B, q, L') := by
  unfold alq mo_lend
  rw [if_neg (show ¬ (1 : Int32) = 0 by decide)]
  by_cases c : tkK xs lim q = 5 ∧ tkV xs lim q = 59
  · rw [if_pos c, if_pos c]
    exact Or.inr ⟨rfl, rfl, rfl, ⟨h1, h2⟩, h⟩
  · rw [if_neg c, if_neg c]
    exact alk_g rfl
theorem al_if {c c' : Prop} {i : Decidable c} {i' : Decidable c'} {A B : mo_Z} {A' B' : mo_Y} (h : c ↔ c') (h1 : c → c' → alq b xs lim A A') (h2 : ¬ c → ¬ c' → alq b xs lim B B') : alq b xs lim (@ite _ c i A B) (@ite _ c' i' A' B') := by
  by_cases z : c
  · rw [if_pos z, if_pos (h.mp z)]; exact h1 z (h.mp z)
  · rw [if_neg z, if_neg (fun k => z (h.mpr k))]; exact h2 z (fun k => z (h.mpr k))
theorem al_ifn {c c' : Prop} {i : Decidable c} {i' : Decidable c'} {A B : mo_Z} {A' B' : mo_Y} (h : c ↔ ¬ c') (h1 : c → ¬ c' → alq b xs lim A B') (h2 : ¬ c → c' → alq b xs lim B A') : alq b xs lim (@ite _ c i A B) (@ite _ c' i' A' B') := by
  by_cases z : c
  · rw [if_pos z, if_neg (h.mp z)]; exact h1 z (h.mp z)
  · have k : c' := Classical.byContradiction (fun k => z (h.mpr k))
    rw [if_neg z, if_pos k]; exact h2 z k
theorem al_opt {α : Type} {o o' : Option α} {n : mo_Z} {n' : mo_Y} {f : α → mo_Z} {f' : α → mo_Y} (h : o = o') (h1 : o = none → o' = none → alq b xs lim n n') (h2 : ∀ v, o = some v → o' = some v → alq b xs lim (f v) (f' v)) : alq b xs lim (Option.elim o n f) (Option.elim o' n' f') := by
  subst h
  cases e : o with
  | none => exact h1 e e
  | some v => exact h2 v e e
theorem al_os {α β γ : Type} {o : Option α} {w : β ⊕ γ} {n : mo_Z} {f : α → mo_Z} {n' : β → mo_Y} {f' : γ → mo_Y} (h1 : o = none → ∃ u, w = .inl u) (h2 : ∀ v, o = some v → ∃ u, w = .inr u) (k1 : o = none → ∀ u, alq b xs lim n (n' u)) (k2 : ∀ v, o = some v → ∀ u, alq b xs lim (f v) (f' u)) : alq b xs lim (Option.elim o n f) (Sum.elim n' f' w) := by
  cases e : o with
  | none =>
    obtain ⟨u, hu⟩ := h1 e
    rw [hu]; exact k1 e u
  | some v =>
    obtain ⟨u, hu⟩ := h2 v e
    rw [hu]; exact k2 v e u
end A
theorem lp_uN {body : Nat → Unit → Unit ⊕ Unit} : ∀ k i, (∀ j, i ≤ j → j < i + k → body j () = .inl ()) → mo_lp body k i () = .inl ()
  | 0, _, _ => rfl
  | k + 1, i, h => by
    rw [mo_lp_inlS (h i (Nat.le_refl _) (by omega))]
    exact lp_uN k (i + 1) (fun j h1 h2 => h j (by omega) (by omega))
theorem lp_uS {body : Nat → Unit → Unit ⊕ Unit} {v : Nat} : ∀ k i, i ≤ v → v < i + k → (∀ j, i ≤ j → j < v → body j () = .inl ()) → body v () = .inr () → mo_lp body k i () = .inr ()
  | 0, i, h1, h2, _, _ => by omega
  | k + 1, i, h1, h2, h, hv => by
    by_cases e : i = v
    · subst e; exact mo_lp_inrS hv
    · rw [mo_lp_inlS (h i (Nat.le_refl _) (by omega))]
      exact lp_uS k (i + 1) (by omega) (by omega) (fun j h1 h2 => h j (by omega) h2) hv
theorem tnm_f {B : Nat → Nat → Int32} {LB : Nat → Nat → Int64} {xs : List Nat} {lim q : Nat} {W : Nat → Int32} {N : Nat} (e : tkNa W N xs lim q = none) : (o_Model_isToldName B LB 126 xs lim q W N).2.1 126 10 = tkFa xs lim q ∧ (o_Model_isToldName B LB 126 xs lim q W N).2.1 126 11 = nI (tkP xs lim q) := by
  unfold tkNa at e
  unfold o_Model_isToldName tkFa
  by_cases c : tkK xs lim q = 3
  · rw [if_pos c] at e
    rw [if_pos c, if_pos c, e]
    show mo_up (mo_up (mo_up B 126 13 (-1 : Int32)) 126 10 (mo_bf xs lim q 3)) 126 11 (nI (tkP xs lim q)) 126 10 = 3 ∧ mo_up (mo_up (mo_up B 126 13 (-1 : Int32)) 126 10 (mo_bf xs lim q 3)) 126 11 (nI (tkP xs lim q)) 126 11 = nI (tkP xs lim q)
    rw [mo_upK _ _ _ (by decide), mo_upA, mo_upA]
    exact ⟨bf_k (by rw [c]; decide), rfl⟩
  · rw [if_neg c, if_neg c]
    show mo_up (mo_up B 126 10 (mo_bf xs lim q 1)) 126 11 (nI (tkP xs lim q)) 126 10 = 1 ∧ mo_up (mo_up B 126 10 (mo_bf xs lim q 1)) 126 11 (nI (tkP xs lim q)) 126 11 = nI (tkP xs lim q)
    rw [mo_upK _ _ _ (by decide), mo_upA, mo_upA]
    exact ⟨mo_bf1, rfl⟩
theorem tkNa_k {W : Nat → Int32} {n : Nat} {xs : List Nat} {lim p v : Nat} (e : tkNa W n xs lim p = some v) : tkK xs lim p = 3 := by
  unfold tkNa at e
  by_cases c : tkK xs lim p = 3
  · exact c
  · rw [if_neg c] at e; cases e
theorem tkNm_k {xs : List Nat} {lim p A B v : Nat} (e : tkNm xs lim p A B = some v) : tkK xs lim p = 4 := by
  unfold tkNm at e
  by_cases c : tkK xs lim p = 4
  · exact c
  · rw [if_neg c] at e; cases e
theorem tmm_f {B : Nat → Nat → Int32} {LB : Nat → Nat → Int64} {xs : List Nat} {lim q : Nat} {W : Nat → Int32} {N : Nat} {Ow : Nat → Option Nat} (e : (tkNa W N xs lim q).bind Ow = none) : (o_Model_isToldMan B LB 126 xs lim q W N Ow).2.1 126 10 = tkFa xs lim q ∧ (o_Model_isToldMan B LB 126 xs lim q W N Ow).2.1 126 11 = nI (tkP xs lim q) := by
  unfold o_Model_isToldMan
  cases e1 : tkNa W N xs lim q with
  | none => exact tnm_f e1
  | some v =>
    rw [e1] at e
    have e2 : Ow v = none := e
    have c := tkNa_k e1
    show (Option.elim (Ow v) _ _ : mo_Y).2.1 126 10 = _ ∧ (Option.elim (Ow v) _ _ : mo_Y).2.1 126 11 = _
    rw [e2]
    show mo_up (mo_up (mo_up (mo_up B 126 13 (nI v)) 126 13 (-1 : Int32)) 126 10 (mo_bf xs lim q 3)) 126 11 (nI (tkP xs lim q)) 126 10 = tkFa xs lim q ∧ mo_up (mo_up (mo_up (mo_up B 126 13 (nI v)) 126 13 (-1 : Int32)) 126 10 (mo_bf xs lim q 3)) 126 11 (nI (tkP xs lim q)) 126 11 = nI (tkP xs lim q)
    rw [mo_upK _ _ _ (by decide), mo_upA, mo_upA]
    exact ⟨(bf_k (by rw [c]; decide)).trans (if_pos c).symm, rfl⟩
/-- what both find out of names and men is the same -/
def ask (s : Bool) (b : Nat) (H : Nat → Nat → Int32) (W : Nat → Int32) (M N : Nat) (Ow : Nat → Option Nat) (xs : List Nat) (lim : Nat) : Prop := (∀ q, tkNa (H (b + 5)) N xs lim q = tkNa W N xs lim q) ∧ (∀ q, tkMa H (wR s) (b + 1) xs lim q = (tkNa W N xs lim q).bind Ow) ∧ (∀ q, mo_ff (fun c => decide (H (b + 5) c = tkV xs lim q)) N = mo_ff (fun c => decide (W c = tkV xs lim q)) N) ∧ ∀ n v, Ow n = some v → v < M
theorem ask_m {s : Bool} {b : Nat} {H : Nat → Nat → Int32} {W : Nat → Int32} {M N : Nat} {Ow : Nat → Option Nat} {xs : List Nat} {lim : Nat} (h : ask s b H W M N Ow xs lim) {q v : Nat} (e : (tkNa W N xs lim q).bind Ow = some v) : v < M := by
  cases e1 : tkNa W N xs lim q with
  | none => rw [e1] at e; cases e
  | some k => rw [e1] at e; exact h.2.2.2 k v e

theorem al_comes {s s' : Bool} {b : Nat} (hb : b ∈ [6, 31, 76, 101]) {H B : Nat → Nat → Int32} {LB : Nat → Nat → Int64} {xs : List Nat} {lim p : Nat} {W : Nat → Int32} {M N C G Z : Nat} {Ow : Nat → Option Nat} (hA : rdA H b (B 129) (LB 133) M N C G Z) (hq : ask s b H W M N Ow xs lim) (h0 : H 2 1 = 0) (h0' : B 126 10 = 0) (hp : ¬ tkK xs lim p = 0) : alq b xs lim (o_Reader_readComes (wR s) H 2 (b + 1) (b + 7) xs lim p) (o_Model_readComes (wR s') B LB 126 xs lim p W N Ow C) := by
  have hr := wb_r hb
  have eC : cC H (b + 7) = C := mo_ncl hA.1.1.1.2.2.1 (by have := hA.2.1.1.2.2.1.2; omega)
  unfold o_Reader_readComes o_Model_readComes
  rw [eC, wb10 s hb, wb11 s hb, w129 s']
  refine al_ifn (by have := hA.2.1.1.2.2.1.2; omega) (fun c0 _ => ?_) (fun _ _ => alq_g (bf_k hp))
  refine al_opt (hq.2.1 _) (fun _ e => alq_f (tmm_f e).1 (tmm_f e).2) (fun x _ ex => ?_)
  refine al_opt rfl (fun _ _ => alq_g rfl) (fun d ed _ => ?_)
  have hx := ask_m hq ex
  have kd := tkNm_S ed (by decide) (by decide)
  have row : ∀ j, j < C → (H (b + 8) j = B 129 (32 + 4 * j) ∧ H (b + 9) j = B 129 (32 + 4 * j + 1)) := fun j hj => ⟨(hA.1.2.2.2.1 j hj).1, (hA.1.2.2.2.1 j hj).2.1⟩
  have step : ∀ j, j < C → b_Model_readComes_70 (wR s') B 126 C x d j () = if B 129 (32 + 4 * j) = nI x ∧ B 129 (32 + 4 * j + 1) = nI d then .inr () else .inl () := fun j hj => by
    unfold b_Model_readComes_70
    rw [w129 s', mo_upA]
    by_cases c1 : B 129 (32 + 4 * j) = nI x
    · rw [if_pos c1]
      by_cases c2 : B 129 (32 + 4 * j + 1) = nI d
      · rw [if_pos c2, if_pos ⟨c1, c2⟩]
      · rw [if_neg c2, if_neg (fun z => c2 z.2)]
    · rw [if_neg c1, if_neg (fun z => c1 z.1)]
  refine al_os (fun e => ⟨(), ?_⟩) (fun v e => ⟨(), ?_⟩) (fun e u => ?_) (fun v e u => alq_g (bf_k (by rw [tkNm_k ed]; decide)))
  · show mo_lp (b_Model_readComes_70 (wR s') B 126 C x d) C 0 () = _
    refine lp_uN C 0 (fun j _ hj => ?_)
    rw [step j (by omega), if_neg (fun z => ?_)]
    have k := mo_ffN e j (by omega)
    rw [(row j (by omega)).1, (row j (by omega)).2, decide_eq_true z] at k
    cases k
  · obtain ⟨a1, a2, a3⟩ := mo_ff_lt e
    show mo_lp (b_Model_readComes_70 (wR s') B 126 C x d) C 0 () = _
    refine lp_uS (v := v) C 0 (Nat.zero_le _) (by omega) (fun j _ hj => ?_) ?_
    · rw [step j (by omega), if_neg (fun z => ?_)]
      have k := a3 j hj
      rw [(row j (by omega)).1, (row j (by omega)).2, decide_eq_true z] at k
      cases k
    · have k := of_decide_eq_true a2
      rw [(row v a1).1, (row v a1).2] at k
      rw [step v a1, if_pos k]
  refine al_opt rfl (fun _ _ => alq_g rfl) (fun i ei _ => ?_)
  refine al_opt rfl (fun _ _ => alq_g rfl) (fun o eo _ => ?_)
  have ki := tkNm_S ei (by decide) (by decide)
  have ko := tkNm_S eo (by omega) (by decide)
  refine alq_e (by rw [cadd_n hb]; (repeat (first | rw [up_ne (by omega)])); exact h0) (by (repeat (first | rw [up_ne (by omega)])); exact h0') ⟨M, N, C + 1, G, Z, rd_come hA c0 hx (d := d) (i := i) (o := o) (by omega) (by omega) (by omega) (fun j hj z => ?_) (fun q k z1 z2 => ?_) ?_ ⟨?_, ?_, ?_, ?_, ?_⟩ (fun k z1 z2 => ?_) ?_ ⟨?_, ?_, ?_, ?_⟩⟩
  · have k := mo_ffN e j hj
    rw [(row j hj).1, (row j hj).2, decide_eq_true z] at k
    cases k
  · rw [cadd_n hb, up_ne (by omega), up_ne (by omega), up_ne (by omega), up_ne (by omega), up_ne (by omega), up_ne (by omega)]
  · rw [cadd_n hb, mo_upA]
  · rw [cadd_n hb]; (repeat (first | rw [mo_upA] | rw [up_ne (by omega)])); all_goals rfl
  · rw [cadd_n hb]; (repeat (first | rw [mo_upA] | rw [up_ne (by omega)])); all_goals rfl
  · rw [cadd_n hb]; (repeat (first | rw [mo_upA] | rw [up_ne (by omega)])); all_goals rfl
  · rw [cadd_n hb]; (repeat (first | rw [mo_upA] | rw [up_ne (by omega)])); all_goals rfl
  · rw [cadd_n hb]; (repeat (first | rw [mo_upA] | rw [up_ne (by omega)])); all_goals rfl
  · rw [up_ne (by omega), up_ne (by omega), up_ne (by omega), up_ne (by omega), up_ne (by omega), up_ne (by omega), up_ne (by omega), up_ne (by omega), up_ne (by omega)]
  · rw [mo_upA]
  · (repeat (first | rw [mo_upA] | rw [up_ne (by omega)])); all_goals rfl
  · (repeat (first | rw [mo_upA] | rw [up_ne (by omega)])); all_goals rfl
  · (repeat (first | rw [mo_upA] | rw [up_ne (by omega)])); all_goals rfl
  · (repeat (first | rw [mo_upA] | rw [up_ne (by omega)])); all_goals rfl

theorem al_brg {s s' : Bool} {b : Nat} (hb : b ∈ [6, 31, 76, 101]) {H B : Nat → Nat → Int32} {LB : Nat → Nat → Int64} {xs : List Nat} {lim p : Nat} {W : Nat → Int32} {M N C G Z : Nat} {Ow : Nat → Option Nat} (hA : rdA H b (B 129) (LB 133) M N C G Z) (hq : ask s b H W M N Ow xs lim) (h0 : H 2 1 = 0) (h0' : B 126 10 = 0) {x d v k o q : Nat} {g f : Int32} {B' : Nat → Nat → Int32} (hB0 : B' 126 10 = 0) (hG : G < 40) (hx : x < N) (hd : d ≤ 29) (hv : v ≤ 99) (hk : k ≤ o) (ho : 1 ≤ o) (ho2 : o ≤ 12) (hg : g = nI v ∨ g = -(nI v)) (hf : f = g * (nI k * (27720 / nI o)))
    (r1 : ∀ j, ¬ (192 + 5 * G ≤ j ∧ j < 197 + 5 * G) → j ≠ 3 → B' 129 j = B 129 j) (r2 : B' 129 3 = nI (G + 1)) (r3 : B' 129 (192 + 5 * G) = nI x ∧ B' 129 (192 + 5 * G + 1) = nI d ∧ B' 129 (192 + 5 * G + 2) = g ∧ B' 129 (192 + 5 * G + 3) = nI k ∧ B' 129 (192 + 5 * G + 4) = nI o) : alq b xs lim (if tkK xs lim q = 5 ∧ tkV xs lim q = 59 then (1, o_gadd (wR s) H (b + 13) G (nI x) (nI d) f, q) else (0, mo_up (o_gadd (wR s) H (b + 13) G (nI x) (nI d) f) 2 1 1, q)) (1, B', q, LB) := by
  refine alq_e (by rw [gadd_n hb]; (repeat (first | rw [up_ne (by omega)])); exact h0) hB0 ⟨M, N, C, G + 1, Z, rd_brg hA hG hx (d := d) (v := v) (k := k) (o := o) (g := g) (by omega) hv hk ho ho2 hg (fun q j z1 z2 => ?_) ?_ ⟨?_, ?_, ?_⟩ r1 r2 r3⟩
  · rw [gadd_n hb, up_ne (by omega), up_ne (by omega), up_ne (by omega), up_ne (by omega)]
  · rw [gadd_n hb, mo_upA]
  · rw [gadd_n hb]; (repeat (first | rw [mo_upA] | rw [up_ne (by omega)])); all_goals rfl
  · rw [gadd_n hb]; (repeat (first | rw [mo_upA] | rw [up_ne (by omega)])); all_goals rfl
  · rw [gadd_n hb]; (repeat (first | rw [mo_upA] | rw [up_ne (by omega)]))
    exact hf
theorem al_brings {s s' : Bool} {b : Nat} (hb : b ∈ [6, 31, 76, 101]) {H B : Nat → Nat → Int32} {LB : Nat → Nat → Int64} {xs : List Nat} {lim p : Nat} {W : Nat → Int32} {M N C G Z : Nat} {Ow : Nat → Option Nat} (hA : rdA H b (B 129) (LB 133) M N C G Z) (hq : ask s b H W M N Ow xs lim) (h0 : H 2 1 = 0) (h0' : B 126 10 = 0) (hp : ¬ tkK xs lim p = 0) : alq b xs lim (o_Reader_readBrings (wR s) H 2 (b + 1) (b + 13) xs lim p) (o_Model_readBrings (wR s') B LB 126 xs lim p W N G) := by
  have hr := wb_r hb
  have eG : cG H (b + 13) = G := mo_ncl hA.1.1.1.2.2.2.1 (by have := hA.2.1.1.2.2.2.1.2; omega)
  have eN : cN H (b + 1) = N := mo_ncl hA.1.1.1.2.1 (by have := hA.2.1.1.2.1.2; omega)
  unfold o_Reader_readBrings o_Model_readBrings
  rw [eG, eN, wb8 s hb, w129 s']
  refine al_ifn (by have := hA.2.1.1.2.2.2.1.2; omega) (fun c0 _ => ?_) (fun _ _ => alq_g (bf_k hp))
  refine al_opt (hq.1 _) (fun _ e => alq_f (tnm_f e).1 (tnm_f e).2) (fun x _ ex => ?_)
  have hx := tkNa_lt ex
  refine al_opt rfl (fun _ _ => alq_g rfl) (fun d ed _ => ?_)
  have kd := tkNm_S ed (by decide) (by decide)
  refine al_if Iff.rfl (fun _ _ => ?_) (fun _ _ => ?_)
  · refine al_opt rfl (fun _ _ => alq_g rfl) (fun v ev _ => ?_)
    have kv := tkNm_S ev (by decide) (by decide)
    refine al_if Iff.rfl (fun _ _ => ?_) (fun _ _ => ?_)
    · refine al_opt rfl (fun _ _ => alq_g rfl) (fun k ek _ => ?_)
      have kk := tkNm_S ek (by decide) (by decide)
      by_cases c1 : 1 ≤ k
      · rw [if_pos c1, Nat.max_eq_right c1]
        refine al_opt rfl (fun _ _ => alq_g rfl) (fun o eo _ => ?_)
        have ko := tkNm_S eo (by omega) (by decide)
        refine al_brg (s' := s') (p := p) hb hA hq h0 h0' (d := d) (v := v) (k := k) (o := o) (g := -(nI v)) (by (repeat (first | rw [up_ne (by omega)])); exact h0') c0 hx (by omega) (by omega) (by omega) (by omega) (by omega) (Or.inr rfl) rfl (fun j z1 z2 => ?_) ?_ ⟨?_, ?_, ?_, ?_, ?_⟩
        · repeat (first | rw [up_ne (by omega)])
        · (repeat (first | rw [mo_upA] | rw [up_ne (by omega)])); all_goals rfl
        · (repeat (first | rw [mo_upA] | rw [up_ne (by omega)])); all_goals rfl
        · (repeat (first | rw [mo_upA] | rw [up_ne (by omega)])); all_goals rfl
        · (repeat (first | rw [mo_upA] | rw [up_ne (by omega)])); all_goals rfl
        · (repeat (first | rw [mo_upA] | rw [up_ne (by omega)])); all_goals rfl
        · (repeat (first | rw [mo_upA] | rw [up_ne (by omega)])); all_goals rfl
      · rw [if_neg c1, Nat.max_eq_left (by omega)]
        refine al_opt rfl (fun _ _ => alq_g rfl) (fun o eo _ => ?_)
        have ko := tkNm_S eo (by omega) (by decide)
        refine al_brg (s' := s') (p := p) hb hA hq h0 h0' (d := d) (v := v) (k := k) (o := o) (g := -(nI v)) (by (repeat (first | rw [up_ne (by omega)])); exact h0') c0 hx (by omega) (by omega) (by omega) (by omega) (by omega) (Or.inr rfl) rfl (fun j z1 z2 => ?_) ?_ ⟨?_, ?_, ?_, ?_, ?_⟩
        · repeat (first | rw [up_ne (by omega)])
        · (repeat (first | rw [mo_upA] | rw [up_ne (by omega)])); all_goals rfl
        · (repeat (first | rw [mo_upA] | rw [up_ne (by omega)])); all_goals rfl
        · (repeat (first | rw [mo_upA] | rw [up_ne (by omega)])); all_goals rfl
        · (repeat (first | rw [mo_upA] | rw [up_ne (by omega)])); all_goals rfl
        · (repeat (first | rw [mo_upA] | rw [up_ne (by omega)])); all_goals rfl
        · (repeat (first | rw [mo_upA] | rw [up_ne (by omega)])); all_goals rfl
    · skip
      refine al_brg (s' := s') (p := p) hb hA hq h0 h0' (d := d) (v := v) (k := 1) (o := 1) (g := -(nI v)) (by (repeat (first | rw [up_ne (by omega)])); exact h0') c0 hx (by omega) (by omega) (by omega) (by omega) (by omega) (Or.inr rfl) (by rw [show (nI 1 * (27720 / nI 1) : Int32) = 27720 by decide +kernel]) (fun j z1 z2 => ?_) ?_ ⟨?_, ?_, ?_, ?_, ?_⟩
      · repeat (first | rw [up_ne (by omega)])
      · (repeat (first | rw [mo_upA] | rw [up_ne (by omega)])); all_goals rfl
      · (repeat (first | rw [mo_upA] | rw [up_ne (by omega)])); all_goals rfl
      · (repeat (first | rw [mo_upA] | rw [up_ne (by omega)])); all_goals rfl
      · (repeat (first | rw [mo_upA] | rw [up_ne (by omega)])); all_goals rfl
      · (repeat (first | rw [mo_upA] | rw [up_ne (by omega)])); all_goals rfl
      · (repeat (first | rw [mo_upA] | rw [up_ne (by omega)])); all_goals rfl
  · refine al_opt rfl (fun _ _ => alq_g rfl) (fun v ev _ => ?_)
    have kv := tkNm_S ev (by decide) (by decide)
    refine al_if Iff.rfl (fun _ _ => ?_) (fun _ _ => ?_)
    · refine al_opt rfl (fun _ _ => alq_g rfl) (fun k ek _ => ?_)
      have kk := tkNm_S ek (by decide) (by decide)
      by_cases c1 : 1 ≤ k
      · rw [if_pos c1, Nat.max_eq_right c1]
        refine al_opt rfl (fun _ _ => alq_g rfl) (fun o eo _ => ?_)
        have ko := tkNm_S eo (by omega) (by decide)
        refine al_brg (s' := s') (p := p) hb hA hq h0 h0' (d := d) (v := v) (k := k) (o := o) (g := nI v) (by (repeat (first | rw [up_ne (by omega)])); exact h0') c0 hx (by omega) (by omega) (by omega) (by omega) (by omega) (Or.inl rfl) rfl (fun j z1 z2 => ?_) ?_ ⟨?_, ?_, ?_, ?_, ?_⟩
        · repeat (first | rw [up_ne (by omega)])
        · (repeat (first | rw [mo_upA] | rw [up_ne (by omega)])); all_goals rfl
        · (repeat (first | rw [mo_upA] | rw [up_ne (by omega)])); all_goals rfl
        · (repeat (first | rw [mo_upA] | rw [up_ne (by omega)])); all_goals rfl
        · (repeat (first | rw [mo_upA] | rw [up_ne (by omega)])); all_goals rfl
        · (repeat (first | rw [mo_upA] | rw [up_ne (by omega)])); all_goals rfl
        · (repeat (first | rw [mo_upA] | rw [up_ne (by omega)])); all_goals rfl
      · rw [if_neg c1, Nat.max_eq_left (by omega)]
        refine al_opt rfl (fun _ _ => alq_g rfl) (fun o eo _ => ?_)
        have ko := tkNm_S eo (by omega) (by decide)
        refine al_brg (s' := s') (p := p) hb hA hq h0 h0' (d := d) (v := v) (k := k) (o := o) (g := nI v) (by (repeat (first | rw [up_ne (by omega)])); exact h0') c0 hx (by omega) (by omega) (by omega) (by omega) (by omega) (Or.inl rfl) rfl (fun j z1 z2 => ?_) ?_ ⟨?_, ?_, ?_, ?_, ?_⟩
        · repeat (first | rw [up_ne (by omega)])
        · (repeat (first | rw [mo_upA] | rw [up_ne (by omega)])); all_goals rfl
        · (repeat (first | rw [mo_upA] | rw [up_ne (by omega)])); all_goals rfl
        · (repeat (first | rw [mo_upA] | rw [up_ne (by omega)])); all_goals rfl
        · (repeat (first | rw [mo_upA] | rw [up_ne (by omega)])); all_goals rfl
        · (repeat (first | rw [mo_upA] | rw [up_ne (by omega)])); all_goals rfl
        · (repeat (first | rw [mo_upA] | rw [up_ne (by omega)])); all_goals rfl
    · skip
      refine al_brg (s' := s') (p := p) hb hA hq h0 h0' (d := d) (v := v) (k := 1) (o := 1) (g := nI v) (by (repeat (first | rw [up_ne (by omega)])); exact h0') c0 hx (by omega) (by omega) (by omega) (by omega) (by omega) (Or.inl rfl) (by rw [show (nI 1 * (27720 / nI 1) : Int32) = nI 27720 by decide +kernel, pk_mul]) (fun j z1 z2 => ?_) ?_ ⟨?_, ?_, ?_, ?_, ?_⟩
      · repeat (first | rw [up_ne (by omega)])
      · (repeat (first | rw [mo_upA] | rw [up_ne (by omega)])); all_goals rfl
      · (repeat (first | rw [mo_upA] | rw [up_ne (by omega)])); all_goals rfl
      · (repeat (first | rw [mo_upA] | rw [up_ne (by omega)])); all_goals rfl
      · (repeat (first | rw [mo_upA] | rw [up_ne (by omega)])); all_goals rfl
      · (repeat (first | rw [mo_upA] | rw [up_ne (by omega)])); all_goals rfl
      · (repeat (first | rw [mo_upA] | rw [up_ne (by omega)])); all_goals rfl
theorem al_owes {s s' : Bool} {b : Nat} (hb : b ∈ [6, 31, 76, 101]) {H B : Nat → Nat → Int32} {LB : Nat → Nat → Int64} {xs : List Nat} {lim p : Nat} {W : Nat → Int32} {M N C G Z : Nat} {Ow : Nat → Option Nat} (hA : rdA H b (B 129) (LB 133) M N C G Z) (hq : ask s b H W M N Ow xs lim) (h0 : H 2 1 = 0) (h0' : B 126 10 = 0) (hp : ¬ tkK xs lim p = 0) : alq b xs lim (o_Reader_readOwes (wR s) H 2 (b + 1) (b + 17) xs lim p) (o_Model_readOwes (wR s') B LB 126 xs lim p W N Z) := by
  have hr := wb_r hb
  have hN12 := hA.2.1.1.2.1.2
  have eZ : cO H (b + 17) = Z := mo_ncl hA.1.1.1.2.2.2.2 (by have := hA.2.1.1.2.2.2.2.2; omega)
  have eN : cN H (b + 1) = N := mo_ncl hA.1.1.1.2.1 (by omega)
  unfold o_Reader_readOwes o_Model_readOwes
  rw [eZ, eN, wb8 s hb, w129 s']
  refine al_ifn (by have := hA.2.1.1.2.2.2.2.2; omega) (fun c0 _ => ?_) (fun _ _ => alq_g (bf_k hp))
  refine al_opt (hq.1 _) (fun _ e => alq_f (tnm_f e).1 (tnm_f e).2) (fun x _ ex => ?_)
  have hx := tkNa_lt ex
  refine al_opt (hq.1 _) (fun _ e => alq_f (tnm_f e).1 (tnm_f e).2) (fun y _ ey => ?_)
  have hy := tkNa_lt ey
  refine al_if (by rw [mo_upA]; exact (nI_eq (by omega) (by omega)).symm) (fun _ _ => alq_g (bf_k (by rw [tkNa_k ey]; decide))) (fun _ _ => ?_)
  refine al_opt rfl (fun _ _ => alq_g rfl) (fun d ed _ => ?_)
  have kd := tkNm_S ed (by decide) (by decide)
  refine al_opt rfl (fun _ _ => alq_g rfl) (fun v ev _ => ?_)
  have kv := tkNm_S ev (by decide) (by decide)
  refine alq_e (by rw [oadd_n hb]; (repeat (first | rw [up_ne (by omega)])); exact h0) (by (repeat (first | rw [up_ne (by omega)])); exact h0') ⟨M, N, C, G, Z + 1, rd_owe hA c0 hx hy (d := d) (v := v) (by omega) (by omega) (fun q j z1 z2 => ?_) ?_ ⟨?_, ?_, ?_, ?_⟩ (fun j z1 z2 => ?_) ?_ ⟨?_, ?_, ?_, ?_⟩⟩
  · rw [oadd_n hb, up_ne (by omega), up_ne (by omega), up_ne (by omega), up_ne (by omega), up_ne (by omega)]
  · rw [oadd_n hb, mo_upA]
  · rw [oadd_n hb]; (repeat (first | rw [mo_upA] | rw [up_ne (by omega)])); all_goals rfl
  · rw [oadd_n hb]; (repeat (first | rw [mo_upA] | rw [up_ne (by omega)])); all_goals rfl
  · rw [oadd_n hb]; (repeat (first | rw [mo_upA] | rw [up_ne (by omega)])); all_goals rfl
  · rw [oadd_n hb]; (repeat (first | rw [mo_upA] | rw [up_ne (by omega)])); all_goals rfl
  · rw [up_ne (by omega), up_ne (by omega), up_ne (by omega), up_ne (by omega), up_ne (by omega), up_ne (by omega), up_ne (by omega), up_ne (by omega), up_ne (by omega)]
  · rw [mo_upA]
  · (repeat (first | rw [mo_upA] | rw [up_ne (by omega)])); all_goals rfl
  · (repeat (first | rw [mo_upA] | rw [up_ne (by omega)])); all_goals rfl
  · (repeat (first | rw [mo_upA] | rw [up_ne (by omega)])); all_goals rfl
  · (repeat (first | rw [mo_upA] | rw [up_ne (by omega)])); all_goals rfl
theorem al_name {s s' : Bool} {b : Nat} (hb : b ∈ [6, 31, 76, 101]) {H B : Nat → Nat → Int32} {LB : Nat → Nat → Int64} {xs : List Nat} {lim p : Nat} {W : Nat → Int32} {M N C G Z : Nat} {Ow : Nat → Option Nat} (hA : rdA H b (B 129) (LB 133) M N C G Z) (hq : ask s b H W M N Ow xs lim) (h0 : H 2 1 = 0) (h0' : B 126 10 = 0) (hx : xs.length ≤ 940) (hbt : ∀ k, k < xs.length → xs.getD k 0 < 256) (hpl : p ≤ xs.length) (hp : ¬ tkK xs lim p = 0) : alq b xs lim (o_Reader_readName (wR s) H 2 (b + 1) xs lim p) (o_Model_readName (wR s') B LB 126 xs lim p W N) := by
  have hr := wb_r hb
  have hN12 := hA.2.1.1.2.1.2
  have eN : cN H (b + 1) = N := mo_ncl hA.1.1.1.2.1 (by omega)
  unfold o_Reader_readName o_Model_readName
  rw [eN, wb8 s hb, w129 s', w133 s']
  refine al_ifn (by omega) (fun c0 _ => ?_) (fun _ _ => alq_g (bf_k hp))
  refine al_if (by rw [hq.2.2.1]) (fun c1 _ => ?_) (fun _ _ => alq_g rfl)
  obtain ⟨n, n1, n2, n3⟩ := tok_v hbt (tkN_le (lim := lim) hpl) c1.1
  refine alq_e (by rw [addName_n hb]; (repeat (first | rw [up_ne (by omega)])); exact h0) (by (repeat (first | rw [up_ne (by omega)])); exact h0') ⟨M, N + 1, C, G, Z, rd_name hA c0 (fun q j z1 z2 => ?_) ?_ ?_ (fun j z1 => ?_) ?_ (fun j z1 => ?_) ?_⟩
  · rw [addName_n hb, up_ne (by omega), up_ne (by omega), up_ne (by omega)]
  · rw [addName_n hb, mo_upA]
  · rw [addName_n hb]; (repeat (first | rw [mo_upA] | rw [up_ne (by omega)])); all_goals rfl
  · rw [up_ne (by omega)]
  · rw [mo_upA]
  · rw [up_ne (by omega)]
  · rw [addName_n hb, up_ne (by omega), up_ne (by omega), mo_upA, mo_upA]
    exact ⟨n, n2, n3, n1⟩
theorem al_man {s s' : Bool} {b : Nat} (hb : b ∈ [6, 31, 76, 101]) {H B : Nat → Nat → Int32} {LB : Nat → Nat → Int64} {xs : List Nat} {lim p : Nat} {W : Nat → Int32} {M N C G Z : Nat} {Ow : Nat → Option Nat} (hA : rdA H b (B 129) (LB 133) M N C G Z) (hq : ask s b H W M N Ow xs lim) (h0 : H 2 1 = 0) (h0' : B 126 10 = 0) (hx : xs.length ≤ 940) (hbt : ∀ k, k < xs.length → xs.getD k 0 < 256) (hpl : p ≤ xs.length) (hp : ¬ tkK xs lim p = 0) : alq b xs lim (o_Reader_readMan (wR s) H 2 (b + 1) xs lim p) (o_Model_readMan (wR s') B LB 126 xs lim p W N M) := by
  have hr := wb_r hb
  have hN12 := hA.2.1.1.2.1.2
  have hM8 := hA.2.1.1.1.2
  have eN : cN H (b + 1) = N := mo_ncl hA.1.1.1.2.1 (by omega)
  have eM : cM H (b + 1) = M := mo_ncl hA.1.1.1.1 (by omega)
  unfold o_Reader_readMan o_Model_readMan
  rw [eN, eM, wb8 s hb, w129 s', w133 s']
  refine al_if (by omega) (fun _ _ => alq_g (bf_k hp)) (fun c8 _ => ?_)
  have c8 : M < 8 := by omega
  refine al_ifn (by omega) (fun c0 _ => ?_) (fun _ _ => alq_g (bf_k hp))
  refine al_if (by rw [hq.2.2.1]) (fun c1 _ => ?_) (fun _ _ => alq_g rfl)
  obtain ⟨n, n1, n2, n3⟩ := tok_v hbt (tkN_le (lim := lim) hpl) c1.1
  refine al_if Iff.rfl (fun _ _ => ?_) (fun _ _ => ?_)
  · refine al_opt rfl (fun _ _ => alq_g rfl) (fun v ev _ => ?_)
    refine alq_e (by rw [addMan_n hb]; (repeat (first | rw [up_ne (by omega)])); exact h0) (by (repeat (first | rw [up_ne (by omega)])); exact h0') ⟨M + 1, N + 1, C, G, Z, rd_man (pu := nI v) hA c8 c0 (fun q j z1 z2 z3 => ?_) ⟨?_, ?_⟩ ?_ ⟨?_, ?_, ?_⟩ (fun j z1 z2 z3 => ?_) ⟨?_, ?_⟩ ⟨?_, ?_, ?_⟩ (fun j z1 => ?_) ?_⟩
    · rw [addMan_n hb]; repeat (first | rw [up_ne (by omega)])
    · rw [addMan_n hb]; (repeat (first | rw [mo_upA] | rw [up_ne (by omega)])); all_goals rfl
    · rw [addMan_n hb]; (repeat (first | rw [mo_upA] | rw [up_ne (by omega)])); all_goals rfl
    · rw [addMan_n hb]; (repeat (first | rw [mo_upA] | rw [up_ne (by omega)])); all_goals rfl
    · rw [addMan_n hb]; (repeat (first | rw [mo_upA] | rw [up_ne (by omega)])); all_goals rfl
    · rw [addMan_n hb]; (repeat (first | rw [mo_upA] | rw [up_ne (by omega)])); all_goals rfl
    · rw [addMan_n hb]; (repeat (first | rw [mo_upA] | rw [up_ne (by omega)])); all_goals rfl
    · repeat (first | rw [up_ne (by omega)])
    · (repeat (first | rw [mo_upA] | rw [up_ne (by omega)])); all_goals rfl
    · (repeat (first | rw [mo_upA] | rw [up_ne (by omega)])); all_goals rfl
    · (repeat (first | rw [mo_upA] | rw [up_ne (by omega)])); all_goals rfl
    · (repeat (first | rw [mo_upA] | rw [up_ne (by omega)])); all_goals rfl
    · (repeat (first | rw [mo_upA] | rw [up_ne (by omega)])); all_goals rfl
    · rw [up_ne (by omega)]
    · rw [addMan_n hb, up_ne (by omega), up_ne (by omega), up_ne (by omega), mo_upA, mo_upA]
      exact ⟨n, n2, n3, n1⟩
  · skip
    refine alq_e (by rw [addMan_n hb]; (repeat (first | rw [up_ne (by omega)])); exact h0) (by (repeat (first | rw [up_ne (by omega)])); exact h0') ⟨M + 1, N + 1, C, G, Z, rd_man (pu := -1) hA c8 c0 (fun q j z1 z2 z3 => ?_) ⟨?_, ?_⟩ ?_ ⟨?_, ?_, ?_⟩ (fun j z1 z2 z3 => ?_) ⟨?_, ?_⟩ ⟨?_, ?_, ?_⟩ (fun j z1 => ?_) ?_⟩
    · rw [addMan_n hb]; repeat (first | rw [up_ne (by omega)])
    · rw [addMan_n hb]; (repeat (first | rw [mo_upA] | rw [up_ne (by omega)])); all_goals rfl
    · rw [addMan_n hb]; (repeat (first | rw [mo_upA] | rw [up_ne (by omega)])); all_goals rfl
    · rw [addMan_n hb]; (repeat (first | rw [mo_upA] | rw [up_ne (by omega)])); all_goals rfl
    · rw [addMan_n hb]; (repeat (first | rw [mo_upA] | rw [up_ne (by omega)])); all_goals rfl
    · rw [addMan_n hb]; (repeat (first | rw [mo_upA] | rw [up_ne (by omega)])); all_goals rfl
    · rw [addMan_n hb]; (repeat (first | rw [mo_upA] | rw [up_ne (by omega)])); all_goals rfl
    · repeat (first | rw [up_ne (by omega)])
    · (repeat (first | rw [mo_upA] | rw [up_ne (by omega)])); all_goals rfl
    · (repeat (first | rw [mo_upA] | rw [up_ne (by omega)])); all_goals rfl
    · (repeat (first | rw [mo_upA] | rw [up_ne (by omega)])); all_goals rfl
    · (repeat (first | rw [mo_upA] | rw [up_ne (by omega)])); all_goals rfl
    · (repeat (first | rw [mo_upA] | rw [up_ne (by omega)])); all_goals rfl
    · rw [up_ne (by omega)]
    · rw [addMan_n hb, up_ne (by omega), up_ne (by omega), up_ne (by omega), mo_upA, mo_upA]
      exact ⟨n, n2, n3, n1⟩
theorem al_foes {s s' : Bool} {b : Nat} (hb : b ∈ [6, 31, 76, 101]) {H B : Nat → Nat → Int32} {LB : Nat → Nat → Int64} {xs : List Nat} {lim p : Nat} {W : Nat → Int32} {M N C G Z : Nat} {Ow : Nat → Option Nat} (hA : rdA H b (B 129) (LB 133) M N C G Z) (hq : ask s b H W M N Ow xs lim) (h0 : H 2 1 = 0) (h0' : B 126 10 = 0) : alq b xs lim (o_Reader_readFoes (wR s) H 2 (b + 1) xs lim p) (o_Model_readFoes (wR s') B LB 126 xs lim p W N Ow) := by
  have hr := wb_r hb
  have hM8 := hA.2.1.1.1.2
  have h256 := mo_p8 hM8
  unfold o_Reader_readFoes o_Model_readFoes
  rw [wb7 s hb, w129 s']
  refine al_opt (hq.2.1 _) (fun _ e => alq_f (tmm_f e).1 (tmm_f e).2) (fun x _ ex => ?_)
  have hx := ask_m hq ex
  refine al_opt (hq.2.1 _) (fun _ e => alq_f (tmm_f e).1 (tmm_f e).2) (fun y _ ey => ?_)
  have hy := ask_m hq ey
  have ky : ¬ tkK xs lim (tkN xs lim (tkN xs lim p)) = 0 := by
    cases e1 : tkNa W N xs lim (tkN xs lim (tkN xs lim p)) with
    | none => rw [e1] at ey; cases ey
    | some k => rw [tkNa_k e1]; decide
  refine al_if ⟨fun z => z.symm, fun z => z.symm⟩ (fun _ _ => alq_g (bf_k ky)) (fun cxy _ => ?_)
  obtain ⟨zx, hzx, fx⟩ := (hA.2.1.2.1 x hx).2
  obtain ⟨zy, hzy, fy⟩ := (hA.2.1.2.1 y hy).2
  have gx := (hA.1.2.1 x hx).2.2.trans fx
  have gy := (hA.1.2.1 y hy).2.2.trans fy
  have kb := mo_bit_n (k := y) (x := zx) (by omega) (by omega)
  refine al_ifn (by rw [gx, fx]; exact kb.2.trans (not_congr kb.1).symm) (fun c1 _ => ?_) (fun _ _ => alq_g (bf_k ky))
  rw [gx] at c1
  have nb : zx.testBit y = false := by
    have := kb.2.mp c1
    cases e : zx.testBit y with
    | false => rfl
    | true => exact absurd e this
  have s1 := mo_nshl (a := nI y) (k := y) rfl (by omega)
  have s2 := mo_nshl (a := nI x) (k := x) rfl (by omega)
  have p1 : 2 ^ y < 2147483648 := Nat.lt_of_le_of_lt (mo_p8 (k := y) (by omega)) (by decide)
  have p2 : 2 ^ x < 2147483648 := Nat.lt_of_le_of_lt (mo_p8 (k := x) (by omega)) (by decide)
  have o1 : nI zx ||| nI (2 ^ y) = nI (zx ||| 2 ^ y) := mo_nor rfl rfl (by omega) p1
  have o2 : nI zy ||| nI (2 ^ x) = nI (zy ||| 2 ^ x) := mo_nor rfl rfl (by omega) p2
  refine alq_e (by rw [addFoes_n hb]; (repeat (first | rw [up_ne (by omega)])); exact h0) (by (repeat (first | rw [up_ne (by omega)])); exact h0') ⟨M, N, C, G, Z, rd_foe hA hx hy cxy fx hzx fy hzy nb (fun q j z1 z2 => ?_) ?_ ⟨?_, ?_⟩ (fun j z1 z2 => ?_) ⟨?_, ?_⟩⟩
  · rw [addFoes_n hb, up_ne (by omega), up_ne (by omega), up_ne (by omega)]
  · rw [addFoes_n hb, mo_upA]
  · rw [addFoes_n hb, up_ne (by omega), up_ne (by omega), mo_upA, gx, s1, o1]
  · rw [addFoes_n hb, up_ne (by omega), mo_upA, up_ne (by omega), gy, s2, o2]
  · rw [up_ne (by omega), up_ne (by omega), up_ne (by omega), up_ne (by omega)]
  · rw [up_ne (by omega), mo_upA, fx, s1, o1]
  · rw [mo_upA, up_ne (by omega), up_ne (by omega), up_ne (by omega), fy, s2, o2]
theorem al_line {s s' : Bool} {b : Nat} (hb : b ∈ [6, 31, 76, 101]) {H B : Nat → Nat → Int32} {LB : Nat → Nat → Int64} {xs : List Nat} {lim p : Nat} {W : Nat → Int32} {M N C G Z : Nat} {Ow : Nat → Option Nat} (hA : rdA H b (B 129) (LB 133) M N C G Z) (hq : ask s b H W M N Ow xs lim) (h0 : H 2 1 = 0) (h0' : B 126 10 = 0) (hx : xs.length ≤ 940) (hbt : ∀ k, k < xs.length → xs.getD k 0 < 256) (hpl : p ≤ xs.length) : alk b xs lim (o_Reader_readLine (wR s) H 2 (b + 1) (b + 7) (b + 13) (b + 17) xs lim p) (o_Model_readLine (wR s') B LB 126 xs lim p W N M Ow C G Z) := by
  rw [readLine_eq]
  unfold o_Reader_readLine
  by_cases c2 : tkK xs lim p = 2
  · have hp : ¬ tkK xs lim p = 0 := by rw [c2]; decide
    rw [if_pos c2]
    by_cases vMan : tkV xs lim p = 13358
    · rw [if_pos vMan, if_pos (⟨c2, vMan⟩ : tkK xs lim p = 2 ∧ tkV xs lim p = 13358)]
      exact al_man hb hA hq h0 h0' hx hbt hpl hp
    by_cases vName : tkV xs lim p = 460197
    · rw [if_neg (show ¬ tkV xs lim p = 13358 by rw [vName]; decide), if_neg (show ¬ tkV xs lim p = 212147 by rw [vName]; decide), if_pos vName, if_neg (show ¬ (tkK xs lim p = 2 ∧ tkV xs lim p = 13358) from fun z => vMan z.2), if_pos (⟨c2, vName⟩ : tkK xs lim p = 2 ∧ tkV xs lim p = 460197)]
      exact al_name hb hA hq h0 h0' hx hbt hpl hp
    by_cases vComes : tkV xs lim p = 3650739
    · rw [if_neg (show ¬ tkV xs lim p = 13358 by rw [vComes]; decide), if_neg (show ¬ tkV xs lim p = 212147 by rw [vComes]; decide), if_neg (show ¬ tkV xs lim p = 460197 by rw [vComes]; decide), if_neg (show ¬ tkV xs lim p = 515251 by rw [vComes]; decide), if_pos vComes, if_neg (show ¬ (tkK xs lim p = 2 ∧ tkV xs lim p = 13358) from fun z => vMan z.2), if_neg (show ¬ (tkK xs lim p = 2 ∧ tkV xs lim p = 460197) from fun z => vName z.2), if_pos (⟨c2, vComes⟩ : tkK xs lim p = 2 ∧ tkV xs lim p = 3650739)]
      exact al_comes hb hA hq h0 h0' hp
    by_cases vBrings : tkV xs lim p = 86292723
    · rw [if_neg (show ¬ tkV xs lim p = 13358 by rw [vBrings]; decide), if_neg (show ¬ tkV xs lim p = 212147 by rw [vBrings]; decide), if_neg (show ¬ tkV xs lim p = 460197 by rw [vBrings]; decide), if_neg (show ¬ tkV xs lim p = 515251 by rw [vBrings]; decide), if_neg (show ¬ tkV xs lim p = 3650739 by rw [vBrings]; decide), if_pos vBrings, if_neg (show ¬ (tkK xs lim p = 2 ∧ tkV xs lim p = 13358) from fun z => vMan z.2), if_neg (show ¬ (tkK xs lim p = 2 ∧ tkV xs lim p = 460197) from fun z => vName z.2), if_neg (show ¬ (tkK xs lim p = 2 ∧ tkV xs lim p = 3650739) from fun z => vComes z.2), if_pos (⟨c2, vBrings⟩ : tkK xs lim p = 2 ∧ tkV xs lim p = 86292723)]
      exact al_brings hb hA hq h0 h0' hp
    by_cases vOwes : tkV xs lim p = 515251
    · rw [if_neg (show ¬ tkV xs lim p = 13358 by rw [vOwes]; decide), if_neg (show ¬ tkV xs lim p = 212147 by rw [vOwes]; decide), if_neg (show ¬ tkV xs lim p = 460197 by rw [vOwes]; decide), if_pos vOwes, if_neg (show ¬ (tkK xs lim p = 2 ∧ tkV xs lim p = 13358) from fun z => vMan z.2), if_neg (show ¬ (tkK xs lim p = 2 ∧ tkV xs lim p = 460197) from fun z => vName z.2), if_neg (show ¬ (tkK xs lim p = 2 ∧ tkV xs lim p = 3650739) from fun z => vComes z.2), if_neg (show ¬ (tkK xs lim p = 2 ∧ tkV xs lim p = 86292723) from fun z => vBrings z.2), if_pos (⟨c2, vOwes⟩ : tkK xs lim p = 2 ∧ tkV xs lim p = 515251)]
      exact al_owes hb hA hq h0 h0' hp
    by_cases vFoes : tkV xs lim p = 212147
    · rw [if_neg (show ¬ tkV xs lim p = 13358 by rw [vFoes]; decide), if_pos vFoes, if_neg (show ¬ (tkK xs lim p = 2 ∧ tkV xs lim p = 13358) from fun z => vMan z.2), if_neg (show ¬ (tkK xs lim p = 2 ∧ tkV xs lim p = 460197) from fun z => vName z.2), if_neg (show ¬ (tkK xs lim p = 2 ∧ tkV xs lim p = 3650739) from fun z => vComes z.2), if_neg (show ¬ (tkK xs lim p = 2 ∧ tkV xs lim p = 86292723) from fun z => vBrings z.2), if_neg (show ¬ (tkK xs lim p = 2 ∧ tkV xs lim p = 515251) from fun z => vOwes z.2), if_pos (⟨c2, vFoes⟩ : tkK xs lim p = 2 ∧ tkV xs lim p = 212147)]
      exact al_foes hb hA hq h0 h0'
    rw [if_neg vMan, if_neg vFoes, if_neg vName, if_neg vOwes, if_neg vComes, if_neg vBrings, if_neg (show ¬ (tkK xs lim p = 2 ∧ tkV xs lim p = 13358) from fun z => vMan z.2), if_neg (show ¬ (tkK xs lim p = 2 ∧ tkV xs lim p = 460197) from fun z => vName z.2), if_neg (show ¬ (tkK xs lim p = 2 ∧ tkV xs lim p = 3650739) from fun z => vComes z.2), if_neg (show ¬ (tkK xs lim p = 2 ∧ tkV xs lim p = 86292723) from fun z => vBrings z.2), if_neg (show ¬ (tkK xs lim p = 2 ∧ tkV xs lim p = 515251) from fun z => vOwes z.2), if_neg (show ¬ (tkK xs lim p = 2 ∧ tkV xs lim p = 212147) from fun z => vFoes z.2)]
    exact alk_g mo_bf1
  · rw [if_neg c2, if_neg (show ¬ (tkK xs lim p = 2 ∧ tkV xs lim p = 13358) from fun z => c2 z.1), if_neg (show ¬ (tkK xs lim p = 2 ∧ tkV xs lim p = 460197) from fun z => c2 z.1), if_neg (show ¬ (tkK xs lim p = 2 ∧ tkV xs lim p = 3650739) from fun z => c2 z.1), if_neg (show ¬ (tkK xs lim p = 2 ∧ tkV xs lim p = 86292723) from fun z => c2 z.1), if_neg (show ¬ (tkK xs lim p = 2 ∧ tkV xs lim p = 515251) from fun z => c2 z.1), if_neg (show ¬ (tkK xs lim p = 2 ∧ tkV xs lim p = 212147) from fun z => c2 z.1)]
    exact alk_g mo_bf1
