/-! A town is read: what is left alone, and both line by line. -/
def fz (P : Nat → Nat → Bool) (H : Nat → Nat → Int32) (z : mo_Z) : Prop := FR P H z.2.1
def fy (Q : Nat → Nat → Bool) (B : Nat → Nat → Int32) (LB : Nat → Nat → Int64) (y : mo_Y) : Prop := FR Q B y.2.1 ∧ FL wSL LB y.2.2.2
section F
variable {P Q : Nat → Nat → Bool} {H H' B B' : Nat → Nat → Int32} {LB L' : Nat → Nat → Int64}
theorem fz_u {v : Int32} {q : Nat} (h2 : P 2 1 = true) (h : FR P H H') : fz P H (0, mo_up H' 2 1 v, q) := FR.up h2 h
theorem fz_x {v : Int32} {q : Nat} (h : FR P H H') : fz P H (v, H', q) := h
theorem fz_if {c : Prop} {i : Decidable c} {a b : mo_Z} (h1 : fz P H a) (h2 : fz P H b) : fz P H (@ite _ c i a b) := pe_ite (P := fz P H) h1 h2
theorem fz_op {α : Type} {o : Option α} {n : mo_Z} {f : α → mo_Z} (h1 : fz P H n) (h2 : ∀ v, fz P H (f v)) : fz P H (Option.elim o n f) := pe_opt (P := fz P H) h1 h2
theorem fz_e {z : mo_Z} (h : fz P H z) : fz P H (z.1, z.2.1, z.2.2) := h
theorem fy_i {v : Int32} {q : Nat} (h : FR Q B B') (h' : FL wSL LB L') : fy Q B LB (v, B', q, L') := ⟨h, h'⟩
theorem fy_if {c : Prop} {i : Decidable c} {a b : mo_Y} (h1 : fy Q B LB a) (h2 : fy Q B LB b) : fy Q B LB (@ite _ c i a b) := pe_ite (P := fy Q B LB) h1 h2
theorem fy_op {α : Type} {o : Option α} {n : mo_Y} {f : α → mo_Y} (h1 : fy Q B LB n) (h2 : ∀ v, fy Q B LB (f v)) : fy Q B LB (Option.elim o n f) := pe_opt (P := fy Q B LB) h1 h2
theorem fy_su {α β : Type} {o : α ⊕ β} {f : α → mo_Y} {g : β → mo_Y} (h1 : ∀ v, fy Q B LB (f v)) (h2 : ∀ v, fy Q B LB (g v)) : fy Q B LB (Sum.elim f g o) := pe_sum (P := fy Q B LB) h1 h2
theorem fy_l {xs : List Nat} {lim : Nat} {y : mo_Y} (h10 : Q 126 10 = true) (h11 : Q 126 11 = true) (h : fy Q B LB y) : fy Q B LB (mo_lend xs lim 126 y) := by
  unfold mo_lend
  refine fy_if h (fy_if h ⟨FR.up h11 (FR.up h10 h.1), h.2⟩)
theorem FL.trans {R : Nat → Bool} {L M N : Nat → Nat → Int64} (h : FL R L M) (h' : FL R M N) : FL R L N := fun q z => (h' q z).trans (h q z)
theorem FR.tk {xs : List Nat} {lim p : Nat} (h : ∀ k, P 3 k = true) (hF : FR P H H') : FR P H (tkI xs lim H' 3 p) := fun q k z => by
  by_cases c : q = 3
  · subst c; rw [h k] at z; cases z
  · rw [tkI_q c]; exact hF q k z
theorem FR.rt {xs : List Nat} {lim p : Nat} {u v : Int32} (h : ∀ k, 5 ≤ k → k ≤ 9 → P 126 k = true) (hF : FR P H H') : FR P H (rtI xs lim H' 126 p u v) := fun q k z => by
  by_cases c : q = 126
  · subst c
    have hk : ¬ (5 ≤ k ∧ k ≤ 9) := fun y => by rw [h k y.1 y.2] at z; cases z
    rw [rtI_a ⟨by omega, by omega, by omega, by omega, by omega⟩]
    exact hF 126 k z
  · rw [rtI_q c]; exact hF q k z
end F
theorem cadd_F {P : Nat → Nat → Bool} {s : Bool} {b : Nat} (hb : b ∈ [6, 31, 76, 101]) {H : Nat → Nat → Int32} (hP : ∀ q k, b < q → q < b + 22 → P q k = true) {n : Nat} {u v w z : Int32} : FR P H (o_cadd (wR s) H (b + 7) n u v w z) := by
  rw [cadd_n hb]
  exact FR.up (hP _ _ (by omega) (by omega)) (FR.up (hP _ _ (by omega) (by omega)) (FR.up (hP _ _ (by omega) (by omega)) (FR.up (hP _ _ (by omega) (by omega)) (FR.up (hP _ _ (by omega) (by omega)) (FR.up (hP _ _ (by omega) (by omega)) (FR.rf))))))
theorem gadd_F {P : Nat → Nat → Bool} {s : Bool} {b : Nat} (hb : b ∈ [6, 31, 76, 101]) {H : Nat → Nat → Int32} (hP : ∀ q k, b < q → q < b + 22 → P q k = true) {n : Nat} {u v w : Int32} : FR P H (o_gadd (wR s) H (b + 13) n u v w) := by
  rw [gadd_n hb]
  exact FR.up (hP _ _ (by omega) (by omega)) (FR.up (hP _ _ (by omega) (by omega)) (FR.up (hP _ _ (by omega) (by omega)) (FR.up (hP _ _ (by omega) (by omega)) (FR.rf))))
theorem oadd_F {P : Nat → Nat → Bool} {s : Bool} {b : Nat} (hb : b ∈ [6, 31, 76, 101]) {H : Nat → Nat → Int32} (hP : ∀ q k, b < q → q < b + 22 → P q k = true) {n : Nat} {u v w z : Int32} : FR P H (o_oadd (wR s) H (b + 17) n u v w z) := by
  rw [oadd_n hb]
  exact FR.up (hP _ _ (by omega) (by omega)) (FR.up (hP _ _ (by omega) (by omega)) (FR.up (hP _ _ (by omega) (by omega)) (FR.up (hP _ _ (by omega) (by omega)) (FR.up (hP _ _ (by omega) (by omega)) (FR.rf)))))
theorem addName_F {P : Nat → Nat → Bool} {s : Bool} {b : Nat} (hb : b ∈ [6, 31, 76, 101]) {H : Nat → Nat → Int32} (hP : ∀ q k, b < q → q < b + 22 → P q k = true) {n : Nat} {u v : Int32} : FR P H (o_Roll_addName (wR s) H (b + 1) n u v) := by
  rw [addName_n hb]
  exact FR.up (hP _ _ (by omega) (by omega)) (FR.up (hP _ _ (by omega) (by omega)) (FR.up (hP _ _ (by omega) (by omega)) (FR.rf)))
theorem addMan_F {P : Nat → Nat → Bool} {s : Bool} {b : Nat} (hb : b ∈ [6, 31, 76, 101]) {H : Nat → Nat → Int32} (hP : ∀ q k, b < q → q < b + 22 → P q k = true) {m n : Nat} {u v : Int32} : FR P H (o_Roll_addMan (wR s) H (b + 1) m n u v) := by
  rw [addMan_n hb]
  exact FR.up (hP _ _ (by omega) (by omega)) (FR.up (hP _ _ (by omega) (by omega)) (FR.up (hP _ _ (by omega) (by omega)) (FR.up (hP _ _ (by omega) (by omega)) (FR.up (hP _ _ (by omega) (by omega)) (FR.up (hP _ _ (by omega) (by omega)) (FR.up (hP _ _ (by omega) (by omega)) (FR.rf)))))))
theorem addFoes_F {P : Nat → Nat → Bool} {s : Bool} {b : Nat} (hb : b ∈ [6, 31, 76, 101]) {H : Nat → Nat → Int32} (hP : ∀ q k, b < q → q < b + 22 → P q k = true) {x y : Nat} : FR P H (o_Roll_addFoes (wR s) H (b + 1) x y) := by
  rw [addFoes_n hb]
  exact FR.up (hP _ _ (by omega) (by omega)) (FR.up (hP _ _ (by omega) (by omega)) (FR.up (hP _ _ (by omega) (by omega)) (FR.rf)))
theorem readMan_F {P : Nat → Nat → Bool} {s : Bool} {b : Nat} (hb : b ∈ [6, 31, 76, 101]) {H : Nat → Nat → Int32} {xs : List Nat} {lim p : Nat} (hP : ∀ q k, b < q → q < b + 22 → P q k = true) (h2 : P 2 1 = true) : fz P H (o_Reader_readMan (wR s) H 2 (b + 1) xs lim p) := by
  unfold o_Reader_readMan
  repeat' (first | refine fz_if ?_ ?_ | refine fz_op ?_ (fun _ => ?_) | exact fz_u h2 FR.rf | exact fz_x (addMan_F hb hP) | exact fz_u h2 (addMan_F hb hP))
theorem readName_F {P : Nat → Nat → Bool} {s : Bool} {b : Nat} (hb : b ∈ [6, 31, 76, 101]) {H : Nat → Nat → Int32} {xs : List Nat} {lim p : Nat} (hP : ∀ q k, b < q → q < b + 22 → P q k = true) (h2 : P 2 1 = true) : fz P H (o_Reader_readName (wR s) H 2 (b + 1) xs lim p) := by
  unfold o_Reader_readName
  repeat' (first | refine fz_if ?_ ?_ | refine fz_op ?_ (fun _ => ?_) | exact fz_u h2 FR.rf | exact fz_x (addName_F hb hP) | exact fz_u h2 (addName_F hb hP))
theorem readComes_F {P : Nat → Nat → Bool} {s : Bool} {b : Nat} (hb : b ∈ [6, 31, 76, 101]) {H : Nat → Nat → Int32} {xs : List Nat} {lim p : Nat} (hP : ∀ q k, b < q → q < b + 22 → P q k = true) (h2 : P 2 1 = true) : fz P H (o_Reader_readComes (wR s) H 2 (b + 1) (b + 7) xs lim p) := by
  unfold o_Reader_readComes
  repeat' (first | refine fz_if ?_ ?_ | refine fz_op ?_ (fun _ => ?_) | exact fz_u h2 FR.rf | exact fz_x (cadd_F hb hP) | exact fz_u h2 (cadd_F hb hP))
theorem readBrings_F {P : Nat → Nat → Bool} {s : Bool} {b : Nat} (hb : b ∈ [6, 31, 76, 101]) {H : Nat → Nat → Int32} {xs : List Nat} {lim p : Nat} (hP : ∀ q k, b < q → q < b + 22 → P q k = true) (h2 : P 2 1 = true) : fz P H (o_Reader_readBrings (wR s) H 2 (b + 1) (b + 13) xs lim p) := by
  unfold o_Reader_readBrings
  repeat' (first | refine fz_if ?_ ?_ | refine fz_op ?_ (fun _ => ?_) | exact fz_u h2 FR.rf | exact fz_x (gadd_F hb hP) | exact fz_u h2 (gadd_F hb hP))
theorem readOwes_F {P : Nat → Nat → Bool} {s : Bool} {b : Nat} (hb : b ∈ [6, 31, 76, 101]) {H : Nat → Nat → Int32} {xs : List Nat} {lim p : Nat} (hP : ∀ q k, b < q → q < b + 22 → P q k = true) (h2 : P 2 1 = true) : fz P H (o_Reader_readOwes (wR s) H 2 (b + 1) (b + 17) xs lim p) := by
  unfold o_Reader_readOwes
  repeat' (first | refine fz_if ?_ ?_ | refine fz_op ?_ (fun _ => ?_) | exact fz_u h2 FR.rf | exact fz_x (oadd_F hb hP) | exact fz_u h2 (oadd_F hb hP))
theorem readFoes_F {P : Nat → Nat → Bool} {s : Bool} {b : Nat} (hb : b ∈ [6, 31, 76, 101]) {H : Nat → Nat → Int32} {xs : List Nat} {lim p : Nat} (hP : ∀ q k, b < q → q < b + 22 → P q k = true) (h2 : P 2 1 = true) : fz P H (o_Reader_readFoes (wR s) H 2 (b + 1) xs lim p) := by
  unfold o_Reader_readFoes
  repeat' (first | refine fz_if ?_ ?_ | refine fz_op ?_ (fun _ => ?_) | exact fz_u h2 FR.rf | exact fz_x (addFoes_F hb hP) | exact fz_u h2 (addFoes_F hb hP))
theorem readLine_F {P : Nat → Nat → Bool} {s : Bool} {b : Nat} (hb : b ∈ [6, 31, 76, 101]) {H : Nat → Nat → Int32} {xs : List Nat} {lim p : Nat} (hP : ∀ q k, b < q → q < b + 22 → P q k = true) (h2 : P 2 1 = true) : fz P H (o_Reader_readLine (wR s) H 2 (b + 1) (b + 7) (b + 13) (b + 17) xs lim p) := by
  unfold o_Reader_readLine
  exact fz_if (fz_if (fz_e (readMan_F hb hP h2)) (fz_if (fz_e (readFoes_F hb hP h2)) (fz_if (fz_e (readName_F hb hP h2)) (fz_if (fz_e (readOwes_F hb hP h2)) (fz_if (fz_e (readComes_F hb hP h2)) (fz_if (fz_e (readBrings_F hb hP h2)) (fz_u h2 FR.rf))))))) (fz_u h2 FR.rf)
theorem tnm_F {Q : Nat → Nat → Bool} {B : Nat → Nat → Int32} {LB : Nat → Nat → Int64} {xs : List Nat} {lim q : Nat} {W : Nat → Int32} {N : Nat} (h10 : Q 126 10 = true) (h11 : Q 126 11 = true) (h13 : Q 126 13 = true) : FR Q B (o_Model_isToldName B LB 126 xs lim q W N).2.1 := by
  have key : fy Q B LB (o_Model_isToldName B LB 126 xs lim q W N) := by
    unfold o_Model_isToldName
    exact fy_if (fy_op (fy_i (FR.up h11 (FR.up h10 (FR.up h13 FR.rf))) FL.rf) (fun _ => fy_i (FR.up h13 FR.rf) FL.rf)) (fy_i (FR.up h11 (FR.up h10 FR.rf)) FL.rf)
  exact key.1
theorem tmm_F {Q : Nat → Nat → Bool} {B : Nat → Nat → Int32} {LB : Nat → Nat → Int64} {xs : List Nat} {lim q : Nat} {W : Nat → Int32} {N : Nat} {Ow : Nat → Option Nat} (h10 : Q 126 10 = true) (h11 : Q 126 11 = true) (h13 : Q 126 13 = true) : FR Q B (o_Model_isToldMan B LB 126 xs lim q W N Ow).2.1 := by
  have key : fy Q B LB (o_Model_isToldMan B LB 126 xs lim q W N Ow) := by
    unfold o_Model_isToldMan
    exact fy_op (fy_i (tnm_F h10 h11 h13) FL.rf) (fun _ => fy_op (fy_i (FR.up h11 (FR.up h10 (FR.up h13 (FR.up h13 FR.rf)))) FL.rf) (fun _ => fy_i (FR.up h13 (FR.up h13 FR.rf)) FL.rf))
  exact key.1
theorem mreadMan_F {Q : Nat → Nat → Bool} {s : Bool} {B : Nat → Nat → Int32} {LB : Nat → Nat → Int64} {xs : List Nat} {lim p : Nat} {W : Nat → Int32} {N : Nat} {M : Nat} (h10 : Q 126 10 = true) (h11 : Q 126 11 = true) (h13 : Q 126 13 = true) (hr : ∀ k, Q 129 k = true) : fy Q B LB (o_Model_readMan (wR s) B LB 126 xs lim p W N M) := by
  unfold o_Model_readMan
  rw [w129 s, w133 s]
  repeat' (first | exact FL.rf | exact FL.up rfl FL.rf | exact FR.rf | refine fy_if ?_ ?_ | refine fy_op ?_ (fun _ => ?_) | refine fy_su (fun _ => ?_) (fun _ => ?_) | refine fy_i ?_ ?_ | refine FR.up h10 ?_ | refine FR.up h11 ?_ | refine FR.up h13 ?_ | refine FR.up (hr _) ?_ | refine FR.trans ?_ (tnm_F h10 h11 h13) | refine FR.trans ?_ (tmm_F h10 h11 h13))
theorem mreadName_F {Q : Nat → Nat → Bool} {s : Bool} {B : Nat → Nat → Int32} {LB : Nat → Nat → Int64} {xs : List Nat} {lim p : Nat} {W : Nat → Int32} {N : Nat} (h10 : Q 126 10 = true) (h11 : Q 126 11 = true) (h13 : Q 126 13 = true) (hr : ∀ k, Q 129 k = true) : fy Q B LB (o_Model_readName (wR s) B LB 126 xs lim p W N) := by
  unfold o_Model_readName
  rw [w129 s, w133 s]
  repeat' (first | exact FL.rf | exact FL.up rfl FL.rf | exact FR.rf | refine fy_if ?_ ?_ | refine fy_op ?_ (fun _ => ?_) | refine fy_su (fun _ => ?_) (fun _ => ?_) | refine fy_i ?_ ?_ | refine FR.up h10 ?_ | refine FR.up h11 ?_ | refine FR.up h13 ?_ | refine FR.up (hr _) ?_ | refine FR.trans ?_ (tnm_F h10 h11 h13) | refine FR.trans ?_ (tmm_F h10 h11 h13))
theorem mreadComes_F {Q : Nat → Nat → Bool} {s : Bool} {B : Nat → Nat → Int32} {LB : Nat → Nat → Int64} {xs : List Nat} {lim p : Nat} {W : Nat → Int32} {N : Nat} {Ow : Nat → Option Nat} {C : Nat} (h10 : Q 126 10 = true) (h11 : Q 126 11 = true) (h13 : Q 126 13 = true) (hr : ∀ k, Q 129 k = true) : fy Q B LB (o_Model_readComes (wR s) B LB 126 xs lim p W N Ow C) := by
  unfold o_Model_readComes
  rw [w129 s]
  repeat' (first | exact FL.rf | exact FL.up rfl FL.rf | exact FR.rf | refine fy_if ?_ ?_ | refine fy_op ?_ (fun _ => ?_) | refine fy_su (fun _ => ?_) (fun _ => ?_) | refine fy_i ?_ ?_ | refine FR.up h10 ?_ | refine FR.up h11 ?_ | refine FR.up h13 ?_ | refine FR.up (hr _) ?_ | refine FR.trans ?_ (tnm_F h10 h11 h13) | refine FR.trans ?_ (tmm_F h10 h11 h13))
theorem mreadBrings_F {Q : Nat → Nat → Bool} {s : Bool} {B : Nat → Nat → Int32} {LB : Nat → Nat → Int64} {xs : List Nat} {lim p : Nat} {W : Nat → Int32} {N : Nat} {G : Nat} (h10 : Q 126 10 = true) (h11 : Q 126 11 = true) (h13 : Q 126 13 = true) (hr : ∀ k, Q 129 k = true) : fy Q B LB (o_Model_readBrings (wR s) B LB 126 xs lim p W N G) := by
  unfold o_Model_readBrings
  rw [w129 s]
  repeat' (first | exact FL.rf | exact FL.up rfl FL.rf | exact FR.rf | refine fy_if ?_ ?_ | refine fy_op ?_ (fun _ => ?_) | refine fy_su (fun _ => ?_) (fun _ => ?_) | refine fy_i ?_ ?_ | refine FR.up h10 ?_ | refine FR.up h11 ?_ | refine FR.up h13 ?_ | refine FR.up (hr _) ?_ | refine FR.trans ?_ (tnm_F h10 h11 h13) | refine FR.trans ?_ (tmm_F h10 h11 h13))
theorem mreadOwes_F {Q : Nat → Nat → Bool} {s : Bool} {B : Nat → Nat → Int32} {LB : Nat → Nat → Int64} {xs : List Nat} {lim p : Nat} {W : Nat → Int32} {N : Nat} {Z : Nat} (h10 : Q 126 10 = true) (h11 : Q 126 11 = true) (h13 : Q 126 13 = true) (hr : ∀ k, Q 129 k = true) : fy Q B LB (o_Model_readOwes (wR s) B LB 126 xs lim p W N Z) := by
  unfold o_Model_readOwes
  rw [w129 s]
  repeat' (first | exact FL.rf | exact FL.up rfl FL.rf | exact FR.rf | refine fy_if ?_ ?_ | refine fy_op ?_ (fun _ => ?_) | refine fy_su (fun _ => ?_) (fun _ => ?_) | refine fy_i ?_ ?_ | refine FR.up h10 ?_ | refine FR.up h11 ?_ | refine FR.up h13 ?_ | refine FR.up (hr _) ?_ | refine FR.trans ?_ (tnm_F h10 h11 h13) | refine FR.trans ?_ (tmm_F h10 h11 h13))
theorem mreadFoes_F {Q : Nat → Nat → Bool} {s : Bool} {B : Nat → Nat → Int32} {LB : Nat → Nat → Int64} {xs : List Nat} {lim p : Nat} {W : Nat → Int32} {N : Nat} {Ow : Nat → Option Nat} (h10 : Q 126 10 = true) (h11 : Q 126 11 = true) (h13 : Q 126 13 = true) (hr : ∀ k, Q 129 k = true) : fy Q B LB (o_Model_readFoes (wR s) B LB 126 xs lim p W N Ow) := by
  unfold o_Model_readFoes
  rw [w129 s]
  repeat' (first | exact FL.rf | exact FL.up rfl FL.rf | exact FR.rf | refine fy_if ?_ ?_ | refine fy_op ?_ (fun _ => ?_) | refine fy_su (fun _ => ?_) (fun _ => ?_) | refine fy_i ?_ ?_ | refine FR.up h10 ?_ | refine FR.up h11 ?_ | refine FR.up h13 ?_ | refine FR.up (hr _) ?_ | refine FR.trans ?_ (tnm_F h10 h11 h13) | refine FR.trans ?_ (tmm_F h10 h11 h13))
theorem mreadLine_F {Q : Nat → Nat → Bool} {s : Bool} {B : Nat → Nat → Int32} {LB : Nat → Nat → Int64} {xs : List Nat} {lim p : Nat} {W : Nat → Int32} {M N C G Z : Nat} {Ow : Nat → Option Nat} (h10 : Q 126 10 = true) (h11 : Q 126 11 = true) (h13 : Q 126 13 = true) (hr : ∀ k, Q 129 k = true) : fy Q B LB (o_Model_readLine (wR s) B LB 126 xs lim p W N M Ow C G Z) := by
  rw [readLine_eq]
  exact fy_if (fy_l h10 h11 (mreadMan_F h10 h11 h13 hr)) (fy_if (fy_l h10 h11 (mreadName_F h10 h11 h13 hr)) (fy_if (fy_l h10 h11 (mreadComes_F h10 h11 h13 hr)) (fy_if (fy_l h10 h11 (mreadBrings_F h10 h11 h13 hr)) (fy_if (fy_l h10 h11 (mreadOwes_F h10 h11 h13 hr)) (fy_if (fy_l h10 h11 (mreadFoes_F h10 h11 h13 hr)) (fy_i (FR.up h11 (FR.up h10 FR.rf)) FL.rf))))))
/-- two loops in step -/
theorem lp_two {S S' ρ ρ' : Type} {body : Nat → S → S ⊕ ρ} {body' : Nat → S' → S' ⊕ ρ'} {B : Nat} {Rel : Nat → S → S' → Prop} {Q : ρ → ρ' → Prop} (hs : ∀ i s s', i ≤ B → Rel i s s' → (∃ t t', body i s = .inl t ∧ body' i s' = .inl t' ∧ i < B ∧ Rel (i + 1) t t') ∨ ∃ r r', body i s = .inr r ∧ body' i s' = .inr r' ∧ Q r r') : ∀ k n n' i s s', B + 1 ≤ i + k → B < i + n → B < i + n' → i ≤ B → Rel i s s' → ∃ r r', mo_lp body n i s = .inr r ∧ mo_lp body' n' i s' = .inr r' ∧ Q r r'
  | 0, _, _, _, _, _, h, _, _, h4, _ => by omega
  | k + 1, 0, _, _, _, _, _, h2, _, h4, _ => by omega
  | k + 1, n + 1, 0, _, _, _, _, _, h3, h4, _ => by omega
  | k + 1, n + 1, n' + 1, i, s, s', h1, h2, h3, h4, hR => by
    rcases hs i s s' h4 hR with ⟨t, t', e, e', hi, hR'⟩ | ⟨r, r', e, e', hQ⟩
    · obtain ⟨r, r', k1, k2, k3⟩ := lp_two hs k n n' (i + 1) t t' (by omega) (by omega) (by omega) (by omega) hR'
      exact ⟨r, r', (mo_lp_inlS e).trans k1, (mo_lp_inlS e').trans k2, k3⟩
    · exact ⟨r, r', mo_lp_inrS e, mo_lp_inrS e', hQ⟩
theorem rdA_eq {H H' : Nat → Nat → Int32} {b : Nat} {ρ : Nat → Int32} {ν : Nat → Int64} {M N C G Z : Nat} (h : rdA H b ρ ν M N C G Z) (e : ∀ q, b ≤ q → q < b + 25 → H' q = H q) : rdA H' b ρ ν M N C G Z := by
  unfold rdA rdC rdP at h ⊢
  rw [e b (by omega) (by omega), e (b + 1) (by omega) (by omega), e (b + 7) (by omega) (by omega), e (b + 13) (by omega) (by omega), e (b + 17) (by omega) (by omega), e (b + 22) (by omega) (by omega), e (b + 2) (by omega) (by omega), e (b + 3) (by omega) (by omega), e (b + 4) (by omega) (by omega), e (b + 6) (by omega) (by omega), e (b + 8) (by omega) (by omega), e (b + 9) (by omega) (by omega), e (b + 10) (by omega) (by omega), e (b + 11) (by omega) (by omega), e (b + 12) (by omega) (by omega), e (b + 14) (by omega) (by omega), e (b + 15) (by omega) (by omega), e (b + 16) (by omega) (by omega), e (b + 18) (by omega) (by omega), e (b + 19) (by omega) (by omega), e (b + 20) (by omega) (by omega), e (b + 21) (by omega) (by omega), e (b + 5) (by omega) (by omega)]
  exact h
/-- what is found out of names and men -/
theorem ask_of {s s' : Bool} {b : Nat} (hb : b ∈ [6, 31, 76, 101]) {H B : Nat → Nat → Int32} {LB : Nat → Nat → Int64} {xs : List Nat} {lim M N C G Z : Nat} (hA : rdA H b (B 129) (LB 133) M N C G Z) : ask s b H (mW LB (wR s') 126) M N (mOw B (wR s') 126) xs lim := by
  have hN12 := hA.2.1.1.2.1.2
  have hM8 := hA.2.1.1.1.2
  have eN : cN H (b + 1) = N := mo_ncl hA.1.1.1.2.1 (by omega)
  have eM : mM B (wR s') 126 0 = M := by
    unfold mM
    rw [w129 s']
    exact mo_ncl hA.2.1.1.1.1 (by omega)
  have hW : ∀ c, c < N → mW LB (wR s') 126 c = H (b + 5) c := fun c hc => by
    obtain ⟨n, n1, n2, n3⟩ := hA.2.2.2 c hc
    unfold mW
    rw [w133 s', n2, mo_iW_F n3, n1]
  have hO : ∀ n v, mOw B (wR s') 126 n = some v → v < M := fun n v e => by
    have := (mo_ff_lt e).1
    omega
  have k1 : ∀ q, mo_ff (fun c => decide (H (b + 5) c = tkV xs lim q)) N = mo_ff (fun c => decide (mW LB (wR s') 126 c = tkV xs lim q)) N := fun q => mo_ff_congr (fun c hc => by rw [hW c hc])
  have k2 : ∀ q, tkNa (H (b + 5)) N xs lim q = tkNa (mW LB (wR s') 126) N xs lim q := fun q => by
    unfold tkNa
    rw [k1 q]
  refine ⟨k2, fun q => ?_, k1, hO⟩
  unfold tkMa
  rw [wb8 s hb, eN, k2 q]
  cases e : tkNa (mW LB (wR s') 126) N xs lim q with
  | none => rfl
  | some n =>
    have hn := tkNa_lt e
    show cOw H (wR s) (b + 1) n = mOw B (wR s') 126 n
    have e1 : mOw B (wR s') 126 n = mo_ff (fun c => decide (B 129 (8 + 3 * c) = nI n)) M := by
      unfold mOw
      rw [eM, w129 s']
    unfold cOw
    rw [wb9 s hb, e1]
    exact mo_oi_rd (hA.1.2.2.1 n hn) (fun v hv => by have := (mo_ff_lt hv).1; omega)
/-- a reader's state between lines, on both sides -/
def rel (s s' : Bool) (b : Nat) (xs : List Nat) (P Q : Nat → Nat → Bool) (I J : Nat → Nat → Int32) (LJ : Nat → Nat → Int64) (i : Nat) (S : Nat × (Nat → Nat → Int32)) (S' : Nat × (Nat → Nat → Int32) × Nat × (Nat → Nat → Int64)) : Prop :=
  S.1 = S'.1 ∧ mo_rkk S.2 (wR s) 3 (b + 1) (b + 7) (b + 13) (b + 17) xs 900 ∧ cP S.2 3 = S'.2.2.1 ∧ mo_ts (wR s') 126 xs 900 i S' ∧ (∃ M N C G Z, rdA S.2 b (S'.2.1 129) (S'.2.2.2 133) M N C G Z) ∧ (S.2 2 1 = 0 ∧ S'.2.1 126 10 = 0) ∧ FR P I S.2 ∧ FR Q J S'.2.1 ∧ FL wSL LJ S'.2.2.2
theorem rel_mk {s s' : Bool} {b : Nat} {xs : List Nat} {P Q : Nat → Nat → Bool} {I J H B : Nat → Nat → Int32} {LJ L : Nat → Nat → Int64} {i n p : Nat} (hk : mo_rkk H (wR s) 3 (b + 1) (b + 7) (b + 13) (b + 17) xs 900) (hp : cP H 3 = p) (ht : mo_ts (wR s') 126 xs 900 i (n, B, p, L)) (hA : ∃ M N C G Z, rdA H b (B 129) (L 133) M N C G Z) (h0 : H 2 1 = 0) (h1 : B 126 10 = 0) (f1 : FR P I H) (f2 : FR Q J B) (f3 : FL wSL LJ L) : rel s s' b xs P Q I J LJ i (n, H) (n, B, p, L) := ⟨rfl, hk, hp, ht, hA, ⟨h0, h1⟩, f1, f2, f3⟩
/-- how reading ends, on both sides -/
def endT (b : Nat) (P Q : Nat → Nat → Bool) (I J : Nat → Nat → Int32) (LJ : Nat → Nat → Int64) (r : Int32 × (Nat → Nat → Int32) × Nat) (r' : (Nat × (Nat → Nat → Int32) × Nat × (Nat → Nat → Int64)) ⊕ mo_Y) : Prop :=
  FR P I r.2.1 ∧ ((∃ n B p L, r' = .inl (n, B, p, L) ∧ r.1 = nI n ∧ n ≤ 940 ∧ (∃ M N C G Z, rdA r.2.1 b (B 129) (L 133) M N C G Z) ∧ r.2.1 2 1 = B 126 10 ∧ FR Q J B ∧ FL wSL LJ L) ∨ ∃ k B p L, r' = .inr (-1 - nI k, B, p, L) ∧ r.1 = -1 - nI k ∧ k ≤ 940 ∧ r.2.1 2 1 = B 126 10 ∧ FR Q J B ∧ FL wSL LJ L)
theorem rel_step {s s' : Bool} {b : Nat} (hb : b ∈ [6, 31, 76, 101]) (hrr : mo_rr wK (wR s) 2 3 (b + 1) (b + 7) (b + 13) (b + 17) (b + 22)) {xs : List Nat} (hx : xs.length ≤ 940) (hbt : ∀ k, k < xs.length → xs.getD k 0 < 256) {P Q : Nat → Nat → Bool} (hP : ∀ q k, b < q → q < b + 22 → P q k = true) (hP2 : P 2 1 = true) (hP3 : ∀ k, P 3 k = true) (h10 : Q 126 10 = true) (h11 : Q 126 11 = true) (h13 : Q 126 13 = true) (hr : ∀ k, Q 129 k = true) {I J : Nat → Nat → Int32} {LJ : Nat → Nat → Int64} (i : Nat) (S : Nat × (Nat → Nat → Int32)) (S' : Nat × (Nat → Nat → Int32) × Nat × (Nat → Nat → Int64)) (hi : i ≤ xs.length) (hR : rel s s' b xs P Q I J LJ i S S') :
    (∃ t t', b_Reader_readTown_23 (wR s) 2 3 (b + 1) (b + 7) (b + 13) (b + 17) xs i S = .inl t ∧ b_Model_town_31 (wR s') 126 xs i S' = .inl t' ∧ i < xs.length ∧ rel s s' b xs P Q I J LJ (i + 1) t t') ∨ ∃ r r', b_Reader_readTown_23 (wR s) 2 3 (b + 1) (b + 7) (b + 13) (b + 17) xs i S = .inr r ∧ b_Model_town_31 (wR s') 126 xs i S' = .inr r' ∧ endT b P Q I J LJ r r' := by
  obtain ⟨n, H⟩ := S
  obtain ⟨n', B, p, L⟩ := S'
  obtain ⟨e1, hk, e2, ht, ⟨M, N, C, G, Z, hA⟩, ⟨z1, z2⟩, f1, f2, f3⟩ := hR
  have e1 : n = n' := e1
  subst e1
  have hk : mo_rkk H (wR s) 3 (b + 1) (b + 7) (b + 13) (b + 17) xs 900 := hk
  have e2 : cP H 3 = p := e2
  obtain ⟨t1, t2, ⟨t3, t4⟩, t5⟩ := ht
  have t1 : n ≤ i := t1
  have t2 : mo_b0 B (wR s') 126 xs 900 := t2
  have t3 : i ≤ p := t3
  have t4 : p ≤ xs.length := t4
  have t5 : mo_mr B L (wR s') 126 := t5
  have hA : rdA H b (B 129) (L 133) M N C G Z := hA
  have z1 : H 2 1 = 0 := z1
  have z2 : B 126 10 = 0 := z2
  have f1 : FR P I H := f1
  have f2 : FR Q J B := f2
  have f3 : FL wSL LJ L := f3
  obtain ⟨⟨a0, a0'⟩, ⟨a1, a1'⟩, ⟨a2, a2'⟩, ⟨a3, a3'⟩, a4, a4'⟩ := hA.2.1.1
  have n0 : mM B (wR s') 126 0 = M := by unfold mM; rw [w129 s']; exact mo_ncl a0 (by omega)
  have n1 : mM B (wR s') 126 1 = N := by unfold mM; rw [w129 s']; exact mo_ncl a1 (by omega)
  have n2 : mM B (wR s') 126 2 = C := by unfold mM; rw [w129 s']; exact mo_ncl a2 (by omega)
  have n3 : mM B (wR s') 126 3 = G := by unfold mM; rw [w129 s']; exact mo_ncl a3 (by omega)
  have n4 : mM B (wR s') 126 4 = Z := by unfold mM; rw [w129 s']; exact mo_ncl a4 (by omega)
  have hl := al_line (s := s) (s' := s') hb hA (ask_of (s' := s') hb hA) z1 z2 hx hbt t4 (lim := 900)
  have hz := readLine_F (s := s) (xs := xs) (lim := 900) (p := p) (H := H) hb hP hP2
  have hy := mreadLine_F (s := s') (B := B) (LB := L) (xs := xs) (lim := 900) (p := p) (W := mW L (wR s') 126) (M := M) (N := N) (C := C) (G := G) (Z := Z) (Ow := mOw B (wR s') 126) h10 h11 h13 hr
  have hG := readLine_G hrr hk.1 hk.2.1 t4 hk.2.2.2.1 hk.2.2.2.2
  obtain ⟨hm1, hm2⟩ := mreadLine_G (C := C) (G := G) (Z := Z) (M := M) (W := mW L (wR s') 126) (Ow := mOw B (wR s') 126) (w_md s') t2 t4 t5 (by rw [w129 s']; exact a1) a1' a0' a2' a3' a4'
  have eC : b_Reader_readTown_23 (wR s) 2 3 (b + 1) (b + 7) (b + 13) (b + 17) xs i (n, H) = (if (tkK xs 900 p) = 1 then .inr (nI n, H, p) else (if (o_Reader_readLine (wR s) H 2 (b + 1) (b + 7) (b + 13) (b + 17) xs 900 p).1 = 0 then .inr ((-1) - (nI (tkP xs 900 (o_Reader_readLine (wR s) H 2 (b + 1) (b + 7) (b + 13) (b + 17) xs 900 p).2.2)), (o_Reader_readLine (wR s) H 2 (b + 1) (b + 7) (b + 13) (b + 17) xs 900 p).2.1, (o_Reader_readLine (wR s) H 2 (b + 1) (b + 7) (b + 13) (b + 17) xs 900 p).2.2) else .inl ((n + 1), tkI xs 900 (o_Reader_readLine (wR s) H 2 (b + 1) (b + 7) (b + 13) (b + 17) xs 900 p).2.1 3 (o_Reader_readLine (wR s) H 2 (b + 1) (b + 7) (b + 13) (b + 17) xs 900 p).2.2))) := by
    rw [← e2]
    rfl
  have eM : b_Model_town_31 (wR s') 126 xs i (n, B, p, L) = (if (mo_kk (tkK xs 900 p)) = 0 then .inr (.inl (n, B, p, L)) else (if (o_Model_readLine (wR s') B L 126 xs 900 p (mW L (wR s') 126) N M (mOw B (wR s') 126) C G Z).1 = 0 then .inr (.inr ((-1) - ((o_Model_readLine (wR s') B L 126 xs 900 p (mW L (wR s') 126) N M (mOw B (wR s') 126) C G Z).2.1 126 11), (o_Model_readLine (wR s') B L 126 xs 900 p (mW L (wR s') 126) N M (mOw B (wR s') 126) C G Z).2.1, (o_Model_readLine (wR s') B L 126 xs 900 p (mW L (wR s') 126) N M (mOw B (wR s') 126) C G Z).2.2.1, (o_Model_readLine (wR s') B L 126 xs 900 p (mW L (wR s') 126) N M (mOw B (wR s') 126) C G Z).2.2.2)) else .inl ((n + 1), (o_Model_readLine (wR s') B L 126 xs 900 p (mW L (wR s') 126) N M (mOw B (wR s') 126) C G Z).2.1, (o_Model_readLine (wR s') B L 126 xs 900 p (mW L (wR s') 126) N M (mOw B (wR s') 126) C G Z).2.2.1, (o_Model_readLine (wR s') B L 126 xs 900 p (mW L (wR s') 126) N M (mOw B (wR s') 126) C G Z).2.2.2))) := by
    rw [← n0, ← n1, ← n2, ← n3, ← n4]
    rfl
  rw [eC, eM]
  generalize o_Reader_readLine (wR s) H 2 (b + 1) (b + 7) (b + 13) (b + 17) xs 900 p = z at hl hz hG ⊢
  generalize o_Model_readLine (wR s') B L 126 xs 900 p (mW L (wR s') 126) N M (mOw B (wR s') 126) C G Z = y at hl hy hm1 hm2 ⊢
  by_cases c : tkK xs 900 p = 1
  · rw [if_pos c, if_pos (mo_kk_0.mpr c)]
    exact Or.inr ⟨_, _, rfl, rfl, f1, Or.inl ⟨n, B, p, L, rfl, rfl, by omega, ⟨M, N, C, G, Z, hA⟩, z1.trans z2.symm, f2, f3⟩⟩
  · rw [if_neg c, if_neg (fun k => c (mo_kk_0.mp k))]
    rcases hl with ⟨l1, l2, l3, l4⟩ | ⟨l1, l2, l3, ⟨l4, l5⟩, M', N', C', G', Z', hA'⟩
    · rw [if_pos l1, if_pos l2, l4]
      have hle := tkP_le (lim := 900) hG.2.2.2
      exact Or.inr ⟨_, _, rfl, rfl, f1.trans hz, Or.inr ⟨_, _, _, _, rfl, rfl, by omega, l3, f2.trans hy.1, FL.trans f3 hy.2⟩⟩
    · rw [if_neg (by rw [l1]; decide), if_neg (by rw [l2]; decide)]
      have hp1 := hm2 l2
      have hp2 := hm1.2.2.1
      refine Or.inl ⟨_, _, rfl, rfl, by omega, rel_mk (mo_rkk_G hrr hG.2.2.2 hG l1) ?_ ⟨?_, hm1.2.1, ⟨?_, hp2⟩, hm1.2.2.2 l2⟩ ⟨M', N', C', G', Z', rdA_eq hA' (fun q h1 h2 => tkI_q (by have := wb_r hb; omega))⟩ ?_ l5 (FR.tk hP3 (f1.trans hz)) (f2.trans hy.1) (FL.trans f3 hy.2)⟩
      · show cP (tkI xs 900 z.2.1 3 z.2.2) 3 = y.2.2.1
        rw [l3]
        exact mo_ncl tkI_3 (by have := tkN_le (lim := 900) hG.2.2.2; omega)
      · show n + 1 ≤ i + 1
        omega
      · show i + 1 ≤ y.2.2.1
        omega
      · show tkI xs 900 z.2.1 3 z.2.2 2 1 = 0
        rw [tkI_q (by decide)]
        exact l4
theorem town_loop {s s' : Bool} {b : Nat} (hb : b ∈ [6, 31, 76, 101]) (hrr : mo_rr wK (wR s) 2 3 (b + 1) (b + 7) (b + 13) (b + 17) (b + 22)) (hd : mo_kd wK b = 3) {xs : List Nat} {P Q : Nat → Nat → Bool} (hP : ∀ q k, b ≤ q → q < b + 25 → P q k = true) (hP2 : P 2 1 = true) (hP3 : ∀ k, P 3 k = true) (h10 : Q 126 10 = true) (h11 : Q 126 11 = true) (h13 : Q 126 13 = true) (hr : ∀ k, Q 129 k = true) {I J : Nat → Nat → Int32} {LJ : Nat → Nat → Int64} (hX : mo_xp I (wR s) 3 xs) (hJ : mo_li J 126 2 (wR s' 126 1) xs) :
    ∃ r r', w_Reader_readTown_23 (wR s) I 2 3 (b + 1) (b + 7) (b + 13) (b + 17) (b + 22) xs b = .inr r ∧ w_Model_town_31 (wR s') J LJ 126 xs = .inr r' ∧ endT b P Q I (w_Model_town_9 (wR s') J 126 xs) LJ r r' := by
  have hx := hX.2.1
  have hbt : ∀ k, k < xs.length → xs.getD k 0 < 256 := fun k hk => (hX.2.2 k hk).2
  have hr6 := wb_r hb
  have key := mo_it_inv (f := (b_Model_town_9 (wR s') 126)) (fun k t => (∀ j, j < k → t 129 j = 0) ∧ t 126 10 = 0) (k := 552) (i := 0) (s := (mBg J 126 900 xs.length)) ⟨fun j z => absurd z (Nat.not_lt_zero j), by unfold mBg; rw [up_ne (by omega), mo_upA]⟩ (fun k t _ _ ht => by
    unfold b_Model_town_9
    rw [w129 s']
    refine ⟨fun j hj => ?_, ?_⟩
    · by_cases c : j = k
      · subst c; rw [mo_upA]
      · rw [mo_upK _ _ _ c]; exact ht.1 j (by omega)
    · rw [up_ne (by omega)]; exact ht.2)
  have hts := mo_ts0 (L := LJ) (w_md s') hJ hx hbt
  have key : (∀ j, j < 552 → (w_Model_town_9 (wR s') J 126 xs) 129 j = 0) ∧ (w_Model_town_9 (wR s') J 126 xs) 126 10 = 0 := ⟨fun j hj => key.1 j (by omega), key.2⟩
  have hk0 := mo_rkk0 hrr hd hX
  unfold w_Reader_readTown_23 w_Model_town_31
  generalize w_Model_town_9 (wR s') J 126 xs = J0 at key hts ⊢
  refine lp_two (B := xs.length) (Rel := rel s s' b xs P Q I J0 LJ) (Q := endT b P Q I J0 LJ) (rel_step hb hrr hx hbt (fun q k h1 h2 => hP q k (by omega) (by omega)) hP2 hP3 h10 h11 h13 hr) (xs.length + 1) 941 (xs.length + 1) 0 _ _ (by omega) (by omega) (by omega) (Nat.zero_le _) ?_
  have kz : ∀ j, j < 552 → J0 129 j = nI 0 := key.1
  refine rel_mk hk0 ?_ hts ⟨0, 0, 0, 0, 0, ⟨⟨⟨⟨?_, ?_, ?_, ?_, ?_⟩, ?_, ?_⟩, ?_, ?_, ?_, ?_, ?_⟩, ⟨⟨⟨kz 0 (by decide), by decide⟩, ⟨kz 1 (by decide), by decide⟩, ⟨kz 2 (by decide), by decide⟩, ⟨kz 3 (by decide), by decide⟩, kz 4 (by decide), by decide⟩, ?_, ?_, ?_, ?_, ?_, ?_⟩, ⟨?_, 0, ?_, rfl⟩, ?_⟩⟩ ?_ key.2 ?_ FR.rf FL.rf
  · show (mo_up _ 3 3 (0 : Int32) 3 3).toNatClampNeg = 0
    rw [mo_upA]; rfl
  · (repeat (first | rw [mo_upA] | rw [up_ne (by omega)])); all_goals rfl
  · (repeat (first | rw [mo_upA] | rw [up_ne (by omega)])); all_goals rfl
  · (repeat (first | rw [mo_upA] | rw [up_ne (by omega)])); all_goals rfl
  · (repeat (first | rw [mo_upA] | rw [up_ne (by omega)])); all_goals rfl
  · (repeat (first | rw [mo_upA] | rw [up_ne (by omega)])); all_goals rfl
  · (repeat (first | rw [mo_upA] | rw [up_ne (by omega)])); all_goals rfl
  · (repeat (first | rw [mo_upA] | rw [up_ne (by omega)])); all_goals rfl
  · intro m hm; exact absurd hm (Nat.not_lt_zero m)
  · intro m hm; exact absurd hm (Nat.not_lt_zero m)
  · intro m hm; exact absurd hm (Nat.not_lt_zero m)
  · intro m hm; exact absurd hm (Nat.not_lt_zero m)
  · intro m hm; exact absurd hm (Nat.not_lt_zero m)
  · intro m hm; exact absurd hm (Nat.not_lt_zero m)
  · intro m m' hm; exact absurd hm (Nat.not_lt_zero m)
  · intro m hm; exact absurd hm (Nat.not_lt_zero m)
  · intro m m' hm; exact absurd hm (Nat.not_lt_zero m)
  · intro m hm; exact absurd hm (Nat.not_lt_zero m)
  · intro m hm; exact absurd hm (Nat.not_lt_zero m)
  · intro m m' hm; exact absurd hm (Nat.not_lt_zero m)
  · (repeat (first | rw [mo_upA] | rw [up_ne (by omega)])); all_goals rfl
  · intro m hm; exact absurd hm (Nat.not_lt_zero m)
  · (repeat (first | rw [mo_upA] | rw [up_ne (by omega)])); all_goals rfl
  · exact FR.up (hP3 _) (FR.up (hP3 _) (FR.up hP2 (FR.up (hP _ _ (by omega) (by omega)) (FR.up (hP _ _ (by omega) (by omega)) (FR.up (hP _ _ (by omega) (by omega)) (FR.up (hP _ _ (by omega) (by omega)) (FR.up (hP _ _ (by omega) (by omega)) (FR.up (hP _ _ (by omega) (by omega)) (FR.up (hP _ _ (by omega) (by omega)) (FR.up (hP _ _ (by omega) (by omega)) FR.rf))))))))))
