/-! The class: what its objects are, and how they tell T. -/
theorem mo_ob_ {K : mo_K} {xs : List (Nat × Nat)} (h : ∀ x ∈ xs, mo_kd K x.1 = x.2) {i : Nat} {y : Nat × Nat} (e : xs[i]? = some y) : mo_kd K y.1 = y.2 := h y (List.mem_of_getElem? e)
theorem mo_rk {K : mo_K} {xs : List (Nat × Nat × Nat)} (h : ∀ x ∈ xs, mo_kd K x.1 = x.2.1 ∧ mo_ln K x.1 = x.2.2) {i : Nat} {y : Nat × Nat × Nat} (e : xs[i]? = some y) : mo_kd K y.1 = y.2.1 := (h y (List.mem_of_getElem? e)).1
theorem mo_rl {K : mo_K} {xs : List (Nat × Nat × Nat)} (h : ∀ x ∈ xs, mo_kd K x.1 = x.2.1 ∧ mo_ln K x.1 = x.2.2) {i : Nat} {y : Nat × Nat × Nat} (e : xs[i]? = some y) : mo_ln K y.1 = y.2.2 := (h y (List.mem_of_getElem? e)).2
theorem mo_nd {xs : List (Nat × Nat × Nat)} (h : xs.Pairwise (fun x y => x.1 ≠ y.1)) {i j : Nat} {x y : Nat × Nat × Nat} (hx : xs[i]? = some x) (hy : xs[j]? = some y) (hij : i ≠ j) : x.1 ≠ y.1 := by
  obtain ⟨hi, ei⟩ := List.getElem?_eq_some_iff.mp hx
  obtain ⟨hj, ej⟩ := List.getElem?_eq_some_iff.mp hy
  rcases Nat.lt_or_ge i j with c | c
  · have := List.pairwise_iff_getElem.mp h i j hi hj c
    rw [ei, ej] at this
    exact this
  · have := List.pairwise_iff_getElem.mp h j i hj hi (by omega)
    rw [ei, ej] at this
    exact this.symm
theorem mo_oiX {o : Option Nat} {v : Nat} (e : o = some v) (hv : v < 2147483648 := by omega) : ¬ mo_oi o = -1 := by
  rw [mo_oiS e]
  exact fun z => mo_nIm rfl hv z
/-- the name given at a coming -/
def tGc (T : mo_Tn) (c : Nat) : Option Nat := tGave T (tCd T c) (tCm T c)
/-- what a gain brings, in parts -/
def tGp (T : mo_Tn) (k : Nat) : Int32 := tGa T k * (nI (tGk T k) * (27720 / nI (tGo T k)))
/-- the men who may have a name by a line -/
def tSm (T : mo_Tn) (k : Nat) : Int32 := if tSi T k = 1 then tSs T k else tSs T k ^^^ (-1)
def mo_gO (R : Nat → Nat → Nat) (g t : Nat) : List (Nat × Nat) := [(g, 0), (t, 3), (R g 0, 1), (R g 1, 2), (R g 3, 9), (R g 4, 10), (R t 0, 4), (R t 1, 5), (R t 2, 6), (R t 3, 7), (R t 4, 8)]
def mo_gR (R : Nat → Nat → Nat) (g t : Nat) : List (Nat × Nat × Nat) := [(R (R t 0) 0, 100, 8), (R (R t 0) 1, 100, 8), (R (R t 0) 2, 100, 8), (R (R t 0) 3, 100, 12), (R (R t 0) 4, 100, 12), (R (R t 1) 0, 100, 40), (R (R t 1) 1, 100, 40), (R (R t 1) 2, 100, 40), (R (R t 1) 3, 100, 40), (R (R t 1) 4, 100, 40), (R (R t 2) 0, 100, 40), (R (R t 2) 1, 100, 40), (R (R t 2) 2, 100, 40), (R (R t 3) 0, 100, 40), (R (R t 3) 1, 100, 40), (R (R t 3) 2, 100, 40), (R (R t 3) 3, 100, 40), (R (R t 4) 0, 100, 16), (R (R t 4) 1, 100, 16), (R g 5, 100, 8), (R g 6, 100, 8), (R g 7, 100, 8), (R g 8, 100, 8), (R g 9, 100, 8), (R g 10, 101, 12), (R (R g 3) 0, 101, 12), (R (R g 3) 1, 100, 12), (R (R g 3) 2, 100, 8), (R (R g 3) 3, 100, 8), (R (R g 4) 0, 100, 8), (R (R g 4) 1, 100, 8), (R (R g 4) 2, 100, 8), (R (R g 4) 3, 100, 256), (R (R g 4) 4, 100, 256), (R (R g 4) 5, 100, 8), (R (R g 4) 6, 101, 1024), (R (R g 4) 7, 102, 256), (R (R g 1) 0, 102, 940), (R g 2, 104, 2)]
/-- the class's object g, whose town now is t -/
def mo_gt (K : mo_K) (R : Nat → Nat → Nat) (g t : Nat) : Prop := R g 11 = t ∧ (∀ x ∈ mo_gO R g t, mo_kd K x.1 = x.2) ∧ (∀ x ∈ mo_gR R g t, mo_kd K x.1 = x.2.1 ∧ mo_ln K x.1 = x.2.2) ∧ (mo_gR R g t).Pairwise (fun x y => x.1 ≠ y.1) ∧ R (R g 0) 0 = R g 1
/-- a town of the class tells T -/
def mo_ct (I : Nat → Nat → Int32) (R : Nat → Nat → Nat) (t : Nat) (T : mo_Tn) : Prop := mo_vT T ∧ I (R t 0) 5 = nI (tMen T) ∧ I (R t 0) 6 = nI (tNames T) ∧ I (R t 1) 5 = nI (tComs T) ∧ I (R t 2) 3 = nI (tBrs T) ∧ I (R t 3) 4 = nI (tOws T) ∧ I t 5 = nI (tTd T) ∧ I (R t 4) 2 = nI (tSts T) ∧ (∀ m, m < tMen T → I (R (R t 0) 0) m = nI (tOwn T m)) ∧ (∀ m, m < tMen T → I (R (R t 0) 1) m = tPurse T m) ∧ (∀ m, m < tMen T → I (R (R t 0) 2) m = tFoes T m) ∧ (∀ m, m < tNames T → I (R (R t 0) 4) m = mo_oi (tOwner T (nI m))) ∧ (∀ m, m < tComs T → I (R (R t 1) 0) m = nI (tCm T m)) ∧ (∀ m, m < tComs T → I (R (R t 1) 1) m = nI (tCd T m)) ∧ (∀ m, m < tComs T → I (R (R t 1) 2) m = nI (tCi T m)) ∧ (∀ m, m < tComs T → I (R (R t 1) 3) m = nI (tCo T m)) ∧ (∀ m, m < tComs T → I (R (R t 1) 4) m = mo_oi (tGc T m)) ∧ (∀ m, m < tBrs T → I (R (R t 2) 0) m = nI (tGn T m)) ∧ (∀ m, m < tBrs T → I (R (R t 2) 1) m = nI (tGd T m)) ∧ (∀ m, m < tBrs T → I (R (R t 2) 2) m = tGp T m) ∧ (∀ m, m < tOws T → I (R (R t 3) 0) m = nI (tOf T m)) ∧ (∀ m, m < tOws T → I (R (R t 3) 1) m = nI (tOt T m)) ∧ (∀ m, m < tOws T → I (R (R t 3) 2) m = nI (tOd T m)) ∧ (∀ m, m < tOws T → I (R (R t 3) 3) m = nI (tOs T m)) ∧ (∀ m, m < tSts T → I (R (R t 4) 0) m = nI (tSn T m)) ∧ (∀ m, m < tSts T → I (R (R t 4) 1) m = tSm T m)
theorem ct_v {I : Nat → Nat → Int32} {R : Nat → Nat → Nat} {t : Nat} {T : mo_Tn} (h : mo_ct I R t T) : mo_vT T := h.1
theorem ct_tMen {I : Nat → Nat → Int32} {R : Nat → Nat → Nat} {t : Nat} {T : mo_Tn} (h : mo_ct I R t T) : I (R t 0) 5 = nI (tMen T) := h.2.1
theorem ct_tNames {I : Nat → Nat → Int32} {R : Nat → Nat → Nat} {t : Nat} {T : mo_Tn} (h : mo_ct I R t T) : I (R t 0) 6 = nI (tNames T) := h.2.2.1
theorem ct_tComs {I : Nat → Nat → Int32} {R : Nat → Nat → Nat} {t : Nat} {T : mo_Tn} (h : mo_ct I R t T) : I (R t 1) 5 = nI (tComs T) := h.2.2.2.1
theorem ct_tBrs {I : Nat → Nat → Int32} {R : Nat → Nat → Nat} {t : Nat} {T : mo_Tn} (h : mo_ct I R t T) : I (R t 2) 3 = nI (tBrs T) := h.2.2.2.2.1
theorem ct_tOws {I : Nat → Nat → Int32} {R : Nat → Nat → Nat} {t : Nat} {T : mo_Tn} (h : mo_ct I R t T) : I (R t 3) 4 = nI (tOws T) := h.2.2.2.2.2.1
theorem ct_tTd {I : Nat → Nat → Int32} {R : Nat → Nat → Nat} {t : Nat} {T : mo_Tn} (h : mo_ct I R t T) : I t 5 = nI (tTd T) := h.2.2.2.2.2.2.1
theorem ct_tSts {I : Nat → Nat → Int32} {R : Nat → Nat → Nat} {t : Nat} {T : mo_Tn} (h : mo_ct I R t T) : I (R t 4) 2 = nI (tSts T) := h.2.2.2.2.2.2.2.1
theorem ct_own {I : Nat → Nat → Int32} {R : Nat → Nat → Nat} {t : Nat} {T : mo_Tn} (h : mo_ct I R t T) {m : Nat} (hm : m < tMen T) : I (R (R t 0) 0) m = nI (tOwn T m) := h.2.2.2.2.2.2.2.2.1 m hm
theorem ct_pu {I : Nat → Nat → Int32} {R : Nat → Nat → Nat} {t : Nat} {T : mo_Tn} (h : mo_ct I R t T) {m : Nat} (hm : m < tMen T) : I (R (R t 0) 1) m = tPurse T m := h.2.2.2.2.2.2.2.2.2.1 m hm
theorem ct_fo {I : Nat → Nat → Int32} {R : Nat → Nat → Nat} {t : Nat} {T : mo_Tn} (h : mo_ct I R t T) {m : Nat} (hm : m < tMen T) : I (R (R t 0) 2) m = tFoes T m := h.2.2.2.2.2.2.2.2.2.2.1 m hm
theorem ct_ow {I : Nat → Nat → Int32} {R : Nat → Nat → Nat} {t : Nat} {T : mo_Tn} (h : mo_ct I R t T) {m : Nat} (hm : m < tNames T) : I (R (R t 0) 4) m = mo_oi (tOwner T (nI m)) := h.2.2.2.2.2.2.2.2.2.2.2.1 m hm
theorem ct_cm {I : Nat → Nat → Int32} {R : Nat → Nat → Nat} {t : Nat} {T : mo_Tn} (h : mo_ct I R t T) {m : Nat} (hm : m < tComs T) : I (R (R t 1) 0) m = nI (tCm T m) := h.2.2.2.2.2.2.2.2.2.2.2.2.1 m hm
theorem ct_cd {I : Nat → Nat → Int32} {R : Nat → Nat → Nat} {t : Nat} {T : mo_Tn} (h : mo_ct I R t T) {m : Nat} (hm : m < tComs T) : I (R (R t 1) 1) m = nI (tCd T m) := h.2.2.2.2.2.2.2.2.2.2.2.2.2.1 m hm
theorem ct_ci {I : Nat → Nat → Int32} {R : Nat → Nat → Nat} {t : Nat} {T : mo_Tn} (h : mo_ct I R t T) {m : Nat} (hm : m < tComs T) : I (R (R t 1) 2) m = nI (tCi T m) := h.2.2.2.2.2.2.2.2.2.2.2.2.2.2.1 m hm
theorem ct_co {I : Nat → Nat → Int32} {R : Nat → Nat → Nat} {t : Nat} {T : mo_Tn} (h : mo_ct I R t T) {m : Nat} (hm : m < tComs T) : I (R (R t 1) 3) m = nI (tCo T m) := h.2.2.2.2.2.2.2.2.2.2.2.2.2.2.2.1 m hm
theorem ct_cg {I : Nat → Nat → Int32} {R : Nat → Nat → Nat} {t : Nat} {T : mo_Tn} (h : mo_ct I R t T) {m : Nat} (hm : m < tComs T) : I (R (R t 1) 4) m = mo_oi (tGc T m) := h.2.2.2.2.2.2.2.2.2.2.2.2.2.2.2.2.1 m hm
theorem ct_gn {I : Nat → Nat → Int32} {R : Nat → Nat → Nat} {t : Nat} {T : mo_Tn} (h : mo_ct I R t T) {m : Nat} (hm : m < tBrs T) : I (R (R t 2) 0) m = nI (tGn T m) := h.2.2.2.2.2.2.2.2.2.2.2.2.2.2.2.2.2.1 m hm
theorem ct_gd {I : Nat → Nat → Int32} {R : Nat → Nat → Nat} {t : Nat} {T : mo_Tn} (h : mo_ct I R t T) {m : Nat} (hm : m < tBrs T) : I (R (R t 2) 1) m = nI (tGd T m) := h.2.2.2.2.2.2.2.2.2.2.2.2.2.2.2.2.2.2.1 m hm
theorem ct_gp {I : Nat → Nat → Int32} {R : Nat → Nat → Nat} {t : Nat} {T : mo_Tn} (h : mo_ct I R t T) {m : Nat} (hm : m < tBrs T) : I (R (R t 2) 2) m = tGp T m := h.2.2.2.2.2.2.2.2.2.2.2.2.2.2.2.2.2.2.2.1 m hm
theorem ct_of {I : Nat → Nat → Int32} {R : Nat → Nat → Nat} {t : Nat} {T : mo_Tn} (h : mo_ct I R t T) {m : Nat} (hm : m < tOws T) : I (R (R t 3) 0) m = nI (tOf T m) := h.2.2.2.2.2.2.2.2.2.2.2.2.2.2.2.2.2.2.2.2.1 m hm
theorem ct_ot {I : Nat → Nat → Int32} {R : Nat → Nat → Nat} {t : Nat} {T : mo_Tn} (h : mo_ct I R t T) {m : Nat} (hm : m < tOws T) : I (R (R t 3) 1) m = nI (tOt T m) := h.2.2.2.2.2.2.2.2.2.2.2.2.2.2.2.2.2.2.2.2.2.1 m hm
theorem ct_od {I : Nat → Nat → Int32} {R : Nat → Nat → Nat} {t : Nat} {T : mo_Tn} (h : mo_ct I R t T) {m : Nat} (hm : m < tOws T) : I (R (R t 3) 2) m = nI (tOd T m) := h.2.2.2.2.2.2.2.2.2.2.2.2.2.2.2.2.2.2.2.2.2.2.1 m hm
theorem ct_os {I : Nat → Nat → Int32} {R : Nat → Nat → Nat} {t : Nat} {T : mo_Tn} (h : mo_ct I R t T) {m : Nat} (hm : m < tOws T) : I (R (R t 3) 3) m = nI (tOs T m) := h.2.2.2.2.2.2.2.2.2.2.2.2.2.2.2.2.2.2.2.2.2.2.2.1 m hm
theorem ct_sn {I : Nat → Nat → Int32} {R : Nat → Nat → Nat} {t : Nat} {T : mo_Tn} (h : mo_ct I R t T) {m : Nat} (hm : m < tSts T) : I (R (R t 4) 0) m = nI (tSn T m) := h.2.2.2.2.2.2.2.2.2.2.2.2.2.2.2.2.2.2.2.2.2.2.2.2.1 m hm
theorem ct_sm {I : Nat → Nat → Int32} {R : Nat → Nat → Nat} {t : Nat} {T : mo_Tn} (h : mo_ct I R t T) {m : Nat} (hm : m < tSts T) : I (R (R t 4) 1) m = tSm T m := h.2.2.2.2.2.2.2.2.2.2.2.2.2.2.2.2.2.2.2.2.2.2.2.2.2 m hm
theorem tGc_lt {T : mo_Tn} (hv : mo_vT T) {c v : Nat} (hc : c < tComs T) (e : tGc T c = some v) : v < tNames T := tGave_lt hv (vT_tCd hv hc) (Nat.lt_of_lt_of_le (vT_tCm hv hc) (vT_tMen hv)) e
