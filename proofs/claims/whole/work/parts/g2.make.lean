/-! Constructors: a heap that is built up from nothing. -/
/-- references set one by one, the last first -/
def ru : List (Nat × Nat × Nat) → Nat → Nat → Nat
  | [] => fun _ _ => 0
  | q :: r => mo_up (ru r) q.1 q.2.1 q.2.2
def zI : Nat → Nat → Int32 := fun _ _ => 0
def zL : Nat → Nat → Int64 := fun _ _ => 0
theorem ru_zr : ∀ {E : List (Nat × Nat × Nat)} {n : Nat}, (∀ q ∈ E, q.1 < n) → mo_zr (ru E) n 0 = ru E
  | [], n, _ => by
    funext x y
    show (if x = n then 0 else 0) = 0
    split <;> rfl
  | q :: r, n, h => by
    funext x y
    have ih := congrFun (congrFun (ru_zr (E := r) (n := n) (fun z hz => h z (List.mem_cons_of_mem _ hz))) x) y
    have hq := h q List.mem_cons_self
    show (if x = n then 0 else mo_up (ru r) q.1 q.2.1 q.2.2 x y) = mo_up (ru r) q.1 q.2.1 q.2.2 x y
    have ih2 : (if x = n then 0 else ru r x y) = ru r x y := ih
    by_cases c : x = n
    · rw [if_pos c] at ih2 ⊢
      show 0 = (if x = q.1 ∧ y = q.2.1 then q.2.2 else ru r x y)
      rw [if_neg (fun z => by have := z.1; omega)]
      exact ih2
    · rw [if_neg c]
theorem zI_zr (n : Nat) : mo_zr zI n 0 = zI := by
  funext x y
  show (if x = n then 0 else 0) = 0
  split <;> rfl
theorem zL_zr (n : Nat) : mo_zr zL n 0 = zL := by
  funext x y
  show (if x = n then 0 else 0) = 0
  split <;> rfl
theorem sz_app (K ks : mo_K) : mo_sz (K ++ ks) = mo_sz K + mo_sz ks := by
  unfold mo_sz
  rw [List.map_append, List.sum_append]
theorem kdo {K ks : mo_K} {b c : Nat} (hb : mo_kd K b = c) (h : c ≠ 99) : mo_kd (K ++ ks) b = c := by
  have hl := mo_kd_lt hb h
  unfold mo_kd at hb ⊢
  rw [List.getElem?_append_left hl]
  exact hb
theorem kdn (j : Nat) {K ks : mo_K} {c : Nat} (h : (ks[j]?).map (fun q => q.1) = some c) : mo_kd (K ++ ks) (K.length + j) = c := by
  unfold mo_kd
  rw [List.getElem?_append_right (by omega), Nat.add_sub_cancel_left]
  cases e : ks[j]? with
  | none => rw [e] at h; cases h
  | some q => rw [e] at h; exact Option.some.inj h
theorem al_l {K ks : mo_K} {mc : Nat} (h : ks.length + 1 ≤ mc) : (K ++ ks).length + 1 ≤ K.length + mc := by rw [List.length_append]; omega
theorem al_s {K ks : mo_K} {N ms : Nat} (h : mo_sz ks + N ≤ ms) : mo_sz (K ++ ks) + N ≤ mo_sz K + ms := by rw [sz_app]; omega
theorem al_e {K ks : mo_K} {mc : Nat} (h : mc = ks.length) : mc = (K ++ ks).length - K.length + 0 := by rw [List.length_append]; omega
theorem al_f {K ks : mo_K} {ms : Nat} (h : ms = mo_sz ks) : ms = mo_sz (K ++ ks) - mo_sz K + 6 * 0 := by rw [sz_app]; omega
theorem al_m {K ks : mo_K} {mc mc2 : Nat} (h : ks.length + mc2 ≤ mc) (hn : K.length + mc ≤ 1000000) : (K ++ ks).length + mc2 ≤ 1000000 := by rw [List.length_append]; omega
theorem wk0 {K ks : mo_K} {E : List (Nat × Nat × Nat)} (h : ∀ q ∈ E, q.1 < K.length) : ∀ q ∈ E, q.1 < (K ++ ks).length := fun q hq => by
  have := h q hq
  rw [List.length_append]; omega
theorem wk1 {K ks : mo_K} {E : List (Nat × Nat × Nat)} {b k v : Nat} (hb : b < K.length) (h : ∀ q ∈ E, q.1 < (K ++ ks).length) : ∀ q ∈ (b, k, v) :: E, q.1 < (K ++ ks).length := fun q hq => by
  rcases List.mem_cons.mp hq with rfl | hq
  · show b < _
    rw [List.length_append]; omega
  · exact h q hq
theorem wk2 {K ks : mo_K} {E : List (Nat × Nat × Nat)} {j k v : Nat} (hj : j < ks.length) (h : ∀ q ∈ E, q.1 < (K ++ ks).length) : ∀ q ∈ (K.length + j, k, v) :: E, q.1 < (K ++ ks).length := fun q hq => by
  rcases List.mem_cons.mp hq with rfl | hq
  · show K.length + j < _
    rw [List.length_append]; omega
  · exact h q hq
theorem wkn {K ks : mo_K} {j : Nat} (h : j < ks.length) : K.length + j < (K ++ ks).length := by rw [List.length_append]; omega
theorem wkm {K ks : mo_K} {j m : Nat} (h : j + m ≤ ks.length) : K.length + j + m ≤ (K ++ ks).length := by rw [List.length_append]; omega
theorem wka {E F : List (Nat × Nat × Nat)} {N : Nat} (h : ∀ q ∈ F, q.1 < N) (hE : ∀ q ∈ E, q.1 < N) : ∀ q ∈ F ++ E, q.1 < N := fun q hq => by
  rcases List.mem_append.mp hq with hq | hq
  · exact h q hq
  · exact hE q hq
theorem vp_d {i : Int32} {n : Nat} (h : ¬ (i < 0 ∨ n ≤ i.toNatClampNeg)) : vp_in i n := h
section J
variable {l : Launch} {M : mo_M} {d mc ms : Nat} {al : Bool} {σ0 : mo_S} {QQ : mo_QQ}
theorem J_cast {f f' : mo_F} (h : f' = f) (k : mo_JQ l M d mc ms al σ0 QQ f) : mo_JQ l M d mc ms al σ0 QQ f' := by rw [h]; exact k
theorem J_nw {pc : Nat} {ml : mo_L} {st st' : List Value} {K ks : mo_K} {E : List (Nat × Nat × Nat)} {c N N' : Nat} (hE : ∀ q ∈ E, q.1 < (K ++ ks).length) (hN : N' = N) (hst : st' = st) (k : mo_JQ l M d mc ms al σ0 QQ (pc, ml, st, (K ++ (ks ++ [(c, N)]), ru E, zI, zL, 0))) : mo_JQ l M d mc ms al σ0 QQ (pc, ml, st', ((K ++ ks) ++ [(c, N')], mo_zr (ru E) (K ++ ks).length 0, mo_zr zI (K ++ ks).length 0, mo_zr zL (K ++ ks).length 0, 0)) := by
  rw [ru_zr hE, zI_zr, zL_zr, hN, hst, List.append_assoc]
  exact k
theorem J_cl {pc : Nat} {ml : mo_L} {rest : List Value} {r : Option Value} {K2 A : mo_K} {R2 B : Nat → Nat → Nat} {I2 C : Nat → Nat → Int32} {L2 D : Nat → Nat → Int64} {x2 : Nat} (z : r = none ∧ ((K2, R2, I2, L2, x2) : mo_S) = (A, B, C, D, 0)) (k : mo_JQ l M d mc ms al σ0 QQ (pc, ml, rest, (A, B, C, D, 0))) : mo_JQ l M d mc ms al σ0 QQ (pc, ml, r.toList ++ rest, (K2, R2, I2, L2, 0 + x2)) := by
  obtain ⟨rfl, h⟩ := z
  cases h
  exact k
theorem J_fl {pc : Nat} {ml : mo_L} {rest : List Value} {r : Option Value} {K2 A : mo_K} {R2 B : Nat → Nat → Nat} {I2 C : Nat → Nat → Int32} {L2 D : Nat → Nat → Int64} {x2 : Nat} (z : ((K2, R2, I2, L2, x2) : mo_S) = (A, B, C, D, 0) ∧ r = none) (k : mo_JQ l M d mc ms al σ0 QQ (pc, ml, rest, (A, B, C, D, 0))) : mo_JQ l M d mc ms al σ0 QQ (pc, ml, r.toList ++ rest, (K2, R2, I2, L2, 0 + x2)) := J_cl ⟨z.2, z.1⟩ k
theorem fit_a {R : Nat → Nat → Nat} {I : Nat → Nat → Int32} {L : Nat → Nat → Int64} {K ks : mo_K} {M2 : mo_M} {d2 mc2 ms2 : Nat} {rest : List Value} (h1 : d2 + 1 ≤ d) (h2 : M2.2.2.1 ≤ 80) (h3 : ks.length + mc2 ≤ mc) (h4 : mo_sz ks + ms2 ≤ ms) (h5 : mo_wd rest ≤ 8) (hn : K.length + mc ≤ 1000000) (h7 : 1 ≤ mc2) : mo_fit d mc ms true (K, R, I, L, 0) M2 d2 mc2 ms2 true (K ++ ks) 0 rest := by
  refine ⟨h1, h2, ?_, ?_, h5, fun _ => ⟨rfl, rfl, ?_⟩⟩
  · show (K ++ ks).length + 0 + mc2 ≤ K.length + mc
    rw [List.length_append]; omega
  · show mo_sz (K ++ ks) + 6 * 0 + ms2 ≤ mo_sz K + ms
    rw [sz_app]; omega
  · rw [List.length_append]; omega
theorem fit_b {R : Nat → Nat → Nat} {I : Nat → Nat → Int32} {L : Nat → Nat → Int64} {K ks : mo_K} {M2 : mo_M} {d2 mc2 ms2 : Nat} {rest : List Value} (h1 : d2 + 1 ≤ d) (h2 : M2.2.2.1 ≤ 80) (h3 : ks.length + mc2 ≤ mc) (h4 : mo_sz ks + ms2 ≤ ms) (h5 : mo_wd rest ≤ 8) : mo_fit d mc ms true (K, R, I, L, 0) M2 d2 mc2 ms2 false (K ++ ks) 0 rest := by
  refine ⟨h1, h2, ?_, ?_, h5, fun z => by cases z⟩
  · show (K ++ ks).length + 0 + mc2 ≤ K.length + mc
    rw [List.length_append]; omega
  · show mo_sz (K ++ ks) + 6 * 0 + ms2 ≤ mo_sz K + ms
    rw [sz_app]; omega
end J
