/-! The class: rows filled, lines, sums. -/
def b_Arrays_fill_aIIV_5 (q : Nat) (v : Int32) (i5 : Nat) (s5 : (Nat → Nat → Int32)) : (Nat → Nat → Int32) := mo_up s5 q i5 v
def w_Arrays_fill_aIIV_5 (I : Nat → Nat → Int32) (q : Nat) (n : Nat) (v : Int32) : (Nat → Nat → Int32) := mo_it (b_Arrays_fill_aIIV_5 q v) n 0 I
def o_Arrays_fill_aIIV (I : Nat → Nat → Int32) (q : Nat) (n : Nat) (v : Int32) : (Nat → Nat → Int32) := w_Arrays_fill_aIIV_5 I q n v
theorem C_Arrays_fill_aIIV (l : Launch) (K : mo_K) (R : Nat → Nat → Nat) (I : Nat → Nat → Int32) (L : Nat → Nat → Int64) (q : Nat) (n : Nat) (v : Int32) (hq : mo_kd K q = 100 ∧ mo_ln K q = n) (hn : n < 2147483648) : mo_D l mm_Arrays_fill_aIIV 0 [.ref q, .int v] (K, R, I, L, 0) (none) (K, R, o_Arrays_fill_aIIV I q n v, L, 0) :=
  mo_D_of (by decide +kernel) (Nat.le_of_ble_eq_true rfl) (fun Ψ hΨ => mo_J_run ok_Arrays_fill_aIIV (fun z => by cases z) [5] 400 _ (show (100 ≤ mo_kd K q ∧ mo_kd K q ≤ 104) ∧ mo_J l mm_Arrays_fill_aIIV 0 0 0 false (K, R, I, L, 0) Ψ (5, [some (.ref q), some (.int v), some (.int 0), some (.int (Int32.ofNat (mo_ln K q)))], [], (K, R, I, L, 0)) from ⟨(by rw [hq.1]; decide), mo_itJ (J := mo_J l mm_Arrays_fill_aIIV 0 0 0 false (K, R, I, L, 0) Ψ) (N := n) (body := (b_Arrays_fill_aIIV_5 q v)) (head := fun i5 s5 => (5, [some (.ref q), some (.int v), some (.int (nI i5)), some (.int (Int32.ofNat (mo_ln K q)))], [], (K, R, s5, L, 0))) (Inv := fun i5 s5 => True) (fun (i5 : Nat) (s5 : (Nat → Nat → Int32)) hi5 hv5 kc5 => (mo_J_run ok_Arrays_fill_aIIV (fun z => by cases z) [5] 400 _ (show (((Int32.ofNat (mo_ln K q)) ≤ (nI i5)) → mo_J l mm_Arrays_fill_aIIV 0 0 0 false (K, R, I, L, 0) Ψ (20, [some (.ref q), some (.int v), some (.int (nI i5)), some (.int (Int32.ofNat (mo_ln K q)))], [], (K, R, s5, L, 0))) ∧ (¬ ((Int32.ofNat (mo_ln K q)) ≤ (nI i5)) → (mo_kd K q = 100 ∧ vp_in (nI i5) (mo_ln K q)) ∧ mo_J l mm_Arrays_fill_aIIV 0 0 0 false (K, R, I, L, 0) Ψ (5, [some (.ref q), some (.int v), some (.int ((nI i5) + 1)), some (.int (Int32.ofNat (mo_ln K q)))], [], (K, R, mo_up s5 q ((nI i5).toNatClampNeg) v, L, 0))) from ⟨fun c1 => (have d1 : (n ≤ i5) := (mo_cLE (by rw [hq.2]; rfl) (Eq.refl (nI i5)) (by omega) (by omega)).mp c1; absurd d1 (by omega)), fun c1 => (have d1 : ¬ (n ≤ i5) := (fun z => c1 ((mo_cLE (by rw [hq.2]; rfl) (Eq.refl (nI i5)) (by omega) (by omega)).mpr z)); ⟨⟨hq.1, by rw [hq.2]; exact mo_vpn (Eq.refl (nI i5)) (by omega) (by omega)⟩, (by (try rw [show ((nI i5) + 1 : Int32) = nI (i5 + 1) from (mo_nadd (Eq.refl (nI i5)) (show (1 : Int32) = nI 1 from rfl))]); (try rw [show ((nI i5).toNatClampNeg : Nat) = i5 from mo_ncl (Eq.refl (nI i5)) (by omega)]); exact kc5 (mo_up s5 q i5 v) rfl (trivial))⟩)⟩))) n 0 I (Nat.zero_add _) (trivial) (fun hx5 => (mo_J_run ok_Arrays_fill_aIIV (fun z => by cases z) [5] 400 _ (show (((Int32.ofNat (mo_ln K q)) ≤ (nI n)) → mo_J l mm_Arrays_fill_aIIV 0 0 0 false (K, R, I, L, 0) Ψ (20, [some (.ref q), some (.int v), some (.int (nI n)), some (.int (Int32.ofNat (mo_ln K q)))], [], (K, R, w_Arrays_fill_aIIV_5 I q n v, L, 0))) ∧ (¬ ((Int32.ofNat (mo_ln K q)) ≤ (nI n)) → (mo_kd K q = 100 ∧ vp_in (nI n) (mo_ln K q)) ∧ mo_J l mm_Arrays_fill_aIIV 0 0 0 false (K, R, I, L, 0) Ψ (5, [some (.ref q), some (.int v), some (.int ((nI n) + 1)), some (.int (Int32.ofNat (mo_ln K q)))], [], (K, R, mo_up (w_Arrays_fill_aIIV_5 I q n v) q ((nI n).toNatClampNeg) v, L, 0))) from ⟨fun c2 => (have d2 : (n ≤ n) := (mo_cLE (by rw [hq.2]; rfl) (Eq.refl (nI n)) (by omega) (by omega)).mp c2; mo_vr ok_Arrays_fill_aIIV rfl rfl ((by have e : o_Arrays_fill_aIIV I q n v = (w_Arrays_fill_aIIV_5 I q n v) := rfl; rw [e] at hΨ; exact hΨ))), fun c2 => (have d2 : ¬ (n ≤ n) := (fun z => c2 ((mo_cLE (by rw [hq.2]; rfl) (Eq.refl (nI n)) (by omega) (by omega)).mpr z)); absurd d2 (by omega))⟩)))⟩))
theorem C_fillI (l : Launch) (K : mo_K) (R : Nat → Nat → Nat) (I : Nat → Nat → Int32) (L : Nat → Nat → Int64) (q n : Nat) (v : Int32) (hq : mo_kd K q = 100 ∧ mo_ln K q = n) (hn : n < 2147483648) : mo_D l mm_Arrays_fill_aIIV 0 [.ref q, .int v] (K, R, I, L, 0) none (K, R, mo_fi I q 0 n (fun _ => v), L, 0) := by
  have e : mo_fi I q 0 n (fun _ => v) = w_Arrays_fill_aIIV_5 I q n v := (mo_it_fill (fun k s _ _ => by rw [Nat.zero_add]; rfl)).symm
  rw [e]
  exact C_Arrays_fill_aIIV l K R I L q n v hq hn
def b_Arrays_fill_aJJV_6 (q : Nat) (v : Int64) (i6 : Nat) (s6 : (Nat → Nat → Int64)) : (Nat → Nat → Int64) := mo_up s6 q i6 v
def w_Arrays_fill_aJJV_6 (L : Nat → Nat → Int64) (q : Nat) (n : Nat) (v : Int64) : (Nat → Nat → Int64) := mo_it (b_Arrays_fill_aJJV_6 q v) n 0 L
def o_Arrays_fill_aJJV (L : Nat → Nat → Int64) (q : Nat) (n : Nat) (v : Int64) : (Nat → Nat → Int64) := w_Arrays_fill_aJJV_6 L q n v
theorem C_Arrays_fill_aJJV (l : Launch) (K : mo_K) (R : Nat → Nat → Nat) (I : Nat → Nat → Int32) (L : Nat → Nat → Int64) (q : Nat) (n : Nat) (v : Int64) (hq : mo_kd K q = 101 ∧ mo_ln K q = n) (hn : n < 2147483648) : mo_D l mm_Arrays_fill_aJJV 0 [.ref q, .long v] (K, R, I, L, 0) (none) (K, R, I, o_Arrays_fill_aJJV L q n v, 0) :=
  mo_D_of (by decide +kernel) (Nat.le_of_ble_eq_true rfl) (fun Ψ hΨ => mo_J_run ok_Arrays_fill_aJJV (fun z => by cases z) [6] 400 _ (show (100 ≤ mo_kd K q ∧ mo_kd K q ≤ 104) ∧ mo_J l mm_Arrays_fill_aJJV 0 0 0 false (K, R, I, L, 0) Ψ (6, [some (.ref q), some (.long v), none, some (.int 0), some (.int (Int32.ofNat (mo_ln K q)))], [], (K, R, I, L, 0)) from ⟨(by rw [hq.1]; decide), mo_itJ (J := mo_J l mm_Arrays_fill_aJJV 0 0 0 false (K, R, I, L, 0) Ψ) (N := n) (body := (b_Arrays_fill_aJJV_6 q v)) (head := fun i6 s6 => (6, [some (.ref q), some (.long v), none, some (.int (nI i6)), some (.int (Int32.ofNat (mo_ln K q)))], [], (K, R, I, s6, 0))) (Inv := fun i6 s6 => True) (fun (i6 : Nat) (s6 : (Nat → Nat → Int64)) hi6 hv6 kc6 => (mo_J_run ok_Arrays_fill_aJJV (fun z => by cases z) [6] 400 _ (show (((Int32.ofNat (mo_ln K q)) ≤ (nI i6)) → mo_J l mm_Arrays_fill_aJJV 0 0 0 false (K, R, I, L, 0) Ψ (22, [some (.ref q), some (.long v), none, some (.int (nI i6)), some (.int (Int32.ofNat (mo_ln K q)))], [], (K, R, I, s6, 0))) ∧ (¬ ((Int32.ofNat (mo_ln K q)) ≤ (nI i6)) → (mo_kd K q = 101 ∧ vp_in (nI i6) (mo_ln K q)) ∧ mo_J l mm_Arrays_fill_aJJV 0 0 0 false (K, R, I, L, 0) Ψ (6, [some (.ref q), some (.long v), none, some (.int ((nI i6) + 1)), some (.int (Int32.ofNat (mo_ln K q)))], [], (K, R, I, mo_up s6 q ((nI i6).toNatClampNeg) v, 0))) from ⟨fun c1 => (have d1 : (n ≤ i6) := (mo_cLE (by rw [hq.2]; rfl) (Eq.refl (nI i6)) (by omega) (by omega)).mp c1; absurd d1 (by omega)), fun c1 => (have d1 : ¬ (n ≤ i6) := (fun z => c1 ((mo_cLE (by rw [hq.2]; rfl) (Eq.refl (nI i6)) (by omega) (by omega)).mpr z)); ⟨⟨hq.1, by rw [hq.2]; exact mo_vpn (Eq.refl (nI i6)) (by omega) (by omega)⟩, (by (try rw [show ((nI i6) + 1 : Int32) = nI (i6 + 1) from (mo_nadd (Eq.refl (nI i6)) (show (1 : Int32) = nI 1 from rfl))]); (try rw [show ((nI i6).toNatClampNeg : Nat) = i6 from mo_ncl (Eq.refl (nI i6)) (by omega)]); exact kc6 (mo_up s6 q i6 v) rfl (trivial))⟩)⟩))) n 0 L (Nat.zero_add _) (trivial) (fun hx6 => (mo_J_run ok_Arrays_fill_aJJV (fun z => by cases z) [6] 400 _ (show (((Int32.ofNat (mo_ln K q)) ≤ (nI n)) → mo_J l mm_Arrays_fill_aJJV 0 0 0 false (K, R, I, L, 0) Ψ (22, [some (.ref q), some (.long v), none, some (.int (nI n)), some (.int (Int32.ofNat (mo_ln K q)))], [], (K, R, I, w_Arrays_fill_aJJV_6 L q n v, 0))) ∧ (¬ ((Int32.ofNat (mo_ln K q)) ≤ (nI n)) → (mo_kd K q = 101 ∧ vp_in (nI n) (mo_ln K q)) ∧ mo_J l mm_Arrays_fill_aJJV 0 0 0 false (K, R, I, L, 0) Ψ (6, [some (.ref q), some (.long v), none, some (.int ((nI n) + 1)), some (.int (Int32.ofNat (mo_ln K q)))], [], (K, R, I, mo_up (w_Arrays_fill_aJJV_6 L q n v) q ((nI n).toNatClampNeg) v, 0))) from ⟨fun c2 => (have d2 : (n ≤ n) := (mo_cLE (by rw [hq.2]; rfl) (Eq.refl (nI n)) (by omega) (by omega)).mp c2; mo_vr ok_Arrays_fill_aJJV rfl rfl ((by have e : o_Arrays_fill_aJJV L q n v = (w_Arrays_fill_aJJV_6 L q n v) := rfl; rw [e] at hΨ; exact hΨ))), fun c2 => (have d2 : ¬ (n ≤ n) := (fun z => c2 ((mo_cLE (by rw [hq.2]; rfl) (Eq.refl (nI n)) (by omega) (by omega)).mpr z)); absurd d2 (by omega))⟩)))⟩))
theorem C_fillL (l : Launch) (K : mo_K) (R : Nat → Nat → Nat) (I : Nat → Nat → Int32) (L : Nat → Nat → Int64) (q n : Nat) (v : Int64) (hq : mo_kd K q = 101 ∧ mo_ln K q = n) (hn : n < 2147483648) : mo_D l mm_Arrays_fill_aJJV 0 [.ref q, .long v] (K, R, I, L, 0) none (K, R, I, mo_fi L q 0 n (fun _ => v), 0) := by
  have e : mo_fi L q 0 n (fun _ => v) = w_Arrays_fill_aJJV_6 L q n v := (mo_it_fill (fun k s _ _ => by rw [Nat.zero_add]; rfl)).symm
  rw [e]
  exact C_Arrays_fill_aJJV l K R I L q n v hq hn
/-- what of the heap tells a town -/
def mo_tA (R : Nat → Nat → Nat) (t : Nat) : List Nat := [t, R t 0, R t 1, R t 2, R t 3, R t 4] ++ ((mo_gR R 0 t).take 19).map (fun x => x.1)
theorem ct_fr {I J : Nat → Nat → Int32} {R : Nat → Nat → Nat} {t : Nat} {T : mo_Tn} (h : mo_ct I R t T) (e : ∀ x ∈ mo_tA R t, J x = I x) : mo_ct J R t T := by
  have f : ∀ i y, (mo_tA R t)[i]? = some y → J y = I y := fun i y z => e y (List.mem_of_getElem? z)
  obtain ⟨h0, h⟩ := h
  refine ⟨h0, ?_⟩
  rw [f 0 _ rfl, f 1 _ rfl, f 2 _ rfl, f 3 _ rfl, f 4 _ rfl, f 5 _ rfl, f 6 _ rfl, f 7 _ rfl, f 8 _ rfl, f 10 _ rfl, f 11 _ rfl, f 12 _ rfl, f 13 _ rfl, f 14 _ rfl, f 15 _ rfl, f 16 _ rfl, f 17 _ rfl, f 18 _ rfl, f 19 _ rfl, f 20 _ rfl, f 21 _ rfl, f 22 _ rfl, f 23 _ rfl, f 24 _ rfl]
  exact h
theorem gt_outK {K : mo_K} {R : Nat → Nat → Nat} {g t : Nat} (h : mo_gt K R g t) {y c : Nat} (hy : mo_kd K y = c) (hc : c < 100 ∧ c ≠ 3 ∧ c ≠ 4 ∧ c ≠ 5 ∧ c ≠ 6 ∧ c ≠ 7 ∧ c ≠ 8) : ∀ x ∈ mo_tA R t, x ≠ y := by
  intro x hx e
  rw [e] at hx
  rcases List.mem_append.mp hx with z | z
  · simp only [List.mem_cons, List.not_mem_nil, or_false] at z
    have k1 := mo_ob_ h.2.1 (i := 1) rfl
    have k2 := mo_ob_ h.2.1 (i := 6) rfl
    have k3 := mo_ob_ h.2.1 (i := 7) rfl
    have k4 := mo_ob_ h.2.1 (i := 8) rfl
    have k5 := mo_ob_ h.2.1 (i := 9) rfl
    have k6 := mo_ob_ h.2.1 (i := 10) rfl
    simp only at k1 k2 k3 k4 k5 k6
    rcases z with z | z | z | z | z | z <;> rw [z] at hy <;> omega
  · obtain ⟨p, hp, ep⟩ := List.mem_map.mp z
    have hp' : p ∈ mo_gR R g t := List.mem_of_mem_take (i := 19) hp
    have := (h.2.2.1 p hp').1
    have hk : p.2.1 = 100 := by
      have : ∀ x ∈ (mo_gR R g t).take 19, x.2.1 = 100 := by
        intro x hx
        simp only [mo_gR, List.take, List.mem_cons, List.not_mem_nil, or_false] at hx
        rcases hx with z | z | z | z | z | z | z | z | z | z | z | z | z | z | z | z | z | z | z <;> rw [z]
      exact this p hp
    rw [ep, hk] at this
    omega
theorem gt_out {K : mo_K} {R : Nat → Nat → Nat} {g t : Nat} (h : mo_gt K R g t) {j : Nat} {y : Nat × Nat × Nat} (hy : (mo_gR R g t)[j]? = some y) (hj : 19 ≤ j) (h1 : 100 ≤ y.2.1) : ∀ x ∈ mo_tA R t, x ≠ y.1 := by
  intro x hx e
  rw [e] at hx
  have hyk := mo_rk h.2.2.1 hy
  rcases List.mem_append.mp hx with z | z
  · simp only [List.mem_cons, List.not_mem_nil, or_false] at z
    have k1 := mo_ob_ h.2.1 (i := 1) rfl
    have k2 := mo_ob_ h.2.1 (i := 6) rfl
    have k3 := mo_ob_ h.2.1 (i := 7) rfl
    have k4 := mo_ob_ h.2.1 (i := 8) rfl
    have k5 := mo_ob_ h.2.1 (i := 9) rfl
    have k6 := mo_ob_ h.2.1 (i := 10) rfl
    simp only at k1 k2 k3 k4 k5 k6
    rcases z with z | z | z | z | z | z <;> rw [z] at hyk <;> omega
  · obtain ⟨p, hp, ep⟩ := List.mem_map.mp z
    obtain ⟨i, hi, ei⟩ := List.getElem_of_mem hp
    have hi' : i < 19 := by
      have := hi
      rw [List.length_take] at this
      omega
    have e2 : (mo_gR R g t)[i]? = some p := by
      have e3 : ((mo_gR R g t).take 19)[i]? = some p := List.getElem?_eq_some_iff.mpr ⟨hi, ei⟩
      rw [List.getElem?_take, if_pos hi'] at e3
      exact e3
    exact mo_nd h.2.2.2.1 e2 hy (by omega) ep
theorem mo_line_congr {ah bh : Nat → Nat → Bool} {p q : Nat → Bool} : ∀ {n : Nat}, (∀ c o, c < n → o < n → ah c o = bh c o) → (∀ c, c < n → p c = q c) → mo_line ah p n = mo_line bh q n
  | 0, _, _ => rfl
  | n + 1, h1, h2 => by
    have ih := mo_line_congr (n := n) (fun c o hc ho => h1 c o (by omega) (by omega)) (fun c hc => h2 c (by omega))
    have hi : ∀ l : List Nat, (∀ x ∈ l, x < n + 1) → mo_ins (ah n) n l = mo_ins (bh n) n l := by
      intro l
      induction l with
      | nil => intro _; rfl
      | cons x l ihl =>
        intro hl
        unfold mo_ins
        rw [h1 n x (by omega) (hl x List.mem_cons_self), ihl (fun y hy => hl y (List.mem_cons_of_mem x hy))]
    unfold mo_line
    rw [h2 n (by omega), ih, hi _ (fun x hx => Nat.lt_succ_of_lt (mo_line_mem hx).1)]
/-- who of two comings is ahead -/
def tAh (T : mo_Tn) (c o : Nat) : Bool := decide (tCi T c < tCi T o ∨ (tCi T c = tCi T o ∧ tCm T c < tCm T o))
/-- the comings of a day, in order -/
def tLU (T : mo_Tn) (d : Int32) : List Nat := (mo_line (tAh T) (fun c => decide (nI (tCd T c) = d)) (tComs T)).reverse
theorem tLU_mem {T : mo_Tn} {d : Int32} {c : Nat} (h : c ∈ tLU T d) : c < tComs T ∧ nI (tCd T c) = d := by
  have := mo_line_mem (List.mem_reverse.mp h)
  exact ⟨this.1, of_decide_eq_true this.2⟩
theorem tLU_lt {T : mo_Tn} {d : Int32} {k : Nat} (hk : k < (tLU T d).length) : (tLU T d).getD k 0 < tComs T := by
  rw [mo_getD hk]
  exact (tLU_mem (List.getElem_mem hk)).1
theorem mo_rowf_lw {I : Nat → Nat → Int32} {w : Nat} {l : List Nat} : mo_rw I w (mo_rowf l (I w)) = mo_lw I w l.reverse := by
  funext x y
  unfold mo_rw mo_lw
  by_cases c : x = w
  · subst c
    rw [if_pos rfl]
    unfold mo_rowf
    by_cases c2 : y < l.length
    · rw [if_pos c2, if_pos ⟨rfl, by rw [List.length_reverse]; exact c2⟩, mo_getD (xs := l) (by omega), mo_getD (xs := l.reverse) (by rw [List.length_reverse]; exact c2), List.getElem_reverse]
    · rw [if_neg c2, if_neg (fun z => c2 (by have := z.2; rw [List.length_reverse] at this; exact this))]
  · rw [if_neg c, if_neg (fun z => c z.1)]
/-- nobody comes twice on a day -/
def mo_vL (T : mo_Tn) : Prop := ∀ d, (tLU T d).length ≤ tMen T
theorem C_clineUp (l : Launch) (K : mo_K) (R : Nat → Nat → Nat) (I : Nat → Nat → Int32) (L : Nat → Nat → Int64) (g t : Nat) (T : mo_Tn) (d : Int32) (h : mo_gt K R g t) (hC : mo_ct I R t T) (hL : mo_vL T) : mo_D l mm_Comings_lineUp 1 [.ref (R t 1), .int d, .ref (R g 8)] (K, R, I, L, 0) (some (.int (nI (tLU T d).length))) (K, R, mo_lw I (R g 8) (tLU T d), L, 0) := by
  have hv := ct_v hC
  have e : mo_line (mo_ah (I (R (R t 1) 2)) (I (R (R t 1) 0))) (fun c => decide (I (R (R t 1) 1) c = d)) (tComs T) = mo_line (tAh T) (fun c => decide (nI (tCd T c) = d)) (tComs T) := mo_line_congr (fun c o hc ho => by
    unfold mo_ah tAh
    rw [ct_ci hC hc, ct_ci hC ho, ct_cm hC hc, ct_cm hC ho]
    have b1 := vT_tCi hv hc
    have b2 := vT_tCo hv hc
    have b3 := vT_tCi hv ho
    have b4 := vT_tCo hv ho
    have b5 := vT_tCm hv hc
    have b6 := vT_tCm hv ho
    have b7 := vT_tMen hv
    refine decide_eq_decide.mpr ?_
    rw [nI_ltI (show tCi T c < 2147483648 by omega) (show tCi T o < 2147483648 by omega), nI_eq (show tCi T c < 2147483648 by omega) (show tCi T o < 2147483648 by omega), nI_ltI (show tCm T c < 2147483648 by omega) (show tCm T o < 2147483648 by omega)]) (fun c hc => by rw [ct_cd hC hc])
  have hl : (mo_line (tAh T) (fun c => decide (nI (tCd T c) = d)) (tComs T)).length ≤ 8 := by
    have h1 := hL d
    have h2 := vT_tMen hv
    unfold tLU at h1
    rw [List.length_reverse] at h1
    omega
  refine mo_D_eq (C_Comings_lineUp l K R I L (R t 1) (tComs T) (R g 8) d (mo_cm_of h) (ct_tComs hC) (vT_tComs hv) ⟨(show mo_kd K (R g 8) = 100 from mo_rk h.2.2.1 (i := 22) rfl), (show mo_ln K (R g 8) = 8 from mo_rl h.2.2.1 (i := 22) rfl)⟩ (fun k hk => ?_) (by rw [e]; exact hl)) ?_ ?_
  · have hk' : k = 0 ∨ k = 1 ∨ k = 2 ∨ k = 3 ∨ k = 4 := by omega
    rcases hk' with z | z | z | z | z <;> subst z
    · exact (show R (R t 1) 0 ≠ R g 8 from mo_nd h.2.2.2.1 (i := 5) (j := 22) rfl rfl (by decide))
    · exact (show R (R t 1) 1 ≠ R g 8 from mo_nd h.2.2.2.1 (i := 6) (j := 22) rfl rfl (by decide))
    · exact (show R (R t 1) 2 ≠ R g 8 from mo_nd h.2.2.2.1 (i := 7) (j := 22) rfl rfl (by decide))
    · exact (show R (R t 1) 3 ≠ R g 8 from mo_nd h.2.2.2.1 (i := 8) (j := 22) rfl rfl (by decide))
    · exact (show R (R t 1) 4 ≠ R g 8 from mo_nd h.2.2.2.1 (i := 9) (j := 22) rfl rfl (by decide))
  · rw [e]; unfold tLU; rw [List.length_reverse]
  · rw [e, mo_rowf_lw]; rfl
