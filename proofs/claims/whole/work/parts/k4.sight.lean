/-! Sights are read alike. -/
theorem tk3_lt {xs : List Nat} {lim q : Nat} (hp : q ≤ xs.length) (hk : tkK xs lim q = 3) (hl : lim < xs.length) : q < lim := by
  have h1 := tkS_le hp
  unfold tkK at hk
  by_cases c1 : lim < xs.length ∧ lim ≤ tkS xs q
  · rw [if_pos c1] at hk; exact absurd hk (by decide)
  · omega
/-- how the men of a line end, on both sides -/
def endM (H B : Nat → Nat → Int32) (LB : Nat → Nat → Int64) (xs : List Nat) (lim : Nat) (r : (Nat × Nat) ⊕ ((Nat × Nat) ⊕ (Int32 × (Nat → Nat → Int32) × Nat))) (r' : (Nat × Int32 × Nat) ⊕ ((Nat × Int32 × Nat) ⊕ mo_Y)) : Prop :=
  (∃ m f q, r = .inr (.inl (m, q)) ∧ r' = .inr (.inl (m, f, q)) ∧ (tkK xs lim q = 5 ∧ tkV xs lim q = 59) ∧ m < 256) ∨ ∃ f q, r = .inr (.inr (-1, mo_up H 2 1 f, q)) ∧ (r' = .inr (.inr (0, mo_up (mo_up B 126 10 f) 126 11 (nI (tkP xs lim q)), q, LB)) ∨ ∃ m g, r' = .inr (.inl (m, g, q)) ∧ f = 1 ∧ ¬ (tkK xs lim q = 5 ∧ tkV xs lim q = 59))
section M
variable {s : Bool} {ro : Nat} {H B : Nat → Nat → Int32} {LB : Nat → Nat → Int64} {xs : List Nat} {W : Nat → Int32} {N M : Nat} {Ow : Nat → Option Nat}
theorem ref_none {lim i m q : Nat} {f : Int32} (e : (tkNa W N xs lim q).bind Ow = none) (h : ¬ f = 0 ∨ mo_kk (tkK xs lim q) = 2) : b_Model_readSight_91 B LB 126 xs lim W N Ow i (m, f, q) = .inr (.inr (0, mo_up (mo_up B 126 10 (tkFa xs lim q)) 126 11 (nI (tkP xs lim q)), q, LB)) := by
  have core : (if tkK xs lim q = 3 then (Option.elim (mo_ff (fun c => decide (W c = tkV xs lim q)) N) (.inr (.inr (0, mo_up (mo_up B 126 10 (mo_bf xs lim q 3)) 126 11 (nI (tkP xs lim q)), q, LB))) (fun v15 => (Option.elim (Ow v15) (.inr (.inr (0, mo_up (mo_up B 126 10 (mo_bf xs lim q 3)) 126 11 (nI (tkP xs lim q)), q, LB))) (fun v19 => .inl ((m ||| (2 ^ v19)), 0, tkN xs lim q)))) : (Nat × Int32 × Nat) ⊕ ((Nat × Int32 × Nat) ⊕ mo_Y)) else .inr (.inr (0, mo_up (mo_up B 126 10 (mo_bf xs lim q 1)) 126 11 (nI (tkP xs lim q)), q, LB))) = .inr (.inr (0, mo_up (mo_up B 126 10 (tkFa xs lim q)) 126 11 (nI (tkP xs lim q)), q, LB)) := by
    unfold tkNa at e
    unfold tkFa
    by_cases c : tkK xs lim q = 3
    · rw [if_pos c] at e
      rw [if_pos c, if_pos c, bf_k (show ¬ tkK xs lim q = 0 by rw [c]; decide)]
      cases e1 : mo_ff (fun c => decide (W c = tkV xs lim q)) N with
      | none => rfl
      | some k =>
        rw [e1] at e
        have e : Ow k = none := e
        show Option.elim (Ow k) _ _ = _
        rw [e]
        rfl
    · rw [if_neg c, if_neg c, mo_bf1]
  unfold b_Model_readSight_91
  by_cases c0 : f = 0
  · rw [if_pos c0, if_pos (h.resolve_left (fun z => z c0))]
    exact core
  · rw [if_neg c0]
    exact core
theorem ref_some {lim i m q v : Nat} {f : Int32} (e : (tkNa W N xs lim q).bind Ow = some v) : tkK xs lim q = 3 ∧ b_Model_readSight_91 B LB 126 xs lim W N Ow i (m, f, q) = .inl (m ||| 2 ^ v, 0, tkN xs lim q) := by
  have c : tkK xs lim q = 3 := by
    cases e1 : tkNa W N xs lim q with
    | none => rw [e1] at e; cases e
    | some k => exact tkNa_k e1
  refine ⟨c, ?_⟩
  have core : (if tkK xs lim q = 3 then (Option.elim (mo_ff (fun c => decide (W c = tkV xs lim q)) N) (.inr (.inr (0, mo_up (mo_up B 126 10 (mo_bf xs lim q 3)) 126 11 (nI (tkP xs lim q)), q, LB))) (fun v15 => (Option.elim (Ow v15) (.inr (.inr (0, mo_up (mo_up B 126 10 (mo_bf xs lim q 3)) 126 11 (nI (tkP xs lim q)), q, LB))) (fun v19 => .inl ((m ||| (2 ^ v19)), 0, tkN xs lim q)))) : (Nat × Int32 × Nat) ⊕ ((Nat × Int32 × Nat) ⊕ mo_Y)) else .inr (.inr (0, mo_up (mo_up B 126 10 (mo_bf xs lim q 1)) 126 11 (nI (tkP xs lim q)), q, LB))) = .inl (m ||| 2 ^ v, 0, tkN xs lim q) := by
    unfold tkNa at e
    rw [if_pos c] at e
    rw [if_pos c]
    cases e1 : mo_ff (fun c => decide (W c = tkV xs lim q)) N with
    | none => rw [e1] at e; cases e
    | some k =>
      rw [e1] at e
      have e : Ow k = some v := e
      show Option.elim (Ow k) _ _ = _
      rw [e]
      rfl
  unfold b_Model_readSight_91
  by_cases c0 : f = 0
  · rw [if_pos c0, if_pos (mo_kk_2.mpr (Or.inr c))]
    exact core
  · rw [if_neg c0]
    exact core
theorem ref_exit {lim i m q : Nat} (h : ¬ mo_kk (tkK xs lim q) = 2) : b_Model_readSight_91 B LB 126 xs lim W N Ow i (m, 0, q) = .inr (.inl (m, 0, q)) := by
  unfold b_Model_readSight_91
  rw [if_pos (show ((m, (0 : Int32), q) : Nat × Int32 × Nat).2.1 = 0 from rfl), if_neg h]
theorem men_al (hMa : ∀ q, tkMa H (wR s) ro xs 300 q = (tkNa W N xs 300 q).bind Ow) (hO : ∀ n v, Ow n = some v → v < 8) : ∀ k n n' i m q f, 301 = i + n → xs.length + 1 = i + n' → i ≤ 300 → i ≤ q → q ≤ xs.length → xs.length < q + k → m < 256 → (f = 0 → ¬ (tkK xs 300 q = 5 ∧ tkV xs 300 q = 59)) → endM H B LB xs 300 (mo_lp (b_Reader_takeMen_11 (wR s) H 2 ro xs 300) n i (m, q)) (mo_lp (b_Model_readSight_91 B LB 126 xs 300 W N Ow) n' i (m, f, q))
  | 0, _, _, _, _, _, _, _, _, _, _, h5, h6, _, _ => by omega
  | k + 1, 0, _, _, _, _, _, h1, _, h3, _, _, _, _, _ => by omega
  | k + 1, n + 1, 0, _, _, _, _, _, h2, _, h4, h5, _, _, _ => by omega
  | k + 1, n + 1, n' + 1, i, m, q, f, h1, h2, h3, h4, h5, h6, h7, h8 => by
    cases e : tkMa H (wR s) ro xs 300 q with
    | none =>
      have e' := (hMa q).symm.trans e
      have eC : b_Reader_takeMen_11 (wR s) H 2 ro xs 300 i (m, q) = .inr (.inr (-1, mo_up H 2 1 (tkFa xs 300 q), q)) := by
        unfold b_Reader_takeMen_11
        show Option.elim (tkMa H (wR s) ro xs 300 q) _ _ = _
        rw [e]; rfl
      rw [mo_lp_inrS eC]
      by_cases c : ¬ f = 0 ∨ mo_kk (tkK xs 300 q) = 2
      · rw [mo_lp_inrS (ref_none e' c)]
        exact Or.inr ⟨_, _, rfl, Or.inl rfl⟩
      · have c0 : f = 0 := Classical.byContradiction (fun z => c (Or.inl z))
        have c1 : ¬ mo_kk (tkK xs 300 q) = 2 := fun z => c (Or.inr z)
        subst c0
        rw [mo_lp_inrS (ref_exit c1)]
        exact Or.inr ⟨_, _, rfl, Or.inr ⟨m, 0, rfl, if_neg (fun z => c1 (mo_kk_2.mpr (Or.inr z))), h8 rfl⟩⟩
    | some v =>
      have e' := (hMa q).symm.trans e
      obtain ⟨k3, eM⟩ := ref_some (B := B) (LB := LB) (i := i) (m := m) (f := f) e'
      have hv : v < 8 := by
        cases e1 : tkNa W N xs 300 q with
        | none => rw [e1] at e'; cases e'
        | some j => rw [e1] at e'; exact hO j v e'
      have hm : m ||| 2 ^ v < 256 := mo_or_ltN (A := m) (n := v) (N := 8) h7 hv
      have g1 := tkN_gt3 h5 k3
      have g2 := tkN_le (lim := 300) h5
      have g3 : i < 300 := by
        by_cases c : 300 < xs.length
        · have := tk3_lt h5 k3 c; omega
        · omega
      rw [mo_lp_inlS eM]
      by_cases c : tkK xs 300 (tkN xs 300 q) = 5 ∧ tkV xs 300 (tkN xs 300 q) = 59
      · have eC : b_Reader_takeMen_11 (wR s) H 2 ro xs 300 i (m, q) = .inr (.inl (m ||| 2 ^ v, tkN xs 300 q)) := by
          unfold b_Reader_takeMen_11
          show Option.elim (tkMa H (wR s) ro xs 300 q) _ _ = _
          rw [e]
          exact if_pos c
        rw [mo_lp_inrS eC]
        obtain ⟨n2, rfl⟩ : ∃ n2, n' = n2 + 1 := ⟨n' - 1, by omega⟩
        rw [mo_lp_inrS (ref_exit (fun z => by rw [c.1] at z; exact absurd z (by decide)))]
        exact Or.inl ⟨_, _, _, rfl, rfl, c, hm⟩
      · have eC : b_Reader_takeMen_11 (wR s) H 2 ro xs 300 i (m, q) = .inl (m ||| 2 ^ v, tkN xs 300 q) := by
          unfold b_Reader_takeMen_11
          show Option.elim (tkMa H (wR s) ro xs 300 q) _ _ = _
          rw [e]
          exact if_neg c
        rw [mo_lp_inlS eC]
        exact men_al hMa hO k n n' (i + 1) (m ||| 2 ^ v) (tkN xs 300 q) 0 (by omega) (by omega) (by omega) (by omega) g2 (by omega) hm (fun _ => c)
end M
/-- the sights told so far, on both sides -/
def rdS (H : Nat → Nat → Int32) (b : Nat) (B : Nat → Nat → Int32) (N q : Nat) : Prop := H (b + 22) 2 = nI q ∧ B 126 33 = nI q ∧ q ≤ 16 ∧ ∀ k, k < q → ∃ n m, n < N ∧ m < 256 ∧ H (b + 23) k = nI n ∧ B 130 (3 * k) = nI n ∧ B 130 (3 * k + 2) = nI m ∧ ((B 130 (3 * k + 1) = 1 ∧ H (b + 24) k = nI m) ∨ (B 130 (3 * k + 1) = 0 ∧ H (b + 24) k = nI m ^^^ (-1)))
theorem rdS_1 {H H' B B' : Nat → Nat → Int32} {b N q n m : Nat} {f g : Int32} (h : rdS H b B N q) (hq : q < 16) (hn : n < N) (hm : m < 256) (hf : (f = 1 ∧ g = nI m) ∨ (f = 0 ∧ g = nI m ^^^ (-1))) (e1 : H' (b + 22) 2 = nI (q + 1)) (e2 : B' 126 33 = nI (q + 1)) (c1 : ∀ k, k ≠ q → H' (b + 23) k = H (b + 23) k) (c2 : ∀ k, k ≠ q → H' (b + 24) k = H (b + 24) k) (c3 : ∀ j, ¬ (3 * q ≤ j ∧ j < 3 * q + 3) → B' 130 j = B 130 j) (d1 : H' (b + 23) q = nI n) (d2 : H' (b + 24) q = g) (d3 : B' 130 (3 * q) = nI n) (d4 : B' 130 (3 * q + 1) = f) (d5 : B' 130 (3 * q + 2) = nI m) : rdS H' b B' N (q + 1) := by
  refine ⟨e1, e2, by omega, fun k hk => ?_⟩
  by_cases c : k = q
  · subst c
    refine ⟨n, m, hn, hm, d1, d3, d5, ?_⟩
    rw [d4, d2]; exact hf
  · obtain ⟨n', m', k1, k2, k3, k4, k5, k6⟩ := h.2.2.2 k (by omega)
    refine ⟨n', m', k1, k2, (c1 k c).trans k3, (c3 _ (by omega)).trans k4, (c3 _ (by omega)).trans k5, ?_⟩
    rw [c3 (3 * k + 1) (by omega), c2 k c]; exact k6
def als (b : Nat) (xs : List Nat) (lim N : Nat) (z : mo_Z) (y : mo_Y) : Prop :=
  (z.1 = 0 ∧ y.1 = 0 ∧ z.2.1 2 1 = y.2.1 126 10 ∧ y.2.1 126 11 = nI (tkP xs lim z.2.2)) ∨ (z.1 = 1 ∧ y.1 = 1 ∧ y.2.2.1 = tkN xs lim z.2.2 ∧ (z.2.1 2 1 = 0 ∧ y.2.1 126 10 = 0) ∧ ∃ q, rdS z.2.1 b y.2.1 N q)
theorem als_f {b : Nat} {xs : List Nat} {lim N : Nat} {H B : Nat → Nat → Int32} {f f' : Int32} {q q' : Nat} {L' : Nat → Nat → Int64} (h : f' = f) : als b xs lim N (0, mo_up H 2 1 f, q) (0, mo_up (mo_up B 126 10 f') 126 11 (nI (tkP xs lim q)), q', L') := by
  refine Or.inl ⟨rfl, rfl, ?_, mo_upA (mo_up B 126 10 f') 126 11 _⟩
  show mo_up H 2 1 f 2 1 = mo_up (mo_up B 126 10 f') 126 11 (nI (tkP xs lim q)) 126 10
  rw [mo_upA, up_ne (by decide), mo_upA]
  exact h.symm
theorem w130 (s : Bool) : wR s 126 16 = 130 := w_V s (126, 16, 130) (by decide)
theorem sadd_n {s : Bool} {b : Nat} (hb : b ∈ [6, 31, 76, 101]) {H : Nat → Nat → Int32} {n : Nat} {u v : Int32} : o_sadd (wR s) H (b + 22) n u v = mo_up (mo_up (mo_up H (b + 23) n u) (b + 24) n v) (b + 22) 2 (nI (n + 1)) := by
  unfold o_sadd
  rw [wb22 s hb, wb23 s hb]
theorem al_men {s s' : Bool} {b t : Nat} (hb : b ∈ [6, 31, 76, 101]) {H B : Nat → Nat → Int32} {LB : Nat → Nat → Int64} {xs : List Nat} {p : Nat} {W : Nat → Int32} {N Q n : Nat} {Ow : Nat → Option Nat} (hS : rdS H b B N Q) (hQ : Q < 16) (hn : n < N) (hMa : ∀ q, tkMa H (wR s) (t + 1) xs 300 q = (tkNa W N xs 300 q).bind Ow) (hO : ∀ n v, Ow n = some v → v < 8) (h0 : H 2 1 = 0) (h0' : B 126 10 = 0) (hp : p ≤ xs.length) {f : Int32} {g : Int32 → Int32} (hf : (f = 1 ∧ ∀ x, g x = x) ∨ (f = 0 ∧ ∀ x, g x = x ^^^ (-1))) :
    als b xs 300 N (Option.elim (tkMn (wR s) H 2 (t + 1) xs 300 (tkN xs 300 p)) (0, ((o_Reader_takeMen (wR s) H 2 (t + 1) xs 300 (tkN xs 300 p)).2).1, ((o_Reader_takeMen (wR s) H 2 (t + 1) xs 300 (tkN xs 300 p)).2).2) (fun v7 => (if (tkK xs 300 v7.2) = 5 ∧ (tkV xs 300 v7.2) = 59 then (1, o_sadd (wR s) H (b + 22) Q (nI n) (g (nI v7.1)), v7.2) else (0, mo_up (o_sadd (wR s) H (b + 22) Q (nI n) (g (nI v7.1))) 2 1 1, v7.2))))
      (Sum.elim (fun z91 => (0, fun _ _ => 0, 0, fun _ _ => 0)) (Sum.elim (fun r91 => (if (tkK xs 300 r91.2.2) = 5 ∧ (tkV xs 300 r91.2.2) = 59 then (1, mo_up (mo_up (mo_up (mo_up B 130 (3 * Q) (nI n)) 130 ((3 * Q) + 1) f) 130 ((3 * Q) + 2) (nI r91.1)) 126 33 (nI (Q + 1)), tkN xs 300 r91.2.2, LB) else (0, mo_up (mo_up (mo_up (mo_up (mo_up (mo_up B 130 (3 * Q) (nI n)) 130 ((3 * Q) + 1) f) 130 ((3 * Q) + 2) (nI r91.1)) 126 33 (nI (Q + 1))) 126 10 1) 126 11 (nI (tkP xs 300 r91.2.2)), r91.2.2, LB))) (fun y91 => (y91.1, y91.2.1, y91.2.2.1, y91.2.2.2))) (w_Model_readSight_91 B LB 126 xs 300 p W N Ow)) := by
  have hr := wb_r hb
  have hp1 := tkN_le (lim := 300) hp
  have hp2 := tkN_le (lim := 300) hp1
  have key := men_al (s := s) (ro := t + 1) (H := H) (B := B) (LB := LB) (xs := xs) (W := W) (N := N) (Ow := Ow) hMa hO (xs.length + 1) 301 (xs.length + 1) 0 0 (tkN xs 300 (tkN xs 300 p)) 1 (by omega) (by omega) (by omega) (by omega) hp2 (by omega) (by omega) (fun z => absurd z (by decide))
  unfold tkMn o_Reader_takeMen w_Reader_takeMen_11 w_Model_readSight_91
  rcases key with ⟨m, f', q, e1, e2, c, hm⟩ | ⟨f', q, e1, e2 | ⟨m, g', e2, c1, c2⟩⟩
  · rw [e1, e2]
    show als b xs 300 N (if (tkK xs 300 q) = 5 ∧ (tkV xs 300 q) = 59 then (1, o_sadd (wR s) H (b + 22) Q (nI n) (g (nI m)), q) else (0, mo_up (o_sadd (wR s) H (b + 22) Q (nI n) (g (nI m))) 2 1 1, q)) (if (tkK xs 300 q) = 5 ∧ (tkV xs 300 q) = 59 then (1, mo_up (mo_up (mo_up (mo_up B 130 (3 * Q) (nI n)) 130 ((3 * Q) + 1) f) 130 ((3 * Q) + 2) (nI m)) 126 33 (nI (Q + 1)), tkN xs 300 q, LB) else (0, mo_up (mo_up (mo_up (mo_up (mo_up (mo_up B 130 (3 * Q) (nI n)) 130 ((3 * Q) + 1) f) 130 ((3 * Q) + 2) (nI m)) 126 33 (nI (Q + 1))) 126 10 1) 126 11 (nI (tkP xs 300 q)), q, LB))
    rw [if_pos c, if_pos c, sadd_n hb]
    refine Or.inr ⟨rfl, rfl, rfl, ⟨?_, ?_⟩, Q + 1, rdS_1 (n := n) (m := m) (f := f) (g := g (nI m)) hS hQ hn hm ?_ ?_ ?_ (fun k hk => ?_) (fun k hk => ?_) (fun j hj => ?_) ?_ ?_ ?_ ?_ ?_⟩
    · show mo_up (mo_up (mo_up H (b + 23) Q (nI n)) (b + 24) Q (g (nI m))) (b + 22) 2 (nI (Q + 1)) 2 1 = 0
      (repeat (first | rw [up_ne (by omega)])); exact h0
    · show mo_up (mo_up (mo_up (mo_up B 130 (3 * Q) (nI n)) 130 ((3 * Q) + 1) f) 130 ((3 * Q) + 2) (nI m)) 126 33 (nI (Q + 1)) 126 10 = 0
      (repeat (first | rw [up_ne (by omega)])); exact h0'
    · rcases hf with ⟨k1, k2⟩ | ⟨k1, k2⟩
      · exact Or.inl ⟨k1, k2 _⟩
      · exact Or.inr ⟨k1, k2 _⟩
    · show mo_up (mo_up (mo_up H (b + 23) Q (nI n)) (b + 24) Q (g (nI m))) (b + 22) 2 (nI (Q + 1)) (b + 22) 2 = nI (Q + 1)
      (repeat (first | rw [mo_upA] | rw [up_ne (by omega)])); all_goals rfl
    · show mo_up (mo_up (mo_up (mo_up B 130 (3 * Q) (nI n)) 130 ((3 * Q) + 1) f) 130 ((3 * Q) + 2) (nI m)) 126 33 (nI (Q + 1)) 126 33 = nI (Q + 1)
      (repeat (first | rw [mo_upA] | rw [up_ne (by omega)])); all_goals rfl
    · show mo_up (mo_up (mo_up H (b + 23) Q (nI n)) (b + 24) Q (g (nI m))) (b + 22) 2 (nI (Q + 1)) (b + 23) k = H (b + 23) k
      (repeat (first | rw [mo_upA] | rw [up_ne (by omega)])); all_goals rfl
    · show mo_up (mo_up (mo_up H (b + 23) Q (nI n)) (b + 24) Q (g (nI m))) (b + 22) 2 (nI (Q + 1)) (b + 24) k = H (b + 24) k
      (repeat (first | rw [mo_upA] | rw [up_ne (by omega)])); all_goals rfl
    · show mo_up (mo_up (mo_up (mo_up B 130 (3 * Q) (nI n)) 130 ((3 * Q) + 1) f) 130 ((3 * Q) + 2) (nI m)) 126 33 (nI (Q + 1)) 130 j = B 130 j
      (repeat (first | rw [mo_upA] | rw [up_ne (by omega)])); all_goals rfl
    · show mo_up (mo_up (mo_up H (b + 23) Q (nI n)) (b + 24) Q (g (nI m))) (b + 22) 2 (nI (Q + 1)) (b + 23) Q = nI n
      (repeat (first | rw [mo_upA] | rw [up_ne (by omega)])); all_goals rfl
    · show mo_up (mo_up (mo_up H (b + 23) Q (nI n)) (b + 24) Q (g (nI m))) (b + 22) 2 (nI (Q + 1)) (b + 24) Q = g (nI m)
      (repeat (first | rw [mo_upA] | rw [up_ne (by omega)])); all_goals rfl
    · show mo_up (mo_up (mo_up (mo_up B 130 (3 * Q) (nI n)) 130 ((3 * Q) + 1) f) 130 ((3 * Q) + 2) (nI m)) 126 33 (nI (Q + 1)) 130 (3 * Q) = nI n
      (repeat (first | rw [mo_upA] | rw [up_ne (by omega)])); all_goals rfl
    · show mo_up (mo_up (mo_up (mo_up B 130 (3 * Q) (nI n)) 130 ((3 * Q) + 1) f) 130 ((3 * Q) + 2) (nI m)) 126 33 (nI (Q + 1)) 130 (3 * Q + 1) = f
      (repeat (first | rw [mo_upA] | rw [up_ne (by omega)])); all_goals rfl
    · show mo_up (mo_up (mo_up (mo_up B 130 (3 * Q) (nI n)) 130 ((3 * Q) + 1) f) 130 ((3 * Q) + 2) (nI m)) 126 33 (nI (Q + 1)) 130 (3 * Q + 2) = nI m
      (repeat (first | rw [mo_upA] | rw [up_ne (by omega)])); all_goals rfl
  · rw [e1, e2]
    exact als_f rfl
  · rw [e1, e2]
    show als b xs 300 N (0, mo_up H 2 1 f', q) (if (tkK xs 300 q) = 5 ∧ (tkV xs 300 q) = 59 then (1, mo_up (mo_up (mo_up (mo_up B 130 (3 * Q) (nI n)) 130 ((3 * Q) + 1) f) 130 ((3 * Q) + 2) (nI m)) 126 33 (nI (Q + 1)), tkN xs 300 q, LB) else (0, mo_up (mo_up (mo_up (mo_up (mo_up (mo_up B 130 (3 * Q) (nI n)) 130 ((3 * Q) + 1) f) 130 ((3 * Q) + 2) (nI m)) 126 33 (nI (Q + 1))) 126 10 1) 126 11 (nI (tkP xs 300 q)), q, LB))
    rw [if_neg c2]
    exact als_f c1.symm
theorem al_sight {s s' : Bool} {b t : Nat} (hb : b ∈ [6, 31, 76, 101]) (ht : t ∈ [6, 31, 76, 101]) {H B : Nat → Nat → Int32} {LB : Nat → Nat → Int64} {xs : List Nat} {p : Nat} {W : Nat → Int32} {N Q : Nat} {Ow : Nat → Option Nat} (hS : rdS H b B N Q) (hN : ∀ q, tkNa (H (t + 5)) (cN H (t + 1)) xs 300 q = tkNa W N xs 300 q) (hMa : ∀ q, tkMa H (wR s) (t + 1) xs 300 q = (tkNa W N xs 300 q).bind Ow) (hO : ∀ n v, Ow n = some v → v < 8) (h0 : H 2 1 = 0) (h0' : B 126 10 = 0) (hp : p ≤ xs.length) : als b xs 300 N (o_Reader_readSight (wR s) H 2 (t + 1) (b + 22) xs 300 p) (o_Model_readSight (wR s') B LB 126 xs 300 p W N Ow Q) := by
  have eS : cS H (b + 22) = Q := mo_ncl hS.1 (by have := hS.2.2.1; omega)
  have hp1 := tkN_le (lim := 300) hp
  unfold o_Reader_readSight o_Model_readSight
  rw [eS, wb8 s ht, w130 s', hN p]
  by_cases c3 : tkK xs 300 p = 3
  · rw [if_pos c3]
    have eN : tkNa W N xs 300 p = mo_ff (fun c => decide (W c = tkV xs 300 p)) N := if_pos c3
    rw [eN]
    cases e : mo_ff (fun c => decide (W c = tkV xs 300 p)) N with
    | none => exact als_f ((bf_k (by rw [c3]; decide)).trans (if_pos c3).symm)
    | some n =>
      have hn := (mo_ff_lt e).1
      show als b xs 300 N (if Q < 16 then _ else _) (if Q = 16 then _ else _)
      by_cases cq : Q = 16
      · rw [if_neg (by omega), if_pos cq]
        exact als_f (bf_k (by rw [c3]; decide))
      · have hQ : Q < 16 := by have := hS.2.2.1; omega
        rw [if_pos hQ, if_neg cq]
        by_cases cn : tkK xs 300 (tkN xs 300 p) = 2 ∧ tkV xs 300 (tkN xs 300 p) = 14836
        · rw [if_pos cn, if_neg (show ¬ (tkK xs 300 (tkN xs 300 p) = 2 ∧ tkV xs 300 (tkN xs 300 p) = 307) from fun z => absurd (cn.2.symm.trans z.2) (by decide)), if_pos cn, rs91x]
          exact al_men (s' := s') hb hS hQ hn hMa hO h0 h0' hp (f := 0) (g := fun x => x ^^^ (-1)) (Or.inr ⟨rfl, fun _ => rfl⟩)
        · rw [if_neg cn]
          by_cases ci : tkK xs 300 (tkN xs 300 p) = 2 ∧ tkV xs 300 (tkN xs 300 p) = 307
          · rw [if_pos ci, if_pos ci]
            exact al_men (s' := s') hb hS hQ hn hMa hO h0 h0' hp (f := 1) (g := fun x => x) (Or.inl ⟨rfl, fun _ => rfl⟩)
          · rw [if_neg ci, if_neg ci, if_neg cn]
            exact als_f mo_bf1
  · rw [if_neg c3, show tkNa W N xs 300 p = none from if_neg c3]
    exact als_f (mo_bf1.trans (if_neg c3).symm)
