/-! The table of the most, told. -/
theorem mo_it_fill2 {α : Type} {f : Nat → (Nat → Nat → α) → Nat → Nat → α} {q c N : Nat} {g : Nat → α} {H : Nat → Nat → α} (h : ∀ k, k < N → f k (mo_fi H q c k g) = mo_up (mo_fi H q c k g) q (c + k) (g k)) : mo_it f N 0 H = mo_fi H q c N g := by
  have := mo_it_inv (f := f) (fun j s => s = mo_fi H q c j g) (k := N) (i := 0) (s := H) (mo_fi0 H q c g).symm (fun j t _ hj ht => by
    rw [ht, h j (by omega), mo_fiS])
  rw [Nat.zero_add] at this
  exact this
theorem mo_fiO {α : Type} {H : Nat → Nat → α} {q c N : Nat} {g : Nat → α} {x y : Nat} (h : c + N ≤ y ∨ y < c) : mo_fi H q c N g x y = H x y := if_neg (fun z => by omega)
/-- one step of the choice of the most -/
def mo_mxb (M : Nat → Int64) (W : Nat → Int64) (wo o set n : Nat) (best : Int64) : Int64 :=
  if Nat.testBit (set ||| wo) n = true then best else if o = n then best else if lg_cmp (M (set ||| 2 ^ n)) (-1000000000000000) = 0 then best else if lg_cmp (M (set ||| 2 ^ n) + W n) best ≤ 0 then best else M (set ||| 2 ^ n) + W n
/-- the most that those with these own names can have, by the names that are not in the set -/
def mo_mx (W : Nat → Int64) (N wo : Nat) : List Nat → Nat → Int64
  | [], _ => 0
  | o :: os, set => mo_it (mo_mxb (mo_mx W N wo os) W wo o set) N 0 (-1000000000000000)
theorem mo_mx_some {W : Nat → Int64} {N wo o : Nat} {os : List Nat} {set : Nat} (h : mo_mx W N wo (o :: os) set ≠ -1000000000000000) : ∃ n, n < N ∧ ¬ Nat.testBit (set ||| wo) n = true ∧ ¬ o = n ∧ mo_mx W N wo os (set ||| 2 ^ n) ≠ -1000000000000000 ∧ mo_mx W N wo (o :: os) set = mo_mx W N wo os (set ||| 2 ^ n) + W n := by
  have key := mo_it_inv (f := mo_mxb (mo_mx W N wo os) W wo o set) (fun _ b => b = -1000000000000000 ∨ ∃ n, n < N ∧ ¬ Nat.testBit (set ||| wo) n = true ∧ ¬ o = n ∧ mo_mx W N wo os (set ||| 2 ^ n) ≠ -1000000000000000 ∧ b = mo_mx W N wo os (set ||| 2 ^ n) + W n) (k := N) (i := 0) (s := -1000000000000000) (Or.inl rfl) (fun j b _ hj hb => by
    unfold mo_mxb
    by_cases c1 : Nat.testBit (set ||| wo) j = true
    · rw [if_pos c1]; exact hb
    · rw [if_neg c1]
      by_cases c2 : o = j
      · rw [if_pos c2]; exact hb
      · rw [if_neg c2]
        by_cases c3 : lg_cmp (mo_mx W N wo os (set ||| 2 ^ j)) (-1000000000000000) = 0
        · rw [if_pos c3]; exact hb
        · rw [if_neg c3]
          by_cases c4 : lg_cmp (mo_mx W N wo os (set ||| 2 ^ j) + W j) b ≤ 0
          · rw [if_pos c4]; exact hb
          · rw [if_neg c4]; exact Or.inr ⟨j, by omega, c1, c2, fun z => c3 (lc_eq0.mpr z), rfl⟩)
  rcases key with k | k
  · exact absurd k h
  · exact k
theorem mo_or_ltN {A n N : Nat} (hA : A < 2 ^ N) (hn : n < N) : A ||| 2 ^ n < 2 ^ N := Nat.or_lt_two_pow hA (Nat.pow_lt_pow_right (by decide) hn)
theorem mo_layMost64 {R : Nat → Nat → Nat} {L : Nat → Nat → Int64} {a : Nat} {T : mo_Tn} {wo : Nat} {rs : List Nat} {j k : Nat} {s : Nat → Nat → Int64} (M : Nat → Int64) (hk : k < 2 ^ tNames T) (hM : ∀ x, x < 2 ^ tNames T → s (R a 24) (4096 * (rs.length - j - 1 + 1) + x) = M x) : w_Model_layMost_64 R L a T wo rs j k s = mo_it (mo_mxb M (L (R a 25)) wo (tOwn T (rs.getD (rs.length - j - 1) 0)) k) (tNames T) 0 (-1000000000000000) := by
  unfold w_Model_layMost_64
  exact mo_it_congr (fun n _ hn b => by
    have hn : n < tNames T := by omega
    unfold b_Model_layMost_64 mo_mxb
    rw [hM _ (mo_or_ltN hk hn)])
theorem mo_layMost_tab {R : Nat → Nat → Nat} {L : Nat → Nat → Int64} {a : Nat} {T : mo_Tn} {wo : Nat} {rs : List Nat} (hv : mo_vT T) (hq : R a 25 ≠ R a 24) : (∀ q, q ≠ R a 24 → w_Model_layMost_43 R L a T wo rs q = L q) ∧ ∀ i, i ≤ rs.length → ∀ set, set < 2 ^ tNames T → w_Model_layMost_43 R L a T wo rs (R a 24) (4096 * i + set) = mo_mx (L (R a 25)) (tNames T) wo ((rs.drop i).map (tOwn T)) set := by
  have hp := mo_p12' (vT_tNames hv)
  have e9 : w_Model_layMost_9 R L a T rs = mo_fi L (R a 24) (4096 * rs.length) (2 ^ tNames T) (fun _ => 0) := mo_it_fill2 (fun k _ => rfl)
  have key := mo_it_inv (f := b_Model_layMost_43 R L a T wo rs) (fun j s => j ≤ rs.length ∧ (∀ q, q ≠ R a 24 → s q = L q) ∧ ∀ i, rs.length - j ≤ i → i ≤ rs.length → ∀ set, set < 2 ^ tNames T → s (R a 24) (4096 * i + set) = mo_mx (L (R a 25)) (tNames T) wo ((rs.drop i).map (tOwn T)) set) (k := rs.length) (i := 0) (s := w_Model_layMost_9 R L a T rs) ⟨Nat.zero_le _, fun q hq => by rw [e9]; exact mo_fiR hq, fun i h1 h2 set hs => by
      have : i = rs.length := by omega
      rw [this, e9, mo_fiA hs, List.drop_length]
      rfl⟩ (fun j s _ hj hP => by
    obtain ⟨hj1, hP1, hP2⟩ := hP
    have hj2 : j < rs.length := by omega
    have e50 : b_Model_layMost_43 R L a T wo rs j s = mo_fi s (R a 24) (4096 * (rs.length - j - 1)) (2 ^ tNames T) (fun set => mo_mx (L (R a 25)) (tNames T) wo ((rs.drop (rs.length - j - 1)).map (tOwn T)) set) := by
      unfold b_Model_layMost_43 w_Model_layMost_50
      refine mo_it_fill2 (fun k hk => ?_)
      unfold b_Model_layMost_50
      rw [mo_layMost64 (mo_mx (L (R a 25)) (tNames T) wo ((rs.drop (rs.length - j - 1 + 1)).map (tOwn T))) hk (fun x hx => by
        rw [mo_fiO (Or.inl (by omega))]
        exact hP2 _ (by omega) (by omega) x hx)]
      have hd : rs.drop (rs.length - j - 1) = rs.getD (rs.length - j - 1) 0 :: rs.drop (rs.length - j - 1 + 1) := by
        rw [mo_getD (by omega)]
        exact List.drop_eq_getElem_cons (by omega)
      show _ = mo_up _ _ _ (mo_mx (L (R a 25)) (tNames T) wo ((rs.drop (rs.length - j - 1)).map (tOwn T)) k)
      rw [hd, List.map_cons]
      rfl
    refine ⟨by omega, fun q hq => by rw [e50, mo_fiR hq]; exact hP1 q hq, fun i h1 h2 set hs => ?_⟩
    rw [e50]
    by_cases c : i = rs.length - j - 1
    · rw [c, mo_fiA hs]
    · rw [mo_fiO (Or.inl (by omega))]
      exact hP2 i (by omega) h2 set hs)
  refine ⟨key.2.1, fun i hi set hs => key.2.2 i (by omega) hi set hs⟩
theorem mo_lp_inr {S ρ : Type} {body : Nat → S → S ⊕ ρ} : ∀ k i s r, mo_lp body k i s = .inr r → ∃ j t, i ≤ j ∧ j < i + k ∧ body j t = .inr r
  | 0, i, s, r, e => by cases e
  | k + 1, i, s, r, e => by
    have e' : (match body i s with | .inl s' => mo_lp body k (i + 1) s' | .inr r => .inr r) = .inr r := e
    cases eb : body i s with
    | inr r' => rw [eb] at e'; cases e'; exact ⟨i, s, Nat.le_refl i, by omega, eb⟩
    | inl s' =>
      rw [eb] at e'
      obtain ⟨j, t, h1, h2, h3⟩ := mo_lp_inr k (i + 1) s' r e'
      exact ⟨j, t, by omega, by omega, h3⟩
theorem mo_mx_congr {W W' : Nat → Int64} {N wo : Nat} (h : ∀ n, n < N → W n = W' n) : ∀ (os : List Nat), mo_mx W N wo os = mo_mx W' N wo os
  | [] => rfl
  | o :: os => funext (fun set => by
    show mo_it (mo_mxb (mo_mx W N wo os) W wo o set) N 0 _ = mo_it (mo_mxb (mo_mx W' N wo os) W' wo o set) N 0 _
    rw [mo_mx_congr h os]
    exact mo_it_congr (fun n _ hn b => by unfold mo_mxb; rw [h n (by omega)]))
def tML (R : Nat → Nat → Nat) (L : Nat → Nat → Int64) (a : Nat) (T : mo_Tn) (wo : Nat) (rs : List Nat) : Nat → Nat → Int64 := w_Model_layMost_43 R L a T wo rs
/-- the most of those of a row from a place on, without a set of names -/
def tM (T : mo_Tn) (dd : Int32) (wo : Nat) (rs : List Nat) (i set : Nat) : Int64 := mo_mx (tW T dd) (tNames T) wo ((rs.drop i).map (tOwn T)) set
theorem tML_row {R : Nat → Nat → Nat} {L : Nat → Nat → Int64} {a : Nat} {T : mo_Tn} {wo : Nat} {rs : List Nat} (hv : mo_vT T) (hq : R a 25 ≠ R a 24) {q : Nat} (h : q ≠ R a 24) : tML R L a T wo rs q = L q := (mo_layMost_tab hv hq).1 q h
theorem tML_at {R : Nat → Nat → Nat} {L : Nat → Nat → Int64} {a : Nat} {T : mo_Tn} {wo : Nat} {rs : List Nat} {dd : Int32} (hv : mo_vT T) (hq : R a 25 ≠ R a 24) (hW : ∀ n, n < tNames T → L (R a 25) n = tW T dd n) {i set : Nat} (hi : i ≤ rs.length) (hs : set < 2 ^ tNames T) : tML R L a T wo rs (R a 24) (4096 * i + set) = tM T dd wo rs i set := by
  unfold tM
  rw [← mo_mx_congr hW]
  exact (mo_layMost_tab hv hq).2 i hi set hs
theorem C_layMost (l : Launch) (K : mo_K) (R : Nat → Nat → Nat) (I : Nat → Nat → Int32) (L : Nat → Nat → Int64) (a : Nat) (T : mo_Tn) (wo : Nat) (rs : List Nat) (dd : Int32) (h : mo_md K R a) (hN : mo_now (I (R a 14)) T) (hw : wo < 4096) (hR : mo_li I a 29 (R a 26) rs) (hR2 : rs.length ≤ 8) (hRm : ∀ k, k < rs.length → rs.getD k 0 < tMen T) (hq : R a 25 ≠ R a 24) (hW : ∀ n, n < tNames T → L (R a 25) n = tW T dd n) : mo_D l mm_Model_layMost 1 [.ref a, .int (nI wo)] (K, R, I, L, 0) (some (.long (tM T dd wo rs 0 0))) (K, R, I, tML R L a T wo rs, 0) := by
  refine mo_D_eq (C_Model_layMost l K R I L a T wo rs h hN hw hR hR2 hRm) ?_ rfl
  have := tML_at (wo := wo) (rs := rs) (now_v hN) hq hW (i := 0) (set := 0) (Nat.zero_le _) (Nat.two_pow_pos _)
  rw [← this]
  rfl
theorem mo_lb_mono {x : Int64} (h : mo_lb 61 x) : mo_lb 62 x := by
  have h1 := h.1
  have h2 := h.2
  exact ⟨by omega, by omega⟩
theorem mo_lb_sub {x y : Int64} (hx : mo_lb 61 x) (hy : mo_lb 61 y) : mo_lb 62 (x - y) := by
  have h1 := hx.1
  have h2 := hx.2
  have h3 := hy.1
  have h4 := hy.2
  have e : (x - y).toInt = x.toInt - y.toInt := by
    rw [Int64.toInt_sub]
    exact Int.bmod_eq_of_le (by omega) (by omega)
  exact ⟨by rw [e]; omega, by rw [e]; omega⟩
