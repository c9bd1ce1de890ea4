/-! Holds of names, and whether it goes round. -/
/-- names are held: each by one who may, no two by one -/
def hd (n : Nat) (A : Nat → Nat → Bool) (r : Nat → Nat) : Prop := (∀ j, j < n → r j < n ∧ A (r j) j = true) ∧ ∀ i j, i < n → j < n → r i = r j → i = j
theorem pg {p : Nat → Bool} {N : Nat} {f : Nat → Nat} : ∀ (n : Nat) {q : Nat → Bool}, (∀ k, k < n → p k = true → f k < N ∧ q (f k) = true) → (∀ i j, i < n → j < n → p i = true → p j = true → f i = f j → i = j) → lo_ct p n ≤ lo_ct q N := by
  intro n
  induction n with
  | zero => intro q _ _; exact Nat.zero_le _
  | succ n ih =>
    intro q h1 h2
    show lo_ct p n + (if p n = true then 1 else 0) ≤ _
    by_cases c : p n = true
    · rw [if_pos c, lo_ct_out (p := q) (h1 n (by omega) c).1, if_pos (h1 n (by omega) c).2]
      refine Nat.add_le_add_right (ih (fun k hk hp => ⟨(h1 k (by omega) hp).1, ?_⟩) (fun i j hi hj => h2 i j (by omega) (by omega))) 1
      show (q (f k) && !decide (f k = f n)) = true
      rw [(h1 k (by omega) hp).2, decide_eq_false (fun e => by have := h2 k n (by omega) (by omega) hp c e; omega)]
      rfl
    · rw [if_neg c]
      exact ih (fun k hk => h1 k (by omega)) (fun i j hi hj => h2 i j (by omega) (by omega))
theorem pg_on {D : Nat → Bool} {n w : Nat} {f : Nat → Nat} (h1 : ∀ k, k < n → D k = true → f k < n ∧ D (f k) = true) (h2 : ∀ i j, i < n → j < n → D i = true → D j = true → f i = f j → i = j) (hw : w < n) (hD : D w = true) : ∃ a, a < n ∧ D a = true ∧ f a = w := by
  apply Classical.byContradiction
  intro hn
  have e1 := pg (p := D) (N := n) (f := f) n (q := fun k => D k && !decide (k = w)) (fun k hk hp => ⟨(h1 k hk hp).1, by
    show (D (f k) && !decide (f k = w)) = true
    rw [(h1 k hk hp).2, decide_eq_false (fun e => hn ⟨k, hk, hp, e⟩)]
    rfl⟩) h2
  have e2 := lo_ct_out (p := D) hw
  rw [if_pos hD] at e2
  omega
theorem hd_on {n : Nat} {A : Nat → Nat → Bool} {r : Nat → Nat} (h : hd n A r) {k : Nat} (hk : k < n) : ∃ j, j < n ∧ r j = k := by
  obtain ⟨a, h1, _, h3⟩ := pg_on (D := fun _ => true) (f := r) (fun k hk _ => ⟨(h.1 k hk).1, rfl⟩) (fun i j hi hj _ _ => h.2 i j hi hj) hk rfl
  exact ⟨a, h1, h3⟩
/-- another hold is like this one at the asked names, and not at the man -/
def hq (n : Nat) (A : Nat → Nat → Bool) (z x : Nat) (r : Nat → Nat) : Prop := ∃ r', hd n A r' ∧ (∀ j, j < n → x.testBit j = true → r' j = r j) ∧ ∃ w, w < n ∧ r w = z ∧ r' w ≠ z
/-- the names have been passed on up to this one, whose holder has none but the man's -/
def clm (n : Nat) (A : Nat → Nat → Bool) (w : Nat) (r0 : Nat → Nat) (met j : Nat) : Prop := ∃ r : Nat → Nat, (∀ a, a < n → r a < n) ∧ (∀ i j, i < n → j < n → r i = r j → i = j) ∧ (∀ a, a < n → a ≠ w → A (r a) a = true) ∧ r w = r0 j ∧ ∀ a, a < n → met.testBit a = false → a ≠ w → r a = r0 a
def rSI (n : Nat) (A : Nat → Nat → Bool) (z x w : Nat) (r0 : Nat → Nat) (met : Nat) : Prop := (∀ j, met.testBit j = true → j < n ∧ x.testBit j = false ∧ (j ≠ w → clm n A w r0 met j)) ∧ (met.testBit w = true → hq n A z x r0) ∧ ∀ j, j < n → A z j = true → x.testBit j = false → j ≠ w → met.testBit j = true
theorem clm_mono {n : Nat} {A : Nat → Nat → Bool} {w : Nat} {r0 : Nat → Nat} {met met' j : Nat} (h : clm n A w r0 met j) (hm : ∀ a, met.testBit a = true → met'.testBit a = true) : clm n A w r0 met' j := by
  obtain ⟨r, h1, h2, h3, h4, h5⟩ := h
  refine ⟨r, h1, h2, h3, h4, fun a ha hb => h5 a ha ?_⟩
  cases e : met.testBit a with
  | false => rfl
  | true => rw [hm a e] at hb; cases hb
theorem fr_bit {n x j : Nat} : (mo_dif (2 ^ n - 1) x).testBit j = (decide (j < n) && !x.testBit j) := by
  rw [mo_dif_bit, Nat.testBit_two_pow_sub_one]
theorem clm_go {n : Nat} {A : Nat → Nat → Bool} {w : Nat} {r0 : Nat → Nat} {met met' k j' : Nat} {r : Nat → Nat} (hw : w < n) (hj : j' < n) (hjw : j' ≠ w) (hjm : met.testBit j' = false) (hjm' : met'.testBit j' = true) (hA : A k j' = true) (hm : ∀ a, met.testBit a = true → met'.testBit a = true)
    (h1 : ∀ a, a < n → r a < n) (h2 : ∀ i j, i < n → j < n → r i = r j → i = j) (h3 : ∀ a, a < n → a ≠ w → A (r a) a = true) (h4 : r w = k) (h5 : ∀ a, a < n → met.testBit a = false → a ≠ w → r a = r0 a) : clm n A w r0 met' j' := by
  refine ⟨fun a => if a = w then r j' else if a = j' then r w else r a, fun a ha => ?_, fun i j hi hj2 e => ?_, fun a ha hne => ?_, ?_, fun a ha hb hne => ?_⟩
  · show (if a = w then r j' else if a = j' then r w else r a) < n
    by_cases c1 : a = w
    · rw [if_pos c1]; exact h1 j' hj
    · rw [if_neg c1]
      by_cases c2 : a = j'
      · rw [if_pos c2]; exact h1 w hw
      · rw [if_neg c2]; exact h1 a ha
  · have hi' : ∀ i, i < n → (if i = w then j' else if i = j' then w else i) < n := fun i hi => by
      by_cases c1 : i = w
      · rw [if_pos c1]; exact hj
      · rw [if_neg c1]
        by_cases c2 : i = j'
        · rw [if_pos c2]; exact hw
        · rw [if_neg c2]; exact hi
    have hr : ∀ i, (if i = w then r j' else if i = j' then r w else r i) = r (if i = w then j' else if i = j' then w else i) := fun i => by
      by_cases c1 : i = w
      · rw [if_pos c1, if_pos c1]
      · rw [if_neg c1, if_neg c1]
        by_cases c2 : i = j'
        · rw [if_pos c2, if_pos c2]
        · rw [if_neg c2, if_neg c2]
    have e2 : r (if i = w then j' else if i = j' then w else i) = r (if j = w then j' else if j = j' then w else j) := (hr i).symm.trans (e.trans (hr j))
    have e3 := h2 _ _ (hi' i hi) (hi' j hj2) e2
    by_cases c1 : i = w
    · by_cases d1 : j = w
      · rw [c1, d1]
      · rw [if_pos c1, if_neg d1] at e3
        by_cases d2 : j = j'
        · rw [if_pos d2] at e3; omega
        · rw [if_neg d2] at e3; omega
    · rw [if_neg c1] at e3
      by_cases d1 : j = w
      · rw [if_pos d1] at e3
        by_cases c2 : i = j'
        · rw [if_pos c2] at e3; omega
        · rw [if_neg c2] at e3; omega
      · rw [if_neg d1] at e3
        by_cases c2 : i = j'
        · rw [if_pos c2] at e3
          by_cases d2 : j = j'
          · omega
          · rw [if_neg d2] at e3; omega
        · rw [if_neg c2] at e3
          by_cases d2 : j = j'
          · rw [if_pos d2] at e3; omega
          · rw [if_neg d2] at e3; exact e3
  · show A (if a = w then r j' else if a = j' then r w else r a) a = true
    rw [if_neg hne]
    by_cases c2 : a = j'
    · rw [if_pos c2, h4, c2]; exact hA
    · rw [if_neg c2]; exact h3 a ha hne
  · show (if w = w then r j' else if w = j' then r w else r w) = r0 j'
    rw [if_pos rfl]
    exact h5 j' hj hjm hjw
  · show (if a = w then r j' else if a = j' then r w else r a) = r0 a
    have c2 : a ≠ j' := fun e => by rw [e, hjm'] at hb; cases hb
    rw [if_neg hne, if_neg c2]
    refine h5 a ha ?_ hne
    cases e : met.testBit a with
    | false => rfl
    | true => rw [hm a e] at hb; cases hb
theorem rSI_0 {n : Nat} {cs : Nat → Nat} {z x w : Nat} {r0 : Nat → Nat} (h0 : hd n (fun k j => (cs k).testBit j) r0) (hw : w < n) (hwz : r0 w = z) : rSI n (fun k j => (cs k).testBit j) z x w r0 (mo_dif ((cs z) &&& (mo_dif ((2 ^ n) - 1) x)) (2 ^ w)) := by
  have hb : ∀ j, (mo_dif ((cs z) &&& (mo_dif ((2 ^ n) - 1) x)) (2 ^ w)).testBit j = (((cs z).testBit j && (decide (j < n) && !x.testBit j)) && !decide (w = j)) := fun j => by
    rw [mo_dif_bit, Nat.testBit_and, fr_bit, Nat.testBit_two_pow]
  refine ⟨fun j hj => ?_, fun hj => ?_, fun j hj h1 h2 h3 => ?_⟩
  · have hj2 := hj
    rw [hb j, Bool.and_eq_true, Bool.and_eq_true, Bool.and_eq_true] at hj2
    have hjn : j < n := of_decide_eq_true hj2.1.2.1
    have hjx : x.testBit j = false := by
      have := hj2.1.2.2
      cases e : x.testBit j with
      | false => rfl
      | true => rw [e] at this; cases this
    refine ⟨hjn, hjx, fun hne => ?_⟩
    exact clm_go (met := 0) (k := z) (r := r0) hw hjn hne (Nat.zero_testBit j) hj hj2.1.1 (fun a ha => by rw [Nat.zero_testBit] at ha; cases ha) (fun a ha => (h0.1 a ha).1) h0.2 (fun a ha _ => (h0.1 a ha).2) hwz (fun a _ _ _ => rfl)
  · rw [hb w, decide_eq_true (show w = w from rfl), Bool.not_true, Bool.and_false] at hj
    cases hj
  · have h1' : (cs z).testBit j = true := h1
    rw [hb j, h1', decide_eq_true hj, h2, decide_eq_false (fun e => h3 e.symm)]
    rfl
theorem rSI_go {n : Nat} {cs : Nat → Nat} {z x w : Nat} {r0 : Nat → Nat} {met j : Nat} (h0 : hd n (fun k j => (cs k).testBit j) r0) (hw : w < n) (hwz : r0 w = z) (hxw : x.testBit w = false) (h : rSI n (fun k j => (cs k).testBit j) z x w r0 met) (hj : met.testBit j = true) : rSI n (fun k j => (cs k).testBit j) z x w r0 (met ||| mo_dif ((cs (r0 j)) &&& (mo_dif ((2 ^ n) - 1) x)) met) := by
  have hb : ∀ i, (met ||| mo_dif ((cs (r0 j)) &&& (mo_dif ((2 ^ n) - 1) x)) met).testBit i = (met.testBit i || (((cs (r0 j)).testBit i && (decide (i < n) && !x.testBit i)) && !met.testBit i)) := fun i => by
    rw [Nat.testBit_or, mo_dif_bit, Nat.testBit_and, fr_bit]
  have hm : ∀ a, met.testBit a = true → (met ||| mo_dif ((cs (r0 j)) &&& (mo_dif ((2 ^ n) - 1) x)) met).testBit a = true := fun a ha => by rw [hb a, ha, Bool.true_or]
  obtain ⟨h1, h2, h3⟩ := h
  have hjn := (h1 j hj).1
  have hnew : ∀ i, met.testBit i = false → (met ||| mo_dif ((cs (r0 j)) &&& (mo_dif ((2 ^ n) - 1) x)) met).testBit i = true → (cs (r0 j)).testBit i = true ∧ i < n ∧ x.testBit i = false := fun i h4 h5 => by
    rw [hb i, h4, Bool.false_or, Bool.and_eq_true, Bool.and_eq_true, Bool.and_eq_true] at h5
    refine ⟨h5.1.1, of_decide_eq_true h5.1.2.1, ?_⟩
    have := h5.1.2.2
    cases e : x.testBit i with
    | false => rfl
    | true => rw [e] at this; cases this
  refine ⟨fun i hi => ?_, fun hi => ?_, fun i hi ha hx hne => hm i (h3 i hi ha hx hne)⟩
  · cases e : met.testBit i with
    | true =>
      obtain ⟨g1, g2, g3⟩ := h1 i e
      exact ⟨g1, g2, fun hne => clm_mono (g3 hne) hm⟩
    | false =>
      obtain ⟨g1, g2, g3⟩ := hnew i e hi
      refine ⟨g2, g3, fun hne => ?_⟩
      by_cases c : j = w
      · rw [c, hwz] at g1
        have := h3 i g2 g1 g3 hne
        rw [e] at this
        cases this
      · obtain ⟨r, k1, k2, k3, k4, k5⟩ := (h1 j hj).2.2 c
        exact clm_go (met := met) (k := r0 j) (r := r) hw g2 hne e hi g1 hm k1 k2 k3 k4 k5
  · cases e : met.testBit w with
    | true => exact h2 e
    | false =>
      obtain ⟨g1, g2, g3⟩ := hnew w e hi
      have c : j ≠ w := fun e2 => by rw [e2, e] at hj; cases hj
      obtain ⟨r, k1, k2, k3, k4, k5⟩ := (h1 j hj).2.2 c
      refine ⟨r, ⟨fun a ha => ⟨k1 a ha, ?_⟩, k2⟩, fun a ha hxa => ?_, w, hw, hwz, fun e2 => c ?_⟩
      · by_cases d : a = w
        · rw [d, k4]; exact g1
        · exact k3 a ha d
      · refine k5 a ha ?_ (fun e2 => by rw [e2, hxw] at hxa; cases hxa)
        cases e3 : met.testBit a with
        | false => rfl
        | true => have := (h1 a e3).2.1; rw [hxa] at this; cases this
      · rw [k4, ← hwz] at e2
        exact h0.2 j w hjn hw e2
theorem round_no {n : Nat} {cs : Nat → Nat} {z x w : Nat} {r0 hs : Nat → Nat} {met : Nat} (h0 : hd n (fun k j => (cs k).testBit j) r0) (hh : ∀ k, k < n → hs k < n ∧ r0 (hs k) = k) (hw : w < n) (hwz : r0 w = z) (hxw : x.testBit w = false) (h3 : ∀ j, j < n → (cs z).testBit j = true → x.testBit j = false → j ≠ w → met.testBit j = true) (hcl : ∀ j, j < n → met.testBit j = true → mo_dif ((cs (r0 j)) &&& (mo_dif ((2 ^ n) - 1) x)) met = 0) (hm : met.testBit w = false) : ¬ hq n (fun k j => (cs k).testBit j) z x r0 := by
  rintro ⟨r, hr, hx, w', hw', hwz', hne⟩
  have ew : w' = w := h0.2 w' w hw' hw (by rw [hwz', hwz])
  rw [ew] at hne
  have hcl2 : ∀ j i, j < n → met.testBit j = true → i < n → (cs (r0 j)).testBit i = true → x.testBit i = false → met.testBit i = true := fun j i hj hmj hi h1 h2 => by
    have e := congrArg (fun v => Nat.testBit v i) (hcl j hj hmj)
    have e2 : (mo_dif ((cs (r0 j)) &&& (mo_dif ((2 ^ n) - 1) x)) met).testBit i = (0 : Nat).testBit i := e
    rw [mo_dif_bit, Nat.testBit_and, fr_bit, Nat.zero_testBit, h1, h2, decide_eq_true hi] at e2
    cases e3 : met.testBit i with
    | true => rfl
    | false => rw [e3] at e2; cases e2
  have hbk : ∀ k, k < n → r0 (hs k) = k := fun k hk => (hh k hk).2
  have hD : ∀ a, a < n → x.testBit a = false → met.testBit a = false → hs (r a) < n ∧ x.testBit (hs (r a)) = false ∧ met.testBit (hs (r a)) = false := fun a ha h1 h2 => by
    have hra := hr.1 a ha
    refine ⟨(hh (r a) hra.1).1, ?_, ?_⟩
    · cases e : x.testBit (hs (r a)) with
      | false => rfl
      | true =>
        have e1 := hx (hs (r a)) (hh (r a) hra.1).1 e
        rw [hbk (r a) hra.1] at e1
        have e2 := hr.2 _ _ (hh (r a) hra.1).1 ha e1
        rw [e2, h1] at e
        cases e
    · cases e : met.testBit (hs (r a)) with
      | false => rfl
      | true =>
        have := hcl2 (hs (r a)) a (hh (r a) hra.1).1 e ha (by rw [hbk (r a) hra.1]; exact hra.2) h1
        rw [h2] at this
        cases this
  obtain ⟨a, ha, hDa, hfa⟩ := pg_on (D := fun a => !x.testBit a && !met.testBit a) (f := fun a => hs (r a)) (n := n) (w := w) (fun k hk hp => by
    have hp2 : (!x.testBit k && !met.testBit k) = true := hp
    have h1 : x.testBit k = false := by cases e : x.testBit k with | false => rfl | true => rw [e] at hp2; cases hp2
    have h2 : met.testBit k = false := by cases e : met.testBit k with | false => rfl | true => rw [e, Bool.not_true, Bool.and_false] at hp2; cases hp2
    obtain ⟨g1, g2, g3⟩ := hD k hk h1 h2
    refine ⟨g1, ?_⟩
    show (!x.testBit (hs (r k)) && !met.testBit (hs (r k))) = true
    rw [g2, g3]; rfl) (fun i j hi hj _ _ e => by
    have e2 : hs (r i) = hs (r j) := e
    have e3 := congrArg r0 e2
    rw [hbk _ (hr.1 i hi).1, hbk _ (hr.1 j hj).1] at e3
    exact hr.2 i j hi hj e3) hw (by show (!x.testBit w && !met.testBit w) = true; rw [hxw, hm]; rfl)
  have hfa2 : hs (r a) = w := hfa
  have hra : r a = z := by rw [← hbk (r a) (hr.1 a ha).1, hfa2, hwz]
  have hDa2 : (!x.testBit a && !met.testBit a) = true := hDa
  have h1 : x.testBit a = false := by cases e : x.testBit a with | false => rfl | true => rw [e] at hDa2; cases hDa2
  have h2 : met.testBit a = false := by cases e : met.testBit a with | false => rfl | true => rw [e, Bool.not_true, Bool.and_false] at hDa2; cases hDa2
  have h4 : (cs z).testBit a = true := by have := (hr.1 a ha).2; rw [hra] at this; exact this
  have := h3 a ha h4 h1 (fun e => hne (by rw [← e]; exact hra))
  rw [h2] at this
  cases this
theorem round_in {n : Nat} {cs : Nat → Nat} {z x w : Nat} {rs : Nat → Nat} (h0 : hd n (fun k j => (cs k).testBit j) rs) (hcs : ∀ k, k < n → cs k < 2 ^ n) (hw : w < n) (hwz : rs w = z) (hxw : x.testBit w = false) {s : Nat × Nat} (hs : rSI n (fun k j => (cs k).testBit j) z x w rs s.1) (hs2 : s.1 < 2 ^ n) :
    rSI n (fun k j => (cs k).testBit j) z x w rs (w_Model_goesRound_63 x n cs rs s).1 ∧ ((w_Model_goesRound_63 x n cs rs s).1 < 2 ^ n ∧ s.1 + (w_Model_goesRound_63 x n cs rs s).2 ≤ (w_Model_goesRound_63 x n cs rs s).1 ∧ (w_Model_goesRound_63 x n cs rs s).2 ≤ 1) ∧ ((w_Model_goesRound_63 x n cs rs s).2 = 0 → (w_Model_goesRound_63 x n cs rs s).1 = s.1 ∧ ∀ j, j < n → s.1.testBit j = true → mo_dif ((cs (rs j)) &&& (mo_dif ((2 ^ n) - 1) x)) s.1 = 0) := by
  have key := mo_it_inv (f := b_Model_goesRound_63 x n cs rs) (fun i t => rSI n (fun k j => (cs k).testBit j) z x w rs t.1 ∧ (t.1 < 2 ^ n ∧ s.1 + t.2 ≤ t.1 ∧ t.2 ≤ 1) ∧ (t.2 = 0 → t.1 = s.1 ∧ ∀ j, j < i → s.1.testBit j = true → mo_dif ((cs (rs j)) &&& (mo_dif ((2 ^ n) - 1) x)) s.1 = 0)) (k := n) (i := 0) (s := (s.1, 0)) ⟨hs, ⟨hs2, Nat.le_refl _, Nat.zero_le 1⟩, fun _ => ⟨rfl, fun j hj => absurd hj (Nat.not_lt_zero j)⟩⟩ (fun i t _ hi ht => by
    obtain ⟨h1, h2, h3⟩ := ht
    unfold b_Model_goesRound_63
    by_cases c1 : Nat.testBit t.1 i = true
    · rw [if_pos c1]
      by_cases c2 : (mo_dif ((cs (rs i)) &&& (mo_dif ((2 ^ n) - 1) x)) t.1) = 0
      · rw [if_pos c2]
        refine ⟨h1, h2, fun e => ⟨(h3 e).1, fun j hj hm => ?_⟩⟩
        by_cases d : j < i
        · exact (h3 e).2 j d hm
        · have : j = i := by omega
          rw [this, ← (h3 e).1]; exact c2
      · rw [if_neg c2]
        exact ⟨rSI_go h0 hw hwz hxw h1 c1, gr_inv h2 (Nat.lt_of_le_of_lt Nat.and_le_left (hcs _ (h0.1 i (by omega)).1)) c2, fun e => absurd e Nat.one_ne_zero⟩
    · rw [if_neg c1]
      refine ⟨h1, h2, fun e => ⟨(h3 e).1, fun j hj hm => ?_⟩⟩
      by_cases d : j < i
      · exact (h3 e).2 j d hm
      · have : j = i := by omega
        rw [this, ← (h3 e).1] at hm
        exact absurd hm c1)
  rw [Nat.zero_add] at key
  exact key
theorem round_r {n : Nat} {cs : Nat → Nat} {z x : Nat} {rs hs : Nat → Nat} (hn8 : n ≤ 8) (h0 : hd n (fun k j => (cs k).testBit j) rs) (hcs : ∀ k, k < n → cs k < 2 ^ n) (hh : ∀ k, k < n → hs k < n ∧ rs (hs k) = k) (hz : z < n) : (hq n (fun k j => (cs k).testBit j) z x rs ∧ o_Model_goesRound z x n cs hs rs = 1) ∨ (¬ hq n (fun k j => (cs k).testBit j) z x rs ∧ o_Model_goesRound z x n cs hs rs = 0) := by
  have hp8 : 2 ^ n ≤ 2 ^ 8 := Nat.pow_le_pow_right (by decide) hn8
  have hw := (hh z hz).1
  have hwz := (hh z hz).2
  generalize ew : hs z = w at hw hwz
  unfold o_Model_goesRound
  rw [ew, fr_bit, decide_eq_true hw, Bool.true_and]
  cases hxw : x.testBit w with
  | true =>
    refine Or.inr ⟨?_, by rw [if_neg (by decide)]⟩
    rintro ⟨r, hr, hx, w', hw', hwz', hne⟩
    have e2 : w' = w := h0.2 w' w hw' hw (by rw [hwz', hwz])
    rw [e2, hx w hw hxw, hwz] at hne
    exact hne rfl
  | false =>
    rw [Bool.not_false, if_pos rfl]
    have run : ∀ m i s, i + m = 300 → rSI n (fun k j => (cs k).testBit j) z x w rs s.1 → (s.1 < 2 ^ n ∧ s.2 ≤ 1 ∧ i + s.2 ≤ s.1 + 2) → (s.2 = 0 → s.1.testBit w = false ∧ ∀ j, j < n → s.1.testBit j = true → mo_dif ((cs (rs j)) &&& (mo_dif ((2 ^ n) - 1) x)) s.1 = 0) → (hq n (fun k j => (cs k).testBit j) z x rs ∧ mo_lp (b_Model_goesRound_52 z x n cs hs rs) m i s = .inr (.inr 1)) ∨ (¬ hq n (fun k j => (cs k).testBit j) z x rs ∧ ∃ u, mo_lp (b_Model_goesRound_52 z x n cs hs rs) m i s = .inr (.inl u)) := fun m => by
      induction m with
      | zero => intro i s hi _ h2 _; omega
      | succ m ih =>
        intro i s hi h1 h2 h3
        by_cases c : s.2 = 0
        · refine Or.inr ⟨round_no h0 hh hw hwz hxw h1.2.2 (h3 c).2 (h3 c).1, (s.1, s.2), mo_lp_inrS ?_⟩
          unfold b_Model_goesRound_52
          rw [if_pos c]
        · obtain ⟨g1, g2, g3⟩ := round_in h0 hcs hw hwz hxw h1 h2.1
          by_cases d : (w_Model_goesRound_63 x n cs rs s).1.testBit w = true
          · refine Or.inl ⟨g1.2.1 d, mo_lp_inrS ?_⟩
            unfold b_Model_goesRound_52
            rw [if_neg c, ew, if_pos d]
          · rw [mo_lp_inlS (s' := ((w_Model_goesRound_63 x n cs rs s).1, (w_Model_goesRound_63 x n cs rs s).2)) (by unfold b_Model_goesRound_52; rw [if_neg c, ew, if_neg d])]
            refine ih (i + 1) _ (by omega) g1 ⟨g2.1, g2.2.2, ?_⟩ (fun e => ⟨bit_f d, fun j hj hm => ?_⟩)
            · show i + 1 + (w_Model_goesRound_63 x n cs rs s).2 ≤ (w_Model_goesRound_63 x n cs rs s).1 + 2
              omega
            · have e2 := g3 e
              show mo_dif _ (w_Model_goesRound_63 x n cs rs s).1 = 0
              have hm2 : (w_Model_goesRound_63 x n cs rs s).1.testBit j = true := hm
              rw [e2.1] at hm2 ⊢
              exact e2.2 j hj hm2
    have h := run 300 0 ((mo_dif ((cs z) &&& (mo_dif ((2 ^ n) - 1) x)) (2 ^ w)), 1) (Nat.zero_add _) (rSI_0 h0 hw hwz) ⟨Nat.lt_of_le_of_lt (mo_dif_le _ _) (Nat.lt_of_le_of_lt Nat.and_le_left (hcs z hz)), Nat.le_refl 1, (by show 0 + 1 ≤ _ + 2; omega)⟩ (fun e => absurd e Nat.one_ne_zero)
    have hwd : w_Model_goesRound_52 z x n cs hs rs = mo_lp (b_Model_goesRound_52 z x n cs hs rs) 300 0 ((mo_dif ((cs z) &&& (mo_dif ((2 ^ n) - 1) x)) (2 ^ w)), 1) := by
      unfold w_Model_goesRound_52
      rw [ew]
    rw [hwd]
    rcases h with ⟨h1, h2⟩ | ⟨h1, u, h2⟩
    · exact Or.inl ⟨h1, by rw [h2]; rfl⟩
    · exact Or.inr ⟨h1, by rw [h2]; rfl⟩
