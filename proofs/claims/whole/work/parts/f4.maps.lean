/-! Fits as maps; and what the class leaves unknown is what is open. -/
theorem xb_bit {y j k : Nat} (hj : y.testBit j = true) : (y ^^^ 2 ^ j).testBit k = (y.testBit k && !decide (k = j)) := by
  rw [Nat.testBit_xor, Nat.testBit_two_pow]
  by_cases e : k = j
  · rw [decide_eq_true e, decide_eq_true e.symm, e, hj]; rfl
  · rw [decide_eq_false e, decide_eq_false (fun z => e z.symm), Bool.xor_false, Bool.not_false, Bool.and_true]
/-- a map of these names onto just these men -/
def fm (n : Nat) (B : Nat → Nat → Bool) (l : List Nat) (y : Nat) (r : Nat → Nat) : Prop := (∀ i, i ∈ l → r i < n ∧ B i (r i) = true ∧ y.testBit (r i) = true) ∧ (∀ i i', i ∈ l → i' ∈ l → r i = r i' → i = i') ∧ ∀ k, y.testBit k = true → ∃ i, i ∈ l ∧ r i = k
theorem fx_r {n : Nat} {B : Nat → Nat → Bool} : ∀ (l : List Nat) (y : Nat), l.Nodup → (fx n (l.map B) y = true ↔ ∃ r, fm n B l y r) := by
  intro l
  induction l with
  | nil =>
    intro y _
    show decide (y = 0) = true ↔ _
    constructor
    · intro h
      have e := of_decide_eq_true h
      exact ⟨fun i => i, fun i hi => absurd hi (List.not_mem_nil), fun i _ hi => absurd hi (List.not_mem_nil), fun k hk => by rw [e, Nat.zero_testBit] at hk; cases hk⟩
    · rintro ⟨r, _, _, h⟩
      refine decide_eq_true (Nat.eq_of_testBit_eq (fun k => ?_))
      rw [Nat.zero_testBit]
      cases e : y.testBit k with
      | false => rfl
      | true => obtain ⟨i, hi, _⟩ := h k e; exact absurd hi (List.not_mem_nil)
  | cons a l ih =>
    intro y hnd
    have hnd2 := List.nodup_cons.mp hnd
    show (List.range n).any (fun j => y.testBit j && B a j && fx n (l.map B) (y ^^^ 2 ^ j)) = true ↔ _
    rw [List.any_eq_true]
    constructor
    · rintro ⟨j, hj, h⟩
      rw [Bool.and_eq_true, Bool.and_eq_true] at h
      obtain ⟨⟨h1, h2⟩, h3⟩ := h
      obtain ⟨r, r1, r2, r3⟩ := (ih (y ^^^ 2 ^ j) hnd2.2).mp h3
      have hr1 : ∀ i, i ∈ l → y.testBit (r i) = true ∧ r i ≠ j := fun i hi => by
        have := (r1 i hi).2.2
        rw [xb_bit h1, Bool.and_eq_true] at this
        exact ⟨this.1, by simpa using this.2⟩
      have hia : ∀ i, i ∈ l → i ≠ a := fun i hi e => hnd2.1 (by rw [← e]; exact hi)
      refine ⟨fun i => if i = a then j else r i, fun i hi => ?_, fun i i' hi hi' e => ?_, fun k hk => ?_⟩
      · show (if i = a then j else r i) < n ∧ B i (if i = a then j else r i) = true ∧ y.testBit (if i = a then j else r i) = true
        by_cases c : i = a
        · rw [if_pos c, c]; exact ⟨List.mem_range.mp hj, h2, h1⟩
        · rw [if_neg c]
          have hil : i ∈ l := by rcases List.mem_cons.mp hi with e | e; exact absurd e c; exact e
          exact ⟨(r1 i hil).1, (r1 i hil).2.1, (hr1 i hil).1⟩
      · have e' : (if i = a then j else r i) = (if i' = a then j else r i') := e
        by_cases c : i = a
        · by_cases c' : i' = a
          · rw [c, c']
          · have hil : i' ∈ l := by rcases List.mem_cons.mp hi' with e | e; exact absurd e c'; exact e
            rw [if_pos c, if_neg c'] at e'
            exact absurd e'.symm (hr1 i' hil).2
        · have hil : i ∈ l := by rcases List.mem_cons.mp hi with e | e; exact absurd e c; exact e
          by_cases c' : i' = a
          · rw [if_neg c, if_pos c'] at e'
            exact absurd e' (hr1 i hil).2
          · have hil' : i' ∈ l := by rcases List.mem_cons.mp hi' with e | e; exact absurd e c'; exact e
            rw [if_neg c, if_neg c'] at e'
            exact r2 i i' hil hil' e'
      · show ∃ i, i ∈ a :: l ∧ (if i = a then j else r i) = k
        by_cases c : k = j
        · exact ⟨a, List.mem_cons_self, by rw [if_pos rfl, c]⟩
        · obtain ⟨i, hi, e⟩ := r3 k (by rw [xb_bit h1, hk, decide_eq_false c]; rfl)
          exact ⟨i, List.mem_cons_of_mem a hi, by rw [if_neg (hia i hi)]; exact e⟩
    · rintro ⟨r, r1, r2, r3⟩
      obtain ⟨g1, g2, g3⟩ := r1 a List.mem_cons_self
      refine ⟨r a, List.mem_range.mpr g1, ?_⟩
      show (y.testBit (r a) && B a (r a) && fx n (l.map B) (y ^^^ 2 ^ r a)) = true
      rw [g2, g3, Bool.true_and, Bool.true_and]
      have hia : ∀ i, i ∈ l → i ≠ a := fun i hi e => hnd2.1 (by rw [← e]; exact hi)
      have hne : ∀ i, i ∈ l → r i ≠ r a := fun i hi e => hia i hi (r2 i a (List.mem_cons_of_mem a hi) List.mem_cons_self e)
      refine (ih (y ^^^ 2 ^ r a) hnd2.2).mpr ⟨r, fun i hi => ?_, fun i i' hi hi' => r2 i i' (List.mem_cons_of_mem a hi) (List.mem_cons_of_mem a hi'), fun k hk => ?_⟩
      · obtain ⟨f1, f2, f3⟩ := r1 i (List.mem_cons_of_mem a hi)
        exact ⟨f1, f2, by rw [xb_bit g3, f3, decide_eq_false (hne i hi)]; rfl⟩
      · rw [xb_bit g3, Bool.and_eq_true] at hk
        have hk2 : k ≠ r a := by simpa using hk.2
        obtain ⟨i, hi, e⟩ := r3 k hk.1
        rcases List.mem_cons.mp hi with e2 | e2
        · rw [e2] at e; exact absurd e.symm hk2
        · exact ⟨i, e2, e⟩
theorem nl_mem {n x i : Nat} : i ∈ nl n x ↔ (i < n ∧ x.testBit i = true) := by
  unfold nl
  rw [List.mem_filter, List.mem_range]
theorem nl_nodup (n x : Nat) : (nl n x).Nodup := List.Pairwise.filter _ List.nodup_range
theorem lo_pos {p : Nat → Bool} : ∀ {n : Nat}, 0 < lo_ct p n → ∃ i, i < n ∧ p i = true := by
  intro n
  induction n with
  | zero => intro h; exact absurd h (Nat.lt_irrefl 0)
  | succ n ih =>
    intro h
    have h2 : 0 < lo_ct p n + (if p n = true then 1 else 0) := h
    by_cases c : p n = true
    · exact ⟨n, by omega, c⟩
    · rw [if_neg c, Nat.add_zero] at h2
      obtain ⟨i, hi, e⟩ := ih h2
      exact ⟨i, by omega, e⟩
theorem lo_has {p : Nat → Bool} {n i : Nat} (hi : i < n) (h : p i = true) : 0 < lo_ct p n := by
  rw [lo_ct_out hi, if_pos h]; omega
theorem lo_two {p : Nat → Bool} {n : Nat} : ¬ lo_ct p n ≤ 1 ↔ ∃ i i', i < n ∧ i' < n ∧ i ≠ i' ∧ p i = true ∧ p i' = true := by
  constructor
  · intro h
    obtain ⟨i, hi, e⟩ := lo_pos (p := p) (n := n) (by omega)
    have h2 := lo_ct_out (p := p) hi
    rw [if_pos e] at h2
    obtain ⟨i', hi', e'⟩ := lo_pos (p := fun k => p k && !decide (k = i)) (n := n) (by omega)
    have e2 : (p i' && !decide (i' = i)) = true := e'
    rw [Bool.and_eq_true] at e2
    exact ⟨i, i', hi, hi', fun z => (by have := e2.2; rw [decide_eq_true z.symm] at this; cases this), e, e2.1⟩
  · rintro ⟨i, i', hi, hi', hne, e, e'⟩ h
    have h2 := lo_ct_out (p := p) hi
    rw [if_pos e] at h2
    have h3 := lo_has (p := fun k => p k && !decide (k = i)) hi' (by show (p i' && !decide (i' = i)) = true; rw [e', decide_eq_false (fun z => hne z.symm)]; rfl)
    omega
/-- the asked names by these men, one name to the man, the others by the rest -/
theorem hd_join {n : Nat} {A : Nat → Nat → Bool} {x y z i : Nat} {r1 r2 : Nat → Nat} (hz : z < n) (hi : i < n) (hyz : y.testBit z = false) (hAi : A z i = true) (h1 : fm n (fun i k => A k i) (nl n x) y r1) (h2 : fm n (fun i k => A k i) (nl n (mo_dif (mo_dif (2 ^ n - 1) x) (2 ^ i))) (mo_dif (mo_dif (2 ^ n - 1) (2 ^ z)) y) r2) : hd n A (fun j => if x.testBit j = true then r1 j else if j = i then z else r2 j) := by
  obtain ⟨a1, a2, a3⟩ := h1
  obtain ⟨b1, b2, b3⟩ := h2
  have m2 : ∀ j, j < n → ¬ x.testBit j = true → j ≠ i → j ∈ nl n (mo_dif (mo_dif (2 ^ n - 1) x) (2 ^ i)) := fun j hj hx hne => nl_mem.mpr ⟨hj, by
    rw [mo_dif_bit, fr_bit, decide_eq_true hj, bit_f hx, Nat.testBit_two_pow, decide_eq_false (fun e => hne e.symm)]; rfl⟩
  have v2 : ∀ j, j < n → ¬ x.testBit j = true → j ≠ i → r2 j ≠ z ∧ y.testBit (r2 j) = false := fun j hj hx hne => by
    have := (b1 j (m2 j hj hx hne)).2.2
    rw [mo_dif_bit, mo_dif_bit, Nat.testBit_two_pow, Bool.and_eq_true, Bool.and_eq_true] at this
    refine ⟨fun e => ?_, ?_⟩
    · have h3 := this.1.2; rw [decide_eq_true e.symm] at h3; cases h3
    · have h3 := this.2
      cases e : y.testBit (r2 j) with
      | false => rfl
      | true => rw [e] at h3; cases h3
  refine ⟨fun j hj => ?_, fun j j' hj hj' e => ?_⟩
  · show (if x.testBit j = true then r1 j else if j = i then z else r2 j) < n ∧ A (if x.testBit j = true then r1 j else if j = i then z else r2 j) j = true
    by_cases c : x.testBit j = true
    · rw [if_pos c]
      exact ⟨(a1 j (nl_mem.mpr ⟨hj, c⟩)).1, (a1 j (nl_mem.mpr ⟨hj, c⟩)).2.1⟩
    · rw [if_neg c]
      by_cases d : j = i
      · rw [if_pos d, d]; exact ⟨hz, hAi⟩
      · rw [if_neg d]
        exact ⟨(b1 j (m2 j hj c d)).1, (b1 j (m2 j hj c d)).2.1⟩
  · have e' : (if x.testBit j = true then r1 j else if j = i then z else r2 j) = (if x.testBit j' = true then r1 j' else if j' = i then z else r2 j') := e
    by_cases c : x.testBit j = true
    · have f1 := (a1 j (nl_mem.mpr ⟨hj, c⟩)).2.2
      rw [if_pos c] at e'
      by_cases c' : x.testBit j' = true
      · rw [if_pos c'] at e'
        exact a2 j j' (nl_mem.mpr ⟨hj, c⟩) (nl_mem.mpr ⟨hj', c'⟩) e'
      · rw [if_neg c'] at e'
        by_cases d' : j' = i
        · rw [if_pos d'] at e'; rw [e', hyz] at f1; cases f1
        · rw [if_neg d'] at e'; rw [e', (v2 j' hj' c' d').2] at f1; cases f1
    · rw [if_neg c] at e'
      by_cases c' : x.testBit j' = true
      · have f1 := (a1 j' (nl_mem.mpr ⟨hj', c'⟩)).2.2
        rw [if_pos c'] at e'
        by_cases d : j = i
        · rw [if_pos d] at e'; rw [← e', hyz] at f1; cases f1
        · rw [if_neg d] at e'; rw [← e', (v2 j hj c d).2] at f1; cases f1
      · rw [if_neg c'] at e'
        by_cases d : j = i
        · by_cases d' : j' = i
          · rw [d, d']
          · rw [if_pos d, if_neg d'] at e'
            exact absurd e'.symm (v2 j' hj' c' d').1
        · by_cases d' : j' = i
          · rw [if_neg d, if_pos d'] at e'
            exact absurd e' (v2 j hj c d).1
          · rw [if_neg d, if_neg d'] at e'
            exact b2 j j' (m2 j hj c d) (m2 j' hj' c' d') e'
/-- the men who have the asked names -/
theorem fm_of {n : Nat} {A : Nat → Nat → Bool} {x : Nat} {r : Nat → Nat} (h : hd n A r) {y : Nat} (hy : ∀ k, y.testBit k = true ↔ ∃ j, j < n ∧ x.testBit j = true ∧ r j = k) : fm n (fun i k => A k i) (nl n x) y r := by
  refine ⟨fun i hi => ?_, fun i i' hi hi' => h.2 i i' (nl_mem.mp hi).1 (nl_mem.mp hi').1, fun k hk => ?_⟩
  · have := nl_mem.mp hi
    exact ⟨(h.1 i this.1).1, (h.1 i this.1).2, (hy (r i)).mpr ⟨i, this.1, this.2, rfl⟩⟩
  · obtain ⟨j, h1, h2, h3⟩ := (hy k).mp hk
    exact ⟨j, nl_mem.mpr ⟨h1, h2⟩, h3⟩
theorem fm_rest {n : Nat} {A : Nat → Nat → Bool} {x z w : Nat} {r : Nat → Nat} (h : hd n A r) (hw : w < n) (hwz : r w = z) (hxw : x.testBit w = false) {y : Nat} (hy : ∀ k, y.testBit k = true ↔ ∃ j, j < n ∧ x.testBit j = true ∧ r j = k) : fm n (fun i k => A k i) (nl n (mo_dif (mo_dif (2 ^ n - 1) x) (2 ^ w))) (mo_dif (mo_dif (2 ^ n - 1) (2 ^ z)) y) r := by
  have mb : ∀ i, (mo_dif (mo_dif (2 ^ n - 1) x) (2 ^ w)).testBit i = ((decide (i < n) && !x.testBit i) && !decide (w = i)) := fun i => by rw [mo_dif_bit, fr_bit, Nat.testBit_two_pow]
  have yb : ∀ k, (mo_dif (mo_dif (2 ^ n - 1) (2 ^ z)) y).testBit k = ((decide (k < n) && !decide (z = k)) && !y.testBit k) := fun k => by rw [mo_dif_bit, fr_bit, Nat.testBit_two_pow]
  refine fm_of h (fun k => ?_)
  rw [yb k, Bool.and_eq_true, Bool.and_eq_true]
  constructor
  · rintro ⟨⟨h1, h2⟩, h3⟩
    obtain ⟨j, hj, e⟩ := hd_on h (of_decide_eq_true h1)
    have hxj : x.testBit j = false := by
      cases e2 : x.testBit j with
      | false => rfl
      | true => rw [(hy k).mpr ⟨j, hj, e2, e⟩] at h3; cases h3
    have hjw : w ≠ j := fun e2 => by
      rw [← e2, hwz] at e
      rw [decide_eq_true e] at h2; cases h2
    exact ⟨j, hj, by rw [mb j, decide_eq_true hj, hxj, decide_eq_false hjw]; rfl, e⟩
  · rintro ⟨j, hj, hb, e⟩
    rw [mb j, Bool.and_eq_true, Bool.and_eq_true] at hb
    have hxj : ¬ x.testBit j = true := fun e2 => by have := hb.1.2; rw [e2] at this; cases this
    have hjw : ¬ w = j := fun e2 => by have := hb.2; rw [decide_eq_true e2] at this; cases this
    refine ⟨⟨decide_eq_true (by rw [← e]; exact (h.1 j hj).1), ?_⟩, ?_⟩
    · rw [decide_eq_false (fun e2 => hjw (h.2 w j hw hj (by rw [hwz, e2, e])))]; rfl
    · cases e2 : y.testBit k with
      | false => rfl
      | true =>
        obtain ⟨j2, g1, g2, g3⟩ := (hy k).mp e2
        have := h.2 j2 j g1 hj (by rw [g3, e])
        rw [this] at g2
        exact absurd g2 hxj
theorem leaves_amb {R : Nat → Nat → Nat} {L : Nat → Nat → Int64} {g n : Nat} {ms cs : Nat → Nat} (hn : n ≤ 8) (hms : ∀ i k, i < n → k < n → (ms i).testBit k = (cs k).testBit i) {x z : Nat} (hx : x < 2 ^ n) (hz : z < n) : (∃ y, y < 256 ∧ fB (w_Guess_fillFits_17 R L g n ms (R (R g 4) 6)) x y = true ∧ tPk R (w_Guess_fillFits_17 R L g n ms) g n ms x z y = true) ↔ amb n (fun k j => (cs k).testBit j) z x := by
  have hp8 := mo_p8 hn
  have hp := Nat.two_pow_pos n
  have dlt : ∀ u v, mo_dif (mo_dif (2 ^ n - 1) u) v < 2 ^ n := fun u v => by
    have h1 := mo_dif_le (mo_dif (2 ^ n - 1) u) v
    have h2 := mo_dif_le (2 ^ n - 1) u
    omega
  have fit : ∀ x y, x < 2 ^ n → y < 2 ^ n → (fB (w_Guess_fillFits_17 R L g n ms (R (R g 4) 6)) x y = true ↔ ∃ r, fm n (fun i k => (cs k).testBit i) (nl n x) y r) := fun x y hx hy => by
    rw [(fill_r hn).2 x y hx hy]
    refine (fx_r (B := fun i j => (ms i).testBit j) (nl n x) y (nl_nodup n x)).trans ⟨?_, ?_⟩
    · rintro ⟨r, h1, h2, h3⟩
      exact ⟨r, fun i hi => ⟨(h1 i hi).1, by show (cs (r i)).testBit i = true; rw [← hms i (r i) (nl_mem.mp hi).1 (h1 i hi).1]; exact (h1 i hi).2.1, (h1 i hi).2.2⟩, h2, h3⟩
    · rintro ⟨r, h1, h2, h3⟩
      exact ⟨r, fun i hi => ⟨(h1 i hi).1, by show (ms i).testBit (r i) = true; rw [hms i (r i) (nl_mem.mp hi).1 (h1 i hi).1]; exact (h1 i hi).2.1, (h1 i hi).2.2⟩, h2, h3⟩
  have pk : ∀ y, tPk R (w_Guess_fillFits_17 R L g n ms) g n ms x z y = true ↔ (y.testBit z = false ∧ ∃ i i', i < n ∧ i' < n ∧ i ≠ i' ∧ ((mo_dif (2 ^ n - 1) x).testBit i && (ms i).testBit z && fB (w_Guess_fillFits_17 R L g n ms (R (R g 4) 6)) (mo_dif (mo_dif (2 ^ n - 1) x) (2 ^ i)) (mo_dif (mo_dif (2 ^ n - 1) (2 ^ z)) y)) = true ∧ ((mo_dif (2 ^ n - 1) x).testBit i' && (ms i').testBit z && fB (w_Guess_fillFits_17 R L g n ms (R (R g 4) 6)) (mo_dif (mo_dif (2 ^ n - 1) x) (2 ^ i')) (mo_dif (mo_dif (2 ^ n - 1) (2 ^ z)) y)) = true) := fun y => by
    unfold tPk
    rw [Bool.and_eq_true, choice_r]
    have h2 := lo_two (p := fun i => (mo_dif (2 ^ n - 1) x).testBit i && (ms i).testBit z && fB (w_Guess_fillFits_17 R L g n ms (R (R g 4) 6)) (mo_dif (mo_dif (2 ^ n - 1) x) (2 ^ i)) (mo_dif (mo_dif (2 ^ n - 1) (2 ^ z)) y)) (n := n)
    refine and_congr ?_ (Iff.trans ?_ h2)
    · cases y.testBit z <;> decide
    · by_cases c : lo_ct (fun i => (mo_dif (2 ^ n - 1) x).testBit i && (ms i).testBit z && fB (w_Guess_fillFits_17 R L g n ms (R (R g 4) 6)) (mo_dif (mo_dif (2 ^ n - 1) x) (2 ^ i)) (mo_dif (mo_dif (2 ^ n - 1) (2 ^ z)) y)) n ≤ 1
      · rw [if_pos c]
        exact ⟨fun e => (by cases e), fun e => absurd c e⟩
      · rw [if_neg c]
        exact ⟨fun _ => c, fun _ => rfl⟩
  constructor
  · rintro ⟨y, hy, hf, ht⟩
    have hy2 : y < 2 ^ n := Nat.not_le.mp (fun e => by rw [fill_hi hn x y hx e hy] at hf; cases hf)
    obtain ⟨hyz, i, i', hi, hi', hne, e, e'⟩ := (pk y).mp ht
    rw [Bool.and_eq_true, Bool.and_eq_true] at e e'
    obtain ⟨r1, h1⟩ := (fit x y hx hy2).mp hf
    obtain ⟨r2, h2⟩ := (fit _ _ (dlt x (2 ^ i)) (dlt (2 ^ z) y)).mp e.2
    obtain ⟨r3, h3⟩ := (fit _ _ (dlt x (2 ^ i')) (dlt (2 ^ z) y)).mp e'.2
    have hA : (cs z).testBit i = true := by rw [← hms i z hi hz]; exact e.1.2
    have hA' : (cs z).testBit i' = true := by rw [← hms i' z hi' hz]; exact e'.1.2
    have hxi : x.testBit i = false := by
      have := e.1.1
      rw [fr_bit, Bool.and_eq_true] at this
      cases e2 : x.testBit i with
      | false => rfl
      | true => rw [e2] at this; cases this.2
    have hxi' : x.testBit i' = false := by
      have := e'.1.1
      rw [fr_bit, Bool.and_eq_true] at this
      cases e2 : x.testBit i' with
      | false => rfl
      | true => rw [e2] at this; cases this.2
    have H1 := hd_join (A := fun k j => (cs k).testBit j) hz hi hyz hA h1 h2
    have H2 := hd_join (A := fun k j => (cs k).testBit j) hz hi' hyz hA' h1 h3
    refine ⟨_, H1, _, H2, fun j hj hxj => ?_, i, hi, ?_, fun e3 => hne ?_⟩
    · show (if x.testBit j = true then r1 j else if j = i' then z else r3 j) = (if x.testBit j = true then r1 j else if j = i then z else r2 j)
      rw [if_pos hxj, if_pos hxj]
    · show (if x.testBit i = true then r1 i else if i = i then z else r2 i) = z
      rw [if_neg (by rw [hxi]; decide), if_pos rfl]
    · refine H2.2 i i' hi hi' (e3.trans ?_)
      show z = (if x.testBit i' = true then r1 i' else if i' = i' then z else r3 i')
      rw [if_neg (by rw [hxi']; decide), if_pos rfl]
  · rintro ⟨r, h1, r', h2, hag, w, hw, hwz, hwz'⟩
    have hxw : x.testBit w = false := by
      cases e : x.testBit w with
      | false => rfl
      | true => exact absurd ((hag w hw e).trans hwz) hwz'
    obtain ⟨w', hw', e'⟩ := hd_on h2 hz
    have hww : w ≠ w' := fun e => hwz' (by rw [e]; exact e')
    have hxw' : x.testBit w' = false := by
      cases e : x.testBit w' with
      | false => rfl
      | true => exact absurd (h1.2 w w' hw hw' (by rw [hwz, ← hag w' hw' e, e'])) hww
    have hyb : ∀ k, (mo_bs (fun k => (List.range n).any (fun j => x.testBit j && decide (r j = k))) n).testBit k = true ↔ ∃ j, j < n ∧ x.testBit j = true ∧ r j = k := fun k => by
      rw [mo_bs_bit, Bool.and_eq_true, List.any_eq_true]
      constructor
      · rintro ⟨_, j, hj, h3⟩
        rw [Bool.and_eq_true] at h3
        exact ⟨j, List.mem_range.mp hj, h3.1, of_decide_eq_true h3.2⟩
      · rintro ⟨j, hj, h3, h4⟩
        exact ⟨decide_eq_true (by rw [← h4]; exact (h1.1 j hj).1), j, List.mem_range.mpr hj, by rw [h3, decide_eq_true h4]; rfl⟩
    have hylt := mo_bs_lt (fun k => (List.range n).any (fun j => x.testBit j && decide (r j = k))) n
    generalize mo_bs (fun k => (List.range n).any (fun j => x.testBit j && decide (r j = k))) n = y at hyb hylt
    have hyb' : ∀ k, y.testBit k = true ↔ ∃ j, j < n ∧ x.testBit j = true ∧ r' j = k := fun k => by
      rw [hyb k]
      constructor
      · rintro ⟨j, hj, h3, h4⟩; exact ⟨j, hj, h3, by rw [hag j hj h3]; exact h4⟩
      · rintro ⟨j, hj, h3, h4⟩; exact ⟨j, hj, h3, by rw [← hag j hj h3]; exact h4⟩
    have hyz : y.testBit z = false := by
      cases e : y.testBit z with
      | false => rfl
      | true =>
        obtain ⟨j, hj, h3, h4⟩ := (hyb z).mp e
        rw [h1.2 j w hj hw (by rw [h4, hwz]), hxw] at h3
        cases h3
    refine ⟨y, by omega, (fit x y hx hylt).mpr ⟨r, fm_of h1 hyb⟩, (pk y).mpr ⟨hyz, w, w', hw, hw', hww, ?_, ?_⟩⟩
    · rw [Bool.and_eq_true, Bool.and_eq_true]
      refine ⟨⟨by rw [fr_bit, decide_eq_true hw, hxw]; rfl, ?_⟩, (fit _ _ (dlt x (2 ^ w)) (dlt (2 ^ z) y)).mpr ⟨r, fm_rest h1 hw hwz hxw hyb⟩⟩
      rw [hms w z hw hz]
      have := (h1.1 w hw).2
      rw [hwz] at this
      exact this
    · rw [Bool.and_eq_true, Bool.and_eq_true]
      refine ⟨⟨by rw [fr_bit, decide_eq_true hw', hxw']; rfl, ?_⟩, (fit _ _ (dlt x (2 ^ w')) (dlt (2 ^ z) y)).mpr ⟨r', fm_rest h2 hw' e' hxw' hyb'⟩⟩
      rw [hms w' z hw' hz]
      have := (h2.1 w' hw').2
      rw [e'] at this
      exact this
theorem vague_amb {R : Nat → Nat → Nat} {L : Nat → Nat → Int64} {g n : Nat} {ms cs : Nat → Nat} (hn : n ≤ 8) (hms : ∀ i k, i < n → k < n → (ms i).testBit k = (cs k).testBit i) {x z : Nat} (hx : x < 2 ^ n) (hz : z < n) : tVg n (fun y => !decide (o_Guess_leavesUnknown R (w_Guess_fillFits_17 R L g n ms) g n ms y z = 0)) x = true ↔ amb n (fun k j => (cs k).testBit j) z x := by
  have lv : ∀ y, y < 2 ^ n → ((!decide (o_Guess_leavesUnknown R (w_Guess_fillFits_17 R L g n ms) g n ms y z = 0)) = true ↔ amb n (fun k j => (cs k).testBit j) z y) := fun y hy => by
    rw [← leaves_amb (R := R) (L := L) (g := g) hn hms hy hz]
    rcases leaves_r (R := R) (L := w_Guess_fillFits_17 R L g n ms) (g := g) (n := n) (ms := ms) (x := y) (z := z) with ⟨h1, h2⟩ | ⟨h1, h2⟩
    · rw [h2]; exact ⟨fun _ => h1, fun _ => rfl⟩
    · rw [h2]
      refine ⟨fun e => (by cases e), ?_⟩
      rintro ⟨y2, g1, g2, g3⟩
      rw [h1 y2 g1 g2] at g3
      cases g3
  rw [tVg_iff]
  constructor
  · rintro ⟨y, h1, h2, h3⟩
    obtain ⟨r, k1, r', k2, k3, k4⟩ := (lv y h1).mp h3
    exact ⟨r, k1, r', k2, fun j hj hxj => k3 j hj (h2 j hj hxj), k4⟩
  · intro h
    exact ⟨x, hx, fun _ _ e => e, (lv x hx).mpr h⟩
