/-! Sets and lists in rows: more. -/
theorem mo_nI_bv (n : Nat) : (nI n).toBitVec = BitVec.ofNat 32 n := rfl
theorem mo_nor {a b : Int32} {A B : Nat} (ha : a = nI A) (hb : b = nI B) (hA : A < 2147483648) (hB : B < 2147483648) : a ||| b = nI (A ||| B) := by
  rw [ha, hb]
  apply Int32.toBitVec_inj.mp
  rw [Int32.toBitVec_or, mo_nI_bv, mo_nI_bv, mo_nI_bv, BitVec.ofNat_or]
theorem mo_nand {a b : Int32} {A B : Nat} (ha : a = nI A) (hb : b = nI B) (hA : A < 2147483648) (hB : B < 2147483648) : a &&& b = nI (A &&& B) := by
  rw [ha, hb]
  apply Int32.toBitVec_inj.mp
  rw [Int32.toBitVec_and, mo_nI_bv, mo_nI_bv, mo_nI_bv, BitVec.ofNat_and]
theorem mo_or_lt {A B : Nat} (hA : A < 4096) (hB : B < 4096) : A ||| B < 4096 := Nat.or_lt_two_pow (n := 12) hA hB
theorem mo_and_le (A B : Nat) : A &&& B ≤ A := Nat.and_le_left
theorem mo_p12 {k : Nat} (h : k < 12) : 2 ^ k < 4096 := Nat.pow_lt_pow_right (by decide) h
theorem mo_p12' {k : Nat} (h : k ≤ 12) : 2 ^ k ≤ 4096 := Nat.pow_le_pow_right (by decide) h
theorem mo_nshl_all : (List.range 31).all (fun k => decide ((1 : Int32) <<< (nI k &&& 31) = nI (2 ^ k))) = true := by decide +kernel
theorem mo_nshl {a : Int32} {k : Nat} (ha : a = nI k) (hk : k < 31) : (1 : Int32) <<< (a &&& 31) = nI (2 ^ k) := by
  rw [ha]
  exact of_decide_eq_true (List.all_eq_true.mp mo_nshl_all k (List.mem_range.mpr hk))
theorem mo_hasT {x k : Nat} (hk : k < 12) (hx : x < 4096) (h : x.testBit k = true) : mo_has (nI x) (nI k) = 1 := if_pos ((mo_bit_n hk hx).1.mpr h)
theorem mo_hasF {x k : Nat} (hk : k < 12) (hx : x < 4096) (h : ¬ x.testBit k = true) : mo_has (nI x) (nI k) = 0 := if_neg (fun z => h ((mo_bit_n hk hx).1.mp z))
/-- the name that a man gave -/
def tGave (T : mo_Tn) (d m : Nat) : Option Nat := if tGv T d m = 0 then none else some (tGv T d m - 1)
theorem tGave_N {T : mo_Tn} {d m : Nat} (e : tGave T d m = none) : nI (tGv T d m) - 1 = -1 := by
  unfold tGave at e
  by_cases c : tGv T d m = 0
  · rw [c]; rfl
  · rw [if_neg c] at e; cases e
theorem tGave_S {T : mo_Tn} {d m v : Nat} (e : tGave T d m = some v) : nI (tGv T d m) - 1 = nI v := by
  unfold tGave at e
  by_cases c : tGv T d m = 0
  · rw [if_pos c] at e; cases e
  · rw [if_neg c] at e
    cases e
    exact mo_nsub rfl rfl (by omega)
theorem tGave_lt {T : mo_Tn} (hv : mo_vT T) {d m v : Nat} (hd : d < 30) (hm : m < 8) (e : tGave T d m = some v) : v < tNames T := by
  have := vT_tGv hv hd hm
  unfold tGave at e
  by_cases c : tGv T d m = 0
  · rw [if_pos c] at e; cases e
  · rw [if_neg c] at e
    cases e
    omega
/-- a row and its count tell a list -/
def mo_li (I : Nat → Nat → Int32) (a f q : Nat) (xs : List Nat) : Prop := I a f = nI xs.length ∧ ∀ k, k < xs.length → I q k = nI (xs.getD k 0)
theorem mo_li_l1 {I : Nat → Nat → Int32} {a f q : Nat} {xs : List Nat} (h : q ≠ a) : mo_li (mo_l1 I a f q xs) a f q xs := ⟨mo_l1C _ _ _ _ _, fun _ hk => mo_l1A h hk⟩
theorem mo_li_of {I J : Nat → Nat → Int32} {a f q : Nat} {xs : List Nat} (h : mo_li I a f q xs) (h1 : J a f = I a f) (h2 : J q = I q) : mo_li J a f q xs := ⟨h1.trans h.1, fun k hk => by rw [h2]; exact h.2 k hk⟩
theorem mo_lwPk {I : Nat → Nat → Int32} {q k : Nat} {xs : List Nat} {v : Nat} (h : k = xs.length) : mo_up (mo_lw I q xs) q k (nI v) = mo_lw I q (xs ++ [v]) := by rw [h]; exact mo_lwP I q xs v
theorem mo_fiZ {α : Type} {H : Nat → Nat → α} {q N : Nat} {g : Nat → α} {k : Nat} (h : k < N) : mo_fi H q 0 N g q k = g k := by
  have := mo_fiA (H := H) (q := q) (c := 0) (g := g) h
  rw [Nat.zero_add] at this
  exact this
/-- what a name is worth on a day -/
def tW (T : mo_Tn) (dd : Int32) (n : Nat) : Int64 := o_Model_meanOf T (nI n) dd
theorem C_layWorths (l : Launch) (K : mo_K) (R : Nat → Nat → Nat) (I : Nat → Nat → Int32) (L : Nat → Nat → Int64) (a : Nat) (T : mo_Tn) (dd : Int32) (h : mo_md K R a) (hN : mo_now (I (R a 14)) T) : mo_D l mm_Model_layWorths 1 [.ref a, .int dd] (K, R, I, L, 0) none (K, R, I, mo_fi L (R a 25) 0 (tNames T) (tW T dd), 0) := by
  have e : mo_fi L (R a 25) 0 (tNames T) (tW T dd) = o_Model_layWorths R L a T dd := (mo_it_fill (fun k s _ _ => by rw [Nat.zero_add]; rfl)).symm
  rw [e]
  exact C_Model_layWorths l K R I L a T dd h hN
/-- those of a purse (or all) who come on a day -/
def tRow (T : mo_Tn) (dd p : Int32) : List Nat := (List.range (tMen T)).filter (fun m => Option.elim (tF T (nI m) dd) false (fun _ => decide (p = -1) || decide (tPurse T m = p)))
theorem tRow_eq (T : mo_Tn) (dd p : Int32) : w_Model_layRow_7 T dd p = tRow T dd p := by
  unfold w_Model_layRow_7 tRow
  rw [mo_it_filter (p := fun m => Option.elim (tF T (nI m) dd) false (fun _ => decide (p = -1) || decide (tPurse T m = p))), List.nil_append, List.range_eq_range']
  intro j s _ _
  unfold b_Model_layRow_7
  cases tF T (nI j) dd with
  | none => exact (if_neg (fun z => by cases z)).symm
  | some c =>
    show (if p = -1 then s ++ [j] else if tPurse T j = p then s ++ [j] else s) = if (decide (p = -1) || decide (tPurse T j = p)) = true then s ++ [j] else s
    by_cases c1 : p = -1
    · rw [if_pos c1, if_pos (by rw [decide_eq_true c1]; rfl)]
    · rw [if_neg c1, decide_eq_false c1]
      by_cases c2 : tPurse T j = p
      · rw [if_pos c2, if_pos (by rw [decide_eq_true c2]; rfl)]
      · rw [if_neg c2, if_neg (by rw [decide_eq_false c2]; decide)]
theorem tRow_len (T : mo_Tn) (dd p : Int32) : (tRow T dd p).length ≤ tMen T := by
  have := List.length_filter_le (fun m => Option.elim (tF T (nI m) dd) false (fun _ => decide (p = -1) || decide (tPurse T m = p))) (List.range (tMen T))
  rw [List.length_range] at this
  exact this
theorem tRow_lt {T : mo_Tn} {dd p : Int32} {k : Nat} (hk : k < (tRow T dd p).length) : (tRow T dd p).getD k 0 < tMen T := by
  rw [mo_getD hk]
  exact List.mem_range.mp (List.mem_filter.mp (List.getElem_mem hk)).1
theorem C_layRow (l : Launch) (K : mo_K) (R : Nat → Nat → Nat) (I : Nat → Nat → Int32) (L : Nat → Nat → Int64) (a : Nat) (T : mo_Tn) (dd p : Int32) (h : mo_md K R a) (hN : mo_now (I (R a 14)) T) : mo_D l mm_Model_layRow 2 [.ref a, .int dd, .int p] (K, R, I, L, 0) none (K, R, mo_l1 I a 29 (R a 26) (tRow T dd p), mo_fi L (R a 25) 0 (tNames T) (tW T dd), 0) := by
  have e : mo_fi L (R a 25) 0 (tNames T) (tW T dd) = w_Model_layWorths_2 R L a T dd := (mo_it_fill (fun k s _ _ => by rw [Nat.zero_add]; rfl)).symm
  rw [e, ← tRow_eq]
  exact C_Model_layRow l K R I L a T dd p h hN
