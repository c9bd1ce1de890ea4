/-! Means: what the class sums is what the reference sums; mean, out, envies, rests. -/
/-- amounts are of at most two digits -/
def mo_gT (T : mo_Tn) : Prop := ∀ k, k < tBrs T → ∃ v, v ≤ 99 ∧ (tGa T k = nI v ∨ tGa T k = -(nI v))
def gp_ok (x : Int32) (k o : Nat) : Bool := decide (Int32.toInt64 (x * (nI k * (27720 / nI o))) = (Int32.toInt64 x * Int32.toInt64 (nI k)) * (27720 / Int32.toInt64 (nI o))) && decide (-2744280 ≤ (Int32.toInt64 (x * (nI k * (27720 / nI o)))).toInt ∧ (Int32.toInt64 (x * (nI k * (27720 / nI o)))).toInt ≤ 2744280)
set_option maxRecDepth 100000 in
theorem gp_all : (List.range 100).all (fun v => (List.range 12).all (fun o => (List.range (o + 2)).all (fun k => gp_ok (nI v) k (o + 1) && gp_ok (-(nI v)) k (o + 1)))) = true := by decide +kernel
theorem os_all : (List.range 100).all (fun v => decide ((Int32.toInt64 (nI v) * 27720).toInt = (v : Int) * 27720)) = true := by decide +kernel
theorem gp_eq {T : mo_Tn} (hv : mo_vT T) (hG : mo_gT T) {i : Nat} (hi : i < tBrs T) : Int32.toInt64 (tGp T i) = (Int32.toInt64 (tGa T i) * Int32.toInt64 (nI (tGk T i))) * (27720 / Int32.toInt64 (nI (tGo T i))) ∧ -2744280 ≤ (Int32.toInt64 (tGp T i)).toInt ∧ (Int32.toInt64 (tGp T i)).toInt ≤ 2744280 := by
  obtain ⟨v, hv9, hx⟩ := hG i hi
  have h1 := vT_tGo hv hi
  have h2 := vT_tGk hv hi
  have k := List.all_eq_true.mp (List.all_eq_true.mp (List.all_eq_true.mp gp_all v (List.mem_range.mpr (by omega))) (tGo T i - 1) (List.mem_range.mpr (by omega))) (tGk T i) (List.mem_range.mpr (by omega))
  rw [show tGo T i - 1 + 1 = tGo T i by omega, Bool.and_eq_true] at k
  unfold tGp
  rcases hx with e | e
  · rw [e]
    have k1 := k.1
    unfold gp_ok at k1
    rw [Bool.and_eq_true] at k1
    exact ⟨of_decide_eq_true k1.1, of_decide_eq_true k1.2⟩
  · rw [e]
    have k1 := k.2
    unfold gp_ok at k1
    rw [Bool.and_eq_true] at k1
    exact ⟨of_decide_eq_true k1.1, of_decide_eq_true k1.2⟩
theorem os_eq {T : mo_Tn} (hv : mo_vT T) {i : Nat} (hi : i < tOws T) : (Int32.toInt64 (nI (tOs T i)) * 27720).toInt = (tOs T i : Int) * 27720 := by
  have := vT_tOs hv hi
  exact of_decide_eq_true (List.all_eq_true.mp os_all (tOs T i) (List.mem_range.mpr (by omega)))
theorem su_w {T : mo_Tn} (hv : mo_vT T) (hG : mo_gT T) {d : Int32} {n : Nat} (hn : n < 12) : tSu T d n = tW T d n := by
  have hN := vT_tNames hv
  unfold tSu tW o_Model_meanOf w_Model_meanOf_98 w_Model_meanOf_5
  have e1 : mo_it (tS1 T d n) (tBrs T) 0 0 = mo_it (b_Model_meanOf_5 T (nI n) d) (tBrs T) 0 0 := mo_it_congr (fun i _ hi s => by
    have hg := vT_tGn hv (m := i) (by omega)
    have q : nI (tGn T i) = nI n ↔ n = tGn T i := ⟨fun z => ((nI_eq (by omega) (by omega)).mp z).symm, fun z => by rw [← z]⟩
    unfold tS1 b_Model_meanOf_5
    rw [(gp_eq hv hG (i := i) (by omega)).1]
    by_cases c1 : nI (tGd T i) = d
    · rw [if_pos c1, if_pos c1]
      by_cases c2 : n = tGn T i
      · rw [if_pos c2, if_pos (q.mpr c2)]
      · rw [if_neg c2, if_neg (fun z => c2 (q.mp z))]
    · rw [if_neg c1, if_neg c1, ite_self])
  rw [e1]
  refine mo_it_congr (fun i _ hi s => ?_)
  have hf := vT_tOf hv (m := i) (by omega)
  have ht := vT_tOt hv (m := i) (by omega)
  have q1 : nI (tOf T i) = nI n ↔ n = tOf T i := ⟨fun z => ((nI_eq (by omega) (by omega)).mp z).symm, fun z => by rw [← z]⟩
  have q2 : nI (tOt T i) = nI n ↔ n = tOt T i := ⟨fun z => ((nI_eq (by omega) (by omega)).mp z).symm, fun z => by rw [← z]⟩
  unfold tS2 b_Model_meanOf_98
  by_cases c1 : nI (tOd T i) = d
  · rw [if_pos c1, if_pos c1]
    by_cases c2 : n = tOf T i
    · by_cases c3 : n = tOt T i
      · rw [if_pos c3, if_pos c2, if_pos (q1.mpr c2), if_pos (q2.mpr c3)]
      · rw [if_neg c3, if_pos c2, if_pos (q1.mpr c2), if_neg (fun z => c3 (q2.mp z))]
    · by_cases c3 : n = tOt T i
      · rw [if_pos c3, if_neg c2, if_neg (fun z => c2 (q1.mp z)), if_pos (q2.mpr c3)]
      · rw [if_neg c3, if_neg c2, if_neg (fun z => c2 (q1.mp z)), if_neg (fun z => c3 (q2.mp z))]
  · rw [if_neg c1, if_neg c1]
theorem mo_bd {x y : Int64} {c b : Int} (hc : c < 1000000000000000) (hx : -c ≤ x.toInt ∧ x.toInt ≤ c) (hb : 0 ≤ b ∧ b ≤ 1099511627776) (hy : -b ≤ y.toInt ∧ y.toInt ≤ b) : -(c + b) ≤ (x + y).toInt ∧ (x + y).toInt ≤ c + b := by
  have e : (x + y).toInt = x.toInt + y.toInt := by
    rw [Int64.toInt_add]
    exact Int.bmod_eq_of_le (by omega) (by omega)
  rw [e]
  omega
theorem mo_bdS {x y : Int64} {c b : Int} (hc : c < 1000000000000000) (hx : -c ≤ x.toInt ∧ x.toInt ≤ c) (hb : 0 ≤ b ∧ b ≤ 1099511627776) (hy : -b ≤ y.toInt ∧ y.toInt ≤ b) : -(c + b) ≤ (x - y).toInt ∧ (x - y).toInt ≤ c + b := by
  have e : (x - y).toInt = x.toInt - y.toInt := by
    rw [Int64.toInt_sub]
    exact Int.bmod_eq_of_le (by omega) (by omega)
  rw [e]
  omega
/-- means are small -/
theorem su_b {T : mo_Tn} (hv : mo_vT T) (hG : mo_gT T) {d : Int32} {n : Nat} : -329313600 ≤ (tSu T d n).toInt ∧ (tSu T d n).toInt ≤ 329313600 := by
  have hB := vT_tBrs hv
  have hO := vT_tOws hv
  have k1 := mo_it_inv (f := tS1 T d n) (fun i s => -((i : Int) * 2744280) ≤ s.toInt ∧ s.toInt ≤ (i : Int) * 2744280) (k := tBrs T) (i := 0) (s := 0) ⟨by decide, by decide⟩ (fun i s _ hi hs => by
    have keep : -(((i + 1 : Nat) : Int) * 2744280) ≤ s.toInt ∧ s.toInt ≤ ((i + 1 : Nat) : Int) * 2744280 := by omega
    unfold tS1
    by_cases c1 : nI (tGd T i) = d
    · rw [if_pos c1]
      by_cases c2 : n = tGn T i
      · rw [if_pos c2]
        have := mo_bd (c := (i : Int) * 2744280) (b := 2744280) (by omega) hs (by decide) (gp_eq hv hG (i := i) (by omega)).2
        omega
      · rw [if_neg c2]; exact keep
    · rw [if_neg c1]; exact keep)
  rw [Nat.zero_add] at k1
  have k2 := mo_it_inv (f := tS2 T d n) (fun i s => -(((tBrs T : Int) + 2 * (i : Int)) * 2744280) ≤ s.toInt ∧ s.toInt ≤ ((tBrs T : Int) + 2 * (i : Int)) * 2744280) (k := tOws T) (i := 0) (s := mo_it (tS1 T d n) (tBrs T) 0 0) (by omega) (fun i s _ hi hs => by
    have ho := os_eq hv (i := i) (by omega)
    have ho2 := vT_tOs hv (m := i) (by omega)
    have hy : -2744280 ≤ (Int32.toInt64 (nI (tOs T i)) * 27720).toInt ∧ (Int32.toInt64 (nI (tOs T i)) * 27720).toInt ≤ 2744280 := by omega
    have hA := mo_bd (c := ((tBrs T : Int) + 2 * (i : Int)) * 2744280) (b := 2744280) (by omega) hs (by decide) hy
    have hS := mo_bdS (c := ((tBrs T : Int) + 2 * (i : Int)) * 2744280) (b := 2744280) (by omega) hs (by decide) hy
    have hSA := mo_bd (c := ((tBrs T : Int) + 2 * (i : Int)) * 2744280 + 2744280) (b := 2744280) (by omega) hS (by decide) hy
    unfold tS2
    by_cases c1 : nI (tOd T i) = d
    · rw [if_pos c1]
      by_cases c2 : n = tOf T i
      · by_cases c3 : n = tOt T i
        · rw [if_pos c3, if_pos c2]; omega
        · rw [if_neg c3, if_pos c2]; omega
      · by_cases c3 : n = tOt T i
        · rw [if_pos c3, if_neg c2]; omega
        · rw [if_neg c3, if_neg c2]; omega
    · rw [if_neg c1]; omega)
  rw [Nat.zero_add] at k2
  unfold tSu
  omega
theorem mean_r {R : Nat → Nat → Nat} {L : Nat → Nat → Int64} {I : Nat → Nat → Int32} {g a : Nat} {T : mo_Tn} {x y u : Nat} (hv : mo_vT T) (hG : mo_gT T) (hx : x < tNames T) (hy : y < 30) (hu : u < 2) : (o_Gate_mean R L g T x y u).1 = (o_Model_mean I a T (nI x) (nI y) (nI u)).1 := by
  have hN := vT_tNames hv
  unfold o_Gate_mean o_Model_mean
  rw [tB_of hx (by omega), tB_of hy (by omega), tB_of hu (by omega)]
  show mo_frx (tSu T (nI y) x) 27720 (nI u) = mo_frx (tW T (nI y) x) 27720 (nI u)
  rw [su_w hv hG (by omega)]
/-- what a man gave on a day, by his coming -/
theorem gb_gave {T : mo_Tn} (hv : mo_vT T) (hF : mo_fT T) {m d : Nat} (hm : m < tMen T) (hd : d < 30) : tGb T (nI m) (nI d) = tGave T d m := by
  have hM := vT_tMen hv
  unfold tGb
  cases e : tF T (nI m) (nI d) with
  | none =>
    show none = tGave T d m
    unfold tGave
    by_cases c : tGv T d m = 0
    · rw [if_pos c]
    · obtain ⟨_, x, hx⟩ := hF.2.1 d m hd (by omega) c
      rw [e] at hx
      cases hx
  | some c =>
    have hc := tF_lt e
    have h1 := vT_tCm hv hc.1
    have h2 := vT_tCd hv hc.1
    show tGave T (tCd T c) (tCm T c) = _
    rw [(nI_eq (by omega) (by omega)).mp hc.2.1, (nI_eq (by omega) (by omega)).mp hc.2.2]
theorem mo_it_setN {f : Nat → Nat → Nat} {p : Nat → Bool} {n : Nat} (h : ∀ k s, k < n → f k s = if p k = true then s ||| 2 ^ k else s) : mo_it f n 0 0 = mo_bs p n := by
  have := mo_it_inv (f := f) (fun k s => s = mo_bs p k) (k := n) (i := 0) (s := 0) rfl (fun j t _ h2 ht => by
    show f j t = (if p j = true then mo_bs p j + 2 ^ j else mo_bs p j)
    rw [h j t (by omega), ht]
    by_cases hp : p j = true
    · rw [if_pos hp, if_pos hp]
      have h3 := Nat.two_pow_add_eq_or_of_lt (mo_bs_lt p j) 1
      rw [Nat.mul_one] at h3
      rw [Nat.or_comm, ← h3, Nat.add_comm]
    · rw [if_neg hp, if_neg hp])
  rw [Nat.zero_add] at this
  exact this
theorem envies_r {R : Nat → Nat → Nat} {L : Nat → Nat → Int64} {I : Nat → Nat → Int32} {g a : Nat} {T : mo_Tn} {p : Int32} (hv : mo_vT T) (hF : mo_fT T) (hG : mo_gT T) : (o_Gate_envies R L g T p).1 = (o_Model_envies I a T p).1 := by
  have hN := vT_tNames hv
  have hM := vT_tMen hv
  have hD := vT_tTd hv
  unfold o_Gate_envies o_Model_envies
  cases e1 : tB p (tMen T) with
  | none => rfl
  | some m =>
    have b1 := tB_v (by omega) e1
    show (Option.elim (tGb T (nI m) (nI (tTd T))) ((-1 : Int32), L) _).1 = (if nI (tGv T (tTd T) m) - 1 = -1 then ((-1 : Int32), _) else (w_Model_envies_32 T m, _)).1
    rw [gb_gave hv hF b1.1 hD]
    cases e2 : tGave T (tTd T) m with
    | none => rw [tGave_N e2, if_pos rfl]; rfl
    | some v =>
      have hv2 := tGave_lt hv hD (by omega) e2
      rw [tGave_S e2, if_neg (mo_nIm rfl (by omega))]
      show nI (w_Gate_envies_72 T m v) = w_Model_envies_32 T m
      unfold w_Gate_envies_72 w_Model_envies_32
      rw [mo_it_setN (p := fun i => Option.elim (tGave T (tTd T) i) false (fun w => !decide (w = tOwn T m) && !decide (lg_cmp (tSu T (nI (tTd T)) w) (tSu T (nI (tTd T)) v) ≤ 0))) (fun k s hk => by
        unfold b_Gate_envies_72
        rw [gb_gave hv hF (by omega) hD]
        cases e3 : tGave T (tTd T) k with
        | none => rfl
        | some w =>
          show (if w = tOwn T m then s else if lg_cmp (tSu T (nI (tTd T)) w) (tSu T (nI (tTd T)) v) ≤ 0 then s else s ||| 2 ^ k) = if (!decide (w = tOwn T m) && !decide (lg_cmp (tSu T (nI (tTd T)) w) (tSu T (nI (tTd T)) v) ≤ 0)) = true then s ||| 2 ^ k else s
          by_cases c1 : w = tOwn T m
          · rw [if_pos c1, decide_eq_true c1]; rfl
          · rw [if_neg c1, decide_eq_false c1]
            by_cases c2 : lg_cmp (tSu T (nI (tTd T)) w) (tSu T (nI (tTd T)) v) ≤ 0
            · rw [if_pos c2, decide_eq_true c2]; rfl
            · rw [if_neg c2, decide_eq_false c2]; rfl)]
      refine (mo_it_set (by omega) (fun k s hk => ?_)).symm
      unfold b_Model_envies_32
      cases e3 : tGave T (tTd T) k with
      | none => rw [tGave_N e3, if_pos rfl]; rfl
      | some w =>
        have hw := tGave_lt hv hD (by omega) e3
        have ho := vT_tOwn hv b1.1
        rw [tGave_S e3, tGave_S e2, if_neg (mo_nIm rfl (by omega)), ← show tW T (nI (tTd T)) w = o_Model_meanOf T (nI w) (nI (tTd T)) from rfl, ← show tW T (nI (tTd T)) v = o_Model_meanOf T (nI v) (nI (tTd T)) from rfl, ← su_w hv hG (by omega), ← su_w hv hG (by omega)]
        show _ = if (!decide (w = tOwn T m) && !decide (lg_cmp (tSu T (nI (tTd T)) w) (tSu T (nI (tTd T)) v) ≤ 0)) = true then _ else s
        by_cases c1 : w = tOwn T m
        · rw [if_pos (by rw [c1]), decide_eq_true c1]; rfl
        · rw [if_neg (fun z => c1 ((nI_eq (by omega) (by omega)).mp z)), decide_eq_false c1]
          by_cases c2 : lg_cmp (tSu T (nI (tTd T)) w) (tSu T (nI (tTd T)) v) ≤ 0
          · rw [if_pos c2, decide_eq_true c2]; rfl
          · rw [if_neg c2, decide_eq_false c2]; rfl
