/-! out and rests: the class's answers are the reference's. -/
def s64 (g : Nat → Int64) : Nat → Int64
  | 0 => 0
  | n + 1 => s64 g n + g n
theorem s64_congr {g h : Nat → Int64} : ∀ {n : Nat}, (∀ k, k < n → g k = h k) → s64 g n = s64 h n
  | 0, _ => rfl
  | n + 1, e => by
    show s64 g n + g n = s64 h n + h n
    rw [s64_congr (fun k hk => e k (by omega)), e n (by omega)]
theorem s64_add {g h f : Nat → Int64} : ∀ {n : Nat}, (∀ k, k < n → f k = g k + h k) → s64 f n = s64 g n + s64 h n
  | 0, _ => rfl
  | n + 1, e => by
    show s64 f n + f n = s64 g n + g n + (s64 h n + h n)
    rw [s64_add (g := g) (h := h) (fun k hk => e k (by omega)), e n (by omega), Int64.add_assoc, Int64.add_assoc, ← Int64.add_assoc (s64 h n), Int64.add_comm (s64 h n), Int64.add_assoc]
theorem s64_zero {g : Nat → Int64} : ∀ {n : Nat}, (∀ k, k < n → g k = 0) → s64 g n = 0
  | 0, _ => rfl
  | n + 1, e => by
    show s64 g n + g n = 0
    rw [s64_zero (fun k hk => e k (by omega)), e n (by omega)]
    rfl
theorem s64_one {z : Int64} {c : Nat} : ∀ {n : Nat}, c < n → s64 (fun k => if k = c then z else 0) n = z
  | 0, h => absurd h (Nat.not_lt_zero c)
  | n + 1, h => by
    show s64 (fun k => if k = c then z else 0) n + (if n = c then z else 0) = z
    by_cases e : n = c
    · rw [if_pos e, s64_zero (fun k hk => if_neg (by omega)), Int64.zero_add]
    · rw [if_neg e, s64_one (by omega), Int64.add_zero]
theorem s64_more {g : Nat → Int64} {n : Nat} : ∀ {k : Nat}, n ≤ k → (∀ j, n ≤ j → j < k → g j = 0) → s64 g k = s64 g n
  | 0, h, _ => by rw [Nat.le_zero.mp h]
  | k + 1, h, e => by
    by_cases c : n = k + 1
    · rw [c]
    · show s64 g k + g k = s64 g n
      rw [s64_more (by omega) (fun j h1 h2 => e j h1 (by omega)), e k (by omega) (by omega), Int64.add_zero]
theorem s64_b {g : Nat → Int64} {b : Int} (hb : 0 ≤ b ∧ b ≤ 1099511627776) : ∀ {n : Nat}, n ≤ 200 → (∀ k, k < n → -b ≤ (g k).toInt ∧ (g k).toInt ≤ b) → -((n : Int) * b) ≤ (s64 g n).toInt ∧ (s64 g n).toInt ≤ (n : Int) * b
  | 0, _, _ => by rw [Int.natCast_zero, Int.zero_mul]; show -0 ≤ (0 : Int64).toInt ∧ (0 : Int64).toInt ≤ 0; exact ⟨by decide, by decide⟩
  | n + 1, hn, h => by
    have ih := s64_b hb (n := n) (by omega) (fun k hk => h k (by omega))
    have h1 : (n : Int) * b ≤ 200 * 1099511627776 := Int.mul_le_mul (by omega) hb.2 hb.1 (by omega)
    have h2 := mo_bd (c := (n : Int) * b) (by omega) ih hb (h n (by omega))
    show -(((n + 1 : Nat) : Int) * b) ≤ (s64 g n + g n).toInt ∧ _
    rw [Int.natCast_add, Int.add_mul]
    show -((n : Int) * b + 1 * b) ≤ (s64 g n + g n).toInt ∧ (s64 g n + g n).toInt ≤ (n : Int) * b + 1 * b
    rw [Int.one_mul]
    exact h2
/-- what a man had by the name that he gave on a day -/
def tOu (T : mo_Tn) (x d : Nat) : Int64 := Option.elim (tGave T d x) 0 (fun v => tSu T (nI d) v)
def tCa (T : mo_Tn) (x d n : Nat) : Bool := (List.range n).any (fun c => decide (tCm T c = x ∧ tCd T c = d))
theorem tCa_s {T : mo_Tn} {x d n : Nat} : tCa T x d (n + 1) = (tCa T x d n || decide (tCm T n = x ∧ tCd T n = d)) := by
  unfold tCa
  rw [List.range_succ, List.any_append]
  simp
theorem out_sum {T : mo_Tn} (hv : mo_vT T) (hF : mo_fT T) {x : Nat} : ∀ {n : Nat}, n ≤ tComs T → s64 (fun c => if tCm T c = x then tOu T x (tCd T c) else 0) n = s64 (fun d => if tCa T x d n = true then tOu T x d else 0) 30
  | 0, _ => (s64_zero (fun d _ => rfl)).symm
  | n + 1, hn => by
    have ih := out_sum hv hF (x := x) (n := n) (by omega)
    show s64 (fun c => if tCm T c = x then tOu T x (tCd T c) else 0) n + (if tCm T n = x then tOu T x (tCd T n) else 0) = _
    rw [ih]
    by_cases c : tCm T n = x
    · have hd := vT_tCd hv (m := n) (by omega)
      have hno : tCa T x (tCd T n) n = false := by
        apply Bool.eq_false_iff.mpr
        intro z
        obtain ⟨c', h1, h2⟩ := List.any_eq_true.mp z
        have h1 := List.mem_range.mp h1
        have h2 := of_decide_eq_true h2
        have := hF.1 c' n (by omega) (by omega) (by rw [h2.1, c]) h2.2
        omega
      rw [if_pos c, ← s64_one (z := tOu T x (tCd T n)) hd]
      refine (s64_add (fun d _ => ?_)).symm
      rw [tCa_s]
      by_cases e : d = tCd T n
      · rw [e, hno, decide_eq_true ⟨c, rfl⟩, if_pos rfl]
        show tOu T x (tCd T n) = 0 + _
        rw [Int64.zero_add]
      · rw [if_neg e, decide_eq_false (fun z => e z.2.symm), Bool.or_false, Int64.add_zero]
    · rw [if_neg c, Int64.add_zero]
      refine s64_congr (fun d _ => ?_)
      rw [tCa_s, decide_eq_false (fun z => c z.1), Bool.or_false]
theorem out_ref {T : mo_Tn} (hv : mo_vT T) (hG : mo_gT T) {x : Nat} (hx : x < tMen T) : ∀ {n : Nat}, n ≤ 30 → mo_it (b_Model_out_32 T x) n 0 0 = s64 (tOu T x) n
  | 0, _ => rfl
  | n + 1, hn => by
    have hM := vT_tMen hv
    have hN := vT_tNames hv
    rw [mo_it_last, Nat.zero_add, out_ref hv hG hx (n := n) (by omega)]
    show b_Model_out_32 T x n _ = s64 (tOu T x) n + tOu T x n
    unfold b_Model_out_32 tOu
    cases e : tGave T n x with
    | none => rw [tGave_N e, if_pos rfl]; exact (Int64.add_zero _).symm
    | some v =>
      have := tGave_lt hv (d := n) (by omega) (by omega) e
      rw [tGave_S e, if_neg (mo_nIm rfl (by omega))]
      show _ = _ + tSu T (nI n) v
      rw [su_w hv hG (by omega)]
      rfl
theorem out_cls {R : Nat → Nat → Nat} {L : Nat → Nat → Int64} {g : Nat} {T : mo_Tn} (hv : mo_vT T) {x : Nat} : (w_Gate_out_43 R L g T x).1 = s64 (fun c => if tCm T c = x then tOu T x (tCd T c) else 0) (tComs T) := by
  unfold w_Gate_out_43
  have := mo_it_inv (f := b_Gate_out_43 R g T x) (fun i s => s.1 = s64 (fun c => if tCm T c = x then tOu T x (tCd T c) else 0) i) (k := tComs T) (i := 0) (s := (0, L)) rfl (fun i s _ _ hs => by
    show _ = s64 (fun c => if tCm T c = x then tOu T x (tCd T c) else 0) i + (if tCm T i = x then tOu T x (tCd T i) else 0)
    rw [← hs]
    unfold b_Gate_out_43
    by_cases c : tCm T i = x
    · rw [if_pos c, if_pos c]
      unfold tGc tOu
      rw [c]
      cases tGave T (tCd T i) x with
      | none => exact (Int64.add_zero _).symm
      | some v => rfl
    · rw [if_neg c, if_neg c, Int64.add_zero])
  rw [Nat.zero_add] at this
  exact this
theorem ou_zero {T : mo_Tn} {x d : Nat} (h : tGv T d x = 0) : tOu T x d = 0 := by
  unfold tOu tGave
  rw [if_pos h]
  rfl
theorem out_eq {R : Nat → Nat → Nat} {L : Nat → Nat → Int64} {g : Nat} {T : mo_Tn} (hv : mo_vT T) (hF : mo_fT T) (hG : mo_gT T) {x : Nat} (hx : x < tMen T) : (w_Gate_out_43 R L g T x).1 = w_Model_out_32 T x := by
  have hM := vT_tMen hv
  have hD := vT_tTd hv
  unfold w_Model_out_32
  rw [out_cls hv, out_sum hv hF (Nat.le_refl _), out_ref hv hG hx (by omega), ← s64_more (k := 30) (by omega) (fun d h1 h2 => ou_zero (by
    by_cases z : tGv T d x = 0
    · exact z
    · have := (hF.2.1 d x h2 (by omega) z).1
      omega))]
  refine s64_congr (fun d hd => ?_)
  by_cases c : tCa T x d (tComs T) = true
  · rw [if_pos c]
  · rw [if_neg c]
    refine (ou_zero ?_).symm
    apply Classical.byContradiction
    intro z
    obtain ⟨_, c0, e⟩ := hF.2.1 d x hd (by omega) z
    have h1 := tF_lt e
    have h2 := vT_tCm hv h1.1
    have h3 := vT_tCd hv h1.1
    apply c
    exact List.any_eq_true.mpr ⟨c0, List.mem_range.mpr h1.1, decide_eq_true ⟨(nI_eq (by omega) (by omega)).mp h1.2.1, (nI_eq (by omega) (by omega)).mp h1.2.2⟩⟩
theorem out_b {T : mo_Tn} (hv : mo_vT T) (hG : mo_gT T) {x : Nat} (hx : x < tMen T) : mo_lb 62 (w_Model_out_32 T x) := by
  have hD := vT_tTd hv
  unfold w_Model_out_32
  rw [out_ref hv hG hx (by omega)]
  have := s64_b (g := tOu T x) (b := 329313600) (by decide) (n := tTd T + 1) (by omega) (fun d _ => by
    unfold tOu
    cases tGave T d x with
    | none => show -329313600 ≤ (0 : Int64).toInt ∧ (0 : Int64).toInt ≤ 329313600; exact ⟨by decide, by decide⟩
    | some v => exact su_b hv hG)
  unfold mo_lb
  omega
theorem out_r {R : Nat → Nat → Nat} {L : Nat → Nat → Int64} {I : Nat → Nat → Int32} {g a : Nat} {T : mo_Tn} {x u : Nat} (hv : mo_vT T) (hF : mo_fT T) (hG : mo_gT T) (hx : x < tMen T) (hu : u < 2) : (o_Gate_out R L g T x u).1 = (o_Model_out I a T (nI x) (nI u)).1 := by
  have hM := vT_tMen hv
  unfold o_Gate_out o_Model_out
  rw [tB_of hx (by omega), tB_of hu (by omega)]
  show mo_frx (w_Gate_out_43 R L g T x).1 27720 (nI u) = mo_frx (w_Model_out_32 T x) 27720 (nI u)
  rw [out_eq hv hF hG hx]
/-- what a name leaves, its price paid -/
def tLf (T : mo_Tn) (xs : List Nat) (n : Nat) : Int64 := tSu T (nI (tTd T)) n - Int32.toInt64 (nI (xs.getD n 0)) * 27720
theorem rests_cls {R : Nat → Nat → Nat} {L : Nat → Nat → Int64} {g : Nat} {T : mo_Tn} {xs : List Nat} (hv : mo_vT T) {n : Nat} (hn : n < tNames T) : w_Gate_rests_60 R L g T xs (R g 10) n = tLf T xs n := by
  have hN := vT_tNames hv
  have key := mo_it_inv (f := b_Gate_rests_60 R g xs) (fun j s => ∀ n, n < 12 → s (R g 10) n = if n < j then tLf T xs n else tSu T (nI (tTd T)) n) (k := tNames T) (i := 0) (s := mo_fi L (R g 10) 0 12 (tSu T (nI (tTd T)))) (fun n hn => by rw [mo_fiZ hn, if_neg (Nat.not_lt_zero n)]) (fun j s _ hj hs n hn => by
    unfold b_Gate_rests_60
    by_cases c : n = j
    · rw [c, mo_upA, if_pos (Nat.lt_succ_self j), hs j (by omega), if_neg (Nat.lt_irrefl j)]
      rfl
    · rw [mo_upK _ _ _ c, hs n hn]
      by_cases c2 : n < j
      · rw [if_pos c2, if_pos (by omega)]
      · rw [if_neg c2, if_neg (by omega)])
  rw [Nat.zero_add] at key
  have := key n (by omega)
  rw [if_pos hn] at this
  exact this
theorem rests_ref {R : Nat → Nat → Nat} {L : Nat → Nat → Int64} {a : Nat} {T : mo_Tn} {xs : List Nat} (hv : mo_vT T) (hG : mo_gT T) (hl : xs.length = tNames T) {n : Nat} (hn : n < tNames T) : w_Model_rests_22 R L a T xs (R a 25) n = tLf T xs n := by
  have hN := vT_tNames hv
  have e : w_Model_rests_22 R L a T xs = mo_fi L (R a 25) 0 xs.length (fun n => tW T (nI (tTd T)) n - Int32.toInt64 (nI (xs.getD n 0)) * 27720) := by
    unfold w_Model_rests_22
    exact mo_it_fill (fun k s _ _ => by rw [Nat.zero_add]; rfl)
  rw [e, mo_fiZ (by omega)]
  unfold tLf
  rw [su_w hv hG (by omega)]
theorem rests_r {R R' : Nat → Nat → Nat} {I I' : Nat → Nat → Int32} {L L' : Nat → Nat → Int64} {g a : Nat} {T : mo_Tn} {xs : List Nat} (hv : mo_vT T) (hF : mo_fT T) (hG : mo_gT T) : (o_Gate_rests R I L g T xs).1 = (o_Model_rests R' I' L' a T xs).1 := by
  have hN := vT_tNames hv
  have hM := vT_tMen hv
  have hD := vT_tTd hv
  unfold o_Gate_rests o_Model_rests
  by_cases hl : xs.length = tNames T
  · rw [if_pos hl, if_pos hl]
    have e : w_Gate_rests_104 R L g T xs = w_Model_rests_62 R' L' a T xs := by
      unfold w_Gate_rests_104 w_Model_rests_62
      refine mo_lp_congr (fun i _ hi s => ?_)
      have hi : i < tMen T := by omega
      unfold b_Gate_rests_104 b_Model_rests_62
      rw [gb_gave hv hF hi hD]
      cases e2 : tGave T (tTd T) i with
      | none => rfl
      | some v =>
        have hv2 := tGave_lt hv hD (by omega) e2
        show (if o_Gate_isContent R (w_Gate_rests_60 R L g T xs) g T v (tOwn T i) = 0 then (Sum.inr 0 : Unit ⊕ Int32) else .inl ()) = (if 0 ≤ lg_cmp (w_Model_rests_22 R' L' a T xs (R' a 25) v) 0 then _ else (Sum.inr 0 : Unit ⊕ Int32))
        unfold o_Gate_isContent
        rw [rests_cls hv hv2, rests_ref hv hG hl hv2]
        by_cases c1 : 0 ≤ lg_cmp (tLf T xs v) 0
        · rw [if_pos c1, if_pos c1]
          have e3 : w_Gate_isContent_15 R (w_Gate_rests_60 R L g T xs) g T v (tOwn T i) = w_Model_rests_104 R' L' a T xs i v := by
            unfold w_Gate_isContent_15 w_Model_rests_104
            rw [hl]
            refine mo_lp_congr (fun n _ hn s => ?_)
            unfold b_Gate_isContent_15 b_Model_rests_104
            rw [rests_cls hv (n := n) (by omega), rests_ref hv hG hl (n := n) (by omega), rests_cls hv hv2, rests_ref hv hG hl hv2]
          rw [e3]
          cases e4 : w_Model_rests_104 R' L' a T xs i v with
          | inl z => rfl
          | inr r =>
            have hr : r = 0 := by
              obtain ⟨j, t, _, _, hb⟩ := mo_lp_inr _ _ _ _ e4
              unfold b_Model_rests_104 at hb
              by_cases d1 : j = tOwn T i
              · rw [if_pos d1] at hb; cases hb
              · rw [if_neg d1] at hb
                by_cases d2 : lg_cmp (w_Model_rests_22 R' L' a T xs (R' a 25) j) (w_Model_rests_22 R' L' a T xs (R' a 25) v) ≤ 0
                · rw [if_pos d2] at hb; cases hb
                · rw [if_neg d2] at hb; exact (Sum.inr.inj hb).symm
            subst hr
            rfl
        · rw [if_neg c1, if_neg c1, if_pos rfl]
    rw [e]
    cases w_Model_rests_62 R' L' a T xs with
    | inl z => rfl
    | inr r => rfl
  · rw [if_neg hl, if_neg hl]
