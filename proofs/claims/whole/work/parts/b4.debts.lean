/-! debts and rings: the class's answers are the reference's. -/
theorem br_iff {T : mo_Tn} (hv : mo_vT T) (hF : mo_fT T) {v d x : Nat} (hx : x < tMen T) (hn : v < tNames T) (hd : d < 30) : tBr T (nI v) d = some x ↔ nI (tGv T d x) - 1 = nI v := by
  have hM := vT_tMen hv
  have hN := vT_tNames hv
  constructor
  · intro e
    exact of_decide_eq_true (mo_ff_lt e).2.1
  · intro e
    have hg := gave_gv ((gv_v hv hd (by omega) (by omega)).mp e)
    refine mo_ff_some hx (decide_eq_true e) (fun j hj => decide_eq_false (fun z => ?_))
    have hj2 := gave_gv ((gv_v hv hd (by omega) (by omega)).mp z)
    have := hF.2.2.1 d j x hd (by omega) (by omega) (by omega) (by omega)
    omega
/-- whether an owing runs from a man to a man -/
def tDb (T : mo_Tn) (x y i : Nat) : Prop := tBr T (nI (tOf T i)) (tOd T i) = some x ∧ tBr T (nI (tOt T i)) (tOd T i) = some y
theorem debt_m {T : mo_Tn} (hv : mo_vT T) (hF : mo_fT T) {x y i : Nat} (hx : x < tMen T) (hy : y < tMen T) (hi : i < tOws T) (s : Int32) : (tDb T x y i → b_Model_debtOf_5 T x y i s = s + nI (tOs T i)) ∧ (¬ tDb T x y i → b_Model_debtOf_5 T x y i s = s) := by
  have hd := vT_tOd hv hi
  have hM := vT_tMen hv
  have k1 := br_iff hv hF hx (vT_tOf hv hi) hd
  have k2 := br_iff hv hF hy (vT_tOt hv hi) hd
  unfold b_Model_debtOf_5
  refine ⟨fun h => ?_, fun h => ?_⟩
  · have h1 := k1.mp h.1
    have h2 := k2.mp h.2
    have hg := gave_gv ((gv_v hv hd (by omega) (by have := vT_tOf hv hi; have := vT_tNames hv; omega)).mp h1)
    have ht := (hF.2.1 _ x hd (by omega) (by omega)).1
    rw [if_neg (by omega), if_pos h1, if_pos h2]
  · by_cases c1 : tTd T < tOd T i
    · rw [if_pos c1]
    · rw [if_neg c1]
      by_cases c2 : nI (tGv T (tOd T i) x) - 1 = nI (tOf T i)
      · rw [if_pos c2]
        by_cases c3 : nI (tGv T (tOd T i) y) - 1 = nI (tOt T i)
        · exact absurd ⟨k1.mpr c2, k2.mpr c3⟩ h
        · rw [if_neg c3]
      · rw [if_neg c2]
theorem gr_br {T : mo_Tn} (hv : mo_vT T) (hF : mo_fT T) {v d : Nat} (hn : v < tNames T) (hd : d < 30) : (tGr T (nI v) (nI d) = none ∧ tBr T (nI v) d = none) ∨ ∃ c, c < tComs T ∧ tGr T (nI v) (nI d) = some c ∧ tBr T (nI v) d = some (tCm T c) := by
  have k := bear_r hv hF hn hd
  cases e : tGr T (nI v) (nI d) with
  | none => rw [e] at k; exact Or.inl ⟨rfl, k.symm⟩
  | some c => rw [e] at k; exact Or.inr ⟨c, (mo_ff_lt e).1, rfl, k.symm⟩
theorem debt_c {T : mo_Tn} (hv : mo_vT T) (hF : mo_fT T) {x y i : Nat} (hx : x < tMen T) (hy : y < tMen T) (hi : i < tOws T) (s : Int32) : (tDb T x y i → b_cdebt_5 T (nI x) (nI y) i s = s + nI (tOs T i)) ∧ (¬ tDb T x y i → b_cdebt_5 T (nI x) (nI y) i s = s) := by
  have hd := vT_tOd hv hi
  have hM := vT_tMen hv
  have n1 : ¬ (-1 : Int32) = nI x := fun z => mo_nIm rfl (by omega) z.symm
  have n2 : ¬ (-1 : Int32) = nI y := fun z => mo_nIm rfl (by omega) z.symm
  have q : ∀ {m x : Nat}, m < tMen T → x < tMen T → (nI m = nI x ↔ m = x) := fun h1 h2 => nI_eq (by omega) (by omega)
  unfold b_cdebt_5 tDb
  rcases gr_br hv hF (vT_tOf hv hi) hd with ⟨e1, f1⟩ | ⟨c, hc, e1, f1⟩
  · rw [e1, f1]
    refine ⟨fun h => (by cases h.1), fun _ => ?_⟩
    show (if (-1 : Int32) = nI x then _ else s) = s
    rw [if_neg n1]
  · rw [e1, f1]
    have hm := vT_tCm hv hc
    show (_ → (if nI (tCm T c) = nI x then _ else s) = _) ∧ (_ → (if nI (tCm T c) = nI x then _ else s) = s)
    by_cases g1 : tCm T c = x
    · rw [if_pos ((q hm hx).mpr g1)]
      rcases gr_br hv hF (vT_tOt hv hi) hd with ⟨e2, f2⟩ | ⟨c', hc', e2, f2⟩
      · rw [e2, f2]
        refine ⟨fun h => (by cases h.2), fun _ => ?_⟩
        show (if (-1 : Int32) = nI y then _ else s) = s
        rw [if_neg n2]
      · rw [e2, f2]
        have hm' := vT_tCm hv hc'
        show (_ → (if nI (tCm T c') = nI y then s + nI (tOs T i) else s) = _) ∧ (_ → (if nI (tCm T c') = nI y then s + nI (tOs T i) else s) = s)
        by_cases g2 : tCm T c' = y
        · rw [if_pos ((q hm' hy).mpr g2)]
          exact ⟨fun _ => rfl, fun h => absurd ⟨by rw [g1], by rw [g2]⟩ h⟩
        · rw [if_neg (fun z => g2 ((q hm' hy).mp z))]
          exact ⟨fun h => absurd (Option.some.inj h.2) g2, fun _ => rfl⟩
    · rw [if_neg (fun z => g1 ((q hm hx).mp z))]
      exact ⟨fun h => absurd (Option.some.inj h.1) g1, fun _ => rfl⟩
theorem debt_r {T : mo_Tn} (hv : mo_vT T) (hF : mo_fT T) {x y : Nat} (hx : x < tMen T) (hy : y < tMen T) : o_cdebt T (nI x) (nI y) = o_Model_debtOf T x y := by
  unfold o_cdebt w_cdebt_5 o_Model_debtOf w_Model_debtOf_5
  refine mo_it_congr (fun i _ hi s => ?_)
  have h1 := debt_c hv hF hx hy (i := i) (by omega) s
  have h2 := debt_m hv hF hx hy (i := i) (by omega) s
  by_cases c : tDb T x y i
  · rw [h1.1 c, h2.1 c]
  · rw [h1.2 c, h2.2 c]
def s32 (g : Nat → Int32) : Nat → Int32
  | 0 => 0
  | n + 1 => s32 g n + g n
theorem s32_congr {g h : Nat → Int32} : ∀ {n : Nat}, (∀ k, k < n → g k = h k) → s32 g n = s32 h n
  | 0, _ => rfl
  | n + 1, e => by
    show s32 g n + g n = s32 h n + h n
    rw [s32_congr (fun k hk => e k (by omega)), e n (by omega)]
theorem s32_add {g h f : Nat → Int32} : ∀ {n : Nat}, (∀ k, k < n → f k = g k + h k) → s32 f n = s32 g n + s32 h n
  | 0, _ => rfl
  | n + 1, e => by
    show s32 f n + f n = s32 g n + g n + (s32 h n + h n)
    rw [s32_add (g := g) (h := h) (fun k hk => e k (by omega)), e n (by omega), Int32.add_assoc, Int32.add_assoc, ← Int32.add_assoc (s32 h n), Int32.add_comm (s32 h n), Int32.add_assoc]
theorem s32_zero {g : Nat → Int32} : ∀ {n : Nat}, (∀ k, k < n → g k = 0) → s32 g n = 0
  | 0, _ => rfl
  | n + 1, e => by
    show s32 g n + g n = 0
    rw [s32_zero (fun k hk => e k (by omega)), e n (by omega)]
    rfl
theorem s32_one {z : Int32} {c : Nat} : ∀ {n : Nat}, c < n → s32 (fun k => if k = c then z else 0) n = z
  | 0, h => absurd h (Nat.not_lt_zero c)
  | n + 1, h => by
    show s32 (fun k => if k = c then z else 0) n + (if n = c then z else 0) = z
    by_cases e : n = c
    · rw [if_pos e, s32_zero (fun k hk => if_neg (by omega)), Int32.zero_add]
    · rw [if_neg e, s32_one (by omega), Int32.add_zero]
/-- the debts of the first n owings -/
def tDn (T : mo_Tn) (n x y : Nat) : Int32 := mo_it (b_Model_debtOf_5 T x y) n 0 0
theorem tDn_s {T : mo_Tn} {n x y : Nat} : tDn T (n + 1) x y = b_Model_debtOf_5 T x y n (tDn T n x y) := by
  unfold tDn
  rw [mo_it_last, Nat.zero_add]
def tDa (T : mo_Tn) (n : Nat) : Int32 := s32 (fun x => s32 (fun y => tDn T n x y) (tMen T)) (tMen T)
def tDo (T : mo_Tn) (n m : Nat) : Int32 := s32 (fun y => tDn T n y m - tDn T n m y) (tMen T)
theorem tD_no {T : mo_Tn} (hv : mo_vT T) (hF : mo_fT T) {n : Nat} (hn : n < tOws T) (h : ∀ x y, ¬ tDb T x y n) : tDa T (n + 1) = tDa T n ∧ ∀ m, m < tMen T → tDo T (n + 1) m = tDo T n m := by
  have e : ∀ x y, x < tMen T → y < tMen T → tDn T (n + 1) x y = tDn T n x y := fun x y hx hy => by rw [tDn_s]; exact (debt_m hv hF hx hy hn _).2 (h x y)
  exact ⟨s32_congr (fun x hx => s32_congr (fun y hy => e x y hx hy)), fun m hm => s32_congr (fun y hy => by rw [e y m hy hm, e m y hm hy])⟩
theorem tD_yes {T : mo_Tn} (hv : mo_vT T) (hF : mo_fT T) {n a b : Nat} (hn : n < tOws T) (ha : a < tMen T) (hb : b < tMen T) (h : tDb T a b n) : tDa T (n + 1) = tDa T n + nI (tOs T n) ∧ ∀ m, m < tMen T → tDo T (n + 1) m = tDo T n m + ((if m = b then nI (tOs T n) else 0) - (if m = a then nI (tOs T n) else 0)) := by
  have e : ∀ x y, x < tMen T → y < tMen T → tDn T (n + 1) x y = tDn T n x y + (if x = a then (if y = b then nI (tOs T n) else 0) else 0) := fun x y hx hy => by
    rw [tDn_s]
    by_cases c1 : x = a
    · rw [if_pos c1]
      by_cases c2 : y = b
      · rw [if_pos c2]; subst c1; subst c2; exact (debt_m hv hF hx hy hn _).1 h
      · rw [if_neg c2, Int32.add_zero]
        exact (debt_m hv hF hx hy hn _).2 (fun z => c2 (Option.some.inj (z.2.symm.trans h.2)))
    · rw [if_neg c1, Int32.add_zero]
      exact (debt_m hv hF hx hy hn _).2 (fun z => c1 (Option.some.inj (z.1.symm.trans h.1)))
  constructor
  · unfold tDa
    rw [← s32_one (z := nI (tOs T n)) ha]
    refine s32_add (fun x hx => ?_)
    by_cases c1 : x = a
    · rw [if_pos c1, ← s32_one (z := nI (tOs T n)) hb]
      refine s32_add (fun y hy => ?_)
      rw [e x y hx hy, if_pos c1]
    · rw [if_neg c1, Int32.add_zero]
      exact s32_congr (fun y hy => by rw [e x y hx hy, if_neg c1, Int32.add_zero])
  · intro m hm
    unfold tDo
    have h1 : s32 (fun y => (if y = a then (if m = b then nI (tOs T n) else 0) else 0) - (if m = a then (if y = b then nI (tOs T n) else 0) else 0)) (tMen T) = (if m = b then nI (tOs T n) else 0) - (if m = a then nI (tOs T n) else 0) := by
      rw [s32_add (g := fun y => if y = a then (if m = b then nI (tOs T n) else 0) else 0) (h := fun y => if y = b then (if m = a then -(nI (tOs T n)) else 0) else 0) (fun y _ => by
        by_cases c1 : m = a
        · by_cases c2 : y = b
          · rw [if_pos c1, if_pos c1, if_pos c2, if_pos c2, Int32.sub_eq_add_neg]
          · rw [if_pos c1, if_neg c2, if_neg c2, Int32.sub_zero, Int32.add_zero]
        · rw [if_neg c1, if_neg c1, ite_self, Int32.sub_zero, Int32.add_zero]), s32_one ha, s32_one hb]
      by_cases c1 : m = a
      · rw [if_pos c1, if_pos c1, Int32.sub_eq_add_neg]
      · rw [if_neg c1, if_neg c1, Int32.sub_zero, Int32.add_zero]
    rw [← h1]
    refine s32_add (fun y hy => ?_)
    rw [e y m hy hm, e m y hm hy]
    grind
theorem bal_r {R : Nat → Nat → Nat} {I : Nat → Nat → Int32} {g : Nat} {T : mo_Tn} (hv : mo_vT T) (hF : mo_fT T) : (w_cbal_9 R I g T).1 = tDa T (tOws T) ∧ ∀ m, m < 8 → (w_cbal_9 R I g T).2 m = if m < tMen T then tDo T (tOws T) m else 0 := by
  have hM := vT_tMen hv
  have key := mo_it_inv (f := b_cbal_9 T) (fun i s => i ≤ tOws T ∧ s.1 = tDa T i ∧ ∀ m, m < 8 → s.2 m = if m < tMen T then tDo T i m else 0) (k := tOws T) (i := 0) (s := (0, (mo_fi I (R g 9) 0 8 (fun _ => 0)) (R g 9))) ⟨Nat.zero_le _, (s32_zero (fun x _ => s32_zero (fun y _ => rfl))).symm, fun m hm => by
      show mo_fi I (R g 9) 0 8 (fun _ => 0) (R g 9) m = _
      rw [mo_fiZ hm]
      by_cases c : m < tMen T
      · rw [if_pos c]; exact (s32_zero (fun y _ => (by show (0 : Int32) - 0 = 0; decide))).symm
      · rw [if_neg c]⟩ (fun i s _ hi hP => by
    obtain ⟨_, h1, h2⟩ := hP
    have hi' : i < tOws T := by omega
    have hd := vT_tOd hv hi'
    have keep : (∀ x y, ¬ tDb T x y i) → (i + 1 ≤ tOws T ∧ (s.1, s.2).1 = tDa T (i + 1) ∧ ∀ m, m < 8 → (s.1, s.2).2 m = if m < tMen T then tDo T (i + 1) m else 0) := fun hno => by
      have hD := tD_no hv hF hi' hno
      refine ⟨by omega, by rw [hD.1]; exact h1, fun m hm => ?_⟩
      show s.2 m = _
      rw [h2 m hm]
      by_cases c : m < tMen T
      · rw [if_pos c, if_pos c, hD.2 m c]
      · rw [if_neg c, if_neg c]
    unfold b_cbal_9
    rcases gr_br hv hF (vT_tOf hv hi') hd with ⟨e1, f1⟩ | ⟨c, hc, e1, f1⟩
    · rw [e1]
      have := keep (fun x y z => by have := z.1; rw [f1] at this; cases this)
      rcases gr_br hv hF (vT_tOt hv hi') hd with ⟨e2, _⟩ | ⟨c', _, e2, _⟩
      · rw [e2]; exact this
      · rw [e2]; exact this
    · rw [e1]
      rcases gr_br hv hF (vT_tOt hv hi') hd with ⟨e2, f2⟩ | ⟨c', hc', e2, f2⟩
      · rw [e2]
        exact keep (fun x y z => by have := z.2; rw [f2] at this; cases this)
      · rw [e2]
        have ha := vT_tCm hv hc
        have hb := vT_tCm hv hc'
        have hD := tD_yes hv hF hi' ha hb ⟨f1, f2⟩
        refine ⟨by omega, ?_, fun m hm => ?_⟩
        · show s.1 + nI (tOs T i) = _
          rw [hD.1, h1]
        · show va_up (va_up s.2 (tCm T c) (s.2 (tCm T c) - nI (tOs T i))) (tCm T c') ((va_up s.2 (tCm T c) (s.2 (tCm T c) - nI (tOs T i))) (tCm T c') + nI (tOs T i)) m = _
          have hg : ∀ x, x < tMen T → s.2 x = tDo T i x := fun x hx => by rw [h2 x (by omega), if_pos hx]
          by_cases cm : m < tMen T
          · rw [if_pos cm, hD.2 m cm]
            by_cases c1 : m = tCm T c'
            · rw [c1, va_up_self, if_pos rfl]
              by_cases c2 : tCm T c' = tCm T c
              · rw [c2, va_up_self, if_pos rfl, hg _ ha]; grind
              · rw [va_up_ne _ _ c2, if_neg c2, hg _ hb]; grind
            · rw [va_up_ne _ _ c1, if_neg c1]
              by_cases c2 : m = tCm T c
              · rw [c2, va_up_self, if_pos rfl, hg _ ha]; grind
              · rw [va_up_ne _ _ c2, if_neg c2, hg _ cm]; grind
          · rw [if_neg cm, va_up_ne _ _ (by omega), va_up_ne _ _ (by omega), h2 m hm, if_neg cm])
  rw [Nat.zero_add] at key
  exact ⟨key.2.1, key.2.2⟩
theorem rings_ref {T : mo_Tn} : ∀ n, mo_it (b_Model_rings_9 T) n 0 0 = s32 (fun x => s32 (fun y => o_Model_debtOf T x y) (tMen T)) n - s32 (fun x => if s32 (fun y => o_Model_debtOf T y x - o_Model_debtOf T x y) (tMen T) ≤ 0 then 0 else s32 (fun y => o_Model_debtOf T y x - o_Model_debtOf T x y) (tMen T)) n
  | 0 => by show (0 : Int32) = 0 - 0; decide
  | n + 1 => by
    rw [mo_it_last, Nat.zero_add, rings_ref n]
    have e : ∀ s k, mo_it (b_Model_rings_22 T n) k 0 (s, 0) = (s + s32 (fun y => o_Model_debtOf T n y) k, s32 (fun y => o_Model_debtOf T y n - o_Model_debtOf T n y) k) := fun s k => by
      induction k with
      | zero => show (s, (0 : Int32)) = (s + 0, 0); rw [Int32.add_zero]
      | succ k ih =>
        rw [mo_it_last, ih, Nat.zero_add]
        show (s + s32 (fun y => o_Model_debtOf T n y) k + o_Model_debtOf T n k, s32 (fun y => o_Model_debtOf T y n - o_Model_debtOf T n y) k + (o_Model_debtOf T k n - o_Model_debtOf T n k)) = (s + (s32 (fun y => o_Model_debtOf T n y) k + o_Model_debtOf T n k), _)
        rw [Int32.add_assoc]
        rfl
    unfold b_Model_rings_9 w_Model_rings_22
    rw [e]
    show (if s32 (fun y => o_Model_debtOf T y n - o_Model_debtOf T n y) (tMen T) ≤ 0 then _ else _) = s32 (fun x => s32 (fun y => o_Model_debtOf T x y) (tMen T)) n + s32 (fun y => o_Model_debtOf T n y) (tMen T) - (s32 (fun x => if s32 (fun y => o_Model_debtOf T y x - o_Model_debtOf T x y) (tMen T) ≤ 0 then 0 else s32 (fun y => o_Model_debtOf T y x - o_Model_debtOf T x y) (tMen T)) n + (if s32 (fun y => o_Model_debtOf T y n - o_Model_debtOf T n y) (tMen T) ≤ 0 then 0 else s32 (fun y => o_Model_debtOf T y n - o_Model_debtOf T n y) (tMen T)))
    by_cases c : s32 (fun y => o_Model_debtOf T y n - o_Model_debtOf T n y) (tMen T) ≤ 0
    · rw [if_pos c, if_pos c]; grind
    · rw [if_neg c, if_neg c]; grind
theorem s32_more {g : Nat → Int32} {n : Nat} : ∀ {k : Nat}, n ≤ k → (∀ j, n ≤ j → j < k → g j = 0) → s32 g k = s32 g n
  | 0, h, _ => by rw [Nat.le_zero.mp h]
  | k + 1, h, e => by
    by_cases c : n = k + 1
    · rw [c]
    · show s32 g k + g k = s32 g n
      rw [s32_more (by omega) (fun j h1 h2 => e j h1 (by omega)), e k (by omega) (by omega), Int32.add_zero]
theorem rings_r {R : Nat → Nat → Nat} {I I' : Nat → Nat → Int32} {g a : Nat} {T : mo_Tn} (hv : mo_vT T) (hF : mo_fT T) : (o_Gate_rings R I g T).1 = (o_Model_rings I' a T).1 := by
  have hM := vT_tMen hv
  obtain ⟨k1, k2⟩ := bal_r (R := R) (I := I) (g := g) hv hF
  show w_Gate_rings_14 R I g T = w_Model_rings_9 T
  unfold w_Gate_rings_14 w_Model_rings_9
  rw [rings_ref, k1]
  have e : ∀ k s, mo_it (b_Gate_rings_14 R I g T) k 0 s = s - s32 (fun m => if 0 < (w_cbal_9 R I g T).2 m then (w_cbal_9 R I g T).2 m else 0) k := fun k s => by
    induction k with
    | zero => show s = s - 0; rw [Int32.sub_zero]
    | succ k ih =>
      rw [mo_it_last, ih, Nat.zero_add]
      show s - s32 (fun m => if 0 < (w_cbal_9 R I g T).2 m then (w_cbal_9 R I g T).2 m else 0) k - (if 0 < (w_cbal_9 R I g T).2 k then (w_cbal_9 R I g T).2 k else 0) = s - (s32 (fun m => if 0 < (w_cbal_9 R I g T).2 m then (w_cbal_9 R I g T).2 m else 0) k + (if 0 < (w_cbal_9 R I g T).2 k then (w_cbal_9 R I g T).2 k else 0))
      grind
  rw [e, s32_more hM (fun j h1 h2 => by
    show (if 0 < (w_cbal_9 R I g T).2 j then (w_cbal_9 R I g T).2 j else 0) = 0
    rw [show (w_cbal_9 R I g T).2 j = 0 by rw [k2 j h2, if_neg (show ¬ j < tMen T by omega)], ite_self])]
  show tDa T (tOws T) - _ = tDa T (tOws T) - _
  congr 1
  refine s32_congr (fun m hm => ?_)
  show (if 0 < (w_cbal_9 R I g T).2 m then (w_cbal_9 R I g T).2 m else 0) = if tDo T (tOws T) m ≤ 0 then 0 else tDo T (tOws T) m
  rw [k2 m (by omega), if_pos hm]
  by_cases c : tDo T (tOws T) m ≤ 0
  · rw [if_pos c, if_neg (fun z => absurd z (Int32.not_lt.mpr c))]
  · rw [if_neg c, if_pos (Int32.not_le.mp c)]
