/-! serial: the class's answers are the reference's. -/
theorem mo_it_add {S : Type} (f : Nat → S → S) : ∀ a b i s, mo_it f (a + b) i s = mo_it f b (i + a) (mo_it f a i s)
  | 0, b, i, s => by rw [Nat.zero_add]; rfl
  | a + 1, b, i, s => by
    rw [show a + 1 + b = (a + b) + 1 by omega]
    show mo_it f (a + b) (i + 1) (f i s) = mo_it f b (i + (a + 1)) (mo_it f a (i + 1) (f i s))
    rw [mo_it_add f a b (i + 1) (f i s), show i + 1 + a = i + (a + 1) by omega]
theorem lp_sim {S S' ρ ρ' : Type} {f : Nat → S → S ⊕ ρ} {h : Nat → S' → S' ⊕ ρ'} (P : Nat → S → S' → Prop) (Q : ρ → ρ' → Prop) : ∀ {k i : Nat} {s : S} {s' : S'}, P i s s' → (∀ j t t', i ≤ j → j < i + k → P j t t' → (∃ u u', f j t = .inl u ∧ h j t' = .inl u' ∧ P (j + 1) u u') ∨ (∃ r r', f j t = .inr r ∧ h j t' = .inr r' ∧ Q r r')) → (∃ u u', mo_lp f k i s = .inl u ∧ mo_lp h k i s' = .inl u' ∧ P (i + k) u u') ∨ (∃ r r', mo_lp f k i s = .inr r ∧ mo_lp h k i s' = .inr r' ∧ Q r r')
  | 0, i, s, s', hp, _ => Or.inl ⟨s, s', rfl, rfl, hp⟩
  | k + 1, i, s, s', hp, hs => by
    rcases hs i s s' (Nat.le_refl i) (by omega) hp with ⟨u, u', e1, e2, hp2⟩ | ⟨r, r', e1, e2, hq⟩
    · rw [mo_lp_inlS e1, mo_lp_inlS e2, show i + (k + 1) = i + 1 + k by omega]
      exact lp_sim P Q hp2 (fun j t t' h1 h2 => hs j t t' (by omega) (by omega))
    · exact Or.inr ⟨r, r', mo_lp_inrS e1, mo_lp_inrS e2, hq⟩
def mo_fo (c v : Nat → Nat) (n : Nat) (b : Nat → Int32) : Nat → Int32 := mo_it (fun k r => va_up r (c k) (nI (v k))) n 0 b
theorem mo_fo_s {c v : Nat → Nat} {n : Nat} {b : Nat → Int32} : mo_fo c v (n + 1) b = va_up (mo_fo c v n b) (c n) (nI (v n)) := by
  unfold mo_fo
  rw [mo_it_last, Nat.zero_add]
theorem mo_fo_congr {c c' v v' : Nat → Nat} {b b' : Nat → Int32} {m : Nat} (hb : b m = b' m) : ∀ {n : Nat}, (∀ k, k < n → c k = c' k ∧ v k = v' k) → mo_fo c v n b m = mo_fo c' v' n b' m
  | 0, _ => hb
  | n + 1, h => by
    have ih := mo_fo_congr hb (fun k hk => h k (Nat.lt_succ_of_lt hk)) (n := n)
    rw [mo_fo_s, mo_fo_s, (h n (Nat.lt_succ_self n)).1, (h n (Nat.lt_succ_self n)).2]
    by_cases e : m = c' n
    · rw [e, va_up_self, va_up_self]
    · rw [va_up_ne _ _ e, va_up_ne _ _ e, ih]
theorem mo_up_va {α : Type} {f : Nat → Nat → α} {q k : Nat} {v : α} : mo_up f q k v q = va_up (f q) k v := by
  funext y
  by_cases e : y = k
  · rw [e, mo_upA, va_up_self]
  · rw [mo_upK _ _ _ e, va_up_ne _ _ e]
theorem mo_fo_row {c v : Nat → Nat} {q : Nat} {f : Nat → (Nat → Nat → Int32) → Nat → Nat → Int32} (hf : ∀ k s, f k s = mo_up s q (c k) (nI (v k))) : ∀ (n : Nat) (s : Nat → Nat → Int32), mo_it f n 0 s q = mo_fo c v n (s q)
  | 0, _ => rfl
  | n + 1, s => by
    rw [mo_it_last, Nat.zero_add, hf, mo_up_va, mo_fo_row hf n s, mo_fo_s]
theorem grt_r {T : mo_Tn} (hv : mo_vT T) {d i x o : Nat} {s : Int64 × Nat × List Nat} {W : Nat → Int64} (hW : ∀ n, n < 12 → W n = tW T (nI d) n) (ho : tOwn T ((tLine T (nI d)).getD i 0) = o) (hx : ∀ k, x.testBit k = (decide (k < tNames T) && (!s.2.1.testBit k && !decide (o = k)))) : mo_grt W x = w_Model_serial_54 T d i s ∧ ∀ v, w_Model_serial_54 T d i s = some v → v < tNames T ∧ s.2.1.testBit v = false := by
  have hN := vT_tNames hv
  generalize hf : (fun (i : Nat) (s : Option Nat) => Option.elim s (if Nat.testBit x i = true then some i else none) (fun v => if Nat.testBit x i = true then (if lg_cmp (W i) (W v) ≤ 0 then some v else some i) else some v)) = f
  have key : ∀ n, n ≤ tNames T → mo_it f n 0 none = mo_it (b_Model_serial_54 T d i s) n 0 none ∧ ∀ v, mo_it (b_Model_serial_54 T d i s) n 0 none = some v → v < n ∧ s.2.1.testBit v = false := fun n => by
    induction n with
    | zero => intro _; exact ⟨rfl, fun v z => by cases z⟩
    | succ n ih =>
      intro hn
      obtain ⟨h1, h2⟩ := ih (by omega)
      rw [mo_it_last, mo_it_last, Nat.zero_add, h1]
      generalize mo_it (b_Model_serial_54 T d i s) n 0 none = t at h1 h2 ⊢
      have hxn : x.testBit n = (!s.2.1.testBit n && !decide (o = n)) := by rw [hx n, decide_eq_true (show n < tNames T by omega), Bool.true_and]
      rw [← hf]
      unfold b_Model_serial_54
      rw [ho]
      cases t with
      | none =>
        show (if x.testBit n = true then some n else none) = (if s.2.1.testBit n = true then none else if o = n then none else some n) ∧ ∀ v, (if s.2.1.testBit n = true then none else if o = n then none else some n) = some v → _
        rw [hxn]
        cases e1 : s.2.1.testBit n with
        | true => exact ⟨rfl, fun v z => by cases z⟩
        | false =>
          by_cases e2 : o = n
          · rw [decide_eq_true e2, if_pos e2]; exact ⟨rfl, fun v z => by cases z⟩
          · rw [decide_eq_false e2, if_neg e2]
            refine ⟨rfl, fun v z => ?_⟩
            have z : some n = some v := z
            cases z
            exact ⟨Nat.lt_succ_self n, e1⟩
      | some w =>
        have hw := h2 w rfl
        show (if x.testBit n = true then (if lg_cmp (W n) (W w) ≤ 0 then some w else some n) else some w) = (if s.2.1.testBit n = true then some w else if o = n then some w else if lg_cmp (tW T (nI d) n) (tW T (nI d) w) ≤ 0 then some w else some n) ∧ ∀ v, (if s.2.1.testBit n = true then some w else if o = n then some w else if lg_cmp (tW T (nI d) n) (tW T (nI d) w) ≤ 0 then some w else some n) = some v → _
        rw [hxn, hW n (by omega), hW w (by omega)]
        have hww : ∀ v, some w = some v → v < n + 1 ∧ s.2.1.testBit v = false := fun v z => by cases z; exact ⟨by omega, hw.2⟩
        cases e1 : s.2.1.testBit n with
        | true => exact ⟨rfl, hww⟩
        | false =>
          by_cases e2 : o = n
          · rw [decide_eq_true e2, if_pos e2]; exact ⟨rfl, hww⟩
          · rw [decide_eq_false e2, if_neg e2]
            refine ⟨rfl, fun v z => ?_⟩
            have z : (if lg_cmp (tW T (nI d) n) (tW T (nI d) w) ≤ 0 then some w else some n) = some v := z
            by_cases e3 : lg_cmp (tW T (nI d) n) (tW T (nI d) w) ≤ 0
            · rw [if_pos e3] at z; exact hww v z
            · rw [if_neg e3] at z; cases z; exact ⟨Nat.lt_succ_self n, e1⟩
  have k0 := key (tNames T) (Nat.le_refl _)
  refine ⟨?_, k0.2⟩
  unfold mo_grt w_Model_serial_54
  rw [hf, ← k0.1, show 12 = tNames T + (12 - tNames T) by omega, mo_it_add, Nat.zero_add]
  generalize mo_it f (tNames T) 0 none = t
  have := mo_it_inv (f := f) (fun _ u => u = t) (k := 12 - tNames T) (i := tNames T) (s := t) rfl (fun j u h1 _ hu => by
    rw [hu, ← hf]
    show Option.elim t (if x.testBit j = true then some j else none) _ = t
    have hxj : x.testBit j = false := by rw [hx j, decide_eq_false (show ¬ j < tNames T by omega), Bool.false_and]
    rw [hxj]
    cases t with
    | none => rfl
    | some v => rfl)
  exact this
/-- what the reference's row tells behind a serial -/
def tSe (T : mo_Tn) (d : Nat) (vs : List Nat) : Nat → Int32 := mo_fo (fun k => (tLine T (nI d)).getD k 0) (fun k => vs.getD k 0) (tLine T (nI d)).length (fun _ => -1)
theorem serial_eq {R : Nat → Nat → Nat} {I : Nat → Nat → Int32} {L : Nat → Nat → Int64} {g : Nat} {T : mo_Tn} (hv : mo_vT T) (hF : mo_fT T) (hG : mo_gT T) {d : Nat} : (∃ z z', w_Gate_takeInTurn_53 R I L g T (nI d) = .inl z ∧ w_Model_serial_39 T d = .inl z' ∧ z.2.1 = z'.1 ∧ (∀ m, m < 8 → z.2.2 m = tSe T d z'.2.2 m) ∧ -2634508800 ≤ z'.1.toInt ∧ z'.1.toInt ≤ 2634508800) ∨ (∃ r r', w_Gate_takeInTurn_53 R I L g T (nI d) = .inr r ∧ w_Model_serial_39 T d = .inr r') := by
  have hN := vT_tNames hv
  have hM := vT_tMen hv
  have hl := tLine_len T (nI d)
  unfold w_Gate_takeInTurn_53 w_Model_serial_39
  rw [line_len hv hF]
  have key := lp_sim (f := b_Gate_takeInTurn_53 R L g T (nI d)) (h := b_Model_serial_39 T d) (fun i z z' => i ≤ (tLine T (nI d)).length ∧ (∀ k, z.1.testBit k = (decide (k < tNames T) && !z'.2.1.testBit k)) ∧ z.2.1 = z'.1 ∧ z'.2.2.length = i ∧ (∀ m, m < 8 → z.2.2 m = mo_fo (fun k => (tLine T (nI d)).getD k 0) (fun k => z'.2.2.getD k 0) i (fun _ => -1) m) ∧ -((i : Int) * 329313600) ≤ z'.1.toInt ∧ z'.1.toInt ≤ (i : Int) * 329313600) (fun _ _ => True) (k := (tLine T (nI d)).length) (i := 0) (s := (2 ^ tNames T - 1, 0, (mo_fi (mo_lw I (R g 8) (tLU T (nI d))) (R g 7) 0 8 (fun _ => -1)) (R g 7))) (s' := (0, 0, [])) ⟨Nat.zero_le _, fun k => by
      show (2 ^ tNames T - 1).testBit k = (decide (k < tNames T) && !(0 : Nat).testBit k)
      rw [Nat.testBit_two_pow_sub_one, Nat.zero_testBit, Bool.not_false, Bool.and_true], rfl, rfl, fun m hm => (by show mo_fi (mo_lw I (R g 8) (tLU T (nI d))) (R g 7) 0 8 (fun _ => -1) (R g 7) m = -1; rw [mo_fiZ hm]), by decide, by decide⟩ (fun j z z' _ hj hP => by
    obtain ⟨hp0, hp1, hp2, hp3, hp4, hp5⟩ := hP
    have hj' : j < (tLine T (nI d)).length := by omega
    have hm := tLine_lt hj'
    have hcm : tCm T ((tLU T (nI d)).getD j 0) = (tLine T (nI d)).getD j 0 := line_at hv hF (by rw [line_len hv hF]; exact hj')
    have hgr := grt_r hv (T := T) (d := d) (i := j) (x := mo_dif z.1 (2 ^ tOwn T ((tLine T (nI d)).getD j 0))) (o := tOwn T ((tLine T (nI d)).getD j 0)) (s := z') (W := (mo_fi L (R g 10) 0 12 (tSu T (nI d))) (R g 10)) (fun n hn => by rw [mo_fiZ hn, su_w hv hG hn]) rfl (fun k => by rw [mo_dif_bit, hp1 k, Nat.testBit_two_pow, Bool.and_assoc])
    unfold b_Gate_takeInTurn_53 b_Model_serial_39
    rw [hcm, hgr.1]
    cases e : w_Model_serial_54 T d j z' with
    | none => exact Or.inr ⟨_, _, rfl, rfl, trivial⟩
    | some v =>
      have hv2 := hgr.2 v e
      refine Or.inl ⟨_, _, rfl, rfl, by omega, fun k => ?_, ?_, ?_, fun m hm8 => ?_, ?_⟩
      · show (mo_dif z.1 (2 ^ v)).testBit k = (decide (k < tNames T) && !(z'.2.1 ||| 2 ^ v).testBit k)
        rw [mo_dif_bit, hp1 k, Nat.testBit_or, Bool.not_or, Bool.and_assoc]
      · show z.2.1 + tSu T (nI d) v = z'.1 + tW T (nI d) v
        rw [hp2, su_w hv hG (by omega)]
      · show (z'.2.2 ++ [v]).length = j + 1
        rw [List.length_append, hp3]
        rfl
      · show va_up z.2.2 ((tLine T (nI d)).getD j 0) (nI v) m = mo_fo (fun k => (tLine T (nI d)).getD k 0) (fun k => (z'.2.2 ++ [v]).getD k 0) (j + 1) (fun _ => -1) m
        rw [mo_fo_s]
        have hg : (z'.2.2 ++ [v]).getD j 0 = v := by
          rw [List.getD_eq_getElem?_getD, List.getElem?_append_right (by omega), hp3, Nat.sub_self]
          rfl
        show _ = va_up _ ((tLine T (nI d)).getD j 0) (nI ((z'.2.2 ++ [v]).getD j 0)) m
        rw [hg]
        by_cases em : m = (tLine T (nI d)).getD j 0
        · rw [em, va_up_self, va_up_self]
        · rw [va_up_ne _ _ em, va_up_ne _ _ em, hp4 m hm8]
          exact mo_fo_congr rfl (fun k hk => ⟨rfl, by
            show z'.2.2.getD k 0 = (z'.2.2 ++ [v]).getD k 0
            rw [List.getD_eq_getElem?_getD, List.getD_eq_getElem?_getD, List.getElem?_append_left (by omega)]⟩)
      · have hb := mo_bd (x := z'.1) (y := tW T (nI d) v) (c := (j : Int) * 329313600) (b := 329313600) (by omega) hp5 (by decide) (by rw [← su_w hv hG (by omega)]; exact su_b hv hG)
        show -(((j + 1 : Nat) : Int) * 329313600) ≤ (z'.1 + tW T (nI d) v).toInt ∧ (z'.1 + tW T (nI d) v).toInt ≤ ((j + 1 : Nat) : Int) * 329313600
        omega)
  rcases key with ⟨u, u', e1, e2, hP⟩ | ⟨r, r', e1, e2, _⟩
  · obtain ⟨_, _, hp2, _, hp4, hp5⟩ := hP
    rw [Nat.zero_add] at hp4 hp5
    exact Or.inl ⟨u, u', e1, e2, hp2, hp4, by omega, by omega⟩
  · exact Or.inr ⟨r, r', e1, e2⟩
theorem serial_row {R : Nat → Nat → Nat} {I : Nat → Nat → Int32} {a : Nat} {T : mo_Tn} {d : Nat} {z : Int64 × Nat × List Nat} {m : Nat} (hm : m < 8) : w_Model_serial_205 R I a T d z (R a 28) m = tSe T d z.2.2 m := by
  unfold w_Model_serial_205 tSe
  rw [mo_fo_row (f := b_Model_serial_205 R a T d z) (q := R a 28) (c := fun k => (tLine T (nI d)).getD k 0) (v := fun k => z.2.2.getD k 0) (fun k s => rfl)]
  refine mo_fo_congr ?_ (fun k _ => ⟨rfl, rfl⟩)
  unfold w_Model_serial_181
  have := mo_it_inv (f := b_Model_serial_181 R a) (fun j s => ∀ m, m < j → s (R a 28) m = -1) (k := 8) (i := 0) (s := (mo_up (mo_up (mo_lw (mo_l1 I a 23 (R a 22) (tLine T (nI d))) (R a 26) z.2.2) a 0 0) a 31 1)) (fun m hm => absurd hm (Nat.not_lt_zero m)) (fun j s _ _ hs m hm => by
    unfold b_Model_serial_181
    by_cases e : m = j
    · rw [e, mo_upA]
    · rw [mo_upK _ _ _ e]; exact hs m (by omega))
  exact this m (by omega)
