/-! The market: the most that those of a row can have, by ranks. -/
def mq_rep (c : Int) (x : Int64) : Option Int → Prop
  | none => x = -1000000000000000
  | some v => x.toInt = v ∧ -c ≤ v ∧ v ≤ c
def mq_tk (wz : Nat → Int) (k : Nat) (L : List Nat) : Option Int := if k ≤ L.length then some (((L.take k).map wz).sum) else none
def mq_t (wz : Nat → Int) : List Nat → List Nat → Option Int
  | [], _ => some 0
  | [o], L => mq_tk wz 1 (L.filter (fun n => !decide (n = o)))
  | o :: o' :: os, L => mq_tk wz (os.length + 2) L
theorem mq_nev : (-1000000000000000 : Int64).toInt = -1000000000000000 := by decide
theorem mq_rep_ne {c : Int} {x : Int64} {v : Int} (hc : c < 1000000000000000) (h : mq_rep c x (some v)) : x ≠ -1000000000000000 := fun e => by
  have h1 := h.1
  have h2 := h.2.1
  rw [e, mq_nev] at h1
  omega
theorem mq_add {x y : Int64} {c : Int} (hc : c < 1000000000000000) (hx : -c ≤ x.toInt ∧ x.toInt ≤ c) (hy : -1099511627776 ≤ y.toInt ∧ y.toInt ≤ 1099511627776) : (x + y).toInt = x.toInt + y.toInt := by
  rw [Int64.toInt_add]
  exact Int.bmod_eq_of_le (by omega) (by omega)
theorem lc_leG {x y : Int64} : lg_cmp x y ≤ 0 ↔ ¬ y < x := by
  unfold lg_cmp
  by_cases h : x > y
  · rw [if_pos h]; exact ⟨fun z => absurd z (by decide), fun z => absurd h z⟩
  · rw [if_neg h]
    refine ⟨fun _ => h, fun _ => ?_⟩
    split <;> decide
theorem mq_mx_ge {W : Nat → Int64} {N wo o : Nat} {os : List Nat} {set n : Nat} (hn : n < N) (h1 : ¬ Nat.testBit (set ||| wo) n = true) (h2 : ¬ o = n) (h3 : mo_mx W N wo os (set ||| 2 ^ n) ≠ -1000000000000000) : (mo_mx W N wo os (set ||| 2 ^ n) + W n).toInt ≤ (mo_mx W N wo (o :: os) set).toInt := by
  have key := mo_it_inv (f := mo_mxb (mo_mx W N wo os) W wo o set) (fun j b => n < j → (mo_mx W N wo os (set ||| 2 ^ n) + W n).toInt ≤ b.toInt) (k := N) (i := 0) (s := -1000000000000000) (fun z => absurd z (Nat.not_lt_zero n)) (fun j b _ hj hb hnj => by
    unfold mo_mxb
    by_cases e : n = j
    · subst e
      rw [if_neg h1, if_neg h2, if_neg (fun z => h3 (lc_eq0.mp z))]
      by_cases c4 : lg_cmp (mo_mx W N wo os (set ||| 2 ^ n) + W n) b ≤ 0
      · rw [if_pos c4]
        have := lc_leG.mp c4
        exact Int.not_lt.mp (fun z => this (Int64.lt_iff_toInt_lt.mpr z))
      · rw [if_neg c4]
        exact Int.le_refl _
    · have hb2 := hb (by omega)
      by_cases c1 : Nat.testBit (set ||| wo) j = true
      · rw [if_pos c1]; exact hb2
      · rw [if_neg c1]
        by_cases c2 : o = j
        · rw [if_pos c2]; exact hb2
        · rw [if_neg c2]
          by_cases c3 : lg_cmp (mo_mx W N wo os (set ||| 2 ^ j)) (-1000000000000000) = 0
          · rw [if_pos c3]; exact hb2
          · rw [if_neg c3]
            by_cases c4 : lg_cmp (mo_mx W N wo os (set ||| 2 ^ j) + W j) b ≤ 0
            · rw [if_pos c4]; exact hb2
            · rw [if_neg c4]
              have c5 : b < mo_mx W N wo os (set ||| 2 ^ j) + W j := Classical.byContradiction (fun z => c4 (lc_leG.mpr z))
              have c6 := Int64.lt_iff_toInt_lt.mp c5
              omega)
  exact key (by omega)
theorem mq_rec_none {W : Nat → Int64} {N wo o : Nat} {os : List Nat} {set : Nat} {c : Int} {L : List Nat} {f : Nat → Option Int} (hL : ∀ n, n ∈ L ↔ n < N ∧ (set ||| wo).testBit n = false) (hf : ∀ n, n ∈ L → n ≠ o → mq_rep c (mo_mx W N wo os (set ||| 2 ^ n)) (f n)) (hr : ∀ n, n ∈ L → n ≠ o → f n = none) : mq_rep (c + 1099511627776) (mo_mx W N wo (o :: os) set) none := by
  show mo_mx W N wo (o :: os) set = _
  apply Classical.byContradiction
  intro h
  obtain ⟨n, hn, h1, h2, h3, _⟩ := mo_mx_some h
  have hn' : n ∈ L := (hL n).mpr ⟨hn, by cases e : (set ||| wo).testBit n <;> simp_all⟩
  have h4 := hf n hn' (fun z => h2 z.symm)
  rw [hr n hn' (fun z => h2 z.symm)] at h4
  exact h3 h4
theorem mq_rec_some {W : Nat → Int64} {N wo o : Nat} {os : List Nat} {set : Nat} {c v : Int} {L : List Nat} {f : Nat → Option Int} (hL : ∀ n, n ∈ L ↔ n < N ∧ (set ||| wo).testBit n = false) (hf : ∀ n, n ∈ L → n ≠ o → mq_rep c (mo_mx W N wo os (set ||| 2 ^ n)) (f n)) (hW : ∀ n, n < N → -1099511627776 ≤ (W n).toInt ∧ (W n).toInt ≤ 1099511627776) (hc : 0 ≤ c ∧ c < 100000000000000) (hr : ∃ n, n ∈ L ∧ n ≠ o ∧ ∃ u, f n = some u ∧ v = u + (W n).toInt) (hr2 : ∀ n, n ∈ L → n ≠ o → ∀ u, f n = some u → u + (W n).toInt ≤ v) : mq_rep (c + 1099511627776) (mo_mx W N wo (o :: os) set) (some v) := by
  obtain ⟨n, hn, hno, u, hu, hv⟩ := hr
  have h1 := (hL n).mp hn
  have h2 := hf n hn hno
  rw [hu] at h2
  have h3 := mq_rep_ne (by omega) h2
  have h4 := mq_mx_ge (o := o) h1.1 (by rw [h1.2]; decide) (fun z => hno z.symm) h3
  have hw := hW n h1.1
  rw [mq_add (c := c) (by omega) (by rw [h2.1]; exact h2.2) hw, h2.1] at h4
  have h5 : mo_mx W N wo (o :: os) set ≠ -1000000000000000 := fun z => by
    rw [z, mq_nev] at h4
    have := h2.2.1
    omega
  obtain ⟨n', hn', g1, g2, g3, g4⟩ := mo_mx_some h5
  have hnL : n' ∈ L := (hL n').mpr ⟨hn', by cases e : (set ||| wo).testBit n' <;> simp_all⟩
  have g5 := hf n' hnL (fun z => g2 z.symm)
  cases e : f n' with
  | none => rw [e] at g5; exact absurd g5 g3
  | some u' =>
    rw [e] at g5
    have g6 := hr2 n' hnL (fun z => g2 z.symm) u' e
    have hw' := hW n' hn'
    have g7 : (mo_mx W N wo (o :: os) set).toInt = u' + (W n').toInt := by
      rw [g4, mq_add (c := c) (by omega) (by rw [g5.1]; exact g5.2) hw', g5.1]
    have b1 := h2.2
    have b2 := g5.2
    exact ⟨by omega, by omega, by omega⟩
theorem mq_len {L : List Nat} {n : Nat} (hd : L.Nodup) (hn : n ∈ L) : (L.filter (fun x => !decide (x = n))).length + 1 = L.length := by
  induction L with
  | nil => cases hn
  | cons a L ih =>
    rw [List.nodup_cons] at hd
    by_cases e : a = n
    · subst e
      rw [List.filter_cons_of_neg (by simp), List.length_cons, List.filter_eq_self.mpr (fun x hx => by
        have : x ≠ a := fun z => hd.1 (z ▸ hx)
        simp [this])]
    · rw [List.filter_cons_of_pos (by simp [e]), List.length_cons, List.length_cons, ih hd.2 (by
        rcases List.mem_cons.mp hn with h | h
        · exact absurd h.symm e
        · exact h)]
theorem mq_U {wz : Nat → Int} : ∀ {L : List Nat} {k n : Nat}, L.Nodup → L.Pairwise (fun a b => wz b ≤ wz a) → n ∈ L → k + 1 ≤ L.length → (((L.filter (fun x => !decide (x = n))).take k).map wz).sum + wz n ≤ ((L.take (k + 1)).map wz).sum ∧ (n ∈ L.take (k + 1) → (((L.filter (fun x => !decide (x = n))).take k).map wz).sum + wz n = ((L.take (k + 1)).map wz).sum)
  | [], k, n, _, _, hn, _ => by cases hn
  | a :: L, k, n, hd, hs, hn, hk => by
    rw [List.nodup_cons] at hd
    rw [List.pairwise_cons] at hs
    rw [List.take_succ_cons, List.map_cons, List.sum_cons]
    by_cases e : a = n
    · subst e
      rw [List.filter_cons_of_neg (by simp), List.filter_eq_self.mpr (fun x hx => by
        have : x ≠ a := fun z => hd.1 (z ▸ hx)
        simp [this])]
      exact ⟨by omega, fun _ => by omega⟩
    · rw [List.filter_cons_of_pos (by simp [e])]
      have hn' : n ∈ L := by
        rcases List.mem_cons.mp hn with h | h
        · exact absurd h.symm e
        · exact h
      cases k with
      | zero =>
        have := hs.1 n hn'
        refine ⟨?_, fun z => ?_⟩
        · show (0 : Int) + wz n ≤ wz a + 0
          omega
        · rw [List.take_zero] at z
          rcases List.mem_cons.mp z with h | h
          · exact absurd h.symm e
          · cases h
      | succ j =>
        have ih := mq_U (wz := wz) (k := j) hd.2 hs.2 hn' (by rw [List.length_cons] at hk; omega)
        rw [List.take_succ_cons, List.map_cons, List.sum_cons]
        refine ⟨by omega, fun z => ?_⟩
        rcases List.mem_cons.mp z with h | h
        · exact absurd h.symm e
        · have := ih.2 h
          omega
theorem mq_hd {wz : Nat → Int} {L : List Nat} {p : Nat → Bool} {v w : Int} (hs : L.Pairwise (fun a b => wz b ≤ wz a)) (h1 : mq_tk wz 1 (L.filter p) = some v) (h2 : mq_tk wz 1 L = some w) : v ≤ w := by
  unfold mq_tk at h1 h2
  cases L with
  | nil => simp at h1
  | cons a L =>
    rw [List.pairwise_cons] at hs
    rw [if_pos (by simp)] at h2
    simp only [List.take_succ_cons, List.take_zero, List.map_cons, List.map_nil, List.sum_cons, List.sum_nil, Option.some.injEq] at h2
    cases e : (a :: L).filter p with
    | nil => rw [e] at h1; simp at h1
    | cons b M =>
      rw [e, if_pos (by simp)] at h1
      simp only [List.take_succ_cons, List.take_zero, List.map_cons, List.map_nil, List.sum_cons, List.sum_nil, Option.some.injEq] at h1
      have hb : b ∈ a :: L := (List.mem_filter.mp (by rw [e]; exact List.mem_cons_self)).1
      rcases List.mem_cons.mp hb with h | h
      · subst h; omega
      · have := hs.1 b h
        omega
theorem mq_filt {rl : List Nat} {set wo n : Nat} : rl.filter (fun x => !((set ||| 2 ^ n) ||| wo).testBit x) = (rl.filter (fun x => !(set ||| wo).testBit x)).filter (fun x => !decide (x = n)) := by
  rw [List.filter_filter]
  refine List.filter_congr (fun x _ => ?_)
  rw [Nat.testBit_or, Nat.testBit_or, Nat.testBit_or, Nat.testBit_two_pow, show decide (n = x) = decide (x = n) from decide_eq_decide.mpr ⟨Eq.symm, Eq.symm⟩]
  cases set.testBit x <;> cases wo.testBit x <;> cases decide (x = n) <;> rfl
theorem mq_main {W : Nat → Int64} {N wo : Nat} {rl : List Nat} (hd : rl.Nodup) (hm : ∀ n, n ∈ rl ↔ n < N) (hs : rl.Pairwise (fun a b => (W b).toInt ≤ (W a).toInt)) (hW : ∀ n, n < N → -1099511627776 ≤ (W n).toInt ∧ (W n).toInt ≤ 1099511627776) : ∀ (os : List Nat), os.Nodup → os.length ≤ 8 → ∀ set, mq_rep ((os.length : Int) * 1099511627776) (mo_mx W N wo os set) (mq_t (fun n => (W n).toInt) os (rl.filter (fun n => !(set ||| wo).testBit n)))
  | [], _, _, set => by
    show (0 : Int64).toInt = 0 ∧ _
    exact ⟨by decide, by simp, by simp⟩
  | o :: os, ho, hk, set => by
    rw [List.nodup_cons] at ho
    have ih := mq_main (wo := wo) hd hm hs hW os ho.2 (by rw [List.length_cons] at hk; omega)
    have hlen : ((o :: os).length : Int) * 1099511627776 = (os.length : Int) * 1099511627776 + 1099511627776 := by rw [List.length_cons]; omega
    have hk' : os.length ≤ 7 := by rw [List.length_cons] at hk; omega
    rw [hlen]
    generalize hLe : rl.filter (fun n => !(set ||| wo).testBit n) = L
    have hL : ∀ n, n ∈ L ↔ n < N ∧ (set ||| wo).testBit n = false := fun n => by
      rw [← hLe, List.mem_filter, hm n, Bool.not_eq_true']
    have hLd : L.Nodup := by rw [← hLe]; exact List.Pairwise.filter _ hd
    have hLs : L.Pairwise (fun a b => (W b).toInt ≤ (W a).toInt) := by rw [← hLe]; exact List.Pairwise.filter _ hs
    have hf : ∀ n, n ∈ L → n ≠ o → mq_rep ((os.length : Int) * 1099511627776) (mo_mx W N wo os (set ||| 2 ^ n)) (mq_t (fun n => (W n).toInt) os (L.filter (fun x => !decide (x = n)))) := fun n _ _ => by
      have := ih (set ||| 2 ^ n)
      rw [mq_filt, hLe] at this
      exact this
    have hc : (0 : Int) ≤ (os.length : Int) * 1099511627776 ∧ (os.length : Int) * 1099511627776 < 100000000000000 := ⟨by omega, by omega⟩
    rcases os with _ | ⟨o1, os1⟩
    ·
      show mq_rep _ _ (mq_tk _ 1 (L.filter (fun n => !decide (n = o))))
      cases e : L.filter (fun n => !decide (n = o)) with
      | nil =>
        refine mq_rec_none hL hf (fun n hn hno => ?_)
        have : n ∈ L.filter (fun n => !decide (n = o)) := List.mem_filter.mpr ⟨hn, by simp [hno]⟩
        rw [e] at this
        cases this
      | cons a M =>
        have ha : a ∈ L ∧ a ≠ o := by
          have : a ∈ L.filter (fun n => !decide (n = o)) := by rw [e]; exact List.mem_cons_self
          have := List.mem_filter.mp this
          exact ⟨this.1, by simpa using this.2⟩
        have hsF : (a :: M).Pairwise (fun a b => (W b).toInt ≤ (W a).toInt) := by rw [← e]; exact List.Pairwise.filter _ hLs
        rw [List.pairwise_cons] at hsF
        show mq_rep _ _ (some ((W a).toInt + 0))
        refine mq_rec_some hL hf hW hc ⟨a, ha.1, ha.2, 0, rfl, by omega⟩ (fun n hn hno u hu => ?_)
        have hu0 : u = 0 := (Option.some.inj hu).symm
        have : n ∈ a :: M := by rw [← e]; exact List.mem_filter.mpr ⟨hn, by simp [hno]⟩
        rcases List.mem_cons.mp this with h | h
        · subst h; omega
        · have := hsF.1 n h
          omega
    rcases os1 with _ | ⟨o2, os'⟩
    ·
      show mq_rep _ _ (mq_tk _ 2 L)
      have hoo : o ≠ o1 := fun z => ho.1 (by rw [z]; exact List.mem_cons_self)
      clear ih hLe
      rcases L with _ | ⟨a, _ | ⟨b, M⟩⟩
      · exact mq_rec_none hL hf (fun n hn _ => by cases hn)
      · refine mq_rec_none hL hf (fun n hn _ => ?_)
        have : n = a := by simpa using hn
        subst this
        show mq_tk _ 1 ((List.filter _ [n]).filter _) = none
        simp [mq_tk]
      · show mq_rep _ _ (some ((W a).toInt + ((W b).toInt + 0)))
        have hab : a ≠ b := fun z => by
          rw [List.nodup_cons] at hLd
          exact hLd.1 (by rw [z]; exact List.mem_cons_self)
        refine mq_rec_some hL hf hW hc ?_ (fun n hn hno u hu => ?_)
        · by_cases c : a ≠ o ∧ b ≠ o1
          · refine ⟨a, List.mem_cons_self, c.1, (W b).toInt, ?_, by omega⟩
            show mq_tk _ 1 ((List.filter _ (a :: b :: M)).filter _) = _
            rw [List.filter_cons_of_neg (by simp), List.filter_cons_of_pos (by simp [hab.symm]), List.filter_cons_of_pos (by simp [c.2])]
            simp [mq_tk]
          · have h1 : b ≠ o := by
              intro z
              apply c
              refine ⟨fun w => hab (w.trans z.symm), fun w => hoo (z.symm.trans w)⟩
            have h2 : a ≠ o1 := by
              intro z
              apply c
              refine ⟨fun w => hoo (w.symm.trans z), fun w => hab (z.trans w.symm)⟩
            refine ⟨b, List.mem_cons_of_mem _ List.mem_cons_self, h1, (W a).toInt, ?_, by omega⟩
            show mq_tk _ 1 ((List.filter _ (a :: b :: M)).filter _) = _
            rw [List.filter_cons_of_pos (by simp [hab]), List.filter_cons_of_pos (by simp [h2])]
            simp [mq_tk]
        · have hU := mq_U (wz := fun n => (W n).toInt) (k := 1) hLd hLs hn (by simp)
          have hlen2 := mq_len hLd hn
          have hw : mq_tk (fun n => (W n).toInt) 1 ((a :: b :: M).filter (fun x => !decide (x = n))) = some (((((a :: b :: M).filter (fun x => !decide (x = n))).take 1).map (fun n => (W n).toInt)).sum) := if_pos (by rw [List.length_cons, List.length_cons] at hlen2; omega)
          have := mq_hd (wz := fun n => (W n).toInt) (List.Pairwise.filter _ hLs) hu hw
          have h3 := hU.1
          simp only [List.take_succ_cons, List.take_zero, List.map_cons, List.map_nil, List.sum_cons, List.sum_nil] at h3
          omega
    ·
      show mq_rep _ _ (mq_tk _ (os'.length + 3) L)
      by_cases hk2 : os'.length + 3 ≤ L.length
      · rw [show mq_tk (fun n => (W n).toInt) (os'.length + 3) L = some (((L.take (os'.length + 3)).map (fun n => (W n).toInt)).sum) from if_pos hk2]
        have hfn : ∀ n, n ∈ L → mq_t (fun n => (W n).toInt) (o1 :: o2 :: os') (L.filter (fun x => !decide (x = n))) = some ((((L.filter (fun x => !decide (x = n))).take (os'.length + 2)).map (fun n => (W n).toInt)).sum) := fun n hn => if_pos (by have := mq_len hLd hn; omega)
        refine mq_rec_some hL hf hW hc ?_ (fun n hn hno u hu => ?_)
        · have : ∃ n, n ∈ L ∧ n ≠ o ∧ n ∈ L.take (os'.length + 3) := by
            match L, hLd, hk2 with
            | [], _, h => simp at h
            | [a], _, h => simp at h
            | a :: b :: M, hLd, _ =>
              have hab : a ≠ b := fun z => by
                rw [List.nodup_cons] at hLd
                exact hLd.1 (by rw [z]; exact List.mem_cons_self)
              rw [List.take_succ_cons, List.take_succ_cons]
              by_cases c : a = o
              · exact ⟨b, by simp, fun z => hab (c.trans z.symm), by simp⟩
              · exact ⟨a, by simp, c, by simp⟩
          obtain ⟨n, h1, h2, h3⟩ := this
          exact ⟨n, h1, h2, _, hfn n h1, ((mq_U (wz := fun n => (W n).toInt) (k := os'.length + 2) hLd hLs h1 hk2).2 h3).symm⟩
        · rw [hfn n hn] at hu
          rw [← Option.some.inj hu]
          exact (mq_U (wz := fun n => (W n).toInt) (k := os'.length + 2) hLd hLs hn hk2).1
      · rw [show mq_tk (fun n => (W n).toInt) (os'.length + 3) L = none from if_neg hk2]
        exact mq_rec_none hL hf (fun n hn _ => if_neg (by have := mq_len hLd hn; omega))
