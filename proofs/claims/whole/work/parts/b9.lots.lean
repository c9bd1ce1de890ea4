/-! lots: the class's answers are the reference's. -/
set_option maxRecDepth 100000 in
theorem ways_all : (List.range 9).all (fun x => (List.range 13).all (fun y => (List.range (x + 1)).all (fun u => decide (y < x) || decide (o_Lot_ways x y u = lN (lo_W x y u).toNat)))) = true := by decide +kernel
theorem ways_W {x y u n : Nat} (hx : x ≤ 8) (hy : y ≤ 12) (hu : u ≤ x) (hxy : x ≤ y) (h : (n : Int) = lo_W x y u) : o_Lot_ways x y u = lN n := by
  have k := List.all_eq_true.mp (List.all_eq_true.mp (List.all_eq_true.mp ways_all x (List.mem_range.mpr (by omega))) y (List.mem_range.mpr (by omega))) u (List.mem_range.mpr (by omega))
  rw [decide_eq_false (show ¬ y < x by omega), Bool.false_or] at k
  rw [of_decide_eq_true k, ← h, Int.toNat_natCast]
theorem map_getD {β : Type} {f : Nat → β} (l : List Nat) : (List.range' 0 l.length).map (fun i => f (l.getD i 0)) = l.map f := by
  apply List.ext_getElem
  · simp
  · intro i h1 h2
    rw [List.length_map] at h2
    simp [h2]
theorem lo_br_0 {N : Nat} : ∀ {os : List Nat}, os.Nodup → (∀ o ∈ os, o < N) → lo_br N os 0 = os.length
  | [], _, _ => mo_sm_zero (fun n _ => by simp)
  | o :: os, hd, hl => by
    rw [List.nodup_cons] at hd
    rw [lo_br_cons (hl o List.mem_cons_self) hd.1, lo_br_0 hd.2 (fun x hx => hl x (List.mem_cons_of_mem _ hx)), Nat.zero_testBit, if_neg (by decide), List.length_cons]
theorem lo_fr_0 (N : Nat) : lo_fr N 0 = N := by
  unfold lo_fr
  rw [lo_ct_congr (q := fun _ => true) (fun n _ => by rw [Nat.zero_testBit]; rfl)]
  exact lo_ct_all N
theorem lo_none {N : Nat} {post : List (Nat → Bool)} {fx : Nat → Bool} (hf : ∀ n, n < N → fx n = false) : ∀ (pre : List (Nat → Bool)) (u : Nat), lo_cn N (pre ++ fx :: post) u = 0
  | [], u => mo_sm_zero (fun n hn => by rw [hf n hn, Bool.and_false]; rfl)
  | a :: pre, u => mo_sm_zero (fun n hn => by
    rw [show lo_cn N (List.append pre (fx :: post)) (u ||| 2 ^ n) = 0 from lo_none hf pre (u ||| 2 ^ n), ite_self])
theorem row_mem {T : mo_Tn} {dd : Int32} {m : Nat} : m ∈ tRow T dd (-1) ↔ m < tMen T ∧ ∃ c, tF T (nI m) dd = some c := by
  unfold tRow
  rw [List.mem_filter, List.mem_range]
  constructor
  · rintro ⟨h1, h2⟩
    refine ⟨h1, ?_⟩
    cases e : tF T (nI m) dd with
    | none => rw [e] at h2; cases h2
    | some c => exact ⟨c, rfl⟩
  · rintro ⟨h1, c, e⟩
    refine ⟨h1, ?_⟩
    rw [e]
    rfl
theorem row_nodup {T : mo_Tn} {dd p : Int32} : (tRow T dd p).Nodup := List.Pairwise.filter _ List.nodup_range
theorem row_len {T : mo_Tn} (hv : mo_vT T) (hF : mo_fT T) {dd : Int32} : (tLU T dd).length = (tRow T dd (-1)).length := by
  rw [line_len hv hF]
  exact List.Perm.length_eq ((List.perm_ext_iff_of_nodup (tLine_LC T dd).1 row_nodup).mpr (fun m => by rw [tLine_mem hv, row_mem]))
theorem own_list {T : mo_Tn} (hv : mo_vT T) (hF : mo_fT T) {rs : List Nat} (hd : rs.Nodup) (hl : ∀ m ∈ rs, m < tMen T) : (rs.map (tOwn T)).Nodup ∧ ∀ o ∈ rs.map (tOwn T), o < tNames T := by
  refine ⟨?_, fun o ho => ?_⟩
  · rw [List.Nodup, List.pairwise_map]
    exact List.Pairwise.imp_of_mem (fun {a b} ha hb hab z => hab (hF.2.2.2 a b (hl a ha) (hl b hb) z)) hd
  · obtain ⟨m, hm, e⟩ := List.mem_map.mp ho
    rw [← e]
    exact vT_tOwn hv (hl m hm)
theorem lots_list {T : mo_Tn} {dd p q : Int32} : tLots T dd p q = lo_cn (tNames T) ((tRow T dd (-1)).map (fun m n => !decide (tOwn T m = n) && (!decide (nI m = p) || decide (nI n = q)))) 0 := by
  unfold tLots
  rw [lo_lots, ← map_getD (f := fun m n => !decide (tOwn T m = n) && (!decide (nI m = p) || decide (nI n = q)))]
  rfl
theorem lots_eq {T : mo_Tn} (hv : mo_vT T) (hF : mo_fT T) {dd : Int32} : o_Lot_ways (tLU T dd).length (tNames T) (tLU T dd).length = lN (tLots T dd (-1) 0) := by
  have hN := vT_tNames hv
  have hM := vT_tMen hv
  have hr := tRow_len T dd (-1)
  have ho := own_list hv hF (rs := tRow T dd (-1)) row_nodup (fun m hm => (row_mem.mp hm).1)
  have hk := mo_php _ _ ho.1 ho.2
  rw [List.length_map] at hk
  rw [row_len hv hF]
  refine ways_W (by omega) hN (Nat.le_refl _) hk ?_
  rw [lots_list, show (tRow T dd (-1)).map (fun m n => !decide (tOwn T m = n) && (!decide (nI m = -1) || decide (nI n = 0))) = ((tRow T dd (-1)).map (tOwn T)).map (fun o n => !decide (o = n)) by
    rw [List.map_map]
    refine List.map_congr_left (fun m hm => funext (fun n => ?_))
    have := (row_mem.mp hm).1
    show (!decide (tOwn T m = n) && (!decide (nI m = -1) || _)) = !decide (tOwn T m = n)
    rw [decide_eq_false (mo_nIm rfl (by omega : m < 2147483648)), Bool.not_false, Bool.true_or, Bool.and_true], lo_count _ _ ho.1 ho.2, lo_fr_0, lo_br_0 ho.1 ho.2, List.length_map]
theorem ways_eq {R : Nat → Nat → Nat} {I : Nat → Nat → Int32} {g : Nat} {T : mo_Tn} (hv : mo_vT T) (hF : mo_fT T) {dd : Int32} {x y c0 : Nat} (hx : x < tMen T) (hy : y < tNames T) (hc : tF T (nI x) dd = some c0) : (o_Gate_waysWith R I g T dd x y).1 = lN (tLots T dd (nI x) (nI y)) := by
  have hN := vT_tNames hv
  have hM := vT_tMen hv
  have hr := tRow_len T dd (-1)
  obtain ⟨r1, r2, e⟩ := List.append_of_mem (row_mem.mpr ⟨hx, c0, hc⟩)
  have hnd := row_nodup (T := T) (dd := dd) (p := -1)
  have hlt : ∀ m, m ∈ tRow T dd (-1) → m < tMen T := fun m hm => (row_mem.mp hm).1
  have hlen : (tRow T dd (-1)).length = (r1 ++ r2).length + 1 := by rw [e, List.length_append, List.length_append, List.length_cons]; omega
  have hperm : (tRow T dd (-1)).Perm (x :: (r1 ++ r2)) := by rw [e]; exact List.perm_middle
  have hnd2 := (hperm.nodup_iff).mp hnd
  rw [List.nodup_cons] at hnd2
  have hlt2 : ∀ m, m ∈ r1 ++ r2 → m < tMen T := fun m hm => hlt m (hperm.mem_iff.mpr (List.mem_cons_of_mem _ hm))
  have ho := own_list hv hF hnd2.2 hlt2
  have hall : ∀ m, m < tMen T → nI m = nI x → m = x := fun m hm z => (nI_eq (by omega) (by omega)).mp z
  have hoth : ∀ r : List Nat, (∀ m, m ∈ r → m ∈ r1 ++ r2) → r.map (fun m n => !decide (tOwn T m = n) && (!decide (nI m = nI x) || decide (nI n = nI y))) = (r.map (tOwn T)).map (fun o n => !decide (o = n)) := fun r hr => by
    rw [List.map_map]
    refine List.map_congr_left (fun m hm => funext (fun n => ?_))
    have h1 := hr m hm
    have h2 : ¬ nI m = nI x := fun z => hnd2.1 (by rw [← hall m (hlt2 m h1) z]; exact h1)
    show (!decide (tOwn T m = n) && (!decide (nI m = nI x) || _)) = !decide (tOwn T m = n)
    rw [decide_eq_false h2, Bool.not_false, Bool.true_or, Bool.and_true]
  have hlots : tLots T dd (nI x) (nI y) = lo_cn (tNames T) ((r1.map (tOwn T)).map (fun o n => !decide (o = n)) ++ (fun n => !decide (tOwn T x = n) && (!decide (nI x = nI x) || decide (nI n = nI y))) :: (r2.map (tOwn T)).map (fun o n => !decide (o = n))) 0 := by
    rw [lots_list, e, List.map_append, List.map_cons, hoth r1 (fun m hm => List.mem_append_left _ hm), hoth r2 (fun m hm => List.mem_append_right _ hm)]
  have hq : ∀ n, n < tNames T → (nI n = nI y ↔ n = y) := fun n hn => nI_eq (by omega) (by omega)
  have hownE : ∀ v, tOwner T (nI y) = some v → v < tMen T ∧ tOwn T v = y := fun v hv2 => by
    have h1 := mo_ff_lt hv2
    have h2 := vT_tOwn hv h1.1
    exact ⟨h1.1, (nI_eq (by omega) (by omega)).mp (of_decide_eq_true h1.2.1)⟩
  have hownN : tOwner T (nI y) = none → ∀ m, m < tMen T → tOwn T m ≠ y := fun h0 m hm z => by
    have := ff_none h0 hm
    rw [z, decide_eq_true rfl] at this
    cases this
  by_cases hxy : tOwn T x = y
  · have h1 : tLots T dd (nI x) (nI y) = 0 := by
      rw [hlots]
      refine lo_none (fun n hn => ?_) _ _
      by_cases z : n = y
      · rw [z, hxy, decide_eq_true rfl]; rfl
      · rw [decide_eq_true rfl, decide_eq_false (fun w => z ((hq n hn).mp w))]
        exact Bool.and_false _
    rw [h1]
    unfold o_Gate_waysWith
    cases e2 : tOwner T (nI y) with
    | none => exact absurd hxy (hownN e2 x hx)
    | some v =>
      have h2 := hownE v e2
      have : v = x := hF.2.2.2 v x h2.1 hx (h2.2.trans hxy.symm)
      show (if v = x then ((0 : Int64), I) else _).1 = _
      rw [if_pos this]
      rfl
  · have h1 : tLots T dd (nI x) (nI y) = lo_cn (tNames T) (((r1 ++ r2).map (tOwn T)).map (fun o n => !decide (o = n))) (0 ||| 2 ^ y) := by
      rw [hlots, lo_fix hy (fun n hn => by
        rw [decide_eq_true (rfl : nI x = nI x)]
        by_cases z : n = y
        · rw [z, decide_eq_false hxy, decide_eq_true rfl, decide_eq_true rfl]; rfl
        · rw [decide_eq_false z, decide_eq_false (fun w => z ((hq n hn).mp w))]; exact Bool.and_false _), Nat.zero_testBit, if_neg (by decide), List.map_append, List.map_append]
    have hfr := lo_fr_or (N := tNames T) hy (Nat.zero_testBit y)
    have hbr := lo_br_or (N := tNames T) (os := (r1 ++ r2).map (tOwn T)) hy (Nat.zero_testBit y)
    rw [lo_fr_0] at hfr
    rw [lo_br_0 ho.1 ho.2, List.length_map] at hbr
    have h2 : (tLots T dd (nI x) (nI y) : Int) = lo_W (r1 ++ r2).length ((tNames T - 1 : Nat) : Int) (lo_br (tNames T) ((r1 ++ r2).map (tOwn T)) (0 ||| 2 ^ y)) := by
      rw [h1, lo_count _ _ ho.1 ho.2, List.length_map, show lo_fr (tNames T) (0 ||| 2 ^ y) = tNames T - 1 by omega]
    have ho2 := own_list hv hF hnd hlt
    have hk := mo_php _ _ ho2.1 ho2.2
    rw [List.length_map] at hk
    have big : ∀ b, lo_br (tNames T) ((r1 ++ r2).map (tOwn T)) (0 ||| 2 ^ y) = b → o_Lot_ways ((tLU T dd).length - 1) (tNames T - 1) b = lN (tLots T dd (nI x) (nI y)) := fun b hb => by
      rw [row_len hv hF, show (tRow T dd (-1)).length - 1 = (r1 ++ r2).length by omega]
      refine ways_W (by omega) (by omega) ?_ (by omega) (by rw [h2, hb])
      rw [← hb]
      by_cases c : y ∈ (r1 ++ r2).map (tOwn T)
      · rw [if_pos c] at hbr; omega
      · rw [if_neg c] at hbr; omega
    have hl1 : (tLU T dd).length - 1 = (r1 ++ r2).length := by rw [row_len hv hF]; omega
    unfold o_Gate_waysWith
    cases e2 : tOwner T (nI y) with
    | none =>
      have hno : y ∉ (r1 ++ r2).map (tOwn T) := fun z => by
        obtain ⟨m, hm, em⟩ := List.mem_map.mp z
        exact hownN e2 m (hlt2 m hm) em
      rw [if_neg hno] at hbr
      have hF1 : tF T (-1 : Int32) dd = none := by
        cases e3 : tF T (-1 : Int32) dd with
        | none => rfl
        | some c =>
          have h3 := tF_lt e3
          have h4 := vT_tCm hv h3.1
          exact absurd h3.2.1 (mo_nIm rfl (by omega))
      show (if (-1 : Int32) = nI x then ((0 : Int64), I) else _).1 = _
      rw [if_neg (fun z => mo_nIm rfl (by omega : x < 2147483648) z.symm), hF1]
      exact big _ (by rw [hl1]; omega)
    | some v =>
      have h3 := hownE v e2
      have hvx : v ≠ x := fun z => hxy (by rw [← z]; exact h3.2)
      show (if v = x then ((0 : Int64), I) else _).1 = _
      rw [if_neg hvx]
      cases e3 : tF T (nI v) dd with
      | none =>
        have hno : y ∉ (r1 ++ r2).map (tOwn T) := fun z => by
          obtain ⟨m, hm, em⟩ := List.mem_map.mp z
          have : m = v := hF.2.2.2 m v (hlt2 m hm) h3.1 (em.trans h3.2.symm)
          subst this
          have h4 := row_mem.mp (hperm.mem_iff.mpr (List.mem_cons_of_mem _ hm))
          obtain ⟨_, c, hc2⟩ := h4
          rw [e3] at hc2
          cases hc2
        rw [if_neg hno] at hbr
        exact big _ (by rw [hl1]; omega)
      | some c =>
        have hyes : y ∈ (r1 ++ r2).map (tOwn T) := by
          have h4 := hperm.mem_iff.mp (row_mem.mpr ⟨h3.1, c, e3⟩)
          rcases List.mem_cons.mp h4 with z | z
          · exact absurd z hvx
          · exact List.mem_map.mpr ⟨v, z, h3.2⟩
        rw [if_pos hyes] at hbr
        exact big _ (by rw [hl1]; omega)
theorem lots_r {R R' : Nat → Nat → Nat} {I I' : Nat → Nat → Int32} {L : Nat → Nat → Int64} {g a : Nat} {T : mo_Tn} {dd : Int32} (hv : mo_vT T) (hF : mo_fT T) : (o_Gate_lots R I g T dd).1 = (o_Model_lots R' I' L a T dd).1 := by
  unfold o_Gate_lots o_Model_lots
  cases tB dd 30 with
  | none => rfl
  | some d => exact lots_eq hv hF
theorem lotsOf_r {R R' : Nat → Nat → Nat} {I I' : Nat → Nat → Int32} {L : Nat → Nat → Int64} {g a : Nat} {T : mo_Tn} {dd p q : Int32} (hv : mo_vT T) (hF : mo_fT T) : (o_Gate_lotsOf R I g T dd p q).1 = (o_Model_lotsOf R' I' L a T dd p q).1 := by
  have hN := vT_tNames hv
  have hM := vT_tMen hv
  unfold o_Gate_lotsOf o_Model_lotsOf
  cases e1 : tB p (tMen T) with
  | none => cases tB dd 30 <;> rfl
  | some x =>
    cases e2 : tB q (tNames T) with
    | none => cases tB dd 30 <;> rfl
    | some y =>
      have b1 := tB_v (by omega) e1
      have b2 := tB_v (by omega) e2
      show (Option.elim (tF T (nI x) dd) ((-1 : Int64), I) _).1 = _
      cases e3 : tF T (nI x) dd with
      | none =>
        cases e4 : tB dd 30 with
        | none => rfl
        | some d =>
          have b3 := tB_v (by omega) e4
          show (-1 : Int64) = (Option.elim (tF T (nI x) (nI d)) _ _ : Int64 × (Nat → Nat → Int32) × (Nat → Nat → Int64)).1
          rw [← b3.2, e3]
          rfl
      | some c =>
        have h1 := tF_lt e3
        have h2 := vT_tCd hv h1.1
        have e4 : tB dd 30 = some (tCd T c) := by rw [← h1.2.2]; exact tB_of h2 (by omega)
        rw [e4]
        show (o_Gate_waysWith R I g T dd x y).1 = (Option.elim (tF T (nI x) (nI (tCd T c))) _ _ : Int64 × (Nat → Nat → Int32) × (Nat → Nat → Int64)).1
        rw [ways_eq hv hF b1.1 b2.1 e3, h1.2.2, e3]
        rfl
theorem lotMean_sum {R : Nat → Nat → Nat} {L : Nat → Nat → Int64} {a : Nat} {T : mo_Tn} (hv : mo_vT T) (hF : mo_fT T) (hG : mo_gT T) {d x c0 : Nat} (hx : x < tMen T) (hc : tF T (nI x) (nI d) = some c0) : w_Gate_lotMean_114 T (nI d) x = (w_Model_lotMean_71 R L a T d x).1 := by
  have hN := vT_tNames hv
  unfold w_Gate_lotMean_114 w_Model_lotMean_71
  have e : ∀ k, k ≤ tNames T → ∀ L, mo_it (b_Gate_lotMean_114 T (nI d) x) k 0 0 = (mo_it (b_Model_lotMean_71 R a T d x) k 0 (0, L)).1 := fun k => by
    induction k with
    | zero => intro _ L; rfl
    | succ k ih =>
      intro hk L
      rw [mo_it_last, mo_it_last, Nat.zero_add, ih (by omega) L]
      show _ + tWw T (nI d) x k * tSu T (nI d) k = _ + lN (tLots T (nI d) (nI x) (nI k)) * tW T (nI d) k
      rw [su_w hv hG (by omega), show tWw T (nI d) x k = lN (tLots T (nI d) (nI x) (nI k)) from ways_eq hv hF hx (by omega) hc]
  exact e (tNames T) (Nat.le_refl _) _
