/-! later: the class's answers are the reference's. -/
/-- whether a coming is one of a foe on a day -/
def tFb (T : mo_Tn) (v : Nat) (d : Int32) (c : Nat) : Bool := decide (nI (tCd T c) = d) && !decide (mo_has (tFoes T v) (nI (tCm T c)) = 0)
/-- whether a man who comes so much later meets a foe -/
def tMt (T : mo_Tn) (v m : Nat) (d : Int32) (s : Nat) : Bool := (List.range (tComs T)).any (fun c => tFb T v d c && decide (tCi T c ≤ tCo T m + s ∧ tCi T m + s ≤ tCo T c))
theorem tMt_iff {T : mo_Tn} {v m s : Nat} {d : Int32} : tMt T v m d s = true ↔ ∃ c, c < tComs T ∧ tFb T v d c = true ∧ tCi T c ≤ tCo T m + s ∧ tCi T m + s ≤ tCo T c := by
  unfold tMt
  rw [List.any_eq_true]
  constructor
  · rintro ⟨c, h1, h2⟩
    rw [Bool.and_eq_true] at h2
    exact ⟨c, List.mem_range.mp h1, h2.1, of_decide_eq_true h2.2⟩
  · rintro ⟨c, h1, h2, h3⟩
    exact ⟨c, List.mem_range.mpr h1, by rw [h2, decide_eq_true h3]; rfl⟩
theorem later_48 {T : mo_Tn} (hv : mo_vT T) (hF : mo_fT T) {v m d : Nat} {s : Nat × Int32} (hm : tF T (nI v) (nI d) = some m) : (w_Model_later_48 T v d s = 0 ∧ tMt T v m (nI d) s.1 = false) ∨ (w_Model_later_48 T v d s = 1 ∧ tMt T v m (nI d) s.1 = true) := by
  have hM := vT_tMen hv
  have key := mo_it_inv (f := b_Model_later_48 T v d s) (fun i t => (t = 0 ∧ ∀ o, o < i → mo_has (tFoes T v) (nI o) = 0 ∨ o_Model_meet T (nI v) (nI o) (nI d) s.1 = 0) ∨ (t = 1 ∧ ∃ o, o < i ∧ ¬ mo_has (tFoes T v) (nI o) = 0 ∧ ¬ o_Model_meet T (nI v) (nI o) (nI d) s.1 = 0)) (k := tMen T) (i := 0) (s := 0) (Or.inl ⟨rfl, fun o ho => absurd ho (Nat.not_lt_zero o)⟩) (fun j t _ hj ht => by
    unfold b_Model_later_48
    have skip : (mo_has (tFoes T v) (nI j) = 0 ∨ o_Model_meet T (nI v) (nI j) (nI d) s.1 = 0) → (((t ||| 0 : Int32) = 0 ∧ ∀ o, o < j + 1 → mo_has (tFoes T v) (nI o) = 0 ∨ o_Model_meet T (nI v) (nI o) (nI d) s.1 = 0) ∨ ((t ||| 0 : Int32) = 1 ∧ ∃ o, o < j + 1 ∧ ¬ mo_has (tFoes T v) (nI o) = 0 ∧ ¬ o_Model_meet T (nI v) (nI o) (nI d) s.1 = 0)) := fun hz => by
      rw [Int32.or_zero]
      rcases ht with ⟨h1, h2⟩ | ⟨h1, o, h2, h3⟩
      · refine Or.inl ⟨h1, fun o ho => ?_⟩
        by_cases e : o = j
        · rw [e]; exact hz
        · exact h2 o (by omega)
      · exact Or.inr ⟨h1, o, by omega, h3⟩
    by_cases c1 : mo_has (tFoes T v) (nI j) = 0
    · rw [if_pos c1]; exact skip (Or.inl c1)
    · rw [if_neg c1]
      by_cases c2 : o_Model_meet T (nI v) (nI j) (nI d) s.1 = 0
      · rw [if_pos c2]; exact skip (Or.inr c2)
      · rw [if_neg c2]
        refine Or.inr ⟨?_, j, Nat.lt_succ_self j, c1, c2⟩
        rcases ht with ⟨h1, _⟩ | ⟨h1, _⟩
        · rw [h1]; decide
        · rw [h1]; decide)
  rw [Nat.zero_add] at key
  have hw : w_Model_later_48 T v d s = mo_it (b_Model_later_48 T v d s) (tMen T) 0 0 := rfl
  rw [hw]
  have hmeet : ∀ o c, tF T (nI o) (nI d) = some c → (o_Model_meet T (nI v) (nI o) (nI d) s.1 = 0 ↔ ¬ (tCi T c ≤ tCo T m + s.1 ∧ tCi T m + s.1 ≤ tCo T c)) := fun o c hc => by
    unfold o_Model_meet
    rw [hm, hc]
    show (if tCo T c < tCi T m + s.1 then (0 : Int32) else if tCo T m + s.1 < tCi T c then 0 else 1) = 0 ↔ _
    by_cases c1 : tCo T c < tCi T m + s.1
    · rw [if_pos c1]; exact ⟨fun _ z => by omega, fun _ => rfl⟩
    · rw [if_neg c1]
      by_cases c2 : tCo T m + s.1 < tCi T c
      · rw [if_pos c2]; exact ⟨fun _ z => by omega, fun _ => rfl⟩
      · rw [if_neg c2]; exact ⟨fun z => absurd z (by decide), fun z => absurd ⟨by omega, by omega⟩ z⟩
  rcases key with ⟨h1, h2⟩ | ⟨h1, o, ho, h2, h3⟩
  · refine Or.inl ⟨h1, Bool.eq_false_iff.mpr (fun z => ?_)⟩
    obtain ⟨c, hc, hf, hz⟩ := tMt_iff.mp z
    unfold tFb at hf
    rw [Bool.and_eq_true] at hf
    have hd := of_decide_eq_true hf.1
    have hcm := vT_tCm hv hc
    have htf := tF_is hv hF hc
    rw [hd] at htf
    rcases h2 (tCm T c) hcm with w | w
    · rw [w] at hf; exact absurd hf.2 (by decide)
    · exact ((hmeet _ c htf).mp w) hz
  · refine Or.inr ⟨h1, tMt_iff.mpr ?_⟩
    cases e : tF T (nI o) (nI d) with
    | none =>
      exfalso
      apply h3
      unfold o_Model_meet
      rw [hm, e]
      rfl
    | some c =>
      have hc := tF_lt e
      have hcm := vT_tCm hv hc.1
      have ho2 : tCm T c = o := (nI_eq (by omega) (by omega)).mp hc.2.1
      refine ⟨c, hc.1, ?_, ?_⟩
      · unfold tFb
        rw [decide_eq_true hc.2.2, ho2, decide_eq_false h2]
        rfl
      · exact Classical.byContradiction (fun z => h3 ((hmeet o c e).mpr z))
/-- the least that he must come later -/
theorem later_D {T : mo_Tn} (hv : mo_vT T) {v m : Nat} {d : Int32} : ∃ D, D ≤ 100 ∧ tMt T v m d D = false ∧ ∀ s, s < D → tMt T v m d s = true := by
  cases e : mo_ff (fun s => !tMt T v m d s) 101 with
  | none =>
    exfalso
    have h := ff_none e (show 100 < 101 by decide)
    have h2 : tMt T v m d 100 = true := by
      cases z : tMt T v m d 100
      · rw [z] at h; cases h
      · rfl
    obtain ⟨c, hc, _, h3⟩ := tMt_iff.mp h2
    have := vT_tCo hv hc
    omega
  | some D =>
    have h := mo_ff_lt e
    refine ⟨D, by omega, ?_, fun s hs => ?_⟩
    · have := h.2.1
      cases z : tMt T v m d D
      · rfl
      · rw [z] at this; cases this
    · have := h.2.2 s hs
      cases z : tMt T v m d s
      · rw [z] at this; cases this
      · rfl
theorem later_ref {T : mo_Tn} (hv : mo_vT T) (hF : mo_fT T) {v m d D : Nat} (hm : tF T (nI v) (nI d) = some m) (hD : D ≤ 100) (h1 : tMt T v m (nI d) D = false) (h2 : ∀ s, s < D → tMt T v m (nI d) s = true) : (∃ z, w_Model_later_37 T v d = .inl z ∧ z.1 = D) ∨ (∃ r, w_Model_later_37 T v d = .inr r ∧ r.1 = D) := by
  unfold w_Model_later_37
  have run : ∀ k i, i + k = D → ∀ n, mo_lp (b_Model_later_37 T v d) (k + n) i (i, 1) = mo_lp (b_Model_later_37 T v d) n D (D, 1) := fun k => by
    induction k with
    | zero => intro i hi n; rw [Nat.zero_add, show i = D by omega]
    | succ k ih =>
      intro i hi n
      rw [show k + 1 + n = (k + n) + 1 by omega, mo_lp_inlS (s' := (i + 1, 1)) (by
        unfold b_Model_later_37
        rw [if_neg (show ¬ (1 : Int32) = 0 by decide)]
        rcases later_48 hv hF (s := (i, 1)) hm with ⟨_, z⟩ | ⟨z, _⟩
        · rw [h2 i (by omega)] at z; cases z
        · rw [z, if_neg (by decide)])]
      exact ih (i + 1) (by omega) n
  have e := run D 0 (by omega) (102 - D)
  rw [show D + (102 - D) = 102 by omega] at e
  rw [e, show 102 - D = (100 - D) + 1 + 1 by omega, mo_lp_inlS (s' := (D, 0)) (by
    unfold b_Model_later_37
    rw [if_neg (show ¬ (1 : Int32) = 0 by decide)]
    rcases later_48 hv hF (s := (D, 1)) hm with ⟨z, _⟩ | ⟨_, z⟩
    · rw [z, if_pos rfl]
    · rw [h1] at z; cases z), mo_lp_inrS (r := (D, 0)) (by unfold b_Model_later_37; rw [if_pos rfl])]
  exact Or.inr ⟨_, rfl, rfl⟩
def tPs (T : mo_Tn) (v m : Nat) (d : Int32) (s : Nat) : Nat := lo_ct (fun c => tFb T v d c && decide (tCo T c < tCi T m + s)) (tComs T)
theorem lo_ct_mono {p q : Nat → Bool} : ∀ {n : Nat}, (∀ k, k < n → p k = true → q k = true) → lo_ct p n ≤ lo_ct q n
  | 0, _ => Nat.le_refl _
  | n + 1, h => by
    have ih := lo_ct_mono (p := p) (q := q) (n := n) (fun k hk => h k (by omega))
    show lo_ct p n + (if p n = true then 1 else 0) ≤ lo_ct q n + (if q n = true then 1 else 0)
    have := h n (Nat.lt_succ_self n)
    by_cases c : p n = true
    · rw [if_pos c, if_pos (this c)]; omega
    · rw [if_neg c]; split <;> omega
theorem lo_ct_strict {p q : Nat → Bool} {n c : Nat} (h : ∀ k, k < n → p k = true → q k = true) (hc : c < n) (hp : p c = false) (hq : q c = true) : lo_ct p n + 1 ≤ lo_ct q n := by
  rw [lo_ct_out (p := q) hc, if_pos hq]
  refine Nat.succ_le_succ (lo_ct_mono (fun k hk hpk => ?_))
  rw [h k hk hpk, decide_eq_false (fun e => by rw [e, hp] at hpk; cases hpk)]
  rfl
theorem lo_ct_len {p : Nat → Bool} : ∀ n, lo_ct p n = ((List.range n).filter p).length
  | 0 => rfl
  | n + 1 => by
    rw [List.range_succ, List.filter_append, List.length_append, ← lo_ct_len n]
    show lo_ct p n + (if p n = true then 1 else 0) = _
    by_cases c : p n = true
    · rw [if_pos c, List.filter_cons_of_pos c]; rfl
    · rw [if_neg c, List.filter_cons_of_neg c]; rfl
theorem foes_8 {T : mo_Tn} (hv : mo_vT T) (hF : mo_fT T) {v : Nat} {d : Int32} : lo_ct (tFb T v d) (tComs T) ≤ 8 := by
  have hM := vT_tMen hv
  rw [lo_ct_len, ← List.length_map (f := tCm T)]
  refine Nat.le_trans (mo_php (tMen T) _ ?_ ?_) hM
  · rw [List.Nodup, List.pairwise_map]
    refine List.Pairwise.imp_of_mem (fun {a b} ha hb hab z => hab ?_) (List.Pairwise.filter _ (List.nodup_range (n := tComs T)))
    have h1 := List.mem_filter.mp ha
    have h2 := List.mem_filter.mp hb
    have k1 := h1.2
    have k2 := h2.2
    unfold tFb at k1 k2
    rw [Bool.and_eq_true] at k1 k2
    have d1 := vT_tCd hv (List.mem_range.mp h1.1)
    have d2 := vT_tCd hv (List.mem_range.mp h2.1)
    exact hF.1 a b (List.mem_range.mp h1.1) (List.mem_range.mp h2.1) z ((nI_eq (by omega) (by omega)).mp ((of_decide_eq_true k1.1).trans (of_decide_eq_true k2.1).symm))
  · intro y hy
    obtain ⟨c, hc, e⟩ := List.mem_map.mp hy
    rw [← e]
    exact vT_tCm hv (List.mem_range.mp (List.mem_filter.mp hc).1)
theorem later_pass {T : mo_Tn} (hv : mo_vT T) (hV : mo_vF T) {v m D : Nat} {d : Int32} (hvm : v < tMen T) (hmc : m < tComs T) (hD : D ≤ 100) (h1 : tMt T v m d D = false) {sh : Nat} (hs : sh ≤ D) : ∃ x, w_Gate_later_54 T d m v (nI sh) = nI x ∧ sh ≤ x ∧ x ≤ D ∧ (tMt T v m d sh = true → tPs T v m d sh + 1 ≤ tPs T v m d x) ∧ (tMt T v m d sh = false → x = sh) := by
  have hM := vT_tMen hv
  have mi := vT_tCi hv hmc
  have mo := vT_tCo hv hmc
  have key := mo_it_inv (f := b_Gate_later_54 T d m v) (fun i s => i ≤ tComs T ∧ ∃ x, s = nI x ∧ sh ≤ x ∧ x ≤ D ∧ (x = sh → ∀ c, c < i → tFb T v d c = true → ¬ (tCi T c ≤ tCo T m + sh ∧ tCi T m + sh ≤ tCo T c)) ∧ (x ≠ sh → tMt T v m d sh = true ∧ tPs T v m d sh + 1 ≤ tPs T v m d x)) (k := tComs T) (i := 0) (s := nI sh) ⟨Nat.zero_le _, sh, rfl, Nat.le_refl _, hs, fun _ c hc => absurd hc (Nat.not_lt_zero c), fun z => absurd rfl z⟩ (fun i s _ hi hP => by
    obtain ⟨_, x, hx, hx1, hx2, hx3, hx4⟩ := hP
    have hi' : i < tComs T := by omega
    have ci := vT_tCi hv hi'
    have co := vT_tCo hv hi'
    have cm := vT_tCm hv hi'
    have keep : (tFb T v d i = true → ¬ (tCi T i ≤ tCo T m + x ∧ tCi T m + x ≤ tCo T i)) → (i + 1 ≤ tComs T ∧ ∃ x, s = nI x ∧ sh ≤ x ∧ x ≤ D ∧ (x = sh → ∀ c, c < i + 1 → tFb T v d c = true → ¬ (tCi T c ≤ tCo T m + sh ∧ tCi T m + sh ≤ tCo T c)) ∧ (x ≠ sh → tMt T v m d sh = true ∧ tPs T v m d sh + 1 ≤ tPs T v m d x)) := fun hn => ⟨by omega, x, hx, hx1, hx2, fun e c hc hf => by
      by_cases e2 : c = i
      · rw [e2] at hf ⊢; rw [← e]; exact hn hf
      · exact hx3 e c (by omega) hf, hx4⟩
    unfold b_Gate_later_54
    by_cases c1 : nI (tCd T i) = d
    · rw [if_pos c1]
      have hfo := foe_r hv hV hvm (k := tCm T i) (by omega)
      by_cases c2 : mo_inB (nI (tCm T i)) (tFoes T v) = 0
      · rw [if_pos c2]
        refine keep (fun z => ?_)
        unfold tFb at z
        rw [hfo.mp c2, decide_eq_true rfl, Bool.not_true, Bool.and_false] at z
        cases z
      · rw [if_neg c2, hx, nI_add, nI_add]
        have hfb : tFb T v d i = true := by
          unfold tFb
          rw [decide_eq_true c1, decide_eq_false (fun z => c2 (hfo.mpr z))]
          rfl
        by_cases c3 : nI (tCo T m + x) < nI (tCi T i)
        · rw [if_pos c3, ← hx]
          rw [nI_ltI (by omega) (by omega)] at c3
          exact keep (fun _ z => by omega)
        · rw [if_neg c3]
          rw [nI_ltI (by omega) (by omega)] at c3
          by_cases c4 : nI (tCo T i) < nI (tCi T m + x)
          · rw [if_pos c4, ← hx]
            rw [nI_ltI (by omega) (by omega)] at c4
            exact keep (fun _ z => by omega)
          · rw [if_neg c4]
            rw [nI_ltI (by omega) (by omega)] at c4
            have hnew : tPs T v m d x + 1 ≤ tPs T v m d (tCo T i + 1 - tCi T m) := lo_ct_strict (fun k _ hk => by
              rw [Bool.and_eq_true] at hk ⊢
              exact ⟨hk.1, decide_eq_true (by have := of_decide_eq_true hk.2; omega)⟩) hi' (by rw [hfb, decide_eq_false (show ¬ tCo T i < tCi T m + x by omega)]; rfl) (by rw [hfb, decide_eq_true (show tCo T i < tCi T m + (tCo T i + 1 - tCi T m) by omega)]; rfl)
            have hDn : tCo T i + 1 - tCi T m ≤ D := by
              apply Classical.byContradiction
              intro z
              have : tMt T v m d D = true := tMt_iff.mpr ⟨i, hi', hfb, by omega, by omega⟩
              rw [h1] at this
              cases this
            refine ⟨by omega, tCo T i + 1 - tCi T m, mo_nsub rfl rfl (by omega), by omega, hDn, fun e => by omega, fun _ => ?_⟩
            by_cases e : x = sh
            · subst e
              exact ⟨tMt_iff.mpr ⟨i, hi', hfb, by omega, by omega⟩, hnew⟩
            · have := hx4 e
              exact ⟨this.1, by omega⟩
    · rw [if_neg c1]
      refine keep (fun z => ?_)
      unfold tFb at z
      rw [decide_eq_false c1, Bool.false_and] at z
      cases z)
  rw [Nat.zero_add] at key
  obtain ⟨_, x, hx, hx1, hx2, hx3, hx4⟩ := key
  refine ⟨x, hx, hx1, hx2, fun ht => ?_, fun ht => ?_⟩
  · by_cases e : x = sh
    · obtain ⟨c, hc, hf, hz⟩ := tMt_iff.mp ht
      exact absurd hz (hx3 e c hc hf)
    · exact (hx4 e).2
  · apply Classical.byContradiction
    intro e
    rw [(hx4 e).1] at ht
    cases ht
theorem later_cls {T : mo_Tn} (hv : mo_vT T) (hF : mo_fT T) (hV : mo_vF T) {v m D : Nat} {d : Int32} (hvm : v < tMen T) (hmc : m < tComs T) (hD : D ≤ 100) (h1 : tMt T v m d D = false) (h2 : ∀ s, s < D → tMt T v m d s = true) : w_Gate_later_44 T d m v = nI D := by
  unfold w_Gate_later_44
  have key := mo_it_inv (f := b_Gate_later_44 T d m v) (fun j s => ∃ x, s = nI x ∧ x ≤ D ∧ (tMt T v m d x = true → j ≤ tPs T v m d x)) (k := 8) (i := 0) (s := 0) ⟨0, rfl, Nat.zero_le _, fun _ => Nat.zero_le _⟩ (fun j s _ hj hP => by
    obtain ⟨x, hx, hx1, hx2⟩ := hP
    obtain ⟨y, e, g1, g2, g3, g4⟩ := later_pass hv hV hvm hmc hD h1 hx1
    unfold b_Gate_later_44
    rw [hx, e]
    refine ⟨y, rfl, g2, fun ht => ?_⟩
    cases hz : tMt T v m d x with
    | true =>
      have := hx2 hz
      have := g3 hz
      omega
    | false =>
      rw [g4 hz, hz] at ht
      cases ht)
  obtain ⟨x, hx, hx1, hx2⟩ := key
  rw [hx]
  congr 1
  cases hz : tMt T v m d x with
  | true =>
    exfalso
    have h3 := hx2 hz
    obtain ⟨c, hc, hf, hm2⟩ := tMt_iff.mp hz
    have h4 : tPs T v m d x + 1 ≤ lo_ct (tFb T v d) (tComs T) := lo_ct_strict (fun k _ hk => by
      rw [Bool.and_eq_true] at hk
      exact hk.1) hc (by rw [hf, decide_eq_false (show ¬ tCo T c < tCi T m + x by omega)]; rfl) hf
    have h5 := foes_8 hv hF (v := v) (d := d)
    omega
  | false =>
    rcases Nat.lt_or_eq_of_le hx1 with w | w
    · rw [h2 x w] at hz; cases hz
    · exact w
theorem later_r {I : Nat → Nat → Int32} {a : Nat} {T : mo_Tn} {p dd : Int32} (hv : mo_vT T) (hF : mo_fT T) (hV : mo_vF T) : o_Gate_later T p dd = (o_Model_later I a T p dd).1 := by
  have hM := vT_tMen hv
  unfold o_Gate_later o_Model_later
  cases e1 : tB p (tMen T) with
  | none => cases tF T p dd <;> rfl
  | some v =>
    have b1 := tB_v (by omega) e1
    rw [b1.2]
    cases e2 : tF T (nI v) dd with
    | none =>
      cases e3 : tB dd 30 with
      | none => rfl
      | some d =>
        have b3 := tB_v (by omega) e3
        show (-1 : Int32) = (Option.elim (tF T (nI v) (nI d)) _ _ : Int32 × (Nat → Nat → Int32)).1
        rw [← b3.2, e2]
        rfl
    | some m =>
      have h1 := tF_lt e2
      have h2 := vT_tCd hv h1.1
      have e4 : tB dd 30 = some (tCd T m) := by rw [← h1.2.2]; exact tB_of h2 (by omega)
      rw [e4]
      have e5 : tF T (nI v) (nI (tCd T m)) = some m := by rw [h1.2.2]; exact e2
      show w_Gate_later_44 T dd m v = (Option.elim (tF T (nI v) (nI (tCd T m))) _ _ : Int32 × (Nat → Nat → Int32)).1
      rw [e5]
      obtain ⟨D, hD, k1, k2⟩ := later_D hv (v := v) (m := m) (d := nI (tCd T m))
      rw [← h1.2.2, later_cls hv hF hV b1.1 h1.1 hD k1 k2]
      rcases later_ref hv hF e5 hD k1 k2 with ⟨z, e6, ez⟩ | ⟨r, e6, er⟩
      · show _ = (Sum.elim (fun z37 => (nI z37.1, mo_up I a 0 0)) (fun r37 => (nI r37.1, mo_up I a 0 0)) (w_Model_later_37 T v (tCd T m))).1
        rw [e6]
        show nI D = nI z.1
        rw [ez]
      · show _ = (Sum.elim (fun z37 => (nI z37.1, mo_up I a 0 0)) (fun r37 => (nI r37.1, mo_up I a 0 0)) (w_Model_later_37 T v (tCd T m))).1
        rw [e6]
        show nI D = nI r.1
        rw [er]
