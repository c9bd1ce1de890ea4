/-! The class's means, told as numbers. -/
theorem mo_fiU {α : Type} {H : Nat → Nat → α} {q N k : Nat} {g : Nat → α} {v : α} (hk : k < N) : mo_up (mo_fi H q 0 N g) q k v = mo_fi H q 0 N (fun n => if n = k then v else g n) := by
  funext x y
  by_cases c1 : x = q
  · subst c1
    by_cases c2 : y = k
    · subst c2; rw [mo_upA, mo_fiZ hk, if_pos rfl]
    · rw [mo_upK _ _ _ c2]
      by_cases c3 : y < N
      · rw [mo_fiZ c3, mo_fiZ c3, if_neg c2]
      · rw [mo_fiO (Or.inl (by omega)), mo_fiO (Or.inl (by omega))]
  · rw [mo_upQ _ _ _ c1, mo_fiR c1, mo_fiR c1]
theorem mo_fi_congr {α : Type} {H : Nat → Nat → α} {q c N : Nat} {g g' : Nat → α} (h : ∀ k, k < N → g k = g' k) : mo_fi H q c N g = mo_fi H q c N g' := by
  funext x y
  unfold mo_fi
  by_cases z : x = q ∧ c ≤ y ∧ y < c + N
  · rw [if_pos z, if_pos z, h (y - c) (by omega)]
  · rw [if_neg z, if_neg z]
/-- what the gains, and what the debts, add to a name's mean -/
def tS1 (T : mo_Tn) (d : Int32) (n i : Nat) (s : Int64) : Int64 := if nI (tGd T i) = d then (if n = tGn T i then s + Int32.toInt64 (tGp T i) else s) else s
def tS2 (T : mo_Tn) (d : Int32) (n i : Nat) (s : Int64) : Int64 := if nI (tOd T i) = d then (if n = tOt T i then (if n = tOf T i then s - Int32.toInt64 (nI (tOs T i)) * 27720 else s) + Int32.toInt64 (nI (tOs T i)) * 27720 else if n = tOf T i then s - Int32.toInt64 (nI (tOs T i)) * 27720 else s) else s
/-- a name's mean on a day, in parts, as the class sums it -/
def tSu (T : mo_Tn) (d : Int32) (n : Nat) : Int64 := mo_it (tS2 T d n) (tOws T) 0 (mo_it (tS1 T d n) (tBrs T) 0 0)
theorem mo_sum7 {T : mo_Tn} (hv : mo_vT T) {d : Int32} {L : Nat → Nat → Int64} {w : Nat} {f : Nat → (Nat → Nat → Int64) → Nat → Nat → Int64} (hf : ∀ i s, f i s = if nI (tGd T i) = d then mo_up s w (tGn T i) (s w (tGn T i) + Int32.toInt64 (tGp T i)) else s) : mo_it f (tBrs T) 0 (mo_fi L w 0 12 (fun _ => 0)) = mo_fi L w 0 12 (fun n => mo_it (tS1 T d n) (tBrs T) 0 0) := by
  have hn := vT_tNames hv
  have := mo_it_inv (f := f) (fun i s => s = mo_fi L w 0 12 (fun n => mo_it (tS1 T d n) i 0 0)) (k := tBrs T) (i := 0) (s := mo_fi L w 0 12 (fun _ => 0)) rfl (fun i s _ hi hs => by
    have hg := vT_tGn hv (m := i) (by omega)
    rw [hf, hs]
    have hr : ∀ n, mo_it (tS1 T d n) (i + 1) 0 0 = tS1 T d n i (mo_it (tS1 T d n) i 0 0) := fun n => by rw [mo_it_last, Nat.zero_add]
    by_cases c : nI (tGd T i) = d
    · rw [if_pos c, mo_fiU (by omega), mo_fiZ (by omega)]
      refine mo_fi_congr (fun n hn => ?_)
      rw [hr n]
      unfold tS1
      rw [if_pos c]
      by_cases c2 : n = tGn T i
      · rw [if_pos c2, if_pos c2, c2]
      · rw [if_neg c2, if_neg c2]
    · rw [if_neg c]
      refine mo_fi_congr (fun n hn => ?_)
      rw [hr n]
      show _ = tS1 T d n i _
      unfold tS1
      rw [if_neg c])
  rw [Nat.zero_add] at this
  exact this
theorem mo_sum77 {T : mo_Tn} (hv : mo_vT T) {d : Int32} {L : Nat → Nat → Int64} {w : Nat} {f : Nat → (Nat → Nat → Int64) → Nat → Nat → Int64} (hf : ∀ i s, f i s = if nI (tOd T i) = d then mo_up (mo_up s w (tOf T i) (s w (tOf T i) - Int32.toInt64 (nI (tOs T i)) * 27720)) w (tOt T i) ((mo_up s w (tOf T i) (s w (tOf T i) - Int32.toInt64 (nI (tOs T i)) * 27720)) w (tOt T i) + Int32.toInt64 (nI (tOs T i)) * 27720) else s) : mo_it f (tOws T) 0 (mo_fi L w 0 12 (fun n => mo_it (tS1 T d n) (tBrs T) 0 0)) = mo_fi L w 0 12 (tSu T d) := by
  have hn := vT_tNames hv
  have := mo_it_inv (f := f) (fun i s => s = mo_fi L w 0 12 (fun n => mo_it (tS2 T d n) i 0 (mo_it (tS1 T d n) (tBrs T) 0 0))) (k := tOws T) (i := 0) (s := mo_fi L w 0 12 (fun n => mo_it (tS1 T d n) (tBrs T) 0 0)) rfl (fun i s _ hi hs => by
    have h1 := vT_tOf hv (m := i) (by omega)
    have h2 := vT_tOt hv (m := i) (by omega)
    rw [hf, hs]
    have hr : ∀ n, mo_it (tS2 T d n) (i + 1) 0 (mo_it (tS1 T d n) (tBrs T) 0 0) = tS2 T d n i (mo_it (tS2 T d n) i 0 (mo_it (tS1 T d n) (tBrs T) 0 0)) := fun n => by rw [mo_it_last, Nat.zero_add]
    by_cases c : nI (tOd T i) = d
    · rw [if_pos c, mo_fiU (by omega), mo_fiU (by omega), mo_fiZ (by omega), mo_fiZ (by omega)]
      refine mo_fi_congr (fun n hn => ?_)
      rw [hr n]
      unfold tS2
      rw [if_pos c]
      by_cases c2 : n = tOt T i
      · rw [if_pos c2, if_pos c2, ← c2]
        by_cases c3 : n = tOf T i
        · rw [if_pos c3, if_pos c3, ← c3]
        · rw [if_neg c3, if_neg c3]
      · rw [if_neg c2, if_neg c2]
        by_cases c3 : n = tOf T i
        · rw [if_pos c3, if_pos c3, ← c3]
        · rw [if_neg c3, if_neg c3]
    · rw [if_neg c]
      refine mo_fi_congr (fun n hn => ?_)
      rw [hr n]
      show _ = tS2 T d n i _
      unfold tS2
      rw [if_neg c])
  rw [Nat.zero_add] at this
  exact this
theorem C_csum (l : Launch) (K : mo_K) (R : Nat → Nat → Nat) (I : Nat → Nat → Int32) (L : Nat → Nat → Int64) (g t : Nat) (T : mo_Tn) (d : Int32) (h : mo_gt K R g t) (hC : mo_ct I R t T) : mo_D l mm_Town_sumMeans 1 [.ref t, .int d, .ref (R g 10)] (K, R, I, L, 0) none (K, R, I, mo_fi L (R g 10) 0 12 (tSu T d), 0) := by
  have hv := ct_v hC
  have e : mo_fi L (R g 10) 0 12 (tSu T d) = o_csumG R L g T d := by
    unfold o_csumG w_csumG_77 w_csumG_7
    rw [mo_sum7 (f := b_csumG_7 R g T d) (w := R g 10) (d := d) hv (fun i s => rfl), mo_sum77 (f := b_csumG_77 R g T d) hv (fun i s => rfl)]
  rw [e]
  exact C_csumG l K R I L g t T d h hC
theorem C_csum2 (l : Launch) (K : mo_K) (R : Nat → Nat → Nat) (I : Nat → Nat → Int32) (L : Nat → Nat → Int64) (g t : Nat) (T : mo_Tn) (d : Int32) (h : mo_gt K R g t) (hC : mo_ct I R t T) : mo_D l mm_Town_sumMeans 1 [.ref t, .int d, .ref (R (R g 3) 0)] (K, R, I, L, 0) none (K, R, I, mo_fi L (R (R g 3) 0) 0 12 (tSu T d), 0) := by
  have hv := ct_v hC
  have e : mo_fi L (R (R g 3) 0) 0 12 (tSu T d) = o_csumM R L g T d := by
    unfold o_csumM w_csumM_77 w_csumM_7
    rw [mo_sum7 (f := b_csumM_7 R g T d) (w := R (R g 3) 0) (d := d) hv (fun i s => rfl), mo_sum77 (f := b_csumM_77 R g T d) hv (fun i s => rfl)]
  rw [e]
  exact C_csumM l K R I L g t T d h hC
