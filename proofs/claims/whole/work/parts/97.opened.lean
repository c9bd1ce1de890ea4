/-! The class: what an opened market tells. -/
/-- who takes part, and his own name -/
def tMk (T : mo_Tn) (dd p : Int32) (k : Nat) : Nat × Nat := (w_Market_open_28 T dd p).getD k (0, 0)
theorem mk_all {T : mo_Tn} {dd p : Int32} (hv : mo_vT T) : (w_Market_open_28 T dd p).length ≤ tMen T ∧ ∀ x ∈ w_Market_open_28 T dd p, x.1 < tMen T ∧ x.2 = tOwn T x.1 ∧ x.2 < tNames T := by
  have key := mo_it_inv (f := b_Market_open_28 T dd p) (fun i s => s.length ≤ i ∧ ∀ x ∈ s, x.1 < tMen T ∧ x.2 = tOwn T x.1 ∧ x.2 < tNames T) (k := tMen T) (i := 0) (s := []) ⟨Nat.le_refl _, fun x hx => by cases hx⟩ (fun i s _ hi hs => by
    have push : (s ++ [(i, tOwn T i)]).length ≤ i + 1 ∧ ∀ x ∈ s ++ [(i, tOwn T i)], x.1 < tMen T ∧ x.2 = tOwn T x.1 ∧ x.2 < tNames T := by
      refine ⟨by rw [List.length_append]; exact Nat.succ_le_succ hs.1, fun x hx => ?_⟩
      rcases List.mem_append.mp hx with z | z
      · exact hs.2 x z
      · have e := List.mem_singleton.mp z
        subst e
        exact ⟨by show i < tMen T; omega, rfl, vT_tOwn hv (by omega)⟩
    have keep : s.length ≤ i + 1 ∧ ∀ x ∈ s, x.1 < tMen T ∧ x.2 = tOwn T x.1 ∧ x.2 < tNames T := ⟨Nat.le_succ_of_le hs.1, hs.2⟩
    unfold b_Market_open_28
    by_cases c1 : p = -1
    · rw [if_pos c1]
      cases tF T (nI i) dd with
      | none => exact keep
      | some v => exact push
    · rw [if_neg c1]
      by_cases c2 : tPurse T i = p
      · rw [if_pos c2]
        cases tF T (nI i) dd with
        | none => exact keep
        | some v => exact push
      · rw [if_neg c2]
        exact keep)
  rw [Nat.zero_add] at key
  exact key
theorem mk_k {T : mo_Tn} {dd p : Int32} (hv : mo_vT T) {k : Nat} (hk : k < (w_Market_open_28 T dd p).length) : (tMk T dd p k).1 < tMen T ∧ (tMk T dd p k).2 = tOwn T (tMk T dd p k).1 ∧ (tMk T dd p k).2 < tNames T := by
  have e : tMk T dd p k = (w_Market_open_28 T dd p)[k] := by
    unfold tMk
    rw [List.getD_eq_getElem?_getD, List.getElem?_eq_getElem hk]
    rfl
  rw [e]
  exact (mk_all hv).2 _ (List.getElem_mem hk)
theorem mk_2 {I : Nat → Nat → Int32} {a f q p k : Nat} {xs : List (Nat × Nat)} (hqa : q ≠ a) (hpa : p ≠ a) (hqp : q ≠ p) (hk : k < xs.length) : mo_l2 I a f q p xs q k = nI (xs.getD k (0, 0)).1 ∧ mo_l2 I a f q p xs p k = nI (xs.getD k (0, 0)).2 := by
  unfold mo_l2
  rw [mo_upQ _ _ _ hqa, mo_upQ _ _ _ hpa]
  have hl1 : k < (xs.map (fun x => x.1)).length := by rw [List.length_map]; exact hk
  have hl2 : k < (xs.map (fun x => x.2)).length := by rw [List.length_map]; exact hk
  constructor
  · rw [congrFun (mo_lwR hqp) k, mo_lwA hl1]
    congr 1
    rw [List.getD_eq_getElem?_getD, List.getD_eq_getElem?_getD, List.getElem?_map, List.getElem?_eq_getElem hk]
    rfl
  · rw [mo_lwA hl2]
    congr 1
    rw [List.getD_eq_getElem?_getD, List.getD_eq_getElem?_getD, List.getElem?_map, List.getElem?_eq_getElem hk]
    rfl
