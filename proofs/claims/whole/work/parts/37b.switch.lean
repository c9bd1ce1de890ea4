/-! Switches, ints split in two, the pigeons. -/
section
variable {l : Launch} {M : mo_M} {d mc ms : Nat} {al : Bool} {σ0 : mo_S} {QQ : mo_QQ} {pc idx : Nat} {ml : mo_L} {rest : List Value} {K : mo_K} {R : Nat → Nat → Nat} {I : Nat → Nat → Int32} {L : Nat → Nat → Int64} {x : Nat}
theorem mo_J_tswI {dflt lo hi : Int} {offs : Array Int} {len : Nat} {v : Int32} (hd : ClassFile.decode M.2.1 pc = .ok (.tableswitch dflt lo hi offs, len)) (hsz : (offs.size : Int) = hi - lo + 1) (hpos : offs.toList.all (fun o => decide (0 ≤ (pc : Int) + o)) = true) (hdp : 0 ≤ (pc : Int) + dflt) {j t : Nat} {off : Int} (ho : offs[j]? = some off) (ht : ((pc : Int) + off).toNat = t) (hv : v.toInt = lo + j)
    (kk : mo_JQ l M d mc ms al σ0 QQ (t, ml, rest, (K, R, I, L, x))) : mo_JQ l M d mc ms al σ0 QQ (pc, ml, .int v :: rest, (K, R, I, L, x)) := by
  refine mo_J_tsw hd hsz hpos hdp (fun j' off' h1 h2 => ?_) (fun h => ?_)
  · have e : j' = j := by omega
    rw [e, ho] at h1
    cases h1
    rw [ht]; exact kk
  · have := (Array.getElem?_eq_some_iff.mp ho).1
    omega
theorem mo_J_tswO {dflt lo hi : Int} {offs : Array Int} {len : Nat} {v : Int32} (hd : ClassFile.decode M.2.1 pc = .ok (.tableswitch dflt lo hi offs, len)) (hsz : (offs.size : Int) = hi - lo + 1) (hpos : offs.toList.all (fun o => decide (0 ≤ (pc : Int) + o)) = true) (hdp : 0 ≤ (pc : Int) + dflt) {t : Nat} (ht : ((pc : Int) + dflt).toNat = t) (hv : v.toInt < lo ∨ hi < v.toInt)
    (kk : mo_JQ l M d mc ms al σ0 QQ (t, ml, rest, (K, R, I, L, x))) : mo_JQ l M d mc ms al σ0 QQ (pc, ml, .int v :: rest, (K, R, I, L, x)) := by
  refine mo_J_tsw hd hsz hpos hdp (fun j' off' h1 h2 => ?_) (fun h => by rw [ht]; exact kk)
  have := (Array.getElem?_eq_some_iff.mp h1).1
  omega
end
theorem mo_bycase {P : Prop} (c : Prop) (h1 : c → P) (h2 : ¬ c → P) : P := (Classical.em c).elim h1 h2
/-- an int that is not below 0, as a number -/
def tN (m : Int32) : Option Nat := if m < 0 then none else some m.toNatClampNeg
theorem tN_N {m : Int32} (e : tN m = none) : m < 0 := by
  unfold tN at e
  by_cases c : m < 0
  · exact c
  · rw [if_neg c] at e; cases e
theorem tN_S {m : Int32} {v : Nat} (e : tN m = some v) : v < 2147483648 ∧ m = nI v := by
  unfold tN at e
  by_cases c : m < 0
  · rw [if_pos c] at e; cases e
  · rw [if_neg c] at e
    cases e
    obtain ⟨j, hj, hm⟩ := nI_of (x := m) c
    rw [hm, nI_clamp hj]
    exact ⟨hj, rfl⟩
theorem mo_php : ∀ (n : Nat) (xs : List Nat), xs.Nodup → (∀ y ∈ xs, y < n) → xs.length ≤ n
  | 0, xs, _, h => by
    cases xs with
    | nil => exact Nat.le_refl 0
    | cons y _ => exact absurd (h y List.mem_cons_self) (Nat.not_lt_zero y)
  | n + 1, xs, hn, h => by
    have h1 := mo_php n (xs.erase n) (hn.erase n) (fun y hy => by
      have h2 := h y (List.mem_of_mem_erase hy)
      have h3 : y ≠ n := fun e => by
        rw [e] at hy
        exact absurd hy (List.Nodup.not_mem_erase hn)
      omega)
    by_cases c : n ∈ xs
    · rw [List.length_erase_of_mem c] at h1
      omega
    · rw [List.erase_of_not_mem c] at h1
      omega
/-- the line of comers of a day, as far as minute t and man m -/
def tLC (T : mo_Tn) (dd : Int32) (t m : Nat) (xs : List Nat) : Prop := xs.Nodup ∧ ∀ e ∈ xs, e < tMen T ∧ ∃ c, tF T (nI e) dd = some c ∧ (tCi T c < t ∨ (tCi T c = t ∧ e < m))
theorem tLC_0 (T : mo_Tn) (dd : Int32) : tLC T dd 0 0 [] := ⟨List.nodup_nil, fun e he => by cases he⟩
theorem tLC_skip {T : mo_Tn} {dd : Int32} {t m : Nat} {xs : List Nat} (h : tLC T dd t m xs) : tLC T dd t (m + 1) xs := ⟨h.1, fun e he => by
  obtain ⟨h1, c, h2, h3⟩ := h.2 e he
  exact ⟨h1, c, h2, h3.elim Or.inl (fun z => Or.inr ⟨z.1, Nat.lt_succ_of_lt z.2⟩)⟩⟩
theorem tLC_next {T : mo_Tn} {dd : Int32} {t m : Nat} {xs : List Nat} (h : tLC T dd t m xs) : tLC T dd (t + 1) 0 xs := ⟨h.1, fun e he => by
  obtain ⟨h1, c, h2, h3⟩ := h.2 e he
  exact ⟨h1, c, h2, Or.inl (by omega)⟩⟩
theorem tLC_push {T : mo_Tn} {dd : Int32} {t m c : Nat} {xs : List Nat} (h : tLC T dd t m xs) (hm : m < tMen T) (e : tF T (nI m) dd = some c) (ht : tCi T c = t) : tLC T dd t (m + 1) (xs ++ [m]) := by
  refine ⟨List.nodup_append.mpr ⟨h.1, (List.nodup_cons.mpr ⟨List.not_mem_nil, List.nodup_nil⟩), fun a ha b hb he => ?_⟩, fun y hy => ?_⟩
  · rw [List.mem_singleton.mp hb] at he
    rw [he] at ha
    obtain ⟨_, c', h2, h3⟩ := h.2 m ha
    rw [e] at h2
    cases h2
    omega
  · rcases List.mem_append.mp hy with hy | hy
    · exact (tLC_skip h).2 y hy
    · rw [List.mem_singleton.mp hy]
      exact ⟨hm, c, e, Or.inr ⟨ht, Nat.lt_succ_self m⟩⟩
theorem tLC_len {T : mo_Tn} {dd : Int32} {t m : Nat} {xs : List Nat} (h : tLC T dd t m xs) : xs.length ≤ tMen T := mo_php _ xs h.1 (fun e he => (h.2 e he).1)
theorem tLC_lt {T : mo_Tn} {dd : Int32} {t m c : Nat} {xs : List Nat} (h : tLC T dd t m xs) (hm : m < tMen T) (e : tF T (nI m) dd = some c) (ht : tCi T c = t) : xs.length < tMen T := by
  have := tLC_len (tLC_push h hm e ht)
  rw [List.length_append] at this
  exact this
theorem mo_it_app {f : Nat → List Nat → List Nat} {g : Nat → List Nat} : ∀ {k i : Nat} {s : List Nat}, (∀ j s, i ≤ j → j < i + k → f j s = s ++ g j) → mo_it f k i s = s ++ (List.range' i k).flatMap g
  | 0, i, s, _ => by rw [List.range'_zero, List.flatMap_nil, List.append_nil]; rfl
  | k + 1, i, s, h => by
    show mo_it f k (i + 1) (f i s) = _
    rw [h i s (Nat.le_refl i) (by omega), mo_it_app (g := g) (fun j s h1 h2 => h j s (by omega) (by omega)), List.range'_succ, List.flatMap_cons, List.append_assoc]
theorem mo_it_filter {f : Nat → List Nat → List Nat} {p : Nat → Bool} : ∀ {k i : Nat} {s : List Nat}, (∀ j s, i ≤ j → j < i + k → f j s = if p j = true then s ++ [j] else s) → mo_it f k i s = s ++ (List.range' i k).filter p
  | 0, i, s, _ => by rw [List.range'_zero, List.filter_nil, List.append_nil]; rfl
  | k + 1, i, s, h => by
    show mo_it f k (i + 1) (f i s) = _
    rw [h i s (Nat.le_refl i) (by omega), mo_it_filter (p := p) (fun j s h1 h2 => h j s (by omega) (by omega)), List.range'_succ, List.filter_cons]
    by_cases c : p i = true
    · rw [if_pos c, if_pos c, List.append_assoc, List.singleton_append]
    · rw [if_neg c, if_neg c]
theorem mo_lp_noend {S ρ : Type} {body : Nat → S → S ⊕ ρ} {N k0 : Nat} (h0 : k0 < N) (h : ∀ s z, body k0 s ≠ .inl z) : ∀ k i s z, i + k = N → i ≤ k0 → mo_lp body k i s ≠ .inl z
  | 0, i, s, z, h1, h2 => by omega
  | k + 1, i, s, z, h1, h2 => by
    show (match body i s with | .inl s' => mo_lp body k (i + 1) s' | .inr r => .inr r) ≠ _
    cases e : body i s with
    | inr r => intro hh; cases hh
    | inl s' =>
      have : i ≠ k0 := fun ei => h s s' (by rw [← ei]; exact e)
      exact mo_lp_noend h0 h k (i + 1) s' z (by omega) (by omega)
theorem mo_getD {xs : List Nat} {k d : Nat} (hk : k < xs.length) : xs.getD k d = xs[k] := by
  rw [List.getD_eq_getElem?_getD, List.getElem?_eq_getElem hk]
  rfl
