/-! The reference: what it asks of a token. -/
/-- a contract that tells answer and heap, the token's leavings aside -/
def mo_E (l : Launch) (M : mo_M) (d : Nat) (av : List Value) (σ : mo_S) (r0 : Option Value) (K : mo_K) (R : Nat → Nat → Nat) (xs : List Nat) (lim : Nat) (B : Nat → Nat → Int32) (a P : Nat) (LB : Nat → Nat → Int64) : Prop := mo_C l M d 0 0 false av σ (fun r σ' => r = r0 ∧ ∃ u v w, tkOK xs lim P u v w ∧ σ' = (K, R, rtI xs lim B a P u v, mo_up LB a 12 w, 0))
section
variable {l : Launch} {M : mo_M} {d : Nat} {al : Bool} {Ψ : Option Value → mo_S → Prop} {code : List (Nat × mo_I)} {ini : Bool}
variable {pc : Nat} {ml : mo_L} {K : mo_K} {R R0 R1 : Nat → Nat → Nat} {I I0 B : Nat → Nat → Int32} {L L0 LB : Nat → Nat → Int64} {xs : List Nat} {lim a P : Nat}
variable {M2 : mo_M} {d2 idx : Nat} {st rest as2 : List Value} {r0 : Option Value}
theorem mo_eV {q ci : Nat} (hc : mo_E l M2 d2 (.ref q :: as2) (K, R, I, L, 0) r0 K R1 xs lim B a P LB) (hcd : mo_cd M2) (hok : code.all (mo_chk M.1.cls ini M.2.1) = true) (hat : mo_at code pc = some (.invokevirtual idx, 3, 0, 0, 0, .null)) (hk : mo_kV M.1.cls idx M2 as2.length ci = true) (hq : mo_kd K q = ci) (hml : ml.length = M.2.2.1) (hst : st = as2.reverse ++ .ref q :: rest) (hd2 : d2 + 1 ≤ d) (hm : M2.2.2.1 ≤ 80) (hw : mo_wd rest ≤ 8)
    (kk : ∀ u v w, tkOK xs lim P u v w → mo_J l M d 0 0 al (K, R0, I0, L0, 0) Ψ (pc + 3, ml, r0.toList ++ rest, (K, R1, rtI xs lim B a P u v, mo_up LB a 12 w, 0))) : mo_J l M d 0 0 al (K, R0, I0, L0, 0) Ψ (pc, ml, st, (K, R, I, L, 0)) :=
  mo_J_callV hc hcd (mo_dec hok hat) hk hq hml hst (mo_fit0 hd2 hm hw) (fun r K2 R2 I2 L2 x2 h => by obtain ⟨rfl, u, v, w, ok, e⟩ := h; cases e; exact kk u v w ok)
theorem mo_E_of {av : List Value} (hpl : plainFor M.1 = true) (hlen : (mo_ea av).length ≤ M.2.2.1) (h : ∀ Ψ, (∀ u v w, tkOK xs lim P u v w → Ψ r0 (K, R1, rtI xs lim B a P u v, mo_up LB a 12 w, 0)) → mo_J l M d 0 0 false (K, R, I, L, 0) Ψ (0, mo_ent av M.2.2.1, [], (K, R, I, L, 0))) : mo_E l M d av (K, R, I, L, 0) r0 K R1 xs lim B a P LB :=
  mo_C_of hpl hlen (fun z => by cases z) (h _ (fun u v w ok => ⟨rfl, u, v, w, ok, rfl⟩))
end
theorem rtI_5 {xs : List Nat} {lim : Nat} {I : Nat → Nat → Int32} {a p : Nat} {u v : Int32} : rtI xs lim I a p u v a 5 = nI (tkN xs lim p) := by simp [rtI]
theorem rtI_6 {xs : List Nat} {lim : Nat} {I : Nat → Nat → Int32} {a p : Nat} {u v : Int32} : rtI xs lim I a p u v a 6 = nI (tkP xs lim p) := by simp [rtI]
theorem rtI_7 {xs : List Nat} {lim : Nat} {I : Nat → Nat → Int32} {a p : Nat} {u v : Int32} : rtI xs lim I a p u v a 7 = mo_kk (tkK xs lim p) := by simp [rtI]
theorem rtI_8 {xs : List Nat} {lim : Nat} {I : Nat → Nat → Int32} {a p : Nat} {u v : Int32} : rtI xs lim I a p u v a 8 = u := by simp [rtI]
theorem rtI_9 {xs : List Nat} {lim : Nat} {I : Nat → Nat → Int32} {a p : Nat} {u v : Int32} : rtI xs lim I a p u v a 9 = v := by simp [rtI]
theorem rtI_a {xs : List Nat} {lim : Nat} {I : Nat → Nat → Int32} {a p y : Nat} {u v : Int32} (h : y ≠ 5 ∧ y ≠ 6 ∧ y ≠ 7 ∧ y ≠ 8 ∧ y ≠ 9) : rtI xs lim I a p u v a y = I a y := by simp [rtI, h.1, h.2.1, h.2.2.1, h.2.2.2.1, h.2.2.2.2]
theorem rtI_q {xs : List Nat} {lim : Nat} {I : Nat → Nat → Int32} {a p x : Nat} {u v : Int32} (h : x ≠ a) : rtI xs lim I a p u v x = I x := by funext y; simp [rtI, h]
theorem rtI_rtI {xs : List Nat} {lim : Nat} {I : Nat → Nat → Int32} {a p q : Nat} {u v u' v' : Int32} : rtI xs lim (rtI xs lim I a p u v) a q u' v' = rtI xs lim I a q u' v' :=
  rtI_of rtI_5 rtI_6 rtI_7 rtI_8 rtI_9 (fun y h5 h6 h7 h8 h9 => by rw [rtI_a ⟨h5, h6, h7, h8, h9⟩, rtI_a ⟨h5, h6, h7, h8, h9⟩]) (fun x hx => by rw [rtI_q hx, rtI_q hx])
theorem rtI_up {xs : List Nat} {lim : Nat} {I : Nat → Nat → Int32} {a p q k : Nat} {u v x : Int32} (h : q ≠ a) : mo_up (rtI xs lim I a p u v) q k x = rtI xs lim (mo_up I q k x) a p u v :=
  rtI_of (by rw [mo_upQ _ _ _ (Ne.symm h), rtI_5]) (by rw [mo_upQ _ _ _ (Ne.symm h), rtI_6]) (by rw [mo_upQ _ _ _ (Ne.symm h), rtI_7]) (by rw [mo_upQ _ _ _ (Ne.symm h), rtI_8]) (by rw [mo_upQ _ _ _ (Ne.symm h), rtI_9]) (fun y h5 h6 h7 h8 h9 => by rw [mo_upQ _ _ _ (Ne.symm h), mo_upQ _ _ _ (Ne.symm h), rtI_a ⟨h5, h6, h7, h8, h9⟩]) (fun z hz => by funext y; unfold mo_up; rw [rtI_q hz])
theorem rtI_ua {xs : List Nat} {lim : Nat} {I : Nat → Nat → Int32} {a p k : Nat} {u v x : Int32} (h : k ≠ 5 ∧ k ≠ 6 ∧ k ≠ 7 ∧ k ≠ 8 ∧ k ≠ 9) : mo_up (rtI xs lim I a p u v) a k x = rtI xs lim (mo_up I a k x) a p u v :=
  rtI_of (by rw [mo_upK _ _ _ (Ne.symm h.1), rtI_5]) (by rw [mo_upK _ _ _ (Ne.symm h.2.1), rtI_6]) (by rw [mo_upK _ _ _ (Ne.symm h.2.2.1), rtI_7]) (by rw [mo_upK _ _ _ (Ne.symm h.2.2.2.1), rtI_8]) (by rw [mo_upK _ _ _ (Ne.symm h.2.2.2.2), rtI_9]) (fun y h5 h6 h7 h8 h9 => by
    by_cases c : y = k
    · subst c; rw [mo_upA, mo_upA]
    · rw [mo_upK _ _ _ c, mo_upK _ _ _ c, rtI_a ⟨h5, h6, h7, h8, h9⟩]) (fun z hz => by rw [mo_upR hz, mo_upR hz, rtI_q hz])
theorem mo_tx_rt {K : mo_K} {R : Nat → Nat → Nat} {I : Nat → Nat → Int32} {a p lim : Nat} {xs : List Nat} {u v : Int32} (h : mo_md K R a) (hX : mo_tx I R a xs) : mo_tx (rtI xs lim I a p u v) R a xs :=
  ⟨(rtI_a (by decide)).trans hX.1, hX.2.1, fun k hk => ⟨by rw [rtI_q (mo_nekd (mo_mk1 h) h.1 (by decide))]; exact (hX.2.2 k hk).1, (hX.2.2 k hk).2⟩⟩
/-- from a token to the next -/
theorem C_mgo (l : Launch) (K : mo_K) (R : Nat → Nat → Nat) (I : Nat → Nat → Int32) (L : Nat → Nat → Int64) (a : Nat) (xs : List Nat) (lim p : Nat) (u v : Int32) (w : Int64) (h : mo_md K R a) (hX : mo_tx I R a xs) (hp : p ≤ xs.length) (hl : I a 4 = nI lim) (hl2 : lim < 1000) : ∃ u2 v2 w2, tkOK xs lim (tkN xs lim p) u2 v2 w2 ∧ mo_D l mm_Model_go 1 [.ref a] (K, R, rtI xs lim I a p u v, mo_up L a 12 w, 0) none (K, R, rtI xs lim I a (tkN xs lim p) u2 v2, mo_up L a 12 w2, 0) := by
  obtain ⟨u2, v2, w2, ok, e⟩ := go_E (I := rtI xs lim I a p u v) (L := mo_up L a 12 w) (a := a) (lim := lim) (p := tkN xs lim p) (fun k hk => (hX.2.2 k hk).2) (tkN_le hp)
  refine ⟨u2, v2, w2, ok, mo_D_eq (C_Model_go l K R (rtI xs lim I a p u v) (mo_up L a 12 w) a xs lim (tkN xs lim p) h (mo_tx_rt h hX) rtI_5 (tkN_le hp) ((rtI_a (by decide)).trans hl) hl2) rfl ?_⟩
  rw [e, rtI_rtI, mo_upU]
theorem C_mgo0 (l : Launch) (K : mo_K) (R : Nat → Nat → Nat) (I : Nat → Nat → Int32) (L : Nat → Nat → Int64) (a : Nat) (xs : List Nat) (lim p : Nat) (h : mo_md K R a) (hX : mo_tx I R a xs) (hp : I a 5 = nI p) (hp2 : p ≤ xs.length) (hl : I a 4 = nI lim) (hl2 : lim < 1000) : ∃ u2 v2 w2, tkOK xs lim p u2 v2 w2 ∧ mo_D l mm_Model_go 1 [.ref a] (K, R, I, L, 0) none (K, R, rtI xs lim I a p u2 v2, mo_up L a 12 w2, 0) := by
  obtain ⟨u2, v2, w2, ok, e⟩ := go_E (I := I) (L := L) (a := a) (lim := lim) (p := p) (fun k hk => (hX.2.2 k hk).2) hp2
  refine ⟨u2, v2, w2, ok, mo_D_eq (C_Model_go l K R I L a xs lim p h hX hp hp2 hl hl2) rfl ?_⟩
  rw [e]
theorem tkK_rng (xs : List Nat) (lim p : Nat) : tkK xs lim p = 0 ∨ tkK xs lim p = 1 ∨ tkK xs lim p = 2 ∨ tkK xs lim p = 3 ∨ tkK xs lim p = 4 ∨ tkK xs lim p = 5 := by
  unfold tkK tkO tkk
  (repeat' split) <;> simp
theorem mo_kk_1 {xs : List Nat} {lim p : Nat} : mo_kk (tkK xs lim p) = 1 ↔ tkK xs lim p = 0 := by
  rcases tkK_rng xs lim p with z | z | z | z | z | z <;> (rw [z]; decide)
theorem mo_kk_2 {xs : List Nat} {lim p : Nat} : mo_kk (tkK xs lim p) = 2 ↔ (tkK xs lim p = 2 ∨ tkK xs lim p = 3) := by
  rcases tkK_rng xs lim p with z | z | z | z | z | z <;> (rw [z]; decide)
theorem mo_kk_3 {xs : List Nat} {lim p : Nat} : mo_kk (tkK xs lim p) = 3 ↔ tkK xs lim p = 4 := by
  rcases tkK_rng xs lim p with z | z | z | z | z | z <;> (rw [z]; decide)
theorem mo_kk_4 {xs : List Nat} {lim p : Nat} : mo_kk (tkK xs lim p) = 4 ↔ tkK xs lim p = 5 := by
  rcases tkK_rng xs lim p with z | z | z | z | z | z <;> (rw [z]; decide)
theorem mo_kk_0 {xs : List Nat} {lim p : Nat} : mo_kk (tkK xs lim p) = 0 ↔ tkK xs lim p = 1 := by
  rcases tkK_rng xs lim p with z | z | z | z | z | z <;> (rw [z]; decide)
/-- own words, and none of them -/
theorem tkK_W {xs : List Nat} {lim p : Nat} : (tkK xs lim p = 3 → tkW (tkV xs lim p) = 0) ∧ (tkK xs lim p = 2 → tkW (tkV xs lim p) = 1) := by
  have w01 : ∀ v, tkW v = 0 ∨ tkW v = 1 := fun v => by unfold tkW; split <;> simp
  unfold tkK tkV
  by_cases c1 : lim < xs.length ∧ lim ≤ tkS xs p
  · simp only [if_pos c1]; exact ⟨fun z => absurd z (by decide), fun z => absurd z (by decide)⟩
  · simp only [if_neg c1]
    by_cases c2 : xs.length ≤ tkS xs p
    · simp only [if_pos c2]; exact ⟨fun z => absurd z (by decide), fun z => absurd z (by decide)⟩
    · simp only [if_neg c2]
      by_cases c3 : (tkR xs (tkS xs p) 0).2.2.1 = tkS xs p
      · simp only [if_pos c3]
        unfold tkO
        constructor <;> (intro z; exfalso; (repeat' split at z) <;> exact absurd z (by decide))
      · simp only [if_neg c3]
        by_cases c4 : tkk (tkR xs (tkS xs p) 0) = 3
        · simp only [if_pos c4]
          by_cases c5 : tkW (tkR xs (tkS xs p) 0).2.2.2 = 0
          · simp only [if_pos c5]
            exact ⟨fun _ => c5, fun z => absurd z (by decide)⟩
          · simp only [if_neg c5]
            exact ⟨fun z => absurd z (by decide), fun _ => (w01 _).resolve_left c5⟩
        · simp only [if_neg c4]
          refine ⟨fun z => absurd z c4, fun z => ?_⟩
          exfalso
          unfold tkk at z
          (repeat' split at z) <;> exact absurd z (by decide)
