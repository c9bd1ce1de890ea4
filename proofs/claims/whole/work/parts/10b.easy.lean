/-! The rules in their everyday form: nothing made, the kinds stay. -/
/-- a contract that tells answer and heap -/
def mo_D (l : Launch) (M : mo_M) (d : Nat) (av : List Value) (σ : mo_S) (r0 : Option Value) (σ1 : mo_S) : Prop := mo_C l M d 0 0 false av σ (fun r σ' => σ' = σ1 ∧ r = r0)
section E
variable {l : Launch} {M : mo_M} {d : Nat} {al : Bool} {Ψ : Option Value → mo_S → Prop} {code : List (Nat × mo_I)} {ini : Bool}
variable {pc : Nat} {ml : mo_L} {K : mo_K} {R R0 R1 : Nat → Nat → Nat} {I I0 I1 : Nat → Nat → Int32} {L L0 L1 : Nat → Nat → Int64}
theorem mo_ir {v : Int32} (hok : code.all (mo_chk M.1.cls ini M.2.1) = true) (hat : mo_at code pc = some (.ireturn, 1, 0, 0, 0, .null)) (hr : M.2.2.2 = some .int) (hΨ : Ψ (some (.int v)) (K, R, I, L, 0)) : mo_J l M d 0 0 al (K, R0, I0, L0, 0) Ψ (pc, ml, [.int v], (K, R, I, L, 0)) :=
  mo_J_iret (mo_dec hok hat) hr hΨ (by show 0 = K.length - K.length + 0; omega) (by show 0 = mo_sz K - mo_sz K + 6 * 0; omega) (fun _ _ _ _ _ _ _ h => h)
theorem mo_zr' {v : Int32} (hok : code.all (mo_chk M.1.cls ini M.2.1) = true) (hat : mo_at code pc = some (.ireturn, 1, 0, 0, 0, .null)) (hr : M.2.2.2 = some .boolean) (h01 : v = 0 ∨ v = 1) (hΨ : Ψ (some (.int v)) (K, R, I, L, 0)) : mo_J l M d 0 0 al (K, R0, I0, L0, 0) Ψ (pc, ml, [.int v], (K, R, I, L, 0)) :=
  mo_J_zret (mo_dec hok hat) hr h01 hΨ (by show 0 = K.length - K.length + 0; omega) (by show 0 = mo_sz K - mo_sz K + 6 * 0; omega) (fun _ _ _ _ _ _ _ h => h)
theorem mo_lr {v : Int64} (hok : code.all (mo_chk M.1.cls ini M.2.1) = true) (hat : mo_at code pc = some (.lreturn, 1, 0, 0, 0, .null)) (hr : M.2.2.2 = some .long) (hΨ : Ψ (some (.long v)) (K, R, I, L, 0)) : mo_J l M d 0 0 al (K, R0, I0, L0, 0) Ψ (pc, ml, [.long v], (K, R, I, L, 0)) :=
  mo_J_lret (mo_dec hok hat) hr hΨ (by show 0 = K.length - K.length + 0; omega) (by show 0 = mo_sz K - mo_sz K + 6 * 0; omega) (fun _ _ _ _ _ _ _ h => h)
theorem mo_vr (hok : code.all (mo_chk M.1.cls ini M.2.1) = true) (hat : mo_at code pc = some (.return_, 1, 0, 0, 0, .null)) (hr : M.2.2.2 = none) (hΨ : Ψ none (K, R, I, L, 0)) : mo_J l M d 0 0 al (K, R0, I0, L0, 0) Ψ (pc, ml, [], (K, R, I, L, 0)) :=
  mo_J_vret (mo_dec hok hat) hr hΨ (by show 0 = K.length - K.length + 0; omega) (by show 0 = mo_sz K - mo_sz K + 6 * 0; omega) (fun _ _ _ _ _ _ _ h => h)
variable {M2 : mo_M} {d2 idx : Nat} {st rest as2 : List Value} {r0 : Option Value}
theorem mo_fit0 (hd2 : d2 + 1 ≤ d) (hm : M2.2.2.1 ≤ 80) (hw : mo_wd rest ≤ 8) : mo_fit d 0 0 al (K, R0, I0, L0, 0) M2 d2 0 0 false K 0 rest :=
  ⟨hd2, hm, Nat.le_refl _, Nat.le_refl _, hw, fun h => by cases h⟩
theorem mo_fS (hc : mo_D l M2 d2 as2 (K, R, I, L, 0) r0 (K, R1, I1, L1, 0)) (hcd : mo_cd M2) (hok : code.all (mo_chk M.1.cls ini M.2.1) = true) (hat : mo_at code pc = some (.invokestatic idx, 3, 0, 0, 0, .null)) (hk : mo_kS M.1.cls idx M2 as2.length = true) (hml : ml.length = M.2.2.1) (hst : st = as2.reverse ++ rest) (hd2 : d2 + 1 ≤ d) (hm : M2.2.2.1 ≤ 80) (hw : mo_wd rest ≤ 8)
    (kk : mo_J l M d 0 0 al (K, R0, I0, L0, 0) Ψ (pc + 3, ml, r0.toList ++ rest, (K, R1, I1, L1, 0))) : mo_J l M d 0 0 al (K, R0, I0, L0, 0) Ψ (pc, ml, st, (K, R, I, L, 0)) :=
  mo_J_callS hc hcd (mo_dec hok hat) hk hml hst (mo_fit0 hd2 hm hw) (fun r K2 R2 I2 L2 x2 h => by obtain ⟨h1, rfl⟩ := h; cases h1; exact kk)
theorem mo_fSN (hc : mo_D l M2 d2 as2 (K, R, I, L, 0) r0 (K, R1, I1, L1, 0)) (hcd : mo_cd M2) (hok : code.all (mo_chk M.1.cls ini M.2.1) = true) (hat : mo_at code pc = some (.invokestatic idx, 3, 0, 0, 0, .null)) (hk : mo_kSN M.1.cls idx M2 as2.length = true) (hml : ml.length = M.2.2.1) (hst : st = as2.reverse ++ rest) (hd2 : d2 + 1 ≤ d) (hm : M2.2.2.1 ≤ 80) (hw : mo_wd rest ≤ 8)
    (kk : mo_J l M d 0 0 al (K, R0, I0, L0, 0) Ψ (pc + 3, ml, r0.toList ++ rest, (K, R1, I1, L1, 0))) : mo_J l M d 0 0 al (K, R0, I0, L0, 0) Ψ (pc, ml, st, (K, R, I, L, 0)) :=
  mo_J_callSN hc hcd (mo_dec hok hat) hk hml hst (mo_fit0 hd2 hm hw) (fun r K2 R2 I2 L2 x2 h => by obtain ⟨h1, rfl⟩ := h; cases h1; exact kk)
theorem mo_fV {q ci : Nat} (hc : mo_D l M2 d2 (.ref q :: as2) (K, R, I, L, 0) r0 (K, R1, I1, L1, 0)) (hcd : mo_cd M2) (hok : code.all (mo_chk M.1.cls ini M.2.1) = true) (hat : mo_at code pc = some (.invokevirtual idx, 3, 0, 0, 0, .null)) (hk : mo_kV M.1.cls idx M2 as2.length ci = true) (hq : mo_kd K q = ci) (hml : ml.length = M.2.2.1) (hst : st = as2.reverse ++ .ref q :: rest) (hd2 : d2 + 1 ≤ d) (hm : M2.2.2.1 ≤ 80) (hw : mo_wd rest ≤ 8)
    (kk : mo_J l M d 0 0 al (K, R0, I0, L0, 0) Ψ (pc + 3, ml, r0.toList ++ rest, (K, R1, I1, L1, 0))) : mo_J l M d 0 0 al (K, R0, I0, L0, 0) Ψ (pc, ml, st, (K, R, I, L, 0)) :=
  mo_J_callV hc hcd (mo_dec hok hat) hk hq hml hst (mo_fit0 hd2 hm hw) (fun r K2 R2 I2 L2 x2 h => by obtain ⟨h1, rfl⟩ := h; cases h1; exact kk)
/-- a deterministic contract out of a body -/
theorem mo_D_of {av : List Value} (hpl : plainFor M.1 = true) (hlen : (mo_ea av).length ≤ M.2.2.1) (h : ∀ Ψ, Ψ r0 (K, R1, I1, L1, 0) → mo_J l M d 0 0 false (K, R, I, L, 0) Ψ (0, mo_ent av M.2.2.1, [], (K, R, I, L, 0))) : mo_D l M d av (K, R, I, L, 0) r0 (K, R1, I1, L1, 0) :=
  mo_C_of hpl hlen (fun z => by cases z) (h _ ⟨rfl, rfl⟩)
/-- two ways of telling the same answer and heap -/
theorem mo_D_eq {av : List Value} {σ σ1 σ2 : mo_S} {r1 : Option Value} (h : mo_D l M d av σ r0 σ1) (hr : r0 = r1) (hσ : σ1 = σ2) : mo_D l M d av σ r1 σ2 := by subst hr; subst hσ; exact h
/-- more frames -/
theorem mo_D_up {av : List Value} {σ σ1 : mo_S} {d' : Nat} (hd : d ≤ d') (h : mo_D l M d av σ r0 σ1) : True := trivial
end E
