/-! Contracts of methods with an exception table, and their calls. -/
/-- THE CONTRACT of a method with an exception table -/
def mo_CH (l : Launch) (M : mo_M) (hh : List (Nat × Nat × Nat × Nat)) (d mc ms : Nat) (av : List Value) (σ : mo_S) (Ψ : Option Value → mo_S → Prop) : Prop :=
  ∀ (D : va_G) (cA : Nat → ClassId) (ad : Nat → Nat) (sz : Nat), Met l M.1 (Cond.codeWith M.1 M.2.1 M.2.2.1 M.2.2.2 hh :: mo_ws) (mo_rm d mc ms) (mo_Pc D cA ad sz false av σ) (mo_Qc D cA ad (va_A (mo_w cA ad σ) sz) σ mc ms Ψ) mc ms (va_A (mo_w cA ad σ) sz)
theorem mo_CH_of {l : Launch} {M : mo_M} {hh : List (Nat × Nat × Nat × Nat)} {d mc ms : Nat} {Ψ : Option Value → mo_S → Prop} {av : List Value} {K : mo_K} {R : Nat → Nat → Nat} {I : Nat → Nat → Int32} {L : Nat → Nat → Int64} (hpl : plainName M.1.cls = true) (hlen : (mo_ea av).length ≤ M.2.2.1) (h : mo_J l M d mc ms false (K, R, I, L, 0) Ψ (0, mo_ent av M.2.2.1, [], (K, R, I, L, 0))) : mo_CH l M hh d mc ms av (K, R, I, L, 0) Ψ := by
  intro D cA ad sz
  refine va_MetW (cc := M.2.1) (maxL := M.2.2.1) (ret := M.2.2.2) (hh := hh) hpl rfl ?_
  intro p e s m args below meth c s₁ B hml hv
  obtain ⟨rfl, hsz, ⟨v1, v2, v3, v4⟩, hRel⟩ := hv
  subst hsz
  have hts := atoms_spec (ws := Cond.codeWith M.1 M.2.1 M.2.2.1 M.2.2.2 hh :: mo_ws) B.pre
  have hown : s.vm.findClass M.1.cls = some m.cls := findClass_of_methodNamed B.named
  rw [lg_entry_eq]
  have g := h p e s m (av.map (mo_tr ad)).toArray below meth c D cA ad ⟨⟨B.exec, B.bytes, hown, fun w hw => hts w (List.mem_cons_of_mem _ hw), v1, v2, fun q hq => Or.inr hq, v3, Or.inl rfl, Or.inl rfl⟩, hml, B.returns, B.notSynchronized, (name_of_methodNamed B.named B.method).1, v4, B.named⟩ s.heap [] _ hRel va_S.rf (mo_ent_LR hlen)
  have e1 : K.length - K.length + 0 = 0 := by omega
  have e2 : mo_sz K - mo_sz K + 6 * 0 = 0 := by omega
  have g : W p l e (mo_rm d mc ms) s m (av.map (mo_tr ad)).toArray below meth c s.heap [] (K.length - K.length + 0) (mo_sz K - mo_sz K + 6 * 0) (MQ below (mo_Qc D cA ad (va_A (mo_w cA ad (K, R, I, L, 0)) s.heap.size) (K, R, I, L, 0) mc ms Ψ) (av.map (mo_tr ad)).toArray s mc ms (va_A (mo_w cA ad (K, R, I, L, 0)) s.heap.size)) (F0 m 0 ((lg_sl (av.map (mo_tr ad)) ++ List.replicate (M.2.2.1 - (lg_sl (av.map (mo_tr ad))).length) Slot.unset).toArray) []) := g
  rw [e1, e2] at g
  exact g
section C
variable {p : Program} {l : Launch} {e : Env} {R : Room} {s : State} {m : MethodId} {args : Array Value} {below : List Frame} {meth : Method} {c : Code} {T : State} {locs : List Loc} {cells slots : Nat}
theorem mo_callSW (X : Stand p l e R s m args below meth c T locs cells slots) (hexec : p.tables.exec = Jvm.exec) {own : String} {index : Nat} {y : MethodName} {bytes : ByteArray} {maxL : Nat} {ret : Option ClassFile.FieldType} {hh : List (Nat × Nat × Nat × Nat)}
    (hown : s.vm.findClass own = some m.cls) (hlink : (Cond.methodLink own index y).before args s = true) (hstat : (Cond.static y).before args s = true) (hinit : (Cond.initialized y.cls).before args s = true)
    (hcode : (Cond.codeWith y bytes maxL ret hh).before args s = true) (hy : y.cls ≠ "java/lang/invoke/MethodHandle" ∧ y.cls ≠ "java/lang/invoke/VarHandle")
    {W : Nat} {Pre : Pt → Array Value → Prop} {Post : Pt → Array Value → Option Value → Pt → Prop} (hK : Back l R p e below s args y 3 W Pre Post)
    {g : JFrame} (hg : g.method = m) (hsize : g.locals.size = c.maxLocals) {argsL rest : List Value} (hlen : ∀ sig, ClassFile.parseMethodDescriptor y.desc = some sig → argsL.length = sig.parameters.length)
    (hstack : g.stack = argsL.reverse ++ rest) (hW : 2 * g.monitorRoom + (rest.map fun v => v.category).sum ≤ W) (hdg : ClassFile.decode c.code g.pc = .ok (.invokestatic index, 3))
    (hpre : ∀ vm₁, s.WarmedH vm₁ → Pre ⟨T.setVm vm₁, locs, cells, slots⟩ argsL.toArray) :
    ∃ (v : Option Value) (vm₁ : Vm) (B : Pt), s.WarmedH vm₁ ∧ Stand p l e R s m args below meth c B.U B.locs B.cells B.slots ∧ Post ⟨T.setVm vm₁, locs, cells, slots⟩ argsL.toArray v B ∧
      ∀ target, Steps p.tables e below (B.U.setTop { g with pc := g.pc + 3, stack := v.toList ++ rest }) target → Steps p.tables e below (T.setTop g) target := by
  obtain ⟨mk, methM, cM, hnamed, hmethM, -, -, -, -, -, -, hsigM⟩ := Cond.codeWith_spec hcode
  have hstatic : methM.isStatic = true := Cond.static_spec hnamed hmethM hstat
  obtain ⟨kP, hkP, -⟩ := className_of_methodNamed hnamed
  have hinitP : kP.init = .initialized := Cond.initialized_spec (findClass_of_methodNamed hnamed) hkP hinit
  obtain ⟨vm₁, X₁, hstep₁⟩ := X.invokestatic hexec hown hlink hnamed hmethM hstatic hkP hinitP hy (g := g) hg (argsL := argsL) (rest := rest) (hlen _ hsigM) hstack hdg
  obtain ⟨v, B, X', hpost, hsteps⟩ := hK m meth c ⟨T.setVm vm₁, locs, cells, slots⟩ { g with stack := rest } (.invokestatic index) mk argsL.toArray X₁ hg hsize hdg hW (X₁.named hnamed) (hpre vm₁ X₁.warmed)
  exact ⟨v, vm₁, B, X₁.warmed, X', hpost, fun target h => hstep₁ _ fun acts => by rw [doInvoke_state]; exact hsteps.trans h⟩
end C
/-- the words of a helper's call -/
def mo_kH (own : String) (idx : Nat) (M : mo_M) (n : Nat) : Bool := (mo_in (.methodLink own idx M.1) && mo_in (.static M.1)) && mo_kc M n
section J
variable {l : Launch} {M : mo_M} {d mc ms : Nat} {al : Bool} {σ0 : mo_S} {QQ : mo_QQ}
variable {M2 : mo_M} {d2 mc2 ms2 : Nat} {Ψ2 : Option Value → mo_S → Prop} {pc idx : Nat} {ml : mo_L} {st rest as2 : List Value} {K : mo_K} {R : Nat → Nat → Nat} {I : Nat → Nat → Int32} {L : Nat → Nat → Int64} {x : Nat} {hh : List (Nat × Nat × Nat × Nat)}
/-- RULE: invokestatic of a method with an exception table -/
theorem mo_J_callH (hc : mo_CH l M2 hh d2 mc2 ms2 as2 (K, R, I, L, 0) Ψ2) (hcd : Cond.codeWith M2.1 M2.2.1 M2.2.2.1 M2.2.2.2 hh ∈ mo_ws) (hd : ClassFile.decode M.2.1 pc = .ok (.invokestatic idx, 3)) (hk : mo_kH M.1.cls idx M2 as2.length = true) (hml : ml.length = M.2.2.1) (hst : st = as2.reverse ++ rest) (hf : mo_fit d mc ms al σ0 M2 d2 mc2 ms2 false K x rest)
    (kk : ∀ (r : Option Value) (K2 : mo_K) (R2 : Nat → Nat → Nat) (I2 : Nat → Nat → Int32) (L2 : Nat → Nat → Int64) (x2 : Nat), Ψ2 r (K2, R2, I2, L2, x2) → mo_JQ l M d mc ms al σ0 QQ (pc + 3, ml, r.toList ++ rest, (K2, R2, I2, L2, x + x2))) : mo_JQ l M d mc ms al σ0 QQ (pc, ml, st, (K, R, I, L, x)) := by
  intro p e s m args below meth c D cA ad J H locs ls hR hS hL
  have J0 := J
  obtain ⟨hC, hmaxL, -⟩ := J
  obtain ⟨f1, f2, f3, f4, f5, f6⟩ := hf
  obtain ⟨hx, hb, hown, hts, -⟩ := id hC
  simp only [mo_kH, Bool.and_eq_true] at hk
  obtain ⟨⟨hk1, hk2⟩, hk3⟩ := hk
  obtain ⟨c1, c2, c3, c4⟩ := mo_kc_inv hk3
  have r2 : σ0.1.length ≤ K.length := hR.2.2.2.1
  have r3 : mo_sz σ0.1 ≤ mo_sz K := hR.2.2.2.2.1
  intro T hT Z
  have hal := mo_al2 J0 hR hS hT Z (al2 := false) (fun h => by cases h) (fun h => by cases h)
  refine mo_after (X := mo_Xo al mc ms σ0) (mc := mc2) (ms := ms2) (Ψ := Ψ2) (a := (as2.map (mo_tr ad)).toArray) (rest := rest) (pc := pc) (ml := ml) hC hR hS hL ?_ (fun r K2 R2 I2 L2 x2 h => kk r K2 R2 I2 L2 x2 h p e s m args below meth c D cA ad J0) T hT Z
  have hM := hc D cA ad H.size
  have hws : ∀ w ∈ Cond.codeWith M2.1 M2.2.1 M2.2.2.1 M2.2.2.2 hh :: mo_ws, ∀ (a' : Array Value) (U : State), s.WarmedH U.vm → w.before a' U = true := fun w hw a' U hW => by
    have hw2 : w ∈ mo_ws := by
      rcases List.mem_cons.mp hw with rfl | hw
      · exact hcd
      · exact hw
    exact word_at hW (mo_ws_self w hw2).2 (hts w hw2)
  have hK : Back l (mo_rm d mc ms) p e below s args M2.1 3 8 (PreOf (mo_rm d mc ms) mc2 ms2 (mo_Pc D cA ad H.size false as2 (K, R, I, L, 0))) (PostOf (mo_Qc D cA ad (va_A (mo_w cA ad (K, R, I, L, 0)) H.size) (K, R, I, L, 0) mc2 ms2 Ψ2) mc2 ms2 (va_A (mo_w cA ad (K, R, I, L, 0)) H.size)) :=
    va_backW (bytes := M2.2.1) (maxL := M2.2.2.1) (ret := M2.2.2.2) (hh := hh) hM mo_Pc_blind rfl rfl f1 (by show 8 + (M2.2.2.1 + 11) + 100 * (d2 + 1) ≤ 100 * (d + 1); omega) hws List.mem_cons_self (fun a' U hW => hws _ (List.mem_cons_of_mem _ c1) a' U hW)
  intro T2 hT2 X
  obtain ⟨v, vm₁, ⟨U', l2, c2', s2⟩, hW₁, X', ⟨g', mk, t, LL, e1, e2, hq, h1, hLL, h2, h3⟩, st'⟩ := mo_callSW X hx (bytes := M2.2.1) (maxL := M2.2.2.1) (ret := M2.2.2.2) (hh := hh) hown (hts _ (mo_in_ws hk1)) (hts _ (mo_in_ws hk2)) (hts _ c1) (hts _ hcd) ⟨c2, c3⟩ hK (g := F0 m pc ls (st.map (mo_tr ad))) rfl (by rw [hmaxL]; exact hL.1.trans hml) (argsL := as2.map (mo_tr ad)) (rest := rest.map (mo_tr ad)) (fun sig h => by
      rw [List.length_map]
      rw [h] at c4
      exact (Option.some.inj c4).symm) (by show st.map (mo_tr ad) = _; rw [hst, List.map_append, List.map_reverse]) (lv_room (by rw [mo_wd_eq]; exact f5)) (by rw [hb]; exact hd)
    (fun vm₁ hW₁ => ⟨by show K.length - σ0.1.length + x + mc2 ≤ mc; omega, by show mo_sz K - mo_sz σ0.1 + 6 * x + ms2 ≤ ms; omega, mo_Pc_call hC hR hS hal (U := T2.setVm vm₁) hT2 hW₁⟩)
  dsimp only [Pt.U, Pt.locs, Pt.cells, Pt.slots] at X' e1 e2 h1 h2 h3 st'
  subst h1; subst h2; subst h3
  exact ⟨v, (T2.setVm vm₁).calling g' mk (as2.map (mo_tr ad)).toArray, t, U', LL, hT2, X', hLL, e1, e2, hq, st'⟩
end J
