/-! A callee that throws, caught by the caller's only entry. -/
section CATCH
variable {tb : Tables} {e : Env} {s target : State} {g : JFrame} {c : Code} {below : List Frame} {a : Addr}
/-- the search through a table of one entry, whose class is found and noted on the way -/
theorem mo_find1 {f : JFrame} {x : ClassFile.ExceptionTableEntry} {meth : Method} (hm : s.vm.method? f.method = some meth) (hc : meth.code = some c) (hx1 : c.exceptionTable.toList = [x]) (hx : covers x f.pc = true) (h0 : x.catchType ≠ 0) {cl : ClassId} {cell : Cell} (hl : s.vm.ClassLinks e.platform f.method.cls x.catchType cl) (hcell : s.heap[a]? = some cell) (hobj : ∀ k, cell.vm ≠ .statics k) (hk : ∃ k, s.vm.classes[cell.cls]? = some k) (hcl : ∃ k, s.vm.classes[cl]? = some k) (hfit : s.vm.assignable cell.cls cl = true) (Q : Handler → Pre) (E : CtlPost) (d : Bool) (acts : List Action) :
    wp (findHandler f a) Q E e d acts s ↔ Q (.found x.handlerPc) d acts (s.setVm (s.vm.noted f.method.cls x.catchType (.cls cl))) := by
  rw [Jvm.W.findHandler_eq hm hc, hx1]
  obtain ⟨u1, u2⟩ := (resolveClass_links e.toSetting hl).op (op := VmOp.resolveClass f.method.cls x.catchType) rfl
  have al : s.vm.Alike (s.vm.noted f.method.cls x.catchType (.cls cl)) := (Vm.Alike.refl s.vm).noted _ _ _
  obtain ⟨ka, hka⟩ := hk
  obtain ⟨kb, hkb⟩ := hcl
  obtain ⟨ka', hka', -⟩ := al.2.2 _ _ hka
  obtain ⟨kb', hkb', -⟩ := al.2.2 _ _ hkb
  have fit' : (s.vm.noted f.method.cls x.catchType (.cls cl)).assignable cell.cls cl = true := by rw [al.assignable]; exact hfit
  simp only [covers] at hx
  simp [findHandler.go, hx, h0, u1, u2, hcell, hobj, hka', hkb', fit', VmOp.dirties, VmOp.acts]
/-- from the throw on to the handler -/
theorem mo_caught {vm' : Vm} {hp : Nat} (h : At s g.method c below) (hf : ∀ (Q : Handler → Pre) (E : CtlPost) (d : Bool) (acts : List Action), wp (findHandler g a) Q E e d acts ((s.setTop g).pushFrame (.throwing a)) ↔ Q (.found hp) d acts (((s.setTop g).pushFrame (.throwing a)).setVm vm'))
    (hrest : Steps tb e below ((s.setVm vm').setTop { g with pc := hp, stack := [.ref a] }) target) : Steps tb e below ((s.setTop g).pushFrame (.throwing a)) target := by
  obtain ⟨go, hw⟩ := h.throwing a
  refine Steps.head go hw ?_
  obtain ⟨g₀, hg⟩ := Option.isSome_iff_exists.mp h.top
  obtain ⟨r, hr⟩ := State.topJava?_eq_some.mp hg
  have hr2 : (s.setVm vm').frames = .java g₀ :: r := hr
  have key : (stepThrowing e ((s.setTop g).pushFrame (.throwing a)) a (.java g :: s.frames.tail)).Is ((((s.setTop g).pushFrame (.throwing a)).setVm vm').setFrames (.java { g with pc := hp, stack := [.ref a] } :: s.frames.tail)) [] := by
    simp only [stepThrowing, searchFrame, vmDo]
    generalize hres : Sem.go _ e false [] ((s.setTop g).pushFrame (.throwing a)) = res
    obtain ⟨as, rfl, hq⟩ := Sem.eq_ok_of hres (a := Handler.found hp) (s' := ((s.setTop g).pushFrame (.throwing a)).setVm vm') (acts' := []) (by simp [hf _ _ _ _])
    exact ⟨rfl, hq⟩
  rw [stepThread_throwing (frames_entered h.top _), key.1]
  rw [State.setTop_of_frames _ hr2] at hrest
  rw [hr, List.tail_cons, State.setTop_of_frames _ hr, State.pushFrame, State.setFrames_setFrames]
  have e1 : ∀ (u : State) (F G : List Frame), ((u.setFrames F).setVm vm').setFrames G = (u.setVm vm').setFrames G := fun u F G => by
    have : (u.setFrames F).setVm vm' = (u.setVm vm').setFrames F := rfl
    rw [this, State.setFrames_setFrames]
  rw [e1]
  exact hrest
end CATCH
/-- what a callee leaves that throws -/
def mo_TF (σ0 : mo_S) (mc ms : Nat) (Θ : mo_S → Prop) (D : va_G) (cA : Nat → ClassId) (ad : Nat → Nat) (A : Nat → Prop) (s : State) (x : Nat) (t : State) : Prop :=
  ∃ (ce : Cell) (L : List Loc) (σ' : mo_S), s.WarmedH t.vm ∧ s.sameButNew ({ t with vm := s.vm } : State) L mc ms ∧ (∀ q ∈ L, A q.base) ∧ t.heap[x]? = some ce ∧ ce.vm = .none ∧ s.vm.findClass mo_NSE = some ce.cls ∧ s.vm.assignable ce.cls ce.cls = true ∧
    Θ σ' ∧ mo_Rel D cA ad A σ0.1.length (mo_sz σ0.1) σ' t.heap ∧ va_F A s t ∧ mc = σ'.1.length - σ0.1.length + σ'.2.2.2.2 ∧ ms = mo_sz σ'.1 - mo_sz σ0.1 + 6 * σ'.2.2.2.2
/-- THE CONTRACT OF A THROW -/
def mo_CT (l : Launch) (M : mo_M) (d mc ms : Nat) (av : List Value) (σ : mo_S) (Θ : mo_S → Prop) : Prop :=
  ∀ (D : va_G) (cA : Nat → ClassId) (ad : Nat → Nat) (sz : Nat), MetFree l M.1 (headSpec (Cond.code M.1 M.2.1 M.2.2.1 M.2.2.2 :: mo_ws) (mo_rm d mc ms)) (mo_Pc D cA ad sz false av σ) (fun _ _ _ _ _ => True) (fun _ st o t => ∃ x, o = .threw x ∧ mo_TF σ mc ms Θ D cA ad (va_A (mo_w cA ad σ) sz) st x t)
theorem mo_CT_of {l : Launch} {M : mo_M} {d mc ms : Nat} {Θ : mo_S → Prop} {av : List Value} {K : mo_K} {R : Nat → Nat → Nat} {I : Nat → Nat → Int32} {L : Nat → Nat → Int64} (hpl : plainFor M.1 = true) (hlen : (mo_ea av).length ≤ M.2.2.1) (h : mo_JQ l M d mc ms false (K, R, I, L, 0) (mo_TQ (K, R, I, L, 0) mc ms Θ) (0, mo_ent av M.2.2.1, [], (K, R, I, L, 0))) : mo_CT l M d mc ms av (K, R, I, L, 0) Θ := by
  intro D cA ad sz
  refine MetFree.of_bodySF (code := M.2.1) (maxLocals := M.2.2.1) (ret := M.2.2.2) hpl ?_ ?_
  · intro args s m h hn
    obtain ⟨meth, c, h1, h2, h3, h4, h5, h6, -, -⟩ := Cond.code_spec hn (atoms_spec (ws := Cond.code M.1 M.2.1 M.2.2.1 M.2.2.2 :: mo_ws) h _ List.mem_cons_self)
    exact ⟨meth, c, h1, h2, h3, h4, h5, h6⟩
  · intro p e s m args below meth c s₁ B hml hv _
    obtain ⟨rfl, hsz, ⟨v1, v2, v3, v4⟩, hRel⟩ := hv
    subst hsz
    have hts := atoms_spec (ws := Cond.code M.1 M.2.1 M.2.2.1 M.2.2.2 :: mo_ws) B.pre
    have hown : s.vm.findClass M.1.cls = some m.cls := findClass_of_methodNamed B.named
    have hh0 : s₁.heap = s.heap := by rw [B.state]; rfl
    have g := h p e s m (av.map (mo_tr ad)).toArray below meth c D cA ad ⟨⟨B.exec, B.bytes, hown, fun w hw => hts w (List.mem_cons_of_mem _ hw), v1, v2, fun q hq => Or.inr hq, v3, Or.inl rfl, Or.inl rfl⟩, hml, B.returns, B.notSynchronized, (name_of_methodNamed B.named B.method).1, v4, B.named⟩ s.heap [] _ hRel va_S.rf (mo_ent_LR hlen)
    have e1 : K.length - K.length + 0 = 0 := by omega
    have e2 : mo_sz K - mo_sz K + 6 * 0 = 0 := by omega
    have g : W p l e (mo_rm d mc ms) s m (av.map (mo_tr ad)).toArray below meth c s.heap [] (K.length - K.length + 0) (mo_sz K - mo_sz K + 6 * 0) (mo_TQ (K, R, I, L, 0) mc ms Θ below s (av.map (mo_tr ad)).toArray D cA ad) (F0 m 0 ((lg_sl (av.map (mo_tr ad)) ++ List.replicate (M.2.2.1 - (lg_sl (av.map (mo_tr ad))).length) Slot.unset).toArray) []) := g
    rw [e1, e2, ← lg_entry_eq] at g
    obtain ⟨t, a1, x, ce, L', σ', b1, b2, b3⟩ := g s₁ hh0 (Stand.of_body B)
    exact ⟨t, .threw x, a1, b1, b2, x, rfl, ce, L', σ', b3⟩
