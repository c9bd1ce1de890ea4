/-! Calls. -/
/-- what a callee needs of the tables, but its code -/
def mo_kc (M : mo_M) (n : Nat) : Bool := mo_in (.initialized M.1.cls) && (decide (M.1.cls ≠ "java/lang/invoke/MethodHandle") && (decide (M.1.cls ≠ "java/lang/invoke/VarHandle") && decide ((ClassFile.parseMethodDescriptor M.1.desc).map (fun d => d.parameters.length) = some n)))
def mo_kS (own : String) (idx : Nat) (M : mo_M) (n : Nat) : Bool := (mo_in (.methodLink own idx M.1) && mo_in (.static M.1)) && mo_kc M n
def mo_kSN (own : String) (idx : Nat) (M : mo_M) (n : Nat) : Bool := (decide (Cond.methodLinkNest own idx M.1 "GateNames" ∈ mo_nest) && mo_in (.static M.1)) && mo_kc M n
def mo_kV (own : String) (idx : Nat) (M : mo_M) (n ci : Nat) : Bool := ((mo_in (.methodLink own idx M.1) && mo_in (.instanceMethod M.1)) && (mo_in (.selects M.1.cls M.1 M.1) && decide ((mo_cls[ci]?).map (fun q => q.1) = some M.1.cls))) && mo_kc M n
def mo_kI (own : String) (idx : Nat) (M : mo_M) (n : Nat) : Bool := ((mo_in (.methodLink own idx M.1) && mo_in (.instanceMethod M.1)) && decide (M.1.name = "<init>")) && mo_kc M n
def mo_kIN (own : String) (idx : Nat) (M : mo_M) (n : Nat) : Bool := ((decide (Cond.methodLinkNest own idx M.1 "GateNames" ∈ mo_nest) && mo_in (.instanceMethod M.1)) && decide (M.1.name = "<init>")) && mo_kc M n
/-- the code's word -/
def mo_cd (M : mo_M) : Prop := Cond.code M.1 M.2.1 M.2.2.1 M.2.2.2 ∈ mo_ws
theorem mo_cd_of {M : mo_M} (i : Nat) (h : lw_tbl[i]? = some (Cond.code M.1 M.2.1 M.2.2.1 M.2.2.2)) : mo_cd M := List.mem_filter.mpr ⟨List.mem_of_getElem? h, rfl⟩
def mo_wd (st : List Value) : Nat := (st.map (fun v => if mo_is2 v then 2 else 1)).sum
theorem mo_wd_eq {ad : Nat → Nat} (st : List Value) : ((st.map (mo_tr ad)).map fun v => v.category).sum = mo_wd st := by
  unfold mo_wd
  rw [List.map_map]
  congr 1
  apply List.map_congr_left
  intro v _
  exact mo_is2_eq
theorem mo_kc_inv {M : mo_M} {n : Nat} (h : mo_kc M n = true) : Cond.initialized M.1.cls ∈ mo_ws ∧ M.1.cls ≠ "java/lang/invoke/MethodHandle" ∧ M.1.cls ≠ "java/lang/invoke/VarHandle" ∧ (ClassFile.parseMethodDescriptor M.1.desc).map (fun d => d.parameters.length) = some n := by
  unfold mo_kc at h
  simp only [Bool.and_eq_true, decide_eq_true_eq] at h
  exact ⟨mo_in_ws h.1, h.2.1, h.2.2.1, h.2.2.2⟩
theorem mo_good {M : mo_M} (h : mo_cd M) : GoodIn mo_ws (Cond.code M.1 M.2.1 M.2.2.1 M.2.2.2 :: mo_ws) := by
  intro w hw
  rcases List.mem_cons.mp hw with rfl | hw
  · exact mo_ws_self _ h
  · exact mo_ws_self _ hw
section J
variable {l : Launch} {M : mo_M} {d mc ms : Nat} {al : Bool} {σ0 : mo_S} {QQ : mo_QQ}
variable {M2 : mo_M} {d2 mc2 ms2 : Nat} {al2 : Bool} {Ψ2 : Option Value → mo_S → Prop} {pc idx : Nat} {ml : mo_L} {st rest as2 : List Value} {K : mo_K} {R : Nat → Nat → Nat} {I : Nat → Nat → Int32} {L : Nat → Nat → Int64} {x : Nat}
/-- the room of a call -/
def mo_fit (d mc ms : Nat) (al : Bool) (σ0 : mo_S) (M2 : mo_M) (d2 mc2 ms2 : Nat) (al2 : Bool) (K : mo_K) (x : Nat) (rest : List Value) : Prop :=
  d2 + 1 ≤ d ∧ M2.2.2.1 ≤ 80 ∧ K.length + x + mc2 ≤ σ0.1.length + mc ∧ mo_sz K + 6 * x + ms2 ≤ mo_sz σ0.1 + ms ∧ mo_wd rest ≤ 8 ∧ (al2 = true → al = true ∧ x = 0 ∧ K.length < 1000000)
/-- where the callee's first cell will lie -/
theorem mo_al2 {p : Program} {e : Env} {s : State} {m : MethodId} {args : Array Value} {below : List Frame} {meth : Method} {c : Code} {D : va_G} {cA : Nat → ClassId} {ad : Nat → Nat} {T : State} {H : Heap} {locs : List Loc} (J : mo_Jc M d mc ms al σ0 p s m args meth c D cA ad) (hR : mo_Rel D cA ad (va_A (mo_w cA ad σ0) s.heap.size) σ0.1.length (mo_sz σ0.1) (K, R, I, L, x) H) (hS : va_S (va_A (mo_w cA ad σ0) s.heap.size) s.heap H locs) (hT : T.heap = H) (Z : Stand p l e (mo_rm d mc ms) s m args below meth c T locs (K.length - σ0.1.length + x) (mo_sz K - mo_sz σ0.1 + 6 * x)) (hal : al2 = true → al = true ∧ x = 0) (hlt : al2 = true → K.length < 1000000) :
    al2 = true → (∀ j, K.length + j < 1000000 → ad (K.length + j) = H.size + j) ∧ va_AO "GateNames$Town" s := by
  intro h
  obtain ⟨h1, rfl⟩ := hal h
  obtain ⟨h3, h4⟩ := J.2.2.2.2.2.1 h1
  have hz := Z.heapSize
  rw [hT] at hz
  have hlt := hlt h
  have hH := mo_next (s := s) hR hS h3 hlt hz
  have r2 : σ0.1.length ≤ K.length := hR.2.2.2.1
  refine ⟨fun j hj => ?_, h4⟩
  have e1 := h3 (K.length - σ0.1.length + j) (by omega)
  have e2 := h3 (K.length - σ0.1.length) (by omega)
  rw [show σ0.1.length + (K.length - σ0.1.length + j) = K.length + j by omega] at e1
  rw [show σ0.1.length + (K.length - σ0.1.length) = K.length by omega] at e2
  omega
/-- RULE: invokestatic -/
theorem mo_J_callS (hc : mo_C l M2 d2 mc2 ms2 al2 as2 (K, R, I, L, 0) Ψ2) (hcd : mo_cd M2) (hd : ClassFile.decode M.2.1 pc = .ok (.invokestatic idx, 3)) (hk : mo_kS M.1.cls idx M2 as2.length = true) (hml : ml.length = M.2.2.1) (hst : st = as2.reverse ++ rest) (hf : mo_fit d mc ms al σ0 M2 d2 mc2 ms2 al2 K x rest)
    (kk : ∀ (r : Option Value) (K2 : mo_K) (R2 : Nat → Nat → Nat) (I2 : Nat → Nat → Int32) (L2 : Nat → Nat → Int64) (x2 : Nat), Ψ2 r (K2, R2, I2, L2, x2) → mo_JQ l M d mc ms al σ0 QQ (pc + 3, ml, r.toList ++ rest, (K2, R2, I2, L2, x + x2))) : mo_JQ l M d mc ms al σ0 QQ (pc, ml, st, (K, R, I, L, x)) := by
  intro p e s m args below meth c D cA ad J H locs ls hR hS hL
  have J0 := J
  obtain ⟨hC, hmaxL, -⟩ := J
  obtain ⟨f1, f2, f3, f4, f5, f6⟩ := hf
  obtain ⟨hx, hb, hown, hts, -⟩ := id hC
  simp only [mo_kS, Bool.and_eq_true] at hk
  obtain ⟨⟨hk1, hk2⟩, hk3⟩ := hk
  obtain ⟨c1, c2, c3, c4⟩ := mo_kc_inv hk3
  have r2 : σ0.1.length ≤ K.length := hR.2.2.2.1
  have r3 : mo_sz σ0.1 ≤ mo_sz K := hR.2.2.2.2.1
  intro T hT Z
  have hal := mo_al2 J0 hR hS hT Z (fun h => ⟨(f6 h).1, (f6 h).2.1⟩) (fun h => (f6 h).2.2)
  refine mo_after (X := mo_Xo al mc ms σ0) (mc := mc2) (ms := ms2) (Ψ := Ψ2) (a := (as2.map (mo_tr ad)).toArray) (rest := rest) (pc := pc) (ml := ml) hC hR hS hL ?_ (fun r K2 R2 I2 L2 x2 h => kk r K2 R2 I2 L2 x2 h p e s m args below meth c D cA ad J0) T hT Z
  have hM := hc D cA ad H.size
  refine va_runS (Ts := mo_ws) (As := as2.map (mo_tr ad)) ⟨hx, hb, hmaxL, hown, hts⟩ hM ⟨callB_of as2.length hts (mo_good hcd) rfl rfl rfl (hts _ c1) (hts _ (mo_in_ws hk1)) ⟨c2, c3, c4⟩ ⟨f1, by show 8 + (M2.2.2.1 + 11) + 100 * (d2 + 1) ≤ 100 * (d + 1); omega⟩, hts _ (mo_in_ws hk2)⟩ ⟨mo_Pc_blind, fun U hU hW => mo_Pc_call hC hR hS hal hU hW⟩ rfl (by rw [List.length_map]) (hL.1.trans hml) ?_ (lv_room (by rw [mo_wd_eq]; exact f5)) hd ⟨by show K.length - σ0.1.length + x + mc2 ≤ mc; omega, by show mo_sz K - mo_sz σ0.1 + 6 * x + ms2 ≤ ms; omega⟩
  show (st.map (mo_tr ad)) = _
  rw [hst, List.map_append, List.map_reverse]
/-- RULE: invokestatic of a nest mate -/
theorem mo_J_callSN (hc : mo_C l M2 d2 mc2 ms2 al2 as2 (K, R, I, L, 0) Ψ2) (hcd : mo_cd M2) (hd : ClassFile.decode M.2.1 pc = .ok (.invokestatic idx, 3)) (hk : mo_kSN M.1.cls idx M2 as2.length = true) (hml : ml.length = M.2.2.1) (hst : st = as2.reverse ++ rest) (hf : mo_fit d mc ms al σ0 M2 d2 mc2 ms2 al2 K x rest)
    (kk : ∀ (r : Option Value) (K2 : mo_K) (R2 : Nat → Nat → Nat) (I2 : Nat → Nat → Int32) (L2 : Nat → Nat → Int64) (x2 : Nat), Ψ2 r (K2, R2, I2, L2, x2) → mo_JQ l M d mc ms al σ0 QQ (pc + 3, ml, r.toList ++ rest, (K2, R2, I2, L2, x + x2))) : mo_JQ l M d mc ms al σ0 QQ (pc, ml, st, (K, R, I, L, x)) := by
  intro p e s m args below meth c D cA ad J H locs ls hR hS hL
  have J0 := J
  obtain ⟨hC, hmaxL, -⟩ := J
  obtain ⟨f1, f2, f3, f4, f5, f6⟩ := hf
  obtain ⟨hx, hb, hown, hts, hKK, hN, -⟩ := id hC
  simp only [mo_kSN, Bool.and_eq_true, decide_eq_true_eq] at hk
  obtain ⟨⟨hk1, hk2⟩, hk3⟩ := hk
  obtain ⟨c1, c2, c3, c4⟩ := mo_kc_inv hk3
  have r2 : σ0.1.length ≤ K.length := hR.2.2.2.1
  have r3 : mo_sz σ0.1 ≤ mo_sz K := hR.2.2.2.2.1
  intro T hT Z
  have hal := mo_al2 J0 hR hS hT Z (fun h => ⟨(f6 h).1, (f6 h).2.1⟩) (fun h => (f6 h).2.2)
  refine mo_after (X := mo_Xo al mc ms σ0) (mc := mc2) (ms := ms2) (Ψ := Ψ2) (a := (as2.map (mo_tr ad)).toArray) (rest := rest) (pc := pc) (ml := ml) hC hR hS hL ?_ (fun r K2 R2 I2 L2 x2 h => kk r K2 R2 I2 L2 x2 h p e s m args below meth c D cA ad J0) T hT Z
  have hM := hc D cA ad H.size
  refine va_runSN (Ts := mo_ws) (As := as2.map (mo_tr ad)) (host := "GateNames") ⟨hx, hb, hmaxL, hown, hts⟩ hM ⟨va_cnB as2.length hts (mo_good hcd) rfl rfl rfl (hN _ hk1) (hts _ c1) ⟨c2, c3, c4⟩ ⟨f1, by show 8 + (M2.2.2.1 + 11) + 100 * (d2 + 1) ≤ 100 * (d + 1); omega⟩, hts _ (mo_in_ws hk2), trivial⟩ ⟨mo_Pc_blind, fun U hU hW => mo_Pc_call hC hR hS hal hU hW⟩ rfl (by rw [List.length_map]) (hL.1.trans hml) ?_ (lv_room (by rw [mo_wd_eq]; exact f5)) hd ⟨by show K.length - σ0.1.length + x + mc2 ≤ mc; omega, by show mo_sz K - mo_sz σ0.1 + 6 * x + ms2 ≤ ms; omega⟩
  show (st.map (mo_tr ad)) = _
  rw [hst, List.map_append, List.map_reverse]
/-- RULE: invokevirtual -/
theorem mo_J_callV {q ci : Nat} (hc : mo_C l M2 d2 mc2 ms2 al2 (.ref q :: as2) (K, R, I, L, 0) Ψ2) (hcd : mo_cd M2) (hd : ClassFile.decode M.2.1 pc = .ok (.invokevirtual idx, 3)) (hk : mo_kV M.1.cls idx M2 as2.length ci = true) (hq : mo_kd K q = ci) (hml : ml.length = M.2.2.1) (hst : st = as2.reverse ++ .ref q :: rest) (hf : mo_fit d mc ms al σ0 M2 d2 mc2 ms2 al2 K x rest)
    (kk : ∀ (r : Option Value) (K2 : mo_K) (R2 : Nat → Nat → Nat) (I2 : Nat → Nat → Int32) (L2 : Nat → Nat → Int64) (x2 : Nat), Ψ2 r (K2, R2, I2, L2, x2) → mo_JQ l M d mc ms al σ0 QQ (pc + 3, ml, r.toList ++ rest, (K2, R2, I2, L2, x + x2))) : mo_JQ l M d mc ms al σ0 QQ (pc, ml, st, (K, R, I, L, x)) := by
  intro p e s m args below meth c D cA ad J H locs ls hR hS hL
  have J0 := J
  obtain ⟨hC, hmaxL, -⟩ := J
  obtain ⟨f1, f2, f3, f4, f5, f6⟩ := hf
  obtain ⟨hx, hb, hown, hts, hKK, hN, -⟩ := id hC
  simp only [mo_kV, Bool.and_eq_true, decide_eq_true_eq] at hk
  obtain ⟨⟨⟨hk1, hk2⟩, hk4, hk5⟩, hk3⟩ := hk
  obtain ⟨c1, c2, c3, c4⟩ := mo_kc_inv hk3
  have r2 : σ0.1.length ≤ K.length := hR.2.2.2.1
  have r3 : mo_sz σ0.1 ≤ mo_sz K := hR.2.2.2.2.1
  have h00 : mo_kd K 0 = 99 := hR.2.2.2.2.2
  cases hci : mo_cls[ci]? with
  | none => rw [hci] at hk5; cases hk5
  | some rc =>
  rw [hci] at hk5
  have hrc : rc.1 = M2.1.cls := Option.some.inj hk5
  obtain ⟨g1, g2, g3⟩ := mo_e_obj (cA := cA) (ad := ad) (R := R) (I := I) (L := L) (x := x) h00 hq (mo_cls_facts hci).2.2.2.2.2.2
  have hrecv := va_recv hKK hR.1 hci g3
  rw [hrc] at hrecv
  have e0 : (Value.ref q :: as2).map (mo_tr ad) = .ref (ad q) :: as2.map (mo_tr ad) := by rw [List.map_cons, mo_tr_ref g1]
  intro T hT Z
  have hal := mo_al2 J0 hR hS hT Z (fun h => ⟨(f6 h).1, (f6 h).2.1⟩) (fun h => (f6 h).2.2)
  refine mo_after (X := mo_Xo al mc ms σ0) (mc := mc2) (ms := ms2) (Ψ := Ψ2) (a := (Value.ref (ad q) :: as2.map (mo_tr ad)).toArray) (rest := rest) (pc := pc) (ml := ml) hC hR hS hL ?_ (fun r K2 R2 I2 L2 x2 h => kk r K2 R2 I2 L2 x2 h p e s m args below meth c D cA ad J0) T hT Z
  have hM := hc D cA ad H.size
  refine va_runV (Ts := mo_ws) (C := M2.1.cls) (As := as2.map (mo_tr ad)) ⟨hx, hb, hmaxL, hown, hts⟩ hM ⟨callB_of as2.length hts (mo_good hcd) rfl rfl rfl (hts _ c1) (hts _ (mo_in_ws hk1)) ⟨c2, c3, c4⟩ ⟨f1, by show 8 + (M2.2.2.1 + 11) + 100 * (d2 + 1) ≤ 100 * (d + 1); omega⟩, hts _ (mo_in_ws hk2), hts _ (mo_in_ws hk4)⟩ ⟨mo_Pc_blind, hrecv, fun U hU hW => by rw [← e0]; exact mo_Pc_call hC hR hS hal hU hW⟩ rfl (by rw [List.length_map]) (hL.1.trans hml) ?_ (lv_room (by rw [mo_wd_eq]; exact f5)) hd ⟨by show K.length - σ0.1.length + x + mc2 ≤ mc; omega, by show mo_sz K - mo_sz σ0.1 + 6 * x + ms2 ≤ ms; omega⟩
  show (st.map (mo_tr ad)) = _
  rw [hst, List.map_append, List.map_reverse, List.map_cons, mo_tr_ref g1]
/-- RULE: invokespecial of a constructor -/
theorem mo_J_callI {q : Nat} (hc : mo_C l M2 d2 mc2 ms2 al2 (.ref q :: as2) (K, R, I, L, 0) Ψ2) (hcd : mo_cd M2) (hret : M2.2.2.2 = none) (hd : ClassFile.decode M.2.1 pc = .ok (.invokespecial idx, 3)) (hk : mo_kI M.1.cls idx M2 as2.length = true) (hq : q ≠ 0) (hml : ml.length = M.2.2.1) (hst : st = as2.reverse ++ .ref q :: rest) (hf : mo_fit d mc ms al σ0 M2 d2 mc2 ms2 al2 K x rest)
    (kk : ∀ (r : Option Value) (K2 : mo_K) (R2 : Nat → Nat → Nat) (I2 : Nat → Nat → Int32) (L2 : Nat → Nat → Int64) (x2 : Nat), Ψ2 r (K2, R2, I2, L2, x2) → mo_JQ l M d mc ms al σ0 QQ (pc + 3, ml, r.toList ++ rest, (K2, R2, I2, L2, x + x2))) : mo_JQ l M d mc ms al σ0 QQ (pc, ml, st, (K, R, I, L, x)) := by
  intro p e s m args below meth c D cA ad J H locs ls hR hS hL
  have J0 := J
  obtain ⟨hC, hmaxL, -⟩ := J
  obtain ⟨f1, f2, f3, f4, f5, f6⟩ := hf
  obtain ⟨hx, hb, hown, hts, hKK, hN, -⟩ := id hC
  simp only [mo_kI, Bool.and_eq_true, decide_eq_true_eq] at hk
  obtain ⟨⟨⟨hk1, hk2⟩, hk4⟩, hk3⟩ := hk
  obtain ⟨c1, c2, c3, c4⟩ := mo_kc_inv hk3
  have r2 : σ0.1.length ≤ K.length := hR.2.2.2.1
  have r3 : mo_sz σ0.1 ≤ mo_sz K := hR.2.2.2.2.1
  have e0 : (Value.ref q :: as2).map (mo_tr ad) = .ref (ad q) :: as2.map (mo_tr ad) := by rw [List.map_cons, mo_tr_ref hq]
  intro T hT Z
  have hal := mo_al2 J0 hR hS hT Z (fun h => ⟨(f6 h).1, (f6 h).2.1⟩) (fun h => (f6 h).2.2)
  refine mo_after (X := mo_Xo al mc ms σ0) (mc := mc2) (ms := ms2) (Ψ := Ψ2) (a := (Value.ref (ad q) :: as2.map (mo_tr ad)).toArray) (rest := rest) (pc := pc) (ml := ml) hC hR hS hL ?_ (fun r K2 R2 I2 L2 x2 h => kk r K2 R2 I2 L2 x2 h p e s m args below meth c D cA ad J0) T hT Z
  have hM := hc D cA ad H.size
  have hB : CallB (mo_rm d mc ms) s args M.1.cls idx M2.1 M2.2.1 M2.2.2.1 none (Cond.code M2.1 M2.2.1 M2.2.2.1 M2.2.2.2 :: mo_ws) (mo_rm d2 mc2 ms2) mc2 ms2 as2.length := by
    have h := callB_of (R := mo_rm d mc ms) (own := M.1.cls) (index := idx) (rm := mo_rm d2 mc2 ms2) (mc := mc2) (ms := ms2) as2.length hts (mo_good hcd) rfl rfl rfl (hts _ c1) (hts _ (mo_in_ws hk1)) ⟨c2, c3, c4⟩ ⟨f1, by show 8 + (M2.2.2.1 + 11) + 100 * (d2 + 1) ≤ 100 * (d + 1); omega⟩
    rw [hret] at h ⊢
    exact h
  refine va_runI (Ts := mo_ws) (As := as2.map (mo_tr ad)) ⟨hx, hb, hmaxL, hown, hts⟩ hM ⟨hB, hk4, hts _ (mo_in_ws hk2)⟩ ⟨mo_Pc_blind, fun U hU hW => by rw [← e0]; exact mo_Pc_call hC hR hS hal hU hW⟩ rfl (by rw [List.length_map]) (hL.1.trans hml) ?_ (lv_room (by rw [mo_wd_eq]; exact f5)) hd ⟨by show K.length - σ0.1.length + x + mc2 ≤ mc; omega, by show mo_sz K - mo_sz σ0.1 + 6 * x + ms2 ≤ ms; omega⟩
  show (st.map (mo_tr ad)) = _
  rw [hst, List.map_append, List.map_reverse, List.map_cons, mo_tr_ref hq]
/-- RULE: invokespecial of a nest mate's constructor -/
theorem mo_J_callIN {q : Nat} (hc : mo_C l M2 d2 mc2 ms2 al2 (.ref q :: as2) (K, R, I, L, 0) Ψ2) (hcd : mo_cd M2) (hret : M2.2.2.2 = none) (hd : ClassFile.decode M.2.1 pc = .ok (.invokespecial idx, 3)) (hk : mo_kIN M.1.cls idx M2 as2.length = true) (hq : q ≠ 0) (hml : ml.length = M.2.2.1) (hst : st = as2.reverse ++ .ref q :: rest) (hf : mo_fit d mc ms al σ0 M2 d2 mc2 ms2 al2 K x rest)
    (kk : ∀ (r : Option Value) (K2 : mo_K) (R2 : Nat → Nat → Nat) (I2 : Nat → Nat → Int32) (L2 : Nat → Nat → Int64) (x2 : Nat), Ψ2 r (K2, R2, I2, L2, x2) → mo_JQ l M d mc ms al σ0 QQ (pc + 3, ml, r.toList ++ rest, (K2, R2, I2, L2, x + x2))) : mo_JQ l M d mc ms al σ0 QQ (pc, ml, st, (K, R, I, L, x)) := by
  intro p e s m args below meth c D cA ad J H locs ls hR hS hL
  have J0 := J
  obtain ⟨hC, hmaxL, -⟩ := J
  obtain ⟨f1, f2, f3, f4, f5, f6⟩ := hf
  obtain ⟨hx, hb, hown, hts, hKK, hN, -⟩ := id hC
  simp only [mo_kIN, Bool.and_eq_true, decide_eq_true_eq] at hk
  obtain ⟨⟨⟨hk1, hk2⟩, hk4⟩, hk3⟩ := hk
  obtain ⟨c1, c2, c3, c4⟩ := mo_kc_inv hk3
  have r2 : σ0.1.length ≤ K.length := hR.2.2.2.1
  have r3 : mo_sz σ0.1 ≤ mo_sz K := hR.2.2.2.2.1
  have e0 : (Value.ref q :: as2).map (mo_tr ad) = .ref (ad q) :: as2.map (mo_tr ad) := by rw [List.map_cons, mo_tr_ref hq]
  intro T hT Z
  have hal := mo_al2 J0 hR hS hT Z (fun h => ⟨(f6 h).1, (f6 h).2.1⟩) (fun h => (f6 h).2.2)
  refine mo_after (X := mo_Xo al mc ms σ0) (mc := mc2) (ms := ms2) (Ψ := Ψ2) (a := (Value.ref (ad q) :: as2.map (mo_tr ad)).toArray) (rest := rest) (pc := pc) (ml := ml) hC hR hS hL ?_ (fun r K2 R2 I2 L2 x2 h => kk r K2 R2 I2 L2 x2 h p e s m args below meth c D cA ad J0) T hT Z
  have hM := hc D cA ad H.size
  have hB : va_CN (mo_rm d mc ms) s args M.1.cls idx M2.1 "GateNames" M2.2.1 M2.2.2.1 none (Cond.code M2.1 M2.2.1 M2.2.2.1 M2.2.2.2 :: mo_ws) (mo_rm d2 mc2 ms2) mc2 ms2 as2.length := by
    have h := va_cnB (R := mo_rm d mc ms) (own := M.1.cls) (index := idx) (rm := mo_rm d2 mc2 ms2) (mc := mc2) (ms := ms2) (host := "GateNames") as2.length hts (mo_good hcd) rfl rfl rfl (hN _ hk1) (hts _ c1) ⟨c2, c3, c4⟩ ⟨f1, by show 8 + (M2.2.2.1 + 11) + 100 * (d2 + 1) ≤ 100 * (d + 1); omega⟩
    rw [hret] at h ⊢
    exact h
  refine va_runIN (Ts := mo_ws) (As := as2.map (mo_tr ad)) (host := "GateNames") ⟨hx, hb, hmaxL, hown, hts⟩ hM ⟨hB, hk4, hts _ (mo_in_ws hk2)⟩ ⟨mo_Pc_blind, fun U hU hW => by rw [← e0]; exact mo_Pc_call hC hR hS hal hU hW⟩ rfl (by rw [List.length_map]) (hL.1.trans hml) ?_ (lv_room (by rw [mo_wd_eq]; exact f5)) hd ⟨by show K.length - σ0.1.length + x + mc2 ≤ mc; omega, by show mo_sz K - mo_sz σ0.1 + 6 * x + ms2 ≤ ms; omega⟩
  show (st.map (mo_tr ad)) = _
  rw [hst, List.map_append, List.map_reverse, List.map_cons, mo_tr_ref hq]
end J
