/-! The law's seven helpers, and a callee that throws, caught by its caller. -/
def mm_Law_man : mo_M := (⟨"GateNamesLaw", "man", "(LGateNames;II[J)I"⟩, method_3_code, 5, (some .int))
def cc_Law_man : List (Nat × mo_I) := [(0, .aload_n 3, 1, 0, 0, 0, .null),
  (1, .iconst 0, 1, 0, 0, 0, .int 0),
  (2, .aload_n 0, 1, 0, 0, 0, .null),
  (3, .iload_n 1, 1, 0, 0, 0, .null),
  (4, .iload_n 2, 1, 0, 0, 0, .null),
  (5, .invokevirtual 7, 3, 0, 0, 0, .null),
  (8, .i2l, 1, 0, 0, 0, .null),
  (9, .lastore, 1, 0, 0, 0, .null),
  (10, .goto 7, 3, 17, 0, 0, .null),
  (13, .astore 4, 2, 0, 0, 0, .null),
  (15, .iconst 1, 1, 0, 0, 0, .int 1),
  (16, .ireturn, 1, 0, 0, 0, .null),
  (17, .iconst 0, 1, 0, 0, 0, .int 0),
  (18, .ireturn, 1, 0, 0, 0, .null)]
set_option maxRecDepth 100000 in
theorem ok_Law_man : cc_Law_man.all (mo_chk mm_Law_man.1.cls false mm_Law_man.2.1) = true := by decide +kernel
def mm_Law_mean : mo_M := (⟨"GateNamesLaw", "mean", "(LGateNames;III[J)I"⟩, method_4_code, 6, (some .int))
def cc_Law_mean : List (Nat × mo_I) := [(0, .aload 4, 2, 0, 0, 0, .null),
  (2, .iconst 0, 1, 0, 0, 0, .int 0),
  (3, .aload_n 0, 1, 0, 0, 0, .null),
  (4, .iload_n 1, 1, 0, 0, 0, .null),
  (5, .iload_n 2, 1, 0, 0, 0, .null),
  (6, .iload_n 3, 1, 0, 0, 0, .null),
  (7, .invokevirtual 15, 3, 0, 0, 0, .null),
  (10, .lastore, 1, 0, 0, 0, .null),
  (11, .goto 7, 3, 18, 0, 0, .null),
  (14, .astore 5, 2, 0, 0, 0, .null),
  (16, .iconst 1, 1, 0, 0, 0, .int 1),
  (17, .ireturn, 1, 0, 0, 0, .null),
  (18, .iconst 0, 1, 0, 0, 0, .int 0),
  (19, .ireturn, 1, 0, 0, 0, .null)]
set_option maxRecDepth 100000 in
theorem ok_Law_mean : cc_Law_mean.all (mo_chk mm_Law_mean.1.cls false mm_Law_mean.2.1) = true := by decide +kernel
def mm_Law_out : mo_M := (⟨"GateNamesLaw", "out", "(LGateNames;II[J)I"⟩, method_5_code, 5, (some .int))
def cc_Law_out : List (Nat × mo_I) := [(0, .aload_n 3, 1, 0, 0, 0, .null),
  (1, .iconst 0, 1, 0, 0, 0, .int 0),
  (2, .aload_n 0, 1, 0, 0, 0, .null),
  (3, .iload_n 1, 1, 0, 0, 0, .null),
  (4, .iload_n 2, 1, 0, 0, 0, .null),
  (5, .invokevirtual 19, 3, 0, 0, 0, .null),
  (8, .lastore, 1, 0, 0, 0, .null),
  (9, .goto 7, 3, 16, 0, 0, .null),
  (12, .astore 4, 2, 0, 0, 0, .null),
  (14, .iconst 1, 1, 0, 0, 0, .int 1),
  (15, .ireturn, 1, 0, 0, 0, .null),
  (16, .iconst 0, 1, 0, 0, 0, .int 0),
  (17, .ireturn, 1, 0, 0, 0, .null)]
set_option maxRecDepth 100000 in
theorem ok_Law_out : cc_Law_out.all (mo_chk mm_Law_out.1.cls false mm_Law_out.2.1) = true := by decide +kernel
def mm_Law_matched : mo_M := (⟨"GateNamesLaw", "matched", "(LGateNames;III[J)I"⟩, method_6_code, 6, (some .int))
def cc_Law_matched : List (Nat × mo_I) := [(0, .aload 4, 2, 0, 0, 0, .null),
  (2, .iconst 0, 1, 0, 0, 0, .int 0),
  (3, .aload_n 0, 1, 0, 0, 0, .null),
  (4, .iload_n 1, 1, 0, 0, 0, .null),
  (5, .iload_n 2, 1, 0, 0, 0, .null),
  (6, .iload_n 3, 1, 0, 0, 0, .null),
  (7, .invokevirtual 23, 3, 0, 0, 0, .null),
  (10, .lastore, 1, 0, 0, 0, .null),
  (11, .goto 7, 3, 18, 0, 0, .null),
  (14, .astore 5, 2, 0, 0, 0, .null),
  (16, .iconst 1, 1, 0, 0, 0, .int 1),
  (17, .ireturn, 1, 0, 0, 0, .null),
  (18, .iconst 0, 1, 0, 0, 0, .int 0),
  (19, .ireturn, 1, 0, 0, 0, .null)]
set_option maxRecDepth 100000 in
theorem ok_Law_matched : cc_Law_matched.all (mo_chk mm_Law_matched.1.cls false mm_Law_matched.2.1) = true := by decide +kernel
def mm_Law_want : mo_M := (⟨"GateNamesLaw", "want", "(LGateNames;III[J)I"⟩, method_7_code, 6, (some .int))
def cc_Law_want : List (Nat × mo_I) := [(0, .aload 4, 2, 0, 0, 0, .null),
  (2, .iconst 0, 1, 0, 0, 0, .int 0),
  (3, .aload_n 0, 1, 0, 0, 0, .null),
  (4, .iload_n 1, 1, 0, 0, 0, .null),
  (5, .iload_n 2, 1, 0, 0, 0, .null),
  (6, .iload_n 3, 1, 0, 0, 0, .null),
  (7, .invokevirtual 26, 3, 0, 0, 0, .null),
  (10, .lastore, 1, 0, 0, 0, .null),
  (11, .goto 7, 3, 18, 0, 0, .null),
  (14, .astore 5, 2, 0, 0, 0, .null),
  (16, .iconst 1, 1, 0, 0, 0, .int 1),
  (17, .ireturn, 1, 0, 0, 0, .null),
  (18, .iconst 0, 1, 0, 0, 0, .int 0),
  (19, .ireturn, 1, 0, 0, 0, .null)]
set_option maxRecDepth 100000 in
theorem ok_Law_want : cc_Law_want.all (mo_chk mm_Law_want.1.cls false mm_Law_want.2.1) = true := by decide +kernel
def mm_Law_serial : mo_M := (⟨"GateNamesLaw", "serial", "(LGateNames;II[J)I"⟩, method_8_code, 5, (some .int))
def cc_Law_serial : List (Nat × mo_I) := [(0, .aload_n 3, 1, 0, 0, 0, .null),
  (1, .iconst 0, 1, 0, 0, 0, .int 0),
  (2, .aload_n 0, 1, 0, 0, 0, .null),
  (3, .iload_n 1, 1, 0, 0, 0, .null),
  (4, .iload_n 2, 1, 0, 0, 0, .null),
  (5, .invokevirtual 29, 3, 0, 0, 0, .null),
  (8, .lastore, 1, 0, 0, 0, .null),
  (9, .goto 7, 3, 16, 0, 0, .null),
  (12, .astore 4, 2, 0, 0, 0, .null),
  (14, .iconst 1, 1, 0, 0, 0, .int 1),
  (15, .ireturn, 1, 0, 0, 0, .null),
  (16, .iconst 0, 1, 0, 0, 0, .int 0),
  (17, .ireturn, 1, 0, 0, 0, .null)]
set_option maxRecDepth 100000 in
theorem ok_Law_serial : cc_Law_serial.all (mo_chk mm_Law_serial.1.cls false mm_Law_serial.2.1) = true := by decide +kernel
def mm_Law_lotMean : mo_M := (⟨"GateNamesLaw", "lotMean", "(LGateNames;III[J)I"⟩, method_9_code, 6, (some .int))
def cc_Law_lotMean : List (Nat × mo_I) := [(0, .aload 4, 2, 0, 0, 0, .null),
  (2, .iconst 0, 1, 0, 0, 0, .int 0),
  (3, .aload_n 0, 1, 0, 0, 0, .null),
  (4, .iload_n 1, 1, 0, 0, 0, .null),
  (5, .iload_n 2, 1, 0, 0, 0, .null),
  (6, .iload_n 3, 1, 0, 0, 0, .null),
  (7, .invokevirtual 32, 3, 0, 0, 0, .null),
  (10, .lastore, 1, 0, 0, 0, .null),
  (11, .goto 7, 3, 18, 0, 0, .null),
  (14, .astore 5, 2, 0, 0, 0, .null),
  (16, .iconst 1, 1, 0, 0, 0, .int 1),
  (17, .ireturn, 1, 0, 0, 0, .null),
  (18, .iconst 0, 1, 0, 0, 0, .int 0),
  (19, .ireturn, 1, 0, 0, 0, .null)]
set_option maxRecDepth 100000 in
theorem ok_Law_lotMean : cc_Law_lotMean.all (mo_chk mm_Law_lotMean.1.cls false mm_Law_lotMean.2.1) = true := by decide +kernel

theorem mo_LR_sn {ad : Nat → Nat} {ml : mo_L} {ls' : Array Slot} {k a : Nat} (hk : k < ml.length) (h : lv_has ls' ml.length ((k, .ref a) :: (mo_lv ad ml).filter (fun q => !(q.1 == k) && !(q.1 + 1 == k && q.2.category == 2)))) : mo_LR ad ls' ((mo_cl ml k).set k none) := by
  obtain ⟨h1, h2, h3⟩ := h
  refine ⟨by rw [h1]; simp [mo_cl_len], h2, fun i w hw => ?_⟩
  by_cases e : i = k
  · subst e
    rw [List.getElem?_set_self (by rw [mo_cl_len]; exact hk)] at hw
    cases hw
  · rw [List.getElem?_set_ne (fun z => e z.symm)] at hw
    obtain ⟨g1, g2⟩ := mo_cl_get hw
    refine h3 (i, mo_tr ad w) (List.mem_cons_of_mem _ (List.mem_filter.mpr ⟨mo_lv_mem g1, ?_⟩))
    by_cases e2 : i + 1 = k
    · simp [e, e2, mo_is2_cat (ad := ad) (g2 e2)]
    · simp [e, e2]
theorem mo_in13 : mo_in (.classLink "GateNamesLaw" 13 mo_NSE) = true := by decide +kernel
section J
variable {l : Launch} {M : mo_M} {d mc ms : Nat} {al : Bool} {σ0 : mo_S} {QQ : mo_QQ}
variable {M2 : mo_M} {d2 mc2 ms2 : Nat} {Θ : mo_S → Prop} {pc idx : Nat} {ml : mo_L} {st rest as2 : List Value} {K : mo_K} {R : Nat → Nat → Nat} {I : Nat → Nat → Int32} {L : Nat → Nat → Int64} {x : Nat}
set_option maxHeartbeats 4000000 in
/-- RULE: a call that throws, caught by the method's only entry -/
theorem mo_J_catch {q ci b0 e0 hp i : Nat} (hc : mo_CT l M2 d2 mc2 ms2 (.ref q :: as2) (K, R, I, L, 0) Θ) (hcd : mo_cd M2) (hd : ClassFile.decode M.2.1 pc = .ok (.invokevirtual idx, 3)) (hk : mo_kV M.1.cls idx M2 as2.length ci = true) (hq : mo_kd K q = ci) (hml : ml.length = M.2.2.1) (hst : st = as2.reverse ++ .ref q :: rest) (hf : mo_fit d mc ms al σ0 M2 d2 mc2 ms2 false K x rest)
    (hcls : M.1.cls = "GateNamesLaw") (hw : Cond.codeWith M.1 M.2.1 M.2.2.1 M.2.2.2 [(b0, e0, hp, 13)] ∈ mo_ws) (hcov : b0 ≤ pc ∧ pc < e0) (has : ClassFile.decode M.2.1 hp = .ok (.astore i, 2)) (hi : i < ml.length)
    (kk : ∀ (K2 : mo_K) (R2 : Nat → Nat → Nat) (I2 : Nat → Nat → Int32) (L2 : Nat → Nat → Int64) (x2 : Nat), Θ (K2, R2, I2, L2, x2) → mo_JQ l M d mc ms al σ0 QQ (hp + 2, (mo_cl ml i).set i none, [], (K2, R2, I2, L2, x + x2))) : mo_JQ l M d mc ms al σ0 QQ (pc, ml, st, (K, R, I, L, x)) := by
  intro p e s m args below meth c D cA ad J H locs ls hR hS hL
  have J0 := J
  obtain ⟨hC, hmaxL, hret, hlocks, hname, hal0, hnamed0⟩ := J
  obtain ⟨f1, f2, f3, f4, f5, f6⟩ := hf
  obtain ⟨hx, hb, hown, hts, hKK, hN, hA, hSt, -, -⟩ := id hC
  simp only [mo_kV, Bool.and_eq_true, decide_eq_true_eq] at hk
  obtain ⟨⟨⟨hk1, hk2⟩, hk4, hk5⟩, hk3⟩ := hk
  obtain ⟨c1, c2, c3, c4⟩ := mo_kc_inv hk3
  have r2 : σ0.1.length ≤ K.length := hR.2.2.2.1
  have r3 : mo_sz σ0.1 ≤ mo_sz K := hR.2.2.2.2.1
  have h00 : mo_kd K 0 = 99 := hR.2.2.2.2.2
  cases hci : mo_cls[ci]? with
  | none => rw [hci] at hk5; cases hk5
  | some rc =>
  rw [hci] at hk5
  have hrc : rc.1 = M2.1.cls := Option.some.inj hk5
  obtain ⟨g1, g2, g3⟩ := mo_e_obj (cA := cA) (ad := ad) (R := R) (I := I) (L := L) (x := x) h00 hq (mo_cls_facts hci).2.2.2.2.2.2
  have hrecv := va_recv hKK hR.1 hci g3
  rw [hrc] at hrecv
  obtain ⟨cellB, hcB, hoB, hclB⟩ := hrecv
  have e0' : (Value.ref q :: as2).map (mo_tr ad) = .ref (ad q) :: as2.map (mo_tr ad) := by rw [List.map_cons, mo_tr_ref g1]
  intro T hT Z
  have hal := mo_al2 J0 hR hS hT Z (al2 := false) (fun h => by cases h) (fun h => by cases h)
  have hM := hc D cA ad H.size
  have cb : CallB (mo_rm d mc ms) s args M.1.cls idx M2.1 M2.2.1 M2.2.2.1 M2.2.2.2 (Cond.code M2.1 M2.2.1 M2.2.2.1 M2.2.2.2 :: mo_ws) (mo_rm d2 mc2 ms2) mc2 ms2 as2.length := callB_of as2.length hts (mo_good hcd) rfl rfl rfl (hts _ c1) (hts _ (mo_in_ws hk1)) ⟨c2, c3, c4⟩ ⟨f1, by show 8 + (M2.2.2.1 + 11) + 100 * (d2 + 1) ≤ 100 * (d + 1); omega⟩
  obtain ⟨-, -, hfr, hlo, hws, hcw, hcode, hini, hy, hlen, hlink⟩ := cb
  have hin := hts _ (mo_in_ws hk2)
  have hsel := hts _ (mo_in_ws hk4)
  obtain ⟨mk, methM, hnamed, hmethM, hstM, habM⟩ := Cond.instanceMethod_spec hin
  obtain ⟨methM', cM, hmethM', hcM, -, hlM, -, -, -, hsigM⟩ := Cond.code_spec hnamed hcode
  cases hmethM.symm.trans hmethM'
  obtain ⟨c2', r2', m2', q1, q2, q3, q4, kP, hkP, hkPi⟩ := Cond.selects_spec hsel
  cases hclB.symm.trans q1
  cases (State.methodFound?_of_named hnamed hy).symm.trans q2
  cases hnamed.symm.trans q3
  have hselP : selectMethod e.platform s.vm cellB.cls mk = .method mk := by rw [Launch.admits_selectMethod Z.admits]; exact q4
  have hstack : (st.map (mo_tr ad)) = (as2.map (mo_tr ad)).reverse ++ .ref (ad q) :: rest.map (mo_tr ad) := by rw [hst, List.map_append, List.map_reverse, List.map_cons, mo_tr_ref g1]
  obtain ⟨vm₁, X₁, hstep₁⟩ := Z.invokevirtual hx hown hlink hnamed hmethM hstM hkP hkPi hy (a := ad q) (cell := cellB) (by rw [hT]; exact hcB) (fun z h => by rw [h] at hoB; cases hoB) hselP hmethM habM hkP hkPi (g := F0 m pc ls (st.map (mo_tr ad))) rfl (argsL := as2.map (mo_tr ad)) (rest := rest.map (mo_tr ad)) (by rw [List.length_map]; exact hlen _ hsigM) hstack (by rw [hb]; exact hd)
  have hn₁ := X₁.named hnamed
  obtain ⟨kY, hkY, -⟩ := className_of_methodNamed hn₁
  have hinitY : kY.init = .initialized := Cond.initialized_spec (findClass_of_methodNamed hn₁) hkY (word_at (a' := args) X₁.warmed (Or.inl rfl) hini)
  obtain ⟨methY, cY, hmY, hcY, -, hlY, -, -, -, -⟩ := Cond.code_spec hn₁ (hws _ hcw args (T.setVm vm₁) X₁.warmed)
  have hsize : (F0 m pc ls (rest.map (mo_tr ad))).locals.size = c.maxLocals := by rw [hmaxL]; exact hL.1.trans hml
  have h : At (T.setVm vm₁) (F0 m pc ls (rest.map (mo_tr ad))).method c below := X₁.here
  have happ : (headSpec (Cond.code M2.1 M2.2.1 M2.2.2.1 M2.2.2.2 :: mo_ws) (mo_rm d2 mc2 ms2)).appliesLoose M2.1 e.platform ((T.setVm vm₁).calling (F0 m pc ls (rest.map (mo_tr ad))) mk (Value.ref (ad q) :: as2.map (mo_tr ad)).toArray) = true :=
    Spec.appliesLoose_calling (g := F0 m pc ls (rest.map (mo_tr ad))) h (by rw [hb]; exact hd) hn₁ hkY hinitY
      (X₁.room_calling (g := F0 m pc ls (rest.map (mo_tr ad))) (R' := mo_rm d2 mc2 ms2) hsize hmY hcY hfr (by
        rw [hlY]
        have hr : 2 * (F0 m pc ls (rest.map (mo_tr ad))).monitorRoom + ((rest.map (mo_tr ad)).map fun v => v.category).sum ≤ 8 := lv_room (by rw [mo_wd_eq]; exact f5)
        have hlo : 8 + (M2.2.2.1 + 11) + 100 * (d2 + 1) ≤ 100 * (d + 1) := hlo
        show 2 * (F0 m pc ls (rest.map (mo_tr ad))).monitorRoom + ((rest.map (mo_tr ad)).map fun v => v.category).sum + (M2.2.2.1 + 11) + 100 * (d2 + 1) ≤ 100 * (d + 1)
        omega) (by show K.length - σ0.1.length + x + mc2 ≤ mc; omega) (by show mo_sz K - mo_sz σ0.1 + 6 * x + ms2 ≤ ms; omega)) (atoms_intro fun w hw' => hws w hw' _ _ X₁.warmed)
  obtain ⟨mid, hmid⟩ := h.above
  have hfr2 : ((T.setVm vm₁).setTop (F0 m pc ls (rest.map (mo_tr ad)))).frames = (.java (F0 m pc ls (rest.map (mo_tr ad))) :: mid) ++ below := by rw [State.frames_setTop' _ h.top, hmid]; rfl
  have hPc := mo_Pc_call (av := .ref q :: as2) (al := false) hC hR hS hal (U := T.setVm vm₁) (by show T.heap = H; exact hT) X₁.warmed
  rw [e0'] at hPc
  obtain ⟨o, s₂, hsteps, -, hend, hqq⟩ := Steps.callFree hM p X₁.admits X₁.cas X₁.clock (acts := []) hfr2 happ (mo_Pc_blind _ _ _ _ hPc) trivial
  obtain ⟨xa, ho, ce, L', ⟨K2, R2, I2, L2, x2⟩, w1, w2, w3, w4, w5, w6, w7, hΘ, hRel2, ⟨hz, hkp⟩, hmc, hms⟩ := hqq
  subst ho
  rw [State.frames_setTop' _ h.top, X₁.tail] at hend
  obtain ⟨T', X', hW', hsame, ht⟩ := X₁.outOfThrown (g := F0 m pc ls (rest.map (mo_tr ad))) rfl hend w1 w2
  have hheap : s₂.heap = T'.heap := by rw [ht]; exact Stand.throwing_heap T' _ xa
  obtain ⟨hP2, hD2, q1', q2', q3', q4'⟩ := hRel2
  have q2' : K.length ≤ K2.length := q2'
  have q3' : mo_sz K ≤ mo_sz K2 := q3'
  have hmc : mc2 = K2.length - K.length + x2 := hmc
  have hms : ms2 = mo_sz K2 - mo_sz K + 6 * x2 := hms
  have hz2 : T.heap.size ≤ s₂.heap.size := hz
  have hkp2 : ∀ q, q < T.heap.size → ¬ va_A (mo_w cA ad (K, R, I, L, 0)) H.size q → s₂.heap[q]? = T.heap[q]? := hkp
  rw [hT, hheap] at hz2 hkp2
  have hAA := mo_AA (σ1 := (K, R, I, L, 0)) (cA := cA) (ad := ad) (A := va_A (mo_w cA ad σ0) s.heap.size) (s := s) hR.2.1 hA hS
  have hS' : va_S (va_A (mo_w cA ad σ0) s.heap.size) s.heap T'.heap (locs ++ L') := ⟨Nat.le_trans hS.1 hz2, fun q h1 h2 => by rw [hkp2 q (Nat.lt_of_lt_of_le h1 hS.1) (fun z => h2 (hAA q z))]; exact hS.2.1 q h1 h2, fun q hq => by
      rcases List.mem_append.mp hq with h | h
      · exact hS.2.2 q h
      · exact hAA _ (w3 q h)⟩
  rw [hheap] at hP2 w4
  -- the table's only entry
  obtain ⟨m9, meth9, c9, hn9, hm9, hc9, -, -, htab, -⟩ := Cond.codeWith_spec (hts _ hw)
  cases hnamed0.symm.trans hn9
  cases Z.method.symm.trans hm9
  cases Z.code.symm.trans hc9
  obtain ⟨ent, hent, hen⟩ : ∃ ent, c.exceptionTable.toList = [ent] ∧ (ent.startPc, ent.endPc, ent.handlerPc, ent.catchType) = (b0, e0, hp, 13) := by
    match hl : c.exceptionTable.toList with
    | [] => rw [hl] at htab; cases htab
    | [y] => rw [hl] at htab; exact ⟨y, rfl, by simpa using htab⟩
    | y :: z :: w => rw [hl] at htab; simp at htab
  have en1 : ent.startPc = b0 := congrArg (fun z => z.1) hen
  have en2 : ent.endPc = e0 := congrArg (fun z => z.2.1) hen
  have en3 : ent.handlerPc = hp := congrArg (fun z => z.2.2.1) hen
  have en4 : ent.catchType = 13 := congrArg (fun z => z.2.2.2) hen
  have hpl : e.platform.magicAccessors = ({} : Platform).magicAccessors := by rw [Z.admits.platform]
  rw [hcls] at hown
  obtain ⟨cl, hfc, hcl⟩ := Cond.classLink_spec hown (hts _ (mo_in_ws mo_in13)) e.platform hpl
  obtain ⟨dk, _, _, ck, hdk, _, _, _, _, hck, _, hopen⟩ := hcl.here
  have hW2 : s.WarmedH (T'.vm.noted m.cls 13 (.cls cl)) := X'.warmed.noted hdk hopen (State.rightAt_cls hcl)
  have hce : ce.cls = cl := by
    have w6 : (T.setVm vm₁).vm.findClass mo_NSE = some ce.cls := w6
    rw [X₁.warmed.alike.findClass, hfc] at w6
    exact (Option.some.inj w6).symm
  have X2 := X'.noted hW2
  have fin := kk K2 R2 I2 L2 x2 hΘ p e s m args below meth c D cA ad J0 T'.heap (locs ++ L')
  have hl0 := mo_lv_has hL
  have Wh : W p l e (mo_rm d mc ms) s m args below meth c T'.heap (locs ++ L') (K.length - σ0.1.length + x + mc2) (mo_sz K - mo_sz σ0.1 + 6 * x + ms2) (QQ below s args D cA ad) (F0 m hp ls [.ref xa]) := by
    refine lv_astore hx hb has hl0 hi rfl (fun ls' hl' => ?_)
    have g := fin ls' ⟨hP2, hD2.weaken (fun _ _ _ z => hAA _ z), hR.2.2.1, by show σ0.1.length ≤ K2.length; omega, by show mo_sz σ0.1 ≤ mo_sz K2; omega, q4'⟩ hS' (mo_LR_sn hi hl')
    have g : W p l e (mo_rm d mc ms) s m args below meth c T'.heap (locs ++ L') (K2.length - σ0.1.length + (x + x2)) (mo_sz K2 - mo_sz σ0.1 + 6 * (x + x2)) (QQ below s args D cA ad) (F0 m (hp + 2) ls' []) := g
    rw [show K2.length - σ0.1.length + (x + x2) = K.length - σ0.1.length + x + mc2 by omega, show mo_sz K2 - mo_sz σ0.1 + 6 * (x + x2) = mo_sz K - mo_sz σ0.1 + 6 * x + ms2 by omega] at g
    exact g
  obtain ⟨t, a1, b1⟩ := Wh (T'.setVm (T'.vm.noted m.cls 13 (.cls cl))) rfl X2
  refine ⟨t, hstep₁ _ fun acts => ?_, b1⟩
  rw [doInvoke_state]
  refine hsteps.trans ?_
  rw [ht]
  have ht' : At T' (F0 m pc ls (rest.map (mo_tr ad))).method c below := X'.here
  refine mo_caught (vm' := T'.vm.noted m.cls 13 (.cls cl)) (hp := hp) ht' (fun Q E dd acts => ?_) a1
  have hvm : ((T'.setTop (F0 m pc ls (rest.map (mo_tr ad)))).pushFrame (.throwing xa)).vm = T'.vm := Stand.throwing_vm T' _ xa
  have hhp : ((T'.setTop (F0 m pc ls (rest.map (mo_tr ad)))).pushFrame (.throwing xa)).heap = T'.heap := Stand.throwing_heap T' _ xa
  have al1 := X'.warmed.alike
  obtain ⟨ck', hck', -⟩ := al1.2.2 _ _ hck
  have key := mo_find1 (e := e) (a := xa) (s := (T'.setTop (F0 m pc ls (rest.map (mo_tr ad)))).pushFrame (.throwing xa)) (f := F0 m pc ls (rest.map (mo_tr ad))) (x := ent) (meth := meth) (c := c) (cl := cl) (cell := ce) (by rw [hvm]; exact X'.method') Z.code hent (by
    simp only [covers, en1, en2, Bool.and_eq_true, decide_eq_true_eq]
    exact hcov) (by rw [en4]; decide) (by rw [hvm, en4]; exact X'.warmed.classLinks hcl) (by rw [hhp]; exact w4) (fun k z => by rw [w5] at z; cases z) ⟨ck', by rw [hvm, hce]; exact hck'⟩ ⟨ck', by rw [hvm]; exact hck'⟩ (by
    rw [hvm, al1.assignable, ← hce]
    have w7 : (T.setVm vm₁).vm.assignable ce.cls ce.cls = true := w7
    rw [X₁.warmed.alike.assignable] at w7
    exact w7) Q E dd acts
  rw [key, hvm, en3, en4]
end J
