/-! The law on the machine, from its start to its end. -/
def lw_Q (_ : Array Value) (s : State) (o : Outcome) (t : State) : Prop := o = .returned (some (.int 1)) ∧ Framed s o t [] 601024 7293034
def lw_Z (below : List Frame) (a : Array Value) (s : State) : State → Prop := fun t => ∃ o, t.status = .running ∧ Ended t below o ∧ lw_Q a s o t
theorem law_rooms {s : State} {pl : Platform} (h : s.hasRoom pl room_1 = true) : s.hasRoom pl (mo_rm 20 661 53795) = true := by
  unfold State.hasRoom at h ⊢
  simp only [Bool.and_eq_true, decide_eq_true_eq] at h ⊢
  obtain ⟨⟨⟨⟨h1, h2, h3, h4, h5, h6⟩, h7⟩, h8⟩, h9⟩ := h
  have h1 : s.localsInUse + 84000 + stackMargin ≤ realStackBytes / 8 := h1
  have h2 : s.frames.length + 2048 ≤ pl.maxFrames := h2
  have h3 : s.frames.length + 2048 ≤ (pl.stackLimits s.me).1 := h3
  have h4 : s.localsInUse + 84000 ≤ pl.maxStackSlots := h4
  have h5 : s.localsInUse + 84000 ≤ (pl.stackLimits s.me).2 := h5
  have h7 : s.heap.size + 601024 ≤ pl.maxCells := h7
  have h8 : s.slotsUsed + 7293034 ≤ pl.maxSlots := h8
  refine ⟨⟨⟨⟨?_, ?_, ?_, ?_, ?_, h6⟩, ?_⟩, ?_⟩, h9⟩
  · show s.localsInUse + 2100 + stackMargin ≤ realStackBytes / 8
    omega
  · show s.frames.length + 20 ≤ pl.maxFrames
    omega
  · show s.frames.length + 20 ≤ (pl.stackLimits s.me).1
    omega
  · show s.localsInUse + 2100 ≤ pl.maxStackSlots
    omega
  · show s.localsInUse + 2100 ≤ (pl.stackLimits s.me).2
    omega
  · show s.heap.size + 661 ≤ pl.maxCells
    omega
  · show s.slotsUsed + 53795 ≤ pl.maxSlots
    omega
theorem W_room {p : Program} {l : Launch} {e : Env} {s : State} {m : MethodId} {args : Array Value} {below : List Frame} {meth : Method} {c : Code} {H : Heap} {locs : List Loc} {cells slots : Nat} {Q : State → Prop} {g : JFrame} (k : W p l e (mo_rm 20 661 53795) s m args below meth c H locs cells slots Q g) : W p l e room_1 s m args below meth c H locs cells slots Q g := fun T hT X => k T hT ⟨X.admits, X.cas, X.clock, X.frames, law_rooms X.room, X.hears, X.method, X.code, X.here, X.tail, X.warmed, X.limits, X.bytes, X.same⟩
theorem law_fin {below : List Frame} {s t : State} {args : Array Value} {D : va_G} {cA : Nat → ClassId} {ad : Nat → Nat} (h : mo_MQ σL 661 53795 (fun r _ => r = some (.int 1)) below s args D cA ad t) : lw_Z below args s t := by
  obtain ⟨o, h1, h2, ⟨⟨r, σ', e, hr, _⟩, _⟩, L, ⟨g1, g2, g3⟩, hf⟩ := h
  have hr : r = some (.int 1) := hr
  subst hr
  have e : o = .returned (some (.int 1)) := e
  refine ⟨o, h1, h2, e, g1, g2, g3.weaken (fun x hx hlt => ?_) (by decide) (by decide)⟩
  rcases hf x hx with ⟨k, e', he⟩ | hge
  · have hw : mo_w cA ad σL = [] := rfl
    rw [hw] at he
    simp at he
  · exact absurd hlt (Nat.not_lt.mpr hge)
/-- where things lie: the script, the two tables, and each cell that is made -/
def lw_ad (b t1 t2 sz x : Nat) : Nat := if x = 1000000 then b else if x = 1000001 then t1 else if x = 1000002 then t2 else sz + (x - 1)
theorem law_known {s : State} {args : Array Value} (hts : ∀ w ∈ mo_ws, w.before args s = true) : ∃ D : va_G, ∀ (c : Nat) (q : vw_C), mo_cls[c]? = some q → u_Kn s q.1 q.2.1 q.2.2 (D.1 c) (D.2 c) := by
  have one : ∀ c : Nat, ∃ r : ClassId × (Nat → Nat), ∀ q : vw_C, mo_cls[c]? = some q → u_Kn s q.1 q.2.1 q.2.2 r.1 r.2 := fun c => by
    cases e : mo_cls[c]? with
    | none => exact ⟨(0, fun _ => 0), fun q h => by cases h⟩
    | some q =>
      have hq := List.all_eq_true.mp mo_cls_ok q (List.mem_of_getElem? e)
      simp only [mo_clsOk, Bool.and_eq_true, List.all_eq_true, decide_eq_true_eq] at hq
      obtain ⟨⟨⟨h1, _⟩, h3⟩, _⟩ := hq
      obtain ⟨cC, iS, hK⟩ := u_known (C := q.1) (T := q.2.1) (N := q.2.2) (n := q.2.2) hts h1 (hts _ h3)
      exact ⟨(cC, iS), fun q' h => by cases h; exact hK⟩
  exact ⟨(fun c => (Classical.choose (one c)).1, fun c => (Classical.choose (one c)).2), fun c q h => Classical.choose_spec (one c) q h⟩
theorem arr_of {s : State} {args : Array Value} {ty : ClassFile.FieldType} (h : (Cond.arrayClass ty).before args s = true) (hp : ∀ C, ty ≠ .object C) : ∃ cA : ClassId, ArrOfT s cA ty ∧ va_RA s cA ty := by
  obtain ⟨c, k, comp, h1, h2, h3⟩ := Cond.arrayClass_spec h
  refine ⟨c, fun n z => ⟨fun k h => (by cases h), k, h2, comp, h3⟩, ?_⟩
  cases ty with
  | object C => exact absurd rfl (hp C)
  | _ => exact h1
theorem arr_ofO {s : State} {args : Array Value} {C : String} (h : (Cond.arrayOver (.object C)).before args s = true) : ∃ cA : ClassId, ArrOfT s cA (.object C) ∧ va_RA s cA (.object C) := by
  obtain ⟨comp, c, k, h1, h2, h3, h4, h5⟩ := Cond.arrayOver_spec h
  exact ⟨c, fun n z => ⟨fun k h => (by cases h), k, h3, comp, h4⟩, k, comp, h3, h4, h1, h5⟩
theorem LZ_of {args : Array Value} {s : State} {C n d : String} {A : Nat → Prop} (hl : (Cond.laysStatic C n d).before args s = true) (h : (Cond.isRef (.static C n d)).before args s = true) (hA : ∀ a : Nat, a < s.heap.size → ¬ A a) : ∃ v : Value, (v = .null ∨ ∃ a, v = .ref a) ∧ mo_LZ C n d v A s s.heap := by
  obtain ⟨c, k, i, f, a, cell, hc, hi, hst, ha, hcell, hs, hcls, hlt, hty⟩ := Cond.laysStatic_spec hl
  obtain ⟨v, hv, hr⟩ := Cond.isRef_spec h
  obtain ⟨hst', a', cell', ha', hcell', -, hslot⟩ := Term.static_spec hi hv
  cases ha.symm.trans ha'
  cases hcell.symm.trans hcell'
  refine ⟨v, ?_, c, k, i, f, a, cell, hc, hi, hst, ha, hcell, hs, hcls, hlt, hty, hslot, hA a (Array.getElem?_eq_some_iff.mp hcell).1⟩
  cases v with
  | null => exact Or.inl rfl
  | ref a => exact Or.inr ⟨a, rfl⟩
  | _ => simp [Value.isRef] at hr
set_option maxRecDepth 100000 in
theorem own_el {args : Array Value} {s : State} (hs : ∀ c ∈ flatC (Cond.and given_1 narrow_1), c.before args s = true) : ∀ j : Nat, j < 9 → (Term.elem (.static "GateNames" "OWN_WORDS" "[I") (.int (Int32.ofNat j))).eval args s none [] s = some (.int (mo_own j)) := fun j hj =>
  match j, hj with
  | 0, _ => va_eqt (z := 13358) (hs (.eq (.elem (.static "GateNames" "OWN_WORDS" "[I") (.int 0)) (.int 13358)) (by decide +kernel))
  | 1, _ => va_eqt (z := 17484389) (hs (.eq (.elem (.static "GateNames" "OWN_WORDS" "[I") (.int 1)) (.int 17484389)) (by decide +kernel))
  | 2, _ => va_eqt (z := 460197) (hs (.eq (.elem (.static "GateNames" "OWN_WORDS" "[I") (.int 2)) (.int 460197)) (by decide +kernel))
  | 3, _ => va_eqt (z := 3650739) (hs (.eq (.elem (.static "GateNames" "OWN_WORDS" "[I") (.int 3)) (.int 3650739)) (by decide +kernel))
  | 4, _ => va_eqt (z := 86292723) (hs (.eq (.elem (.static "GateNames" "OWN_WORDS" "[I") (.int 4)) (.int 86292723)) (by decide +kernel))
  | 5, _ => va_eqt (z := 515251) (hs (.eq (.elem (.static "GateNames" "OWN_WORDS" "[I") (.int 5)) (.int 515251)) (by decide +kernel))
  | 6, _ => va_eqt (z := 212147) (hs (.eq (.elem (.static "GateNames" "OWN_WORDS" "[I") (.int 6)) (.int 212147)) (by decide +kernel))
  | 7, _ => va_eqt (z := 307) (hs (.eq (.elem (.static "GateNames" "OWN_WORDS" "[I") (.int 7)) (.int 307)) (by decide +kernel))
  | 8, _ => va_eqt (z := 14836) (hs (.eq (.elem (.static "GateNames" "OWN_WORDS" "[I") (.int 8)) (.int 14836)) (by decide +kernel))
  | j + 9, h => absurd h (by omega)
set_option maxRecDepth 100000 in
theorem wit_el {args : Array Value} {s : State} (hs : ∀ c ∈ flatC (Cond.and given_1 narrow_1), c.before args s = true) : ∀ j : Nat, j < 6 → (Term.elem (.static "GateNames$Guess" "WITHOUT" "[J") (.int (Int32.ofNat j))).eval args s none [] s = some (.long (mo_wit j)) := fun j hj =>
  match j, hj with
  | 0, _ => va_eqtl (z := 6148914691236517205) (hs (.eq (.elem (.static "GateNames$Guess" "WITHOUT" "[J") (.int 0)) (.long 6148914691236517205)) (by decide +kernel))
  | 1, _ => va_eqtl (z := 3689348814741910323) (hs (.eq (.elem (.static "GateNames$Guess" "WITHOUT" "[J") (.int 1)) (.long 3689348814741910323)) (by decide +kernel))
  | 2, _ => va_eqtl (z := 1085102592571150095) (hs (.eq (.elem (.static "GateNames$Guess" "WITHOUT" "[J") (.int 2)) (.long 1085102592571150095)) (by decide +kernel))
  | 3, _ => va_eqtl (z := 71777214294589695) (hs (.eq (.elem (.static "GateNames$Guess" "WITHOUT" "[J") (.int 3)) (.long 71777214294589695)) (by decide +kernel))
  | 4, _ => va_eqtl (z := 281470681808895) (hs (.eq (.elem (.static "GateNames$Guess" "WITHOUT" "[J") (.int 4)) (.long 281470681808895)) (by decide +kernel))
  | 5, _ => va_eqtl (z := 4294967295) (hs (.eq (.elem (.static "GateNames$Guess" "WITHOUT" "[J") (.int 5)) (.long 4294967295)) (by decide +kernel))
  | j + 6, h => absurd h (by omega)
set_option maxRecDepth 100000 in
/-- from the entry, for every script of at most 3072 ints, the law comes to its end with true -/
theorem whole_start {p : Program} {e : Env} {s : State} {m : MethodId} {below : List Frame} {meth : Method} {c : Code} (l : Launch) (hfl : l.flags = pinnedFlags ++ [noTraceFlag]) {b L : Nat} {xs : Nat → Int32} (hL : L ≤ 3072) (hx : p.tables.exec = Jvm.exec) (hb : c.code = code) (hr : meth.sig.returnType = ret) (hml : c.maxLocals = 8) (hown : s.vm.findClass "GateNamesLaw" = some m.cls) (hts : ∀ w ∈ lw_tbl, w.before #[Value.ref b] s = true) (hX : va_X b L xs s s.heap) (hbl : b < s.heap.size) (hlocks : meth.locks = false) (hgv : (Jvm.Cond.and given_1 narrow_1).before #[Value.ref b] s = true) (hnm : meth.name = "law") (hmn : s.methodNamed? ⟨"GateNamesLaw", "law", "([I)Z"⟩ = some m) : W p l e room_1 s m #[Value.ref b] below meth c s.heap [] 0 0 (lw_Z below #[Value.ref b] s) (entryFrame m ([Value.ref b] : List Value).toArray 8) := by
  have hs := flat_of_before _ hgv
  have hws : ∀ w ∈ mo_ws, w.before #[Value.ref b] s = true := fun w hw => hts w (List.mem_filter.mp hw).1
  have htb : ∀ w ∈ tables_1, w.before #[Value.ref b] s = true := fun w hw => hts w (List.mem_append_right _ hw)
  have hA : ∀ a : Nat, a < s.heap.size → ¬ va_A [] s.heap.size a := fun a ha z => by
    rcases z with ⟨k, e, h⟩ | h
    · simp at h
    · omega
  obtain ⟨D, hD⟩ := law_known hws
  obtain ⟨c0, i0⟩ := arr_of (hts (.arrayClass .int) (by decide +kernel)) (fun C z => by cases z)
  obtain ⟨c1, i1⟩ := arr_of (hts (.arrayClass .long) (by decide +kernel)) (fun C z => by cases z)
  obtain ⟨c2, i2⟩ := arr_of (hts (.arrayClass .byte) (by decide +kernel)) (fun C z => by cases z)
  obtain ⟨c3, i3⟩ := arr_of (hts (.arrayClass .boolean) (by decide +kernel)) (fun C z => by cases z)
  have hov := hts (.arrayOver (.object "GateNames$Town")) (by decide +kernel)
  obtain ⟨c4, i4⟩ := arr_ofO hov
  have hO1 := va_Tof (args := #[Value.ref b]) (s := s) (tm := .static "GateNames" "OWN_WORDS" "[I") (ty := .int) (N := 9) (f := fun j => .int (mo_own j)) (A := va_A [] s.heap.size) (by decide) (hs _ (by decide +kernel)) (va_eqt (hs _ (by decide +kernel))) (own_el hs) hA
  have hO2 := va_Tof (args := #[Value.ref b]) (s := s) (tm := .static "GateNames$Guess" "WITHOUT" "[J") (ty := .long) (N := 6) (f := fun j => .long (mo_wit j)) (A := va_A [] s.heap.size) (by decide) (hs _ (by decide +kernel)) (va_eqt (hs _ (by decide +kernel))) (wit_el hs) hA
  obtain ⟨t1, v1, hT1⟩ := hO1
  obtain ⟨t2, v2, hT2⟩ := hO2
  have hZ1 := va_Zref (hts (.laysStatic "GateNames" "OWN_WORDS" "[I") (by decide +kernel)) (hts (.initialized "GateNames") (by decide +kernel)) v1 hA
  have hZ2 := va_Zref (hts (.laysStatic "GateNames$Guess" "WITHOUT" "[J") (by decide +kernel)) (hts (.initialized "GateNames$Guess") (by decide +kernel)) v2 hA
  have hZ3 := LZ_of (hts (.laysStatic "java/lang/Throwable" "UNASSIGNED_STACK" "[Ljava/lang/StackTraceElement;") (by decide +kernel)) (hs _ (by decide +kernel)) hA
  have hZ4 := LZ_of (hts (.laysStatic "java/lang/Throwable" "SUPPRESSED_SENTINEL" "Ljava/util/List;") (by decide +kernel)) (hs _ (by decide +kernel)) hA
  have hadj : ∀ j, 1 + j < 1000000 → lw_ad b t1 t2 s.heap.size (1 + j) = s.heap.size + j := fun j hj => by
    unfold lw_ad
    rw [if_neg (by omega), if_neg (by omega), if_neg (by omega)]
    omega
  have a0 : lw_ad b t1 t2 s.heap.size 1000000 = b := rfl
  have a1 : lw_ad b t1 t2 s.heap.size 1000001 = t1 := rfl
  have a2 : lw_ad b t1 t2 s.heap.size 1000002 = t2 := rfl
  generalize lw_ad b t1 t2 s.heap.size = ad at hadj a0 a1 a2
  have hK : va_K D mo_cls (mo_tys (fun k => match k with | 0 => c0 | 1 => c1 | 2 => c2 | 3 => c3 | _ => c4)) s := ⟨hD, fun k q hq => by
    match k, hq with
    | 0, hq => cases hq; exact i0
    | 1, hq => cases hq; exact i1
    | 2, hq => cases hq; exact i2
    | 3, hq => cases hq; exact i3
    | 4, hq => cases hq; exact i4
    | k + 5, hq => simp [mo_tys] at hq⟩
  generalize (fun k => match k with | 0 => c0 | 1 => c1 | 2 => c2 | 3 => c3 | _ => c4 : Nat → ClassId) = cA at hK
  have hw0 : mo_w cA ad σL = [] := rfl
  have hNest : ∀ w ∈ mo_nest, va_Nw w s := fun w hw => by
    obtain ⟨h1, h2⟩ := List.mem_filter.mp hw
    exact va_Nw.of (by cases w <;> first | rfl | cases h2) (htb w h1)
  have hSt : mo_St ad (va_A (mo_w cA ad σL) s.heap.size) s := by
    rw [hw0]
    unfold mo_St
    rw [a1, a2]
    exact ⟨hZ1, hT1, hZ2, hT2, hZ3, hZ4⟩
  have Jc : mo_Jc mm_Law_law 20 661 53795 true σL p s m #[Value.ref b] meth c D cA ad := ⟨⟨hx, hb, hown, hws, hK, hNest, fun q hq => Or.inr hq, hSt, Or.inl rfl, Or.inr ⟨hadj, by decide +kernel, by decide +kernel, va_AO.of hov, by decide +kernel⟩⟩, hml, hr, hlocks, hnm, fun _ => ⟨hadj, va_AO.of hov⟩, hmn⟩
  have hsF : sF L xs σL s cA ad := by
    unfold sF
    rw [a0, hw0]
    exact ⟨hX, hbl, hA b hbl⟩
  have hRel : mo_Rel D cA ad (va_A (mo_w cA ad σL) s.heap.size) σL.1.length (mo_sz σL.1) σL s.heap := ⟨fun k q h => by rw [hw0] at h; simp at h, ⟨fun i j p q h => by rw [hw0] at h; simp at h, fun k q h => by rw [hw0] at h; simp at h⟩, by decide, Nat.le_refl _, Nat.le_refl _, rfl⟩
  have hLR := mo_ent_LR (ad := ad) (av := [.ref 1000000]) (n := 8) (Nat.le_of_ble_eq_true rfl)
  have em : ([.ref 1000000] : List Value).map (mo_tr ad) = [.ref b] := by
    show [mo_tr ad (.ref 1000000)] = _
    rw [mo_tr_ref (by decide), a0]
  rw [em] at hLR
  have g := law_all (n := L) (f := xs) hfl hL p e s m #[Value.ref b] below meth c D cA ad Jc s.heap [] _ hRel va_S.rf hLR
  rw [lg_entry_eq]
  exact W_room (mo_W_mono (fun t ht => law_fin (ht hsF)) g)
