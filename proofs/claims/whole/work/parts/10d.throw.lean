/-! A method that throws. -/
/-- the walk, seen from where it stands -/
theorem mo_rebase {p : Program} {l : Launch} {e : Env} {R : Room} {s : State} {m : MethodId} {args : Array Value} {below : List Frame} {meth : Method} {c : Code} {T : State} {locs : List Loc} {cells slots : Nat} (X : Stand p l e R s m args below meth c T locs cells slots) (hc : cells ≤ R.cells) (hs : slots ≤ R.slots) :
    Stand p l e { frames := R.frames, cells := R.cells - cells, slots := R.slots - slots, locals := R.locals } (T.setFrames (.invoking m args :: below)) m args below meth c T [] 0 0 := by
  obtain ⟨g₀, hfr⟩ := X.frames_eq
  have hcur : T.cur < T.threads.size := State.cur_lt_of_frames hfr
  have hf' : (T.setFrames (.invoking m args :: below)).frames = .invoking m args :: below := State.frames_setFrames _ hcur
  have hm' : (T.setFrames (.invoking m args :: below)).vm.method? m = some meth := X.method'
  obtain ⟨t', ht', -⟩ := State.frames_cons hf'
  obtain ⟨t0, ht0, -⟩ := State.frames_cons hfr
  have hT : T = (T.setFrames (.invoking m args :: below)).setFrames (.java g₀ :: below) := by
    rw [State.setFrames_setFrames, ← hfr, State.setFrames_self ht0]
  refine ⟨X.admits, X.cas, X.clock, hf', ?_, ?_, hm', X.code, X.here, X.tail, State.WarmedH.refl (T.setFrames (.invoking m args :: below)), ?_, ?_, ?_⟩
  · have hr := X.room
    have h1 := X.heapSize
    have h2 := X.used
    have h3 := X.book
    have l1 := State.localsInUse_invoking X.frames X.method X.code
    have l2 := State.localsInUse_invoking hf' hm' X.code
    have f1 := X.frames
    simp only [State.hasRoom, Bool.and_eq_true, decide_eq_true_eq] at hr ⊢
    rw [l2, hf', State.stackLimits_setFrames, State.stackBytes_setFrames, X.limits, X.bytes, ← l1, ← f1]
    obtain ⟨⟨⟨⟨q1, q2⟩, q3⟩, q4⟩, q5⟩ := hr
    refine ⟨⟨⟨⟨q1, q2⟩, ?_⟩, ?_⟩, h3⟩
    · show T.heap.size + (R.cells - cells) ≤ _
      omega
    · show T.slotsUsed + (R.slots - slots) ≤ _
      omega
  · have hh := X.hears
    unfold State.hears at hh ⊢
    rcases below with _ | ⟨y, r⟩
    · show (T.vm.method? m).any _ = true
      rw [X.warmed.alike.method?]
      exact hh
    · cases y <;> first | exact hh | (show ((T.code? _).bind _).isSome = true; rw [State.code?_eq, X.warmed.alike.method?, ← State.code?_eq]; exact hh) | (show (T.vm.method? m).any _ = true; rw [X.warmed.alike.method?]; exact hh)
  · rw [State.stackLimits_setFrames]
  · rw [State.stackBytes_setFrames]
  · have h := (State.sameButNew.refl (T.setFrames (.invoking m args :: below)) ht').setFrames (.java g₀ :: below) (State.cur_lt_of_frames hf')
    rw [← hT] at h
    exact h

def mo_NSE : String := "java/util/NoSuchElementException"
def mo_chain : List String := ["java/lang/RuntimeException", "java/lang/Exception"]
def mo_isR : Jvm.Cond → Bool
  | .isRef _ => true
  | .laysStatic .. => true
  | _ => false
set_option maxRecDepth 100000 in
theorem mo_thr : (Bundle.ownAtoms0 "GateNames" 118 mo_NSE mo_chain).all (fun w => mo_isR w || (mo_in w || decide (w ∈ mo_nest))) = true := by decide +kernel
set_option maxRecDepth 100000 in
theorem mo_thr2 : (mo_in (.classLink "GateNames" 116 mo_NSE) && (mo_in (.instantiable mo_NSE 6) && mo_in (.initialized mo_NSE))) = true := by decide +kernel
/-- it throws, as told -/
def mo_TQ (σ0 : mo_S) (mc ms : Nat) (Θ : mo_S → Prop) : mo_QQ := fun below s _ D cA ad t =>
  ∃ (x : Nat) (ce : Cell) (L : List Loc) (σ' : mo_S), t.status = .running ∧ Ended t below (.threw x) ∧ s.WarmedH t.vm ∧ s.sameButNew ({ t with vm := s.vm } : State) L mc ms ∧ (∀ q ∈ L, va_A (mo_w cA ad σ0) s.heap.size q.base) ∧ t.heap[x]? = some ce ∧ ce.vm = .none ∧ s.vm.findClass mo_NSE = some ce.cls ∧ s.vm.assignable ce.cls ce.cls = true ∧
    Θ σ' ∧ mo_Rel D cA ad (va_A (mo_w cA ad σ0) s.heap.size) σ0.1.length (mo_sz σ0.1) σ' t.heap ∧ va_F (va_A (mo_w cA ad σ0) s.heap.size) s t ∧ mc = σ'.1.length - σ0.1.length + σ'.2.2.2.2 ∧ ms = mo_sz σ'.1 - mo_sz σ0.1 + 6 * σ'.2.2.2.2
section J
variable {l : Launch} {M : mo_M} {d mc ms : Nat} {al : Bool} {σ0 : mo_S} {pc : Nat} {ml : mo_L} {K : mo_K} {R : Nat → Nat → Nat} {I : Nat → Nat → Int32} {L : Nat → Nat → Int64} {x : Nat} {Θ : mo_S → Prop}
set_option maxHeartbeats 1000000 in
/-- RULE: throw new NoSuchElementException() -/
theorem mo_J_throw (hfl : l.flags = pinnedFlags ++ [noTraceFlag]) (hcls : M.1.cls = "GateNames") (hcd : mo_cd M) (hn : ClassFile.decode M.2.1 pc = .ok (.new 116, 3)) (hu : ClassFile.decode M.2.1 (pc + 3) = .ok (.dup, 1)) (hi : ClassFile.decode M.2.1 (pc + 4) = .ok (.invokespecial 118, 3)) (ha : ClassFile.decode M.2.1 (pc + 7) = .ok (.athrow, 1)) (hml : ml.length = M.2.2.1) (hd : 6 ≤ d)
    (hΘ : Θ (K, R, I, L, x + 1)) (hmc : mc = K.length - σ0.1.length + (x + 1)) (hms : ms = mo_sz K - mo_sz σ0.1 + 6 * (x + 1)) : mo_JQ l M d mc ms al σ0 (mo_TQ σ0 mc ms Θ) (pc, ml, [], (K, R, I, L, x)) := by
  intro p e s m args below meth c D cA ad J H locs ls hR hS hL
  obtain ⟨⟨hx, hb, hown, hts, hKK, hN, hA, hSt, -, -⟩, hmaxL, -, hlocks, -, -, hnamed⟩ := J
  obtain ⟨hP, hD, r1, r2, r3, h00⟩ := hR
  have r2 : σ0.1.length ≤ K.length := r2
  have r3 : mo_sz σ0.1 ≤ mo_sz K := r3
  intro T hT X
  have hcells : K.length - σ0.1.length + x ≤ (mo_rm d mc ms).cells := by show _ ≤ mc; omega
  have hslots : mo_sz K - mo_sz σ0.1 + 6 * x ≤ (mo_rm d mc ms).slots := by show _ ≤ ms; omega
  have Y := mo_rebase X hcells hslots
  generalize hs' : T.setFrames (.invoking m args :: below) = s' at Y
  have hvm : s'.vm = T.vm := by rw [← hs']; rfl
  have hhp : s'.heap = T.heap := by rw [← hs']; rfl
  have hW : s.WarmedH s'.vm := by rw [hvm]; exact X.warmed
  have hts' : ∀ w ∈ mo_ws, w.before args s' = true := fun w hw => word_at hW (mo_ws_self w hw).2 (hts w hw)
  have hown' : s'.vm.findClass M.1.cls = some m.cls := by rw [hW.alike.findClass]; exact hown
  rw [hcls] at hown'
  have hq0 : ∀ a : Nat, a < s.heap.size → ¬ (va_A (mo_w cA ad σ0) s.heap.size) a → T.heap[a]? = s.heap[a]? := fun a g1 g2 => by rw [hT]; exact hS.2.1 a g1 g2
  obtain ⟨-, -, -, -, ⟨v5, g5, h5⟩, ⟨v6, g6, h6⟩⟩ := hSt
  have z5 := mo_LZ.moved hW.alike (mo_LZ.kept h5 hq0)
  have z6 := mo_LZ.moved hW.alike (mo_LZ.kept h6 hq0)
  rw [← hhp] at z5 z6
  have hat : ∀ w ∈ Bundle.ownAtoms0 "GateNames" 118 mo_NSE mo_chain, w.before args s' = true := by
    intro w hw
    have h := List.all_eq_true.mp mo_thr w hw
    rw [Bool.or_eq_true] at h
    rcases h with h | h
    · have hw2 : (w = .isRef (.static Bundle.tN "UNASSIGNED_STACK" Bundle.steD) ∨ w = .isRef (.static Bundle.tN "SUPPRESSED_SENTINEL" Bundle.listD)) ∨ (w = .laysStatic Bundle.tN "UNASSIGNED_STACK" Bundle.steD ∨ w = .laysStatic Bundle.tN "SUPPRESSED_SENTINEL" Bundle.listD) := by
        cases w with
        | isRef t => left; simpa [Bundle.ownAtoms0, Bundle.throwableAtoms, Bundle.chain0Atoms, Bundle.passAtoms, mo_chain] using hw
        | laysStatic a b c => right; simpa [Bundle.ownAtoms0, Bundle.throwableAtoms, Bundle.chain0Atoms, Bundle.passAtoms, mo_chain] using hw
        | _ => cases h
      rcases hw2 with (rfl | rfl) | (rfl | rfl)
      · exact z5.isRef g5
      · exact z6.isRef g6
      · exact z5.lays
      · exact z6.lays
    · rw [Bool.or_eq_true] at h
      rcases h with h | h
      · exact hts' w (mo_in_ws h)
      · have hw3 := of_decide_eq_true h
        exact va_Nw.use (mo_nest_on hw3) (mo_nest_warm hw3 hW (hN w hw3))
  have htr := Launch.traces_off hfl X.admits
  have h2 := mo_thr2
  simp only [Bool.and_eq_true] at h2
  obtain ⟨cC, kC, hfC, hkC, -⟩ := Cond.instantiable_spec (hts' _ (mo_in_ws h2.2.1))
  -- no handlers
  obtain ⟨meth', c', hm', hc', -, -, -, -, he', -⟩ := Cond.code_spec hnamed (hts _ hcd)
  have em : meth' = meth := Option.some.inj (hm'.symm.trans X.method)
  subst em
  have ec : c' = c := Option.some.inj (hc'.symm.trans X.code)
  subst ec
  have hout : ∀ (z : ClassFile.ExceptionTableEntry), z ∈ c'.exceptionTable.toList → covers z (pc + 7) = false := by
    intro z hz
    have : c'.exceptionTable.toList = [] := by
      have h : c'.exceptionTable = #[] := by simpa using he'
      rw [h]
    rw [this] at hz
    cases hz
  -- the walk from here
  have key : W p l e { frames := (mo_rm d mc ms).frames, cells := (mo_rm d mc ms).cells - (K.length - σ0.1.length + x), slots := (mo_rm d mc ms).slots - (mo_sz K - mo_sz σ0.1 + 6 * x), locals := (mo_rm d mc ms).locals } s' m args below meth' c' T.heap [] 0 0 (fun U => ∃ ce, U.status = .running ∧ Ended U below (.threw T.heap.size) ∧ s'.WarmedH U.vm ∧ s'.sameButNew ({ U with vm := s'.vm } : State) [] 1 6 ∧ U.heap[T.heap.size]? = some ce ∧ Bundle.OwnCell args s' mo_NSE T.heap.size .null ce) (F0 m pc ls []) := by
    refine W.newcK hx hb hown' (hts' _ (mo_in_ws h2.1)) (hts' _ (mo_in_ws h2.2.1)) (hts' _ (mo_in_ws h2.2.2)) rfl hn (by show 0 + 1 ≤ mc - _; omega) (by show 0 + 6 ≤ ms - _; omega) hfC rfl (fun H1 kC2 hkC2 e1 z1 o1 => ?_)
    have ek : kC2 = kC := Option.some.inj (hkC2.symm.trans hkC)
    subst ek
    refine lv_dup hx hb hu rfl ?_
    intro T2 hT2 X2
    obtain ⟨U, u1, u2, u3, u4, u5, ce, u6, u7⟩ := X2.ctorThrow0 hx htr (own := "GateNames") (cls := mo_NSE) (names := mo_chain) (ic := 118) hown' (by decide +kernel) (by decide +kernel) hat (fun z hz => by cases hz) hfC hkC (a := T.heap.size) (by rw [hT2]; exact e1) (by rw [hhp]; exact Nat.le_refl _) (g := F0 m (pc + 4) ls [.ref T.heap.size, .ref T.heap.size]) rfl (by show ls.size = _; rw [hL.1, hml, hmaxL]) rfl rfl (rest := []) rfl (by rw [hb]; exact hi) (by rw [hb]; exact ha) hout (by show 2 + 3 < d; omega) (by show 2 * 0 + (1 + 0) + (13 * (2 + 1) + 41) ≤ 100 * (d + 1); omega) hlocks
    exact ⟨U, u1, ce, u2, u3, u4, u5, u6, u7⟩
  obtain ⟨U, u1, ce, u2, u3, u4, u5, u6, u7⟩ := key T rfl Y
  refine ⟨U, u1, ?_⟩
  have hold : ∀ (q : Nat) (cell : Cell), T.heap[q]? = some cell → U.heap[q]? = some cell := fun q cell hc => u5.old_cell (by rw [hhp]; exact hc)
  have hsz : T.heap.size ≤ U.heap.size := by have := u5.2.1; rw [hhp] at this; exact this
  have h3 : T.sameButNew (U.setVm T.vm) [] 1 6 := by
    rw [← hs'] at u5
    obtain ⟨q1, q2⟩ := u5
    rw [State.setFrames_setFrames] at q1
    exact ⟨q1, q2⟩
  have h4 := X.same.trans (h3.setVm s.vm)
  refine ⟨T.heap.size, ce, locs, (K, R, I, L, x + 1), u2, u3, State.WarmedH.trans X.warmed (by rw [← hs'] at u4; exact u4), ?_, hS.2.2, u6, u7.vm, ?_, ?_, hΘ, ⟨?_, hD, r1, r2, r3, h00⟩, ?_, hmc, hms⟩
  · rw [List.append_nil] at h4
    rw [hmc, hms]
    exact h4
  · have := u7.cls
    rw [hW.alike.findClass] at this
    exact this
  · have := u7.self
    rw [hW.alike.assignable] at this
    exact this
  · refine hP.kept (fun k q hk => ?_)
    have hlt := (hP k q hk).lt
    rw [← hT] at hlt ⊢
    obtain ⟨cell, hcell⟩ : ∃ cell, T.heap[q.1]? = some cell := ⟨_, Array.getElem?_eq_getElem hlt⟩
    rw [hold _ _ hcell, hcell]
  · refine ⟨?_, fun q g1 g2 => ?_⟩
    · have := hS.1
      rw [← hT] at this
      omega
    · have e1 := hq0 q g1 g2
      have hlt : q < T.heap.size := by
        have := hS.1
        rw [← hT] at this
        omega
      rw [hold q _ (Array.getElem?_eq_getElem hlt), ← e1, Array.getElem?_eq_getElem hlt]
end J
