/-! Contracts of methods over small states; returns, calls. -/
/-- a method: its name, its bytes, its locals, what it returns -/
abbrev mo_M : Type := MethodName × ByteArray × Nat × Option ClassFile.FieldType
def mo_rm (d mc ms : Nat) : Room := { frames := d, cells := mc, slots := ms, locals := 100 * (d + 1) }
def mo_Xo (al : Bool) (mc ms : Nat) (σ : mo_S) : mo_X := match al with
  | true => (0, fun _ => 0, σ.1.length + mc, mo_sz σ.1 + ms)
  | false => (0, fun _ => 0, 0, 0)
def mo_Ev (D : va_G) (cA : Nat → ClassId) (ad : Nat → Nat) (A : Nat → Prop) (al : Bool) (n : Nat) (U : State) : Prop :=
  va_K D mo_cls (mo_tys cA) U ∧ (∀ w ∈ mo_nest, va_Nw w U) ∧ mo_St ad A U ∧ (al = true → (∀ j, n + j < 1000000 → ad (n + j) = U.heap.size + j) ∧ va_AO "GateNames$Town" U)
def mo_Qc (D : va_G) (cA : Nat → ClassId) (ad : Nat → Nat) (A : Nat → Prop) (σ : mo_S) (mc ms : Nat) (Ψ : Option Value → mo_S → Prop) : Array Value → State → Outcome → State → Prop := fun _ st o t =>
  (∃ (r : Option Value) (σ' : mo_S), o = .returned (r.map (mo_tr ad)) ∧ Ψ r σ' ∧ mo_Rel D cA ad A σ.1.length (mo_sz σ.1) σ' t.heap ∧ mc = σ'.1.length - σ.1.length + σ'.2.2.2.2 ∧ ms = mo_sz σ'.1 - mo_sz σ.1 + 6 * σ'.2.2.2.2) ∧ va_F A st t
def mo_Pc (D : va_G) (cA : Nat → ClassId) (ad : Nat → Nat) (sz : Nat) (al : Bool) (av : List Value) (σ : mo_S) : Array Value → State → Prop :=
  va_Pc (av.map (mo_tr ad)) (fun U => U.heap.size = sz ∧ mo_Ev D cA ad (va_A (mo_w cA ad σ) sz) al σ.1.length U ∧ mo_Rel D cA ad (va_A (mo_w cA ad σ) sz) σ.1.length (mo_sz σ.1) σ U.heap)
/-- THE CONTRACT: method M, in d frames, with at most mc cells of ms places made, called with av over σ, returns r over σ' with Ψ -/
def mo_C (l : Launch) (M : mo_M) (d mc ms : Nat) (al : Bool) (av : List Value) (σ : mo_S) (Ψ : Option Value → mo_S → Prop) : Prop :=
  ∀ (D : va_G) (cA : Nat → ClassId) (ad : Nat → Nat) (sz : Nat), Met l M.1 (Cond.code M.1 M.2.1 M.2.2.1 M.2.2.2 :: mo_ws) (mo_rm d mc ms) (mo_Pc D cA ad sz al av σ) (mo_Qc D cA ad (va_A (mo_w cA ad σ) sz) σ mc ms Ψ) mc ms (va_A (mo_w cA ad σ) sz)
def mo_Jc (M : mo_M) (d mc ms : Nat) (al : Bool) (σ0 : mo_S) (p : Program) (s : State) (m : MethodId) (args : Array Value) (meth : Method) (c : Code) (D : va_G) (cA : Nat → ClassId) (ad : Nat → Nat) : Prop :=
  mo_Cx p (mo_rm d mc ms) s m args c D cA ad (va_A (mo_w cA ad σ0) s.heap.size) σ0.1.length (mo_sz σ0.1) (mo_Xo al mc ms σ0) M.1.cls M.2.1 ∧ c.maxLocals = M.2.2.1 ∧ meth.sig.returnType = M.2.2.2 ∧ meth.locks = false ∧ meth.name = M.1.name ∧ (al = true → (∀ j, σ0.1.length + j < 1000000 → ad (σ0.1.length + j) = s.heap.size + j) ∧ va_AO "GateNames$Town" s) ∧ s.methodNamed? M.1 = some m
/-- what a run of the body may end in -/
abbrev mo_QQ : Type := List Frame → State → Array Value → va_G → (Nat → ClassId) → (Nat → Nat) → State → Prop
/-- at a small state within the method's body: it comes to such an end, in whatever surroundings -/
def mo_JQ (l : Launch) (M : mo_M) (d mc ms : Nat) (al : Bool) (σ0 : mo_S) (QQ : mo_QQ) (f : mo_F) : Prop :=
  ∀ (p : Program) (e : Env) (s : State) (m : MethodId) (args : Array Value) (below : List Frame) (meth : Method) (c : Code) (D : va_G) (cA : Nat → ClassId) (ad : Nat → Nat), mo_Jc M d mc ms al σ0 p s m args meth c D cA ad →
    mo_G p l e (mo_rm d mc ms) s m args below meth c (QQ below s args D cA ad) D cA ad (va_A (mo_w cA ad σ0) s.heap.size) σ0.1.length (mo_sz σ0.1) f
/-- it returns, as told -/
def mo_MQ (σ0 : mo_S) (mc ms : Nat) (Ψ : Option Value → mo_S → Prop) : mo_QQ := fun below s args D cA ad => MQ below (mo_Qc D cA ad (va_A (mo_w cA ad σ0) s.heap.size) σ0 mc ms Ψ) args s mc ms (va_A (mo_w cA ad σ0) s.heap.size)
abbrev mo_J (l : Launch) (M : mo_M) (d mc ms : Nat) (al : Bool) (σ0 : mo_S) (Ψ : Option Value → mo_S → Prop) (f : mo_F) : Prop := mo_JQ l M d mc ms al σ0 (mo_MQ σ0 mc ms Ψ) f
section K
variable {p : Program} {l : Launch} {e : Env} {R : Room} {s : State} {m : MethodId} {args : Array Value} {below : List Frame} {meth : Method} {c : Code} {Q : State → Prop} {D : va_G} {cA : Nat → ClassId} {ad : Nat → Nat} {A : Nat → Prop} {k0 z0 : Nat} {X : mo_X}
theorem mo_wp_soundK {own : String} {ini : Bool} {cc : ByteArray} {code : List (Nat × mo_I)} (hC : mo_Cx p R s m args c D cA ad A k0 z0 X own cc) (hini : ini = true → meth.name = "<init>") (hok : code.all (mo_chk own ini cc) = true) (cuts : List Nat) {k : mo_F → Prop} (hk : ∀ f, k f → mo_G p l e R s m args below meth c Q D cA ad A k0 z0 f) : ∀ (n : Nat) (f : mo_F), mo_wp X code cuts n f k → mo_G p l e R s m args below meth c Q D cA ad A k0 z0 f
  | 0, f, h => hk f h
  | n + 1, (pc, ml, st, σ), h => by
    unfold mo_wp at h
    split at h
    · exact hk _ h
    · split at h
      · exact hk _ h
      · rename_i i hat
        split at h
        · exact hk _ h
        · rename_i T hst
          exact mo_sound hC hini hok hat hst h (fun f hf => mo_wp_soundK hC hini hok cuts hk n f hf)
theorem mo_wq_soundK {own : String} {ini : Bool} {cc : ByteArray} {code : List (Nat × mo_I)} (hC : mo_Cx p R s m args c D cA ad A k0 z0 X own cc) (hini : ini = true → meth.name = "<init>") (hok : code.all (mo_chk own ini cc) = true) (cuts : List Nat) {k : mo_F → Prop} (hk : ∀ f, k f → mo_G p l e R s m args below meth c Q D cA ad A k0 z0 f) (n : Nat) (f : mo_F) (h : mo_wq X code cuts n f k) : mo_G p l e R s m args below meth c Q D cA ad A k0 z0 f := by
  obtain ⟨pc, ml, st, σ⟩ := f
  unfold mo_wq at h
  dsimp only at h
  split at h
  · exact hk _ h
  · rename_i i hat
    split at h
    · exact hk _ h
    · rename_i T hst
      exact mo_sound hC hini hok hat hst h (fun f hf => mo_wp_soundK hC hini hok cuts hk n f hf)
theorem mo_St.moved {u U : State} (hvm : u.vm.Alike U.vm) (hh : U.heap = u.heap) (h : mo_St ad A u) : mo_St ad A U := by
  obtain ⟨h1, h2, h3, h4, ⟨v5, g5, h5⟩, ⟨v6, g6, h6⟩⟩ := h
  refine ⟨?_, ?_, ?_, ?_, ⟨v5, g5, ?_⟩, ⟨v6, g6, ?_⟩⟩
  · rw [hh]; exact va_Z.moved hvm h1
  · rw [hh]; exact va_T.moved hvm h2
  · rw [hh]; exact va_Z.moved hvm h3
  · rw [hh]; exact va_T.moved hvm h4
  · rw [hh]; exact mo_LZ.moved hvm h5
  · rw [hh]; exact mo_LZ.moved hvm h6
theorem mo_nest_on {w : Jvm.Cond} (h : w ∈ mo_nest) : w.onTables = true := by
  have h := (List.mem_filter.mp h).2
  cases w <;> first | rfl | (simp [mo_isNest] at h)
theorem mo_nest_warm {w : Jvm.Cond} (h : w ∈ mo_nest) {U : State} (hW : s.WarmedH U.vm) (hZ : va_Nw w s) : va_Nw w U := by
  have h := (List.mem_filter.mp h).2
  cases w <;> first | exact va_Nw.warmF hW hZ | exact va_Nw.warmM hW hZ | exact va_Nw.warmD hW hZ | exact va_Nw.warmC hW hZ | (simp [mo_isNest] at h)
theorem mo_Pc_blind {sz : Nat} {al : Bool} {av : List Value} {σ : mo_S} : FrameBlind (mo_Pc D cA ad sz al av σ) := by
  intro a U g mk q
  obtain ⟨q1, q2, ⟨v1, v2, v3, v4⟩, q4⟩ := q
  exact ⟨q1, q2, ⟨va_K.moved (u := U) (U := U.calling g mk a) (Vm.Alike.refl U.vm) v1, fun w hw => va_Nw.same (mo_nest_on hw) (u := U) (U := U.calling g mk a) rfl (v2 w hw), mo_St.moved (u := U) (U := U.calling g mk a) (Vm.Alike.refl U.vm) rfl v3, fun h => ⟨(v4 h).1, va_AO.moved (u := U) (U := U.calling g mk a) (Vm.Alike.refl U.vm) (v4 h).2⟩⟩, q4⟩
/-- what may change in a call may change in the caller -/
theorem mo_AA {σ1 : mo_S} {H : Heap} {locs : List Loc} (hD : va_D A (mo_w cA ad σ1)) (hA : ∀ q, s.heap.size ≤ q → A q) (hS : va_S A s.heap H locs) : ∀ q, va_A (mo_w cA ad σ1) H.size q → A q := by
  intro q hq
  rcases hq with ⟨k, en, h⟩ | h
  · exact hD.2 k _ h
  · exact hA q (Nat.le_trans hS.1 h)
theorem mo_St.call {H : Heap} {locs : List Loc} {B : Nat → Prop} {U : State} (h : mo_St ad A s) (hS : va_S A s.heap H locs) (hB : ∀ q, B q → A q) (hU : U.heap = H) (hW : s.WarmedH U.vm) : mo_St ad B U := by
  obtain ⟨h1, h2, h3, h4, ⟨v5, g5, h5⟩, ⟨v6, g6, h6⟩⟩ := h
  have hq : ∀ a : Nat, a < s.heap.size → ¬ A a → H[a]? = s.heap[a]? := fun a g1 g2 => hS.2.1 a g1 g2
  refine ⟨?_, ?_, ?_, ?_, ⟨v5, g5, ?_⟩, ⟨v6, g6, ?_⟩⟩
  · rw [hU]; exact va_Z.moved hW.alike ((va_Z.kept h1 hq).narrow hB)
  · rw [hU]; exact va_T.moved hW.alike ((va_T.kept h2 hq).narrow hB)
  · rw [hU]; exact va_Z.moved hW.alike ((va_Z.kept h3 hq).narrow hB)
  · rw [hU]; exact va_T.moved hW.alike ((va_T.kept h4 hq).narrow hB)
  · rw [hU]; exact mo_LZ.moved hW.alike ((mo_LZ.kept h5 hq).narrow hB)
  · rw [hU]; exact mo_LZ.moved hW.alike ((mo_LZ.kept h6 hq).narrow hB)
/-- the start of a call -/
theorem mo_Pc_call {al : Bool} {av : List Value} {K : mo_K} {RR : Nat → Nat → Nat} {I : Nat → Nat → Int32} {L : Nat → Nat → Int64} {x : Nat} {H : Heap} {locs : List Loc} {own : String} {cc : ByteArray} (hC : mo_Cx p R s m args c D cA ad A k0 z0 X own cc) (hR : mo_Rel D cA ad A k0 z0 (K, RR, I, L, x) H) (hS : va_S A s.heap H locs) (hal : al = true → (∀ j, K.length + j < 1000000 → ad (K.length + j) = H.size + j) ∧ va_AO "GateNames$Town" s) {U : State} (hU : U.heap = H) (hW : s.WarmedH U.vm) :
    mo_Pc D cA ad H.size al av (K, RR, I, L, 0) (av.map (mo_tr ad)).toArray U := by
  obtain ⟨hx, hb, hown, hts, hK, hN, hA, hSt, -, -⟩ := hC
  obtain ⟨hP, hD, r1, r2, r3, h00⟩ := hR
  have r2 : k0 ≤ K.length := r2
  have hAA := mo_AA (σ1 := (K, RR, I, L, 0)) (cA := cA) (ad := ad) (A := A) (s := s) hD hA hS
  refine ⟨rfl, by rw [hU], ⟨va_K.moved hW.alike hK, fun w hw => mo_nest_warm hw hW (hN w hw), mo_St.call hSt hS hAA hU hW, fun h => ⟨by rw [hU]; exact (hal h).1, va_AO.moved hW.alike (hal h).2⟩⟩, ?_⟩
  rw [hU]
  exact ⟨hP, hD.self, by show 1 ≤ K.length; omega, Nat.le_refl _, Nat.le_refl _, h00⟩
/-- behind a call -/
theorem mo_after {K : mo_K} {RR : Nat → Nat → Nat} {I : Nat → Nat → Int32} {L : Nat → Nat → Int64} {x pc : Nat} {ml : mo_L} {rest : List Value} {H : Heap} {locs : List Loc} {ls : Array Slot} {own : String} {cc : ByteArray} {mc ms : Nat} {Ψ : Option Value → mo_S → Prop} {a : Array Value} {st0 : List Value}
    (hC : mo_Cx p R s m args c D cA ad A k0 z0 X own cc) (hR : mo_Rel D cA ad A k0 z0 (K, RR, I, L, x) H) (hS : va_S A s.heap H locs) (hL : mo_LR ad ls ml)
    (hr : va_Run p l e R s m args below meth c H locs (K.length - k0 + x) (mo_sz K - z0 + 6 * x) mc ms (F0 m pc ls st0) (rest.map (mo_tr ad)) (mo_Qc D cA ad (va_A (mo_w cA ad (K, RR, I, L, 0)) H.size) (K, RR, I, L, 0) mc ms Ψ a) (va_A (mo_w cA ad (K, RR, I, L, 0)) H.size))
    (kk : ∀ (r : Option Value) (K2 : mo_K) (R2 : Nat → Nat → Nat) (I2 : Nat → Nat → Int32) (L2 : Nat → Nat → Int64) (x2 : Nat), Ψ r (K2, R2, I2, L2, x2) → mo_G p l e R s m args below meth c Q D cA ad A k0 z0 (pc + 3, ml, r.toList ++ rest, (K2, R2, I2, L2, x + x2))) :
    W p l e R s m args below meth c H locs (K.length - k0 + x) (mo_sz K - z0 + 6 * x) Q (F0 m pc ls st0) := by
  obtain ⟨hx, hb, hown, hts, hK, hN, hA, hSt, -, -⟩ := hC
  obtain ⟨hP, hD, r1, r2, r3, h00⟩ := hR
  have r2 : k0 ≤ K.length := r2
  have r3 : z0 ≤ mo_sz K := r3
  have hAA := mo_AA (σ1 := (K, RR, I, L, 0)) (cA := cA) (ad := ad) (A := A) (s := s) hD hA hS
  intro T hT Z
  obtain ⟨v, st₀, t, T', LL, h0, Z', hLL, e1, e2, ⟨⟨r, ⟨K2, R2, I2, L2, x2⟩, hv, hΨ, hRel, hmc, hms⟩, hz, hk⟩, st⟩ := hr T hT Z
  rw [h0] at hz hk
  have hv : v = r.map (mo_tr ad) := by cases hv; rfl
  subst hv
  obtain ⟨hP2, hD2, q1, q2, q3, q4⟩ := hRel
  have q2 : K.length ≤ K2.length := q2
  have q3 : mo_sz K ≤ mo_sz K2 := q3
  have hmc : mc = K2.length - K.length + x2 := hmc
  have hms : ms = mo_sz K2 - mo_sz K + 6 * x2 := hms
  have hS' : va_S A s.heap T'.heap (locs ++ LL) := ⟨Nat.le_trans hS.1 (by rw [e1]; exact hz), fun q h1 h2 => by rw [e1, hk q (Nat.lt_of_lt_of_le h1 hS.1) (fun z => h2 (hAA q z))]; exact hS.2.1 q h1 h2, fun q hq => by
      rcases List.mem_append.mp hq with h | h
      · exact hS.2.2 q h
      · exact hAA _ (hLL q h)⟩
  have g := kk r K2 R2 I2 L2 x2 hΨ T'.heap (locs ++ LL) ls ⟨by rw [e1]; exact hP2, hD2.weaken (fun _ _ _ z => hAA _ z), r1, by show k0 ≤ K2.length; omega, by show z0 ≤ mo_sz K2; omega, q4⟩ hS' hL
  have g : W p l e R s m args below meth c T'.heap (locs ++ LL) (K2.length - k0 + (x + x2)) (mo_sz K2 - z0 + 6 * (x + x2)) Q (F0 m (pc + 3) ls ((r.toList ++ rest).map (mo_tr ad))) := g
  rw [show K2.length - k0 + (x + x2) = K.length - k0 + x + mc by omega, show mo_sz K2 - z0 + 6 * (x + x2) = mo_sz K - z0 + 6 * x + ms by omega, List.map_append, show r.toList.map (mo_tr ad) = (r.map (mo_tr ad)).toList by cases r <;> rfl] at g
  obtain ⟨t2, a1, b1⟩ := g T' rfl Z'
  exact ⟨t2, st t2 a1, b1⟩
end K
theorem mo_W_mono {p : Program} {l : Launch} {e : Env} {R : Room} {s : State} {m : MethodId} {args : Array Value} {below : List Frame} {meth : Method} {c : Code} {H : Heap} {locs : List Loc} {cells slots : Nat} {Q Q' : State → Prop} {g : JFrame} (h : ∀ t, Q t → Q' t) (k : W p l e R s m args below meth c H locs cells slots Q g) : W p l e R s m args below meth c H locs cells slots Q' g := fun T hT X => by
  obtain ⟨t, a, b⟩ := k T hT X
  exact ⟨t, a, h t b⟩
section J
variable {l : Launch} {M : mo_M} {d mc ms : Nat} {al : Bool} {σ0 : mo_S} {Ψ : Option Value → mo_S → Prop} {QQ : mo_QQ}
/-- RULE: walk on -/
theorem mo_J_run {code : List (Nat × mo_I)} {ini : Bool} (hok : code.all (mo_chk M.1.cls ini M.2.1) = true) (hini : ini = true → M.1.name = "<init>") (cuts : List Nat) (n : Nat) (f : mo_F) (h : mo_wq (mo_Xo al mc ms σ0) code cuts n f (mo_JQ l M d mc ms al σ0 QQ)) : mo_JQ l M d mc ms al σ0 QQ f :=
  fun p e s m args below meth c D cA ad J => mo_wq_soundK J.1 (fun h => by rw [J.2.2.2.2.1]; exact hini h) hok cuts (fun f hf => hf p e s m args below meth c D cA ad J) n f h
/-- RULE: fewer locals -/
theorem mo_J_fewer {pc : Nat} {ml ml' : mo_L} {st : List Value} {σ : mo_S} (hlen : ml'.length = ml.length) (h : ∀ (i : Nat) (v : Value), ml'[i]? = some (some v) → ml[i]? = some (some v)) (k : mo_JQ l M d mc ms al σ0 QQ (pc, ml', st, σ)) : mo_JQ l M d mc ms al σ0 QQ (pc, ml, st, σ) :=
  fun p e s m args below meth c D cA ad J => mo_fewer hlen h (k p e s m args below meth c D cA ad J)
theorem mo_J_wide {pc : Nat} {ml : mo_L} {st : List Value} {K : mo_K} {R : Nat → Nat → Nat} {I : Nat → Nat → Int32} {L : Nat → Nat → Int64} {x x' : Nat} (hx : x ≤ x') (k : mo_JQ l M d mc ms al σ0 QQ (pc, ml, st, (K, R, I, L, x'))) : mo_JQ l M d mc ms al σ0 QQ (pc, ml, st, (K, R, I, L, x)) :=
  fun p e s m args below meth c D cA ad J H locs ls hR hS hL => W.widen (k := K.length - σ0.1.length + x') (n := mo_sz K - mo_sz σ0.1 + 6 * x') (by show K.length - σ0.1.length + x ≤ _; omega) (by show mo_sz K - mo_sz σ0.1 + 6 * x ≤ _; omega) (k p e s m args below meth c D cA ad J H locs ls hR hS hL)
section R
variable {pc : Nat} {ml : mo_L} {K : mo_K} {R : Nat → Nat → Nat} {I : Nat → Nat → Int32} {L : Nat → Nat → Int64} {x : Nat}
/-- RULES: the returns -/
theorem mo_J_iret {v : Int32} (hd : ClassFile.decode M.2.1 pc = .ok (.ireturn, 1)) (hr : M.2.2.2 = some .int) (hΨ : Ψ (some (.int v)) (K, R, I, L, x)) (hmc : mc = K.length - σ0.1.length + x) (hms : ms = mo_sz K - mo_sz σ0.1 + 6 * x) (hQ : ∀ below s args D cA ad t, mo_MQ σ0 mc ms Ψ below s args D cA ad t → QQ below s args D cA ad t) : mo_JQ l M d mc ms al σ0 QQ (pc, ml, [.int v], (K, R, I, L, x)) := by
  intro p e s m args below meth c D cA ad J H locs ls hR hS hL
  obtain ⟨⟨hx, hb, -⟩, -, hret, hlocks, -⟩ := J
  have g := W.iret (p := p) (l := l) (e := e) (R := mo_rm d mc ms) (s := s) (m := m) (args := args) (below := below) (meth := meth) (c := c) (H := H) (locs := locs) (cells := mc) (slots := ms) (Qc := mo_Qc D cA ad (va_A (mo_w cA ad σ0) s.heap.size) σ0 mc ms Ψ) (free := va_A (mo_w cA ad σ0) s.heap.size) (v := v) (ls := ls) hx hb (hret.trans hr) (fun t ht hW => ⟨⟨some (.int v), (K, R, I, L, x), rfl, hΨ, by rw [ht]; exact hR, hmc, hms⟩, hS.F ht⟩) hS.2.2 hd hlocks
  have e1 : K.length - σ0.1.length + x = mc := hmc.symm
  have e2 : mo_sz K - mo_sz σ0.1 + 6 * x = ms := hms.symm
  refine mo_W_mono (fun t ht => hQ below s args D cA ad t ht) ?_
  show W p l e (mo_rm d mc ms) s m args below meth c H locs (K.length - σ0.1.length + x) (mo_sz K - mo_sz σ0.1 + 6 * x) _ _
  rw [e1, e2]
  exact g
theorem mo_J_zret {v : Int32} (hd : ClassFile.decode M.2.1 pc = .ok (.ireturn, 1)) (hr : M.2.2.2 = some .boolean) (h01 : v = 0 ∨ v = 1) (hΨ : Ψ (some (.int v)) (K, R, I, L, x)) (hmc : mc = K.length - σ0.1.length + x) (hms : ms = mo_sz K - mo_sz σ0.1 + 6 * x) (hQ : ∀ below s args D cA ad t, mo_MQ σ0 mc ms Ψ below s args D cA ad t → QQ below s args D cA ad t) : mo_JQ l M d mc ms al σ0 QQ (pc, ml, [.int v], (K, R, I, L, x)) := by
  intro p e s m args below meth c D cA ad J H locs ls hR hS hL
  obtain ⟨⟨hx, hb, -⟩, -, hret, hlocks, -⟩ := J
  have g := W.zret (p := p) (l := l) (e := e) (R := mo_rm d mc ms) (s := s) (m := m) (args := args) (below := below) (meth := meth) (c := c) (H := H) (locs := locs) (cells := mc) (slots := ms) (Qc := mo_Qc D cA ad (va_A (mo_w cA ad σ0) s.heap.size) σ0 mc ms Ψ) (free := va_A (mo_w cA ad σ0) s.heap.size) (v := v) (ls := ls) (ty := .boolean) hx hb (hret.trans hr) (by rcases h01 with rfl | rfl <;> decide) (fun t ht hW => ⟨⟨some (.int v), (K, R, I, L, x), rfl, hΨ, by rw [ht]; exact hR, hmc, hms⟩, hS.F ht⟩) hS.2.2 hd hlocks
  have e1 : K.length - σ0.1.length + x = mc := hmc.symm
  have e2 : mo_sz K - mo_sz σ0.1 + 6 * x = ms := hms.symm
  refine mo_W_mono (fun t ht => hQ below s args D cA ad t ht) ?_
  show W p l e (mo_rm d mc ms) s m args below meth c H locs (K.length - σ0.1.length + x) (mo_sz K - mo_sz σ0.1 + 6 * x) _ _
  rw [e1, e2]
  exact g
theorem mo_J_lret {v : Int64} (hd : ClassFile.decode M.2.1 pc = .ok (.lreturn, 1)) (hr : M.2.2.2 = some .long) (hΨ : Ψ (some (.long v)) (K, R, I, L, x)) (hmc : mc = K.length - σ0.1.length + x) (hms : ms = mo_sz K - mo_sz σ0.1 + 6 * x) (hQ : ∀ below s args D cA ad t, mo_MQ σ0 mc ms Ψ below s args D cA ad t → QQ below s args D cA ad t) : mo_JQ l M d mc ms al σ0 QQ (pc, ml, [.long v], (K, R, I, L, x)) := by
  intro p e s m args below meth c D cA ad J H locs ls hR hS hL
  obtain ⟨⟨hx, hb, -⟩, -, hret, hlocks, -⟩ := J
  have g := W.lret (p := p) (l := l) (e := e) (R := mo_rm d mc ms) (s := s) (m := m) (args := args) (below := below) (meth := meth) (c := c) (H := H) (locs := locs) (cells := mc) (slots := ms) (Qc := mo_Qc D cA ad (va_A (mo_w cA ad σ0) s.heap.size) σ0 mc ms Ψ) (free := va_A (mo_w cA ad σ0) s.heap.size) (v := v) (ls := ls) hx hb (hret.trans hr) (fun t ht hW => ⟨⟨some (.long v), (K, R, I, L, x), rfl, hΨ, by rw [ht]; exact hR, hmc, hms⟩, hS.F ht⟩) hS.2.2 hd hlocks
  have e1 : K.length - σ0.1.length + x = mc := hmc.symm
  have e2 : mo_sz K - mo_sz σ0.1 + 6 * x = ms := hms.symm
  refine mo_W_mono (fun t ht => hQ below s args D cA ad t ht) ?_
  show W p l e (mo_rm d mc ms) s m args below meth c H locs (K.length - σ0.1.length + x) (mo_sz K - mo_sz σ0.1 + 6 * x) _ _
  rw [e1, e2]
  exact g
theorem mo_J_vret (hd : ClassFile.decode M.2.1 pc = .ok (.return_, 1)) (hr : M.2.2.2 = none) (hΨ : Ψ none (K, R, I, L, x)) (hmc : mc = K.length - σ0.1.length + x) (hms : ms = mo_sz K - mo_sz σ0.1 + 6 * x) (hQ : ∀ below s args D cA ad t, mo_MQ σ0 mc ms Ψ below s args D cA ad t → QQ below s args D cA ad t) : mo_JQ l M d mc ms al σ0 QQ (pc, ml, [], (K, R, I, L, x)) := by
  intro p e s m args below meth c D cA ad J H locs ls hR hS hL
  obtain ⟨⟨hx, hb, -⟩, -, hret, hlocks, -⟩ := J
  have g := W.vret (p := p) (l := l) (e := e) (R := mo_rm d mc ms) (s := s) (m := m) (args := args) (below := below) (meth := meth) (c := c) (H := H) (locs := locs) (cells := mc) (slots := ms) (Qc := mo_Qc D cA ad (va_A (mo_w cA ad σ0) s.heap.size) σ0 mc ms Ψ) (free := va_A (mo_w cA ad σ0) s.heap.size) (ls := ls) hx hb (hret.trans hr) (fun t ht hW => ⟨⟨none, (K, R, I, L, x), rfl, hΨ, by rw [ht]; exact hR, hmc, hms⟩, hS.F ht⟩) hS.2.2 hd hlocks
  have e1 : K.length - σ0.1.length + x = mc := hmc.symm
  have e2 : mo_sz K - mo_sz σ0.1 + 6 * x = ms := hms.symm
  refine mo_W_mono (fun t ht => hQ below s args D cA ad t ht) ?_
  show W p l e (mo_rm d mc ms) s m args below meth c H locs (K.length - σ0.1.length + x) (mo_sz K - mo_sz σ0.1 + 6 * x) _ _
  rw [e1, e2]
  exact g
end R
/-- the locals with which a method begins -/
def mo_ea : List Value → mo_L
  | [] => []
  | v :: r => match mo_is2 v with
    | true => some v :: none :: mo_ea r
    | false => some v :: mo_ea r
def mo_ent (av : List Value) (n : Nat) : mo_L := mo_ea av ++ List.replicate (n - (mo_ea av).length) none
theorem mo_is2_eq {ad : Nat → Nat} {v : Value} : (mo_tr ad v).category = if mo_is2 v then 2 else 1 := by
  cases v with
  | ref a => show (if a = 0 then Value.null else Value.ref (ad a)).category = _; split <;> rfl
  | _ => rfl
theorem mo_ea_len {ad : Nat → Nat} : ∀ (av : List Value), (lg_sl (av.map (mo_tr ad))).length = (mo_ea av).length
  | [] => rfl
  | v :: r => by
    have ih := mo_ea_len (ad := ad) r
    unfold lg_sl at ih ⊢
    rw [List.map_cons, List.flatMap_cons, List.length_append, ih, mo_is2_eq]
    have e : mo_ea (v :: r) = (match mo_is2 v with
      | true => some v :: none :: mo_ea r
      | false => some v :: mo_ea r) := rfl
    rw [e]
    cases mo_is2 v <;> simp <;> omega
theorem mo_ea_at {ad : Nat → Nat} : ∀ (av : List Value) (b i : Nat) (v : Value), (mo_ea av)[i]? = some (some v) → (b + i, mo_tr ad v) ∈ lv_args b (av.map (mo_tr ad))
  | [], _, _, _, h => by simp [mo_ea] at h
  | w :: r, b, i, v, h => by
    rw [List.map_cons]
    unfold lv_args
    unfold mo_ea at h
    rw [mo_is2_eq]
    cases hw : mo_is2 w with
    | true =>
      rw [hw] at h
      match i, h with
      | 0, h => cases h; exact List.mem_cons_self
      | 1, h => cases h
      | i + 2, h =>
        have := mo_ea_at (ad := ad) r (b + 2) i v h
        rw [show b + (i + 2) = b + 2 + i by omega]
        exact List.mem_cons_of_mem _ this
    | false =>
      rw [hw] at h
      match i, h with
      | 0, h => cases h; exact List.mem_cons_self
      | i + 1, h =>
        have := mo_ea_at (ad := ad) r (b + 1) i v h
        rw [show b + (i + 1) = b + 1 + i by omega]
        exact List.mem_cons_of_mem _ this
theorem mo_ent_LR {ad : Nat → Nat} {av : List Value} {n : Nat} (h : (mo_ea av).length ≤ n) : mo_LR ad ((lg_sl (av.map (mo_tr ad)) ++ List.replicate (n - (lg_sl (av.map (mo_tr ad))).length) Slot.unset).toArray) (mo_ent av n) := by
  obtain ⟨h1, h2, h3⟩ := lv_entry (av.map (mo_tr ad)) (n := n) (by rw [mo_ea_len]; exact h)
  refine ⟨by rw [h1]; simp [mo_ent]; omega, h2, fun i v hv => ?_⟩
  unfold mo_ent at hv
  by_cases hi : i < (mo_ea av).length
  · rw [List.getElem?_append_left hi] at hv
    have := mo_ea_at (ad := ad) av 0 i v hv
    rw [Nat.zero_add] at this
    exact h3 _ this
  · rw [List.getElem?_append_right (by omega), List.getElem?_replicate] at hv
    split at hv <;> cases hv
/-- RULE: a body makes a contract -/
theorem mo_C_of {av : List Value} {K : mo_K} {R : Nat → Nat → Nat} {I : Nat → Nat → Int32} {L : Nat → Nat → Int64} (hpl : plainFor M.1 = true) (hlen : (mo_ea av).length ≤ M.2.2.1) (hal : al = true → K.length + mc ≤ 1000000) (h : mo_J l M d mc ms al (K, R, I, L, 0) Ψ (0, mo_ent av M.2.2.1, [], (K, R, I, L, 0))) : mo_C l M d mc ms al av (K, R, I, L, 0) Ψ := by
  intro D cA ad sz
  refine va_MetF (cc := M.2.1) (maxL := M.2.2.1) (ret := M.2.2.2) hpl rfl ?_
  intro p e s m args below meth c s₁ B hml hv
  obtain ⟨rfl, hsz, ⟨v1, v2, v3, v4⟩, hRel⟩ := hv
  subst hsz
  have hts := atoms_spec (ws := Cond.code M.1 M.2.1 M.2.2.1 M.2.2.2 :: mo_ws) B.pre
  have hown : s.vm.findClass M.1.cls = some m.cls := findClass_of_methodNamed B.named
  rw [lg_entry_eq]
  have g := h p e s m (av.map (mo_tr ad)).toArray below meth c D cA ad ⟨⟨B.exec, B.bytes, hown, fun w hw => hts w (List.mem_cons_of_mem _ hw), v1, v2, fun q hq => Or.inr hq, v3, by left; cases al <;> rfl, by
    cases al with
    | false => exact Or.inl rfl
    | true => exact Or.inr ⟨(v4 rfl).1, Nat.le_refl _, Nat.le_refl _, (v4 rfl).2, hal rfl⟩⟩, hml, B.returns, B.notSynchronized, (name_of_methodNamed B.named B.method).1, v4, B.named⟩ s.heap [] _ hRel va_S.rf (mo_ent_LR hlen)
  have e1 : K.length - K.length + 0 = 0 := by omega
  have e2 : mo_sz K - mo_sz K + 6 * 0 = 0 := by omega
  have g : W p l e (mo_rm d mc ms) s m (av.map (mo_tr ad)).toArray below meth c s.heap [] (K.length - K.length + 0) (mo_sz K - mo_sz K + 6 * 0) (MQ below (mo_Qc D cA ad (va_A (mo_w cA ad (K, R, I, L, 0)) s.heap.size) (K, R, I, L, 0) mc ms Ψ) (av.map (mo_tr ad)).toArray s mc ms (va_A (mo_w cA ad (K, R, I, L, 0)) s.heap.size)) (F0 m 0 ((lg_sl (av.map (mo_tr ad)) ++ List.replicate (M.2.2.1 - (lg_sl (av.map (mo_tr ad))).length) Slot.unset).toArray) []) := g
  rw [e1, e2] at g
  exact g
end J
