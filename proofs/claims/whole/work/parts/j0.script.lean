/-! The law: its script, and rules that may read it. -/
def mm_Law_law : mo_M := (⟨"GateNamesLaw", "law", "([I)Z"⟩, code, 8, (some .boolean))
/-- the script lies where it is told -/
def sF (n : Nat) (f : Nat → Int32) (σ0 : mo_S) (s : State) (cA : Nat → ClassId) (ad : Nat → Nat) : Prop := va_X (ad 1000000) n f s s.heap ∧ ad 1000000 < s.heap.size ∧ ¬ va_A (mo_w cA ad σ0) s.heap.size (ad 1000000)
/-- an end that is asked for only where it does -/
def sQ (n : Nat) (f : Nat → Int32) (σ0 : mo_S) (QQ : mo_QQ) : mo_QQ := fun below s args D cA ad t => sF n f σ0 s cA ad → QQ below s args D cA ad t
section J
variable {l : Launch} {M : mo_M} {d mc ms : Nat} {al : Bool} {σ0 : mo_S} {QQ : mo_QQ} {n : Nat} {f : Nat → Int32}
/-- RULE: walk on, the script at hand -/
theorem mo_J_runS {cod : List (Nat × mo_I)} (hok : cod.all (mo_chk M.1.cls false M.2.1) = true) (cuts : List Nat) (k : Nat) (F : mo_F) (h : mo_wq (n, f, (mo_Xo al mc ms σ0).2.2.1, (mo_Xo al mc ms σ0).2.2.2) cod cuts k F (mo_JQ l M d mc ms al σ0 (sQ n f σ0 QQ))) : mo_JQ l M d mc ms al σ0 (sQ n f σ0 QQ) F := by
  intro p e s m args below meth c D cA ad J
  by_cases hs : sF n f σ0 s cA ad
  · obtain ⟨h1, h2, h3, h4, h5, h6, h7, h8, _, h10⟩ := J.1
    have hC : mo_Cx p (mo_rm d mc ms) s m args c D cA ad (va_A (mo_w cA ad σ0) s.heap.size) σ0.1.length (mo_sz σ0.1) (n, f, (mo_Xo al mc ms σ0).2.2.1, (mo_Xo al mc ms σ0).2.2.2) M.1.cls M.2.1 := ⟨h1, h2, h3, h4, h5, h6, h7, h8, Or.inr hs, h10⟩
    exact mo_wq_soundK hC (fun z => by cases z) hok cuts (fun g hg => hg p e s m args below meth c D cA ad J) k F h
  · intro H locs ls hR hS hL T hT Z
    exact ⟨_, Steps.refl _, fun h => absurd h hs⟩
variable {pc : Nat} {ml : mo_L} {rest : List Value} {σ : mo_S}
/-- RULE: the script's length -/
theorem mo_J_len (hd : ClassFile.decode M.2.1 pc = .ok (.arraylength, 1)) (kk : mo_JQ l M d mc ms al σ0 (sQ n f σ0 QQ) (pc + 1, ml, .int (Int32.ofNat n) :: rest, σ)) : mo_JQ l M d mc ms al σ0 (sQ n f σ0 QQ) (pc, ml, .ref 1000000 :: rest, σ) := by
  intro p e s m args below meth c D cA ad J H locs ls hR hS hL
  by_cases hs : sF n f σ0 s cA ad
  · obtain ⟨hx, hb, hown, hts, hKK, hN, hA, hSt, -, -⟩ := id J.1
    obtain ⟨s1, s2, s3⟩ := hs
    show W p l e (mo_rm d mc ms) s m args below meth c H locs _ _ (sQ n f σ0 QQ below s args D cA ad) (F0 m pc ls (mo_tr ad (.ref 1000000) :: rest.map (mo_tr ad)))
    rw [mo_tr_ref (by decide)]
    exact va_slen hx hb s1 s2 s3 hS hd (kk p e s m args below meth c D cA ad J H locs ls hR hS hL)
  · intro T hT Z
    exact ⟨_, Steps.refl _, fun h => absurd h hs⟩
end J
