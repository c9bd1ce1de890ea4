/-! More rules: Object's constructor, arraycopy, switches; a heap by another name. -/
def mo_cp (I : Nat → Nat → Int32) (src dst sp dp n : Nat) : Nat → Nat → Int32 := fun a => if a = dst then va_cpy (I src) (I dst) sp dp n else I a
theorem mo_cp_off {I : Nat → Nat → Int32} {src dst sp dp n a : Nat} (h : a ≠ dst) : mo_cp I src dst sp dp n a = I a := if_neg h
theorem mo_cp_at {I : Nat → Nat → Int32} {src dst sp dp n : Nat} : mo_cp I src dst sp dp n dst = va_cpy (I src) (I dst) sp dp n := if_pos rfl
set_option maxRecDepth 100000 in
theorem mo_ob1 : mo_in (.instanceMethod Lib.objectInit) = true := by decide +kernel
set_option maxRecDepth 100000 in
theorem mo_ob2 : Cond.code Lib.objectInit ⟨#[0xb1]⟩ 1 none ∈ mo_ws := List.mem_filter.mpr ⟨List.mem_of_getElem? (i := 125) rfl, rfl⟩
set_option maxRecDepth 100000 in
theorem mo_ac1 : (mo_in (.native arraycopyName) && (mo_in (.static arraycopyName) && mo_in (.initialized "java/lang/System"))) = true := by decide +kernel
section J
variable {l : Launch} {M : mo_M} {d mc ms : Nat} {al : Bool} {σ0 : mo_S} {QQ : mo_QQ} {pc idx : Nat} {ml : mo_L} {rest : List Value} {K : mo_K} {R : Nat → Nat → Nat} {I : Nat → Nat → Int32} {L : Nat → Nat → Int64} {x : Nat}
/-- RULE: super() of Object -/
theorem mo_J_obj {q : Nat} (hd : ClassFile.decode M.2.1 pc = .ok (.invokespecial idx, 3)) (hk : mo_in (.methodLink M.1.cls idx Lib.objectInit) = true) (hq : q ≠ 0) (hml : ml.length = M.2.2.1) (hd1 : 1 ≤ d) (hw : mo_wd rest ≤ 8) (kk : mo_JQ l M d mc ms al σ0 QQ (pc + 3, ml, rest, (K, R, I, L, x))) : mo_JQ l M d mc ms al σ0 QQ (pc, ml, .ref q :: rest, (K, R, I, L, x)) := by
  intro p e s m args below meth c D cA ad J H locs ls hR hS hL
  have J0 := J
  obtain ⟨hC, hmaxL, -⟩ := J
  obtain ⟨hx, hb, hown, hts, -⟩ := hC
  show W p l e (mo_rm d mc ms) s m args below meth c H locs _ _ _ (F0 m pc ls (mo_tr ad (.ref q) :: rest.map (mo_tr ad)))
  rw [mo_tr_ref hq]
  exact W.objInit hx hb hown (hts _ (mo_in_ws hk)) (hts _ (mo_in_ws mo_ob1)) (hts _ mo_ob2) rfl (hL.1.trans (hml.trans hmaxL.symm)) rfl hd hd1 (by show 2 * 0 + ((rest.map (mo_tr ad)).map fun v => v.category).sum + 12 ≤ 100 * (d + 1); rw [mo_wd_eq]; omega) (kk p e s m args below meth c D cA ad J0 H locs ls hR hS hL)
/-- RULE: arraycopy of ints -/
theorem mo_J_copy {src dst : Nat} {sp dp n : Int32} (hd : ClassFile.decode M.2.1 pc = .ok (.invokestatic idx, 3)) (hk : mo_in (.methodLink M.1.cls idx arraycopyName) = true) (hsrc : mo_kd K src = 100) (hdst : mo_kd K dst = 100) (h1 : ¬ sp < 0) (h2 : ¬ dp < 0) (h3 : ¬ n < 0) (h4 : sp.toNatClampNeg + n.toNatClampNeg ≤ mo_ln K src) (h5 : dp.toNatClampNeg + n.toNatClampNeg ≤ mo_ln K dst) (hml : ml.length = M.2.2.1) (hd1 : 1 ≤ d) (hw : mo_wd rest ≤ 8)
    (kk : mo_JQ l M d mc ms al σ0 QQ (pc + 3, ml, rest, (K, R, mo_cp I src dst sp.toNatClampNeg dp.toNatClampNeg n.toNatClampNeg, L, x))) : mo_JQ l M d mc ms al σ0 QQ (pc, ml, .int n :: .int dp :: .ref dst :: .int sp :: .ref src :: rest, (K, R, I, L, x)) := by
  intro p e s m args below meth c D cA ad J H locs ls hR hS hL
  have J0 := J
  obtain ⟨hC, hmaxL, -⟩ := J
  obtain ⟨hx, hb, hown, hts, hKK, -⟩ := hC
  obtain ⟨hP, hD, r1, r2, r3, h00⟩ := hR
  have h00 : mo_kd K 0 = 99 := h00
  obtain ⟨s1, s2, s3⟩ := mo_e_i (cA := cA) (ad := ad) (R := R) (I := I) (L := L) (x := x) h00 hsrc
  obtain ⟨g1, g2, g3⟩ := mo_e_i (cA := cA) (ad := ad) (R := R) (I := I) (L := L) (x := x) h00 hdst
  have ha := mo_ac1
  simp only [Bool.and_eq_true] at ha
  show W p l e (mo_rm d mc ms) s m args below meth c H locs _ _ _ (F0 m pc ls (.int n :: .int dp :: mo_tr ad (.ref dst) :: .int sp :: mo_tr ad (.ref src) :: rest.map (mo_tr ad)))
  rw [mo_tr_ref s1, mo_tr_ref g1]
  have ew : mo_w cA ad (K, R, mo_cp I src dst sp.toNatClampNeg dp.toNatClampNeg n.toNatClampNeg, L, x) = (mo_w cA ad (K, R, I, L, x)).set (dst - 1) (ad dst, .inl (cA 0, mo_ln K dst, .inl (va_cpy (I src) (I dst) sp.toNatClampNeg dp.toNatClampNeg n.toNatClampNeg))) := by
    rw [mo_w_upd (R := R) (I := I) (L := L) (x := x) g1 g2 (fun z hz => ⟨rfl, mo_cp_off hz, rfl⟩), hdst, mo_cp_at]
    rfl
  have hnf : nativeFrameWords "java/lang/System" "arraycopy" 5 + 11 ≤ 90 := by decide
  refine va_copyi hx hb (hmaxL.trans (hml.symm.trans hL.1.symm)) hown (hts _ (mo_in_ws hk)) (hts _ (mo_in_ws ha.1)) (hts _ (mo_in_ws ha.2.1)) (hts _ (mo_in_ws ha.2.2)) hKK hP hD hS (src - 1) (dst - 1) 0 0 s3 g3 rfl rfl rfl h1 h2 h3 h4 h5 (fun i _ => rfl) hd1 (by show ((rest.map (mo_tr ad)).map fun v => v.category).sum + _ ≤ 100 * (d + 1); rw [mo_wd_eq]; omega) hd (fun H1 locs1 p1 p2 p3 => kk p e s m args below meth c D cA ad J0 H1 locs1 ls ⟨by rw [ew]; exact p1, by rw [ew]; exact p2, r1, r2, r3, h00⟩ p3 hL)
/-- RULE: tableswitch -/
theorem mo_J_tsw {dflt lo hi : Int} {offs : Array Int} {len : Nat} {v : Int32} (hd : ClassFile.decode M.2.1 pc = .ok (.tableswitch dflt lo hi offs, len)) (hsz : (offs.size : Int) = hi - lo + 1) (hpos : offs.toList.all (fun o => decide (0 ≤ (pc : Int) + o)) = true) (hdp : 0 ≤ (pc : Int) + dflt)
    (kin : ∀ (j : Nat) (off : Int), offs[j]? = some off → v.toInt = lo + j → mo_JQ l M d mc ms al σ0 QQ (((pc : Int) + off).toNat, ml, rest, (K, R, I, L, x))) (kout : v.toInt < lo ∨ hi < v.toInt → mo_JQ l M d mc ms al σ0 QQ (((pc : Int) + dflt).toNat, ml, rest, (K, R, I, L, x))) : mo_JQ l M d mc ms al σ0 QQ (pc, ml, .int v :: rest, (K, R, I, L, x)) := by
  intro p e s m args below meth c D cA ad J H locs ls hR hS hL
  obtain ⟨hx, hb, -⟩ := id J.1
  by_cases h : v.toInt < lo ∨ hi < v.toInt
  · exact lv_tableOut hx hb hd h (by omega) (kout h p e s m args below meth c D cA ad J H locs ls hR hS hL)
  · have hj : (v.toInt - lo).toNat < offs.size := by omega
    have ho : offs[(v.toInt - lo).toNat]? = some offs[(v.toInt - lo).toNat] := Array.getElem?_eq_getElem hj
    have hp := of_decide_eq_true (List.all_eq_true.mp hpos offs[(v.toInt - lo).toNat] (Array.getElem_mem_toList hj))
    exact lv_tableIn hx hb hd (fun z => h (Or.inl z)) (fun z => h (Or.inr z)) ho (by omega) (kin _ _ ho (by omega) p e s m args below meth c D cA ad J H locs ls hR hS hL)
/-- RULE: lookupswitch -/
theorem mo_J_lsw {dflt : Int} {ps : Array (Int × Int)} {len : Nat} {v : Int32} (hd : ClassFile.decode M.2.1 pc = .ok (.lookupswitch dflt ps, len)) (hp : (ps.toList.zip (ps.toList.drop 1)).all (fun (a, next) => a.1 < next.1) = true) (hpos : 0 ≤ (pc : Int) + Op.lookupswitch.offset ps.toList dflt v.toInt)
    (kk : mo_JQ l M d mc ms al σ0 QQ (((pc : Int) + Op.lookupswitch.offset ps.toList dflt v.toInt).toNat, ml, rest, (K, R, I, L, x))) : mo_JQ l M d mc ms al σ0 QQ (pc, ml, .int v :: rest, (K, R, I, L, x)) := by
  intro p e s m args below meth c D cA ad J H locs ls hR hS hL
  obtain ⟨hx, hb, -⟩ := id J.1
  exact lv_lookup hx hb hd hp rfl (by omega) (kk p e s m args below meth c D cA ad J H locs ls hR hS hL)
/-- RULE: name the heap's ints anew -/
theorem mo_J_nameI {st : List Value} {I0 : Nat → Nat → Int32} (k : ∀ I1, I1 = I0 → mo_JQ l M d mc ms al σ0 QQ (pc, ml, st, (K, R, I1, L, x))) : mo_JQ l M d mc ms al σ0 QQ (pc, ml, st, (K, R, I0, L, x)) := k _ rfl
end J
/-- walking a range -/
theorem mo_rng {S : Type} (n : Nat) (Inv : Nat → S → Prop) (G : Nat → S → Prop) (hx : ∀ s, Inv n s → G n s) (hs : ∀ i s, i < n → Inv i s → (∀ s', Inv (i + 1) s' → G (i + 1) s') → G i s) : ∀ i s, i ≤ n → Inv i s → G i s := by
  have h : ∀ k i s, i + k = n → Inv i s → G i s := by
    intro k
    induction k with
    | zero => intro i s hi h; have : i = n := by omega
              subst this; exact hx s h
    | succ k ih => intro i s hi h; exact hs i s (by omega) h (fun s' h' => ih (i + 1) s' (by omega) h')
  intro i s hi h'
  exact h (n - i) i s (by omega) h'
