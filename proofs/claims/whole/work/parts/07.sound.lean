/-! One instruction of the walker is one of the machine. -/
section MO
variable {p : Program} {l : Launch} {e : Env} {R : Room} {s : State} {m : MethodId} {args : Array Value} {below : List Frame} {meth : Method} {c : Code} {Q : State → Prop} {D : va_G} {cA : Nat → ClassId} {ad : Nat → Nat} {A : Nat → Prop} {k0 z0 : Nat} {X : mo_X}
theorem mo_fv_tr {ad : Nat → Nat} {t r : Nat} {i : Int32} {l : Int64} : mo_tr ad (match t with
      | 1 => Value.long l
      | 2 => Value.ref r
      | _ => Value.int i) = mo_fv ad t r i l := by
  rcases t with _ | _ | _ | t <;> rfl
set_option maxRecDepth 100000 in
theorem mo_ac_int : Cond.arrayClass .int ∈ mo_ws := mo_in_ws (by decide +kernel)
set_option maxRecDepth 100000 in
theorem mo_ac_long : Cond.arrayClass .long ∈ mo_ws := mo_in_ws (by decide +kernel)
set_option maxRecDepth 100000 in
theorem mo_ac_byte : Cond.arrayClass .byte ∈ mo_ws := mo_in_ws (by decide +kernel)
set_option maxRecDepth 100000 in
theorem mo_ac_boolean : Cond.arrayClass .boolean ∈ mo_ws := mo_in_ws (by decide +kernel)
set_option maxHeartbeats 1000000 in
set_option maxRecDepth 100000 in
theorem mo_sound {own : String} {ini : Bool} {cc : ByteArray} {code : List (Nat × mo_I)} (hC : mo_Cx p R s m args c D cA ad A k0 z0 X own cc) (hini : ini = true → meth.name = "<init>") (hok : code.all (mo_chk own ini cc) = true) {i : mo_I} {pc : Nat} {ml : mo_L} {st : List Value} {σ : mo_S} {T : (mo_F → Prop) → Prop} (hat : mo_at code pc = some i) (hst : mo_step X i pc ml st σ = some T) {k : mo_F → Prop} (hT : T k) (hk : ∀ f, k f → mo_G p l e R s m args below meth c Q D cA ad A k0 z0 f) : mo_G p l e R s m args below meth c Q D cA ad A k0 z0 (pc, ml, st, σ) := by
  have hC0 := hC
  obtain ⟨hx, hb, hown, hts, hK, hN, hA, ⟨sz1, st1, sz2, st2, -⟩, hXs, hXc⟩ := hC
  have hck := List.all_eq_true.mp hok _ (mo_at_mem hat)
  obtain ⟨op, len, a, b, t, v⟩ := i
  obtain ⟨K, RR, I, L, x⟩ := σ
  simp only [mo_chk, Bool.and_eq_true, decide_eq_true_eq] at hck
  obtain ⟨hdg, hlen, hlk⟩ := hck
  intro H locs ls hR hS hL
  have hR0 := hR
  obtain ⟨hP, hD, r1, r2, r3, h00⟩ := hR
  have h00 : mo_kd K 0 = 99 := h00
  have hlv := mo_lv_has hL
  have hLat : ∀ (j : Nat) (w : Value), ml[j]? = some (some w) → ls[j]? = some (.val (mo_tr ad w)) := hL.2.2
  cases op with
  | iconst n =>
    have hl1 : len = 1 := of_decide_eq_true hlen
    subst hl1
    have hv := of_decide_eq_true hlk
    subst hv
    obtain rfl := Option.some.inj hst
    exact lv_iconst hx hb hdg rfl (hk _ hT H locs ls hR0 hS hL)
  | bipush n =>
    have hl1 : len = 2 := of_decide_eq_true hlen
    subst hl1
    have hv := of_decide_eq_true hlk
    subst hv
    obtain rfl := Option.some.inj hst
    exact lv_bipush hx hb hdg rfl (hk _ hT H locs ls hR0 hS hL)
  | sipush n =>
    have hl1 : len = 3 := of_decide_eq_true hlen
    subst hl1
    have hv := of_decide_eq_true hlk
    subst hv
    obtain rfl := Option.some.inj hst
    exact lv_sipush hx hb hdg rfl (hk _ hT H locs ls hR0 hS hL)
  | lconst n =>
    have hl1 : len = 1 := of_decide_eq_true hlen
    subst hl1
    have hv := of_decide_eq_true hlk
    subst hv
    obtain rfl := Option.some.inj hst
    exact lv_lconst hx hb hdg rfl (hk _ hT H locs ls hR0 hS hL)
  | ldc n =>
    have hl1 : len = 2 := of_decide_eq_true hlen
    subst hl1
    cases v with
    | int y =>
      obtain rfl := Option.some.inj hst
      exact lv_ldc hx hb hown (hts _ (mo_in_ws hlk)) hdg (hk _ hT H locs ls hR0 hS hL)
    | _ => cases hlk
  | ldc_w n =>
    have hl1 : len = 3 := of_decide_eq_true hlen
    subst hl1
    cases v with
    | int y =>
      obtain rfl := Option.some.inj hst
      exact lv_ldcw hx hb hown (hts _ (mo_in_ws hlk)) hdg (hk _ hT H locs ls hR0 hS hL)
    | _ => cases hlk
  | ldc2_w n =>
    have hl1 : len = 3 := of_decide_eq_true hlen
    subst hl1
    cases v with
    | long y =>
      obtain rfl := Option.some.inj hst
      exact lv_ldc2 hx hb hown (hts _ (mo_in_ws hlk)) hdg (hk _ hT H locs ls hR0 hS hL)
    | _ => cases hlk
  | iload_n n =>
    have hl1 : len = 1 := of_decide_eq_true hlen
    subst hl1
    obtain ⟨y, hy, h⟩ := mo_gi_inv hst
    obtain rfl := Option.some.inj h
    exact lv_iload_n hx hb hdg rfl (hLat _ _ hy) (hk _ hT H locs ls hR0 hS hL)
  | iload n =>
    have hl1 : len = 2 := of_decide_eq_true hlen
    subst hl1
    obtain ⟨y, hy, h⟩ := mo_gi_inv hst
    obtain rfl := Option.some.inj h
    exact lv_iload hx hb hdg (hLat _ _ hy) (hk _ hT H locs ls hR0 hS hL)
  | lload_n n =>
    have hl1 : len = 1 := of_decide_eq_true hlen
    subst hl1
    obtain ⟨y, hy, h⟩ := mo_gl_inv hst
    obtain rfl := Option.some.inj h
    exact lv_lload_n hx hb hdg rfl (hLat _ _ hy) (hk _ hT H locs ls hR0 hS hL)
  | lload n =>
    have hl1 : len = 2 := of_decide_eq_true hlen
    subst hl1
    obtain ⟨y, hy, h⟩ := mo_gl_inv hst
    obtain rfl := Option.some.inj h
    exact lv_lload hx hb hdg (hLat _ _ hy) (hk _ hT H locs ls hR0 hS hL)
  | aload_n n =>
    have hl1 : len = 1 := of_decide_eq_true hlen
    subst hl1
    obtain ⟨y, hy, h⟩ := mo_gr_inv hst
    obtain rfl := Option.some.inj h
    have hy := hLat _ _ hy
    by_cases hy0 : y = 0
    · subst hy0
      exact lv_aload_nN hx hb hdg rfl hy (hk _ hT H locs ls hR0 hS hL)
    · have e1 : mo_tr ad (.ref y) = .ref (ad y) := mo_tr_ref hy0
      rw [e1] at hy
      have g := (hk _ hT H locs ls hR0 hS hL)
      have e2 : (Value.ref y :: st).map (mo_tr ad) = .ref (ad y) :: st.map (mo_tr ad) := by rw [List.map_cons, e1]
      exact lv_aload_n hx hb hdg rfl hy (by rw [← e2]; exact g)
  | aload n =>
    have hl1 : len = 2 := of_decide_eq_true hlen
    subst hl1
    obtain ⟨y, hy, h⟩ := mo_gr_inv hst
    obtain rfl := Option.some.inj h
    have hy := hLat _ _ hy
    by_cases hy0 : y = 0
    · subst hy0
      exact lv_aloadN hx hb hdg hy (hk _ hT H locs ls hR0 hS hL)
    · have e1 : mo_tr ad (.ref y) = .ref (ad y) := mo_tr_ref hy0
      rw [e1] at hy
      have g := (hk _ hT H locs ls hR0 hS hL)
      have e2 : (Value.ref y :: st).map (mo_tr ad) = .ref (ad y) :: st.map (mo_tr ad) := by rw [List.map_cons, e1]
      exact lv_aload hx hb hdg hy (by rw [← e2]; exact g)
  | istore_n n =>
    have hl1 : len = 1 := of_decide_eq_true hlen
    subst hl1
    obtain ⟨y, r, rfl, h⟩ := mo_pi_inv hst
    obtain ⟨hn, rfl⟩ := mo_if_inv h
    exact lv_istore_n hx hb hdg rfl hlv hn rfl (fun ls' hl' => hk _ hT H locs ls' hR0 hS (mo_LR_s1 (v := .int y) hn hl'))
  | istore n =>
    have hl1 : len = 2 := of_decide_eq_true hlen
    subst hl1
    obtain ⟨y, r, rfl, h⟩ := mo_pi_inv hst
    obtain ⟨hn, rfl⟩ := mo_if_inv h
    exact lv_istore hx hb hdg hlv hn rfl (fun ls' hl' => hk _ hT H locs ls' hR0 hS (mo_LR_s1 (v := .int y) hn hl'))
  | astore_n n =>
    have hl1 : len = 1 := of_decide_eq_true hlen
    subst hl1
    obtain ⟨y, r, rfl, h⟩ := mo_pr_inv hst
    obtain ⟨hn, rfl⟩ := mo_if_inv h
    by_cases hy0 : y = 0
    · subst hy0
      exact lv_astore_nN hx hb hdg rfl hlv hn rfl (fun ls' hl' => hk _ hT H locs ls' hR0 hS (mo_LR_s1 (v := .ref 0) hn hl'))
    · have e1 : mo_tr ad (.ref y) = .ref (ad y) := mo_tr_ref hy0
      show W p l e R s m args below meth c H locs _ _ Q (F0 m pc ls (mo_tr ad (.ref y) :: r.map (mo_tr ad)))
      rw [e1]
      exact lv_astore_n hx hb hdg rfl hlv hn rfl (fun ls' hl' => hk _ hT H locs ls' hR0 hS (mo_LR_s1 (v := .ref y) hn (by rw [e1]; exact hl')))
  | astore n =>
    have hl1 : len = 2 := of_decide_eq_true hlen
    subst hl1
    obtain ⟨y, r, rfl, h⟩ := mo_pr_inv hst
    obtain ⟨hn, rfl⟩ := mo_if_inv h
    by_cases hy0 : y = 0
    · subst hy0
      exact lv_astoreN hx hb hdg hlv hn rfl (fun ls' hl' => hk _ hT H locs ls' hR0 hS (mo_LR_s1 (v := .ref 0) hn hl'))
    · have e1 : mo_tr ad (.ref y) = .ref (ad y) := mo_tr_ref hy0
      show W p l e R s m args below meth c H locs _ _ Q (F0 m pc ls (mo_tr ad (.ref y) :: r.map (mo_tr ad)))
      rw [e1]
      exact lv_astore hx hb hdg hlv hn rfl (fun ls' hl' => hk _ hT H locs ls' hR0 hS (mo_LR_s1 (v := .ref y) hn (by rw [e1]; exact hl')))
  | lstore_n n =>
    have hl1 : len = 1 := of_decide_eq_true hlen
    subst hl1
    obtain ⟨y, r, rfl, h⟩ := mo_pl_inv hst
    obtain ⟨hn, rfl⟩ := mo_if_inv h
    exact lv_lstore_n hx hb hdg rfl hlv hn rfl (fun ls' hl' => hk _ hT H locs ls' hR0 hS (mo_LR_s2 (v := .long y) hn hl'))
  | lstore n =>
    have hl1 : len = 2 := of_decide_eq_true hlen
    subst hl1
    obtain ⟨y, r, rfl, h⟩ := mo_pl_inv hst
    obtain ⟨hn, rfl⟩ := mo_if_inv h
    exact lv_lstore hx hb hdg hlv hn rfl (fun ls' hl' => hk _ hT H locs ls' hR0 hS (mo_LR_s2 (v := .long y) hn hl'))
  | iinc n d =>
    have hl1 : len = 3 := of_decide_eq_true hlen
    subst hl1
    obtain ⟨y, hy, h⟩ := mo_gi_inv hst
    obtain ⟨hn, rfl⟩ := mo_if_inv h
    obtain ⟨j, hj⟩ := List.getElem?_of_mem (mo_lv_mem (ad := ad) hy)
    exact lv_iinc hx hb hdg hlv hj rfl hn rfl (fun ls' hl' => hk _ hT H locs ls' hR0 hS (mo_LR_s1 (v := .int (y + Int32.ofInt d)) hn hl'))
  | iadd =>
    have hl1 : len = 1 := of_decide_eq_true hlen
    subst hl1
    obtain ⟨y, z, r, rfl, h⟩ := mo_pii_inv hst
    obtain rfl := Option.some.inj h
    exact lv_iadd hx hb hdg (hk _ hT H locs ls hR0 hS hL)
  | isub =>
    have hl1 : len = 1 := of_decide_eq_true hlen
    subst hl1
    obtain ⟨y, z, r, rfl, h⟩ := mo_pii_inv hst
    obtain rfl := Option.some.inj h
    exact lv_isub hx hb hdg (hk _ hT H locs ls hR0 hS hL)
  | imul =>
    have hl1 : len = 1 := of_decide_eq_true hlen
    subst hl1
    obtain ⟨y, z, r, rfl, h⟩ := mo_pii_inv hst
    obtain rfl := Option.some.inj h
    exact lv_imul hx hb hdg (hk _ hT H locs ls hR0 hS hL)
  | iand =>
    have hl1 : len = 1 := of_decide_eq_true hlen
    subst hl1
    obtain ⟨y, z, r, rfl, h⟩ := mo_pii_inv hst
    obtain rfl := Option.some.inj h
    exact lv_iand hx hb hdg (hk _ hT H locs ls hR0 hS hL)
  | ior =>
    have hl1 : len = 1 := of_decide_eq_true hlen
    subst hl1
    obtain ⟨y, z, r, rfl, h⟩ := mo_pii_inv hst
    obtain rfl := Option.some.inj h
    exact lv_ior hx hb hdg (hk _ hT H locs ls hR0 hS hL)
  | ixor =>
    have hl1 : len = 1 := of_decide_eq_true hlen
    subst hl1
    obtain ⟨y, z, r, rfl, h⟩ := mo_pii_inv hst
    obtain rfl := Option.some.inj h
    exact lv_ixor hx hb hdg (hk _ hT H locs ls hR0 hS hL)
  | ishl =>
    have hl1 : len = 1 := of_decide_eq_true hlen
    subst hl1
    obtain ⟨y, z, r, rfl, h⟩ := mo_pii_inv hst
    obtain rfl := Option.some.inj h
    exact lv_ishl hx hb hdg (hk _ hT H locs ls hR0 hS hL)
  | ishr =>
    have hl1 : len = 1 := of_decide_eq_true hlen
    subst hl1
    obtain ⟨y, z, r, rfl, h⟩ := mo_pii_inv hst
    obtain rfl := Option.some.inj h
    exact lv_ishr hx hb hdg (hk _ hT H locs ls hR0 hS hL)
  | iushr =>
    have hl1 : len = 1 := of_decide_eq_true hlen
    subst hl1
    obtain ⟨y, z, r, rfl, h⟩ := mo_pii_inv hst
    obtain rfl := Option.some.inj h
    exact lv_iushr hx hb hdg rfl (hk _ hT H locs ls hR0 hS hL)
  | idiv =>
    have hl1 : len = 1 := of_decide_eq_true hlen
    subst hl1
    obtain ⟨y, z, r, rfl, h⟩ := mo_pii_inv hst
    obtain rfl := Option.some.inj h
    obtain ⟨hz, hT⟩ := hT
    exact lv_idiv hx hb hdg hz (hk _ hT H locs ls hR0 hS hL)
  | irem =>
    have hl1 : len = 1 := of_decide_eq_true hlen
    subst hl1
    obtain ⟨y, z, r, rfl, h⟩ := mo_pii_inv hst
    obtain rfl := Option.some.inj h
    obtain ⟨hz, hT⟩ := hT
    exact lv_irem hx hb hdg hz (hk _ hT H locs ls hR0 hS hL)
  | ladd =>
    have hl1 : len = 1 := of_decide_eq_true hlen
    subst hl1
    obtain ⟨y, z, r, rfl, h⟩ := mo_pll_inv hst
    obtain rfl := Option.some.inj h
    exact lv_ladd hx hb hdg (hk _ hT H locs ls hR0 hS hL)
  | lsub =>
    have hl1 : len = 1 := of_decide_eq_true hlen
    subst hl1
    obtain ⟨y, z, r, rfl, h⟩ := mo_pll_inv hst
    obtain rfl := Option.some.inj h
    exact lv_lsub hx hb hdg (hk _ hT H locs ls hR0 hS hL)
  | lmul =>
    have hl1 : len = 1 := of_decide_eq_true hlen
    subst hl1
    obtain ⟨y, z, r, rfl, h⟩ := mo_pll_inv hst
    obtain rfl := Option.some.inj h
    exact lv_lmul hx hb hdg (hk _ hT H locs ls hR0 hS hL)
  | land =>
    have hl1 : len = 1 := of_decide_eq_true hlen
    subst hl1
    obtain ⟨y, z, r, rfl, h⟩ := mo_pll_inv hst
    obtain rfl := Option.some.inj h
    exact lv_land hx hb hdg (hk _ hT H locs ls hR0 hS hL)
  | lor =>
    have hl1 : len = 1 := of_decide_eq_true hlen
    subst hl1
    obtain ⟨y, z, r, rfl, h⟩ := mo_pll_inv hst
    obtain rfl := Option.some.inj h
    exact lv_lor hx hb hdg (hk _ hT H locs ls hR0 hS hL)
  | ldiv =>
    have hl1 : len = 1 := of_decide_eq_true hlen
    subst hl1
    obtain ⟨y, z, r, rfl, h⟩ := mo_pll_inv hst
    obtain rfl := Option.some.inj h
    obtain ⟨hz, hT⟩ := hT
    exact lv_ldiv hx hb hdg hz (hk _ hT H locs ls hR0 hS hL)
  | lrem =>
    have hl1 : len = 1 := of_decide_eq_true hlen
    subst hl1
    obtain ⟨y, z, r, rfl, h⟩ := mo_pll_inv hst
    obtain rfl := Option.some.inj h
    obtain ⟨hz, hT⟩ := hT
    exact lv_lrem hx hb hdg hz (hk _ hT H locs ls hR0 hS hL)
  | lcmp =>
    have hl1 : len = 1 := of_decide_eq_true hlen
    subst hl1
    obtain ⟨y, z, r, rfl, h⟩ := mo_pll_inv hst
    obtain rfl := Option.some.inj h
    exact W.lcmp hx hb hdg (hk _ hT H locs ls hR0 hS hL)
  | lshl =>
    have hl1 : len = 1 := of_decide_eq_true hlen
    subst hl1
    obtain ⟨y, z, r, rfl, h⟩ := mo_pli_inv hst
    obtain rfl := Option.some.inj h
    exact lv_lshl hx hb hdg rfl (hk _ hT H locs ls hR0 hS hL)
  | lushr =>
    have hl1 : len = 1 := of_decide_eq_true hlen
    subst hl1
    obtain ⟨y, z, r, rfl, h⟩ := mo_pli_inv hst
    obtain rfl := Option.some.inj h
    exact lv_lushr hx hb hdg rfl (hk _ hT H locs ls hR0 hS hL)
  | ineg =>
    have hl1 : len = 1 := of_decide_eq_true hlen
    subst hl1
    obtain ⟨y, r, rfl, h⟩ := mo_pi_inv hst
    obtain rfl := Option.some.inj h
    exact lv_ineg hx hb hdg (hk _ hT H locs ls hR0 hS hL)
  | lneg =>
    have hl1 : len = 1 := of_decide_eq_true hlen
    subst hl1
    obtain ⟨y, r, rfl, h⟩ := mo_pl_inv hst
    obtain rfl := Option.some.inj h
    exact lv_lneg hx hb hdg (hk _ hT H locs ls hR0 hS hL)
  | i2l =>
    have hl1 : len = 1 := of_decide_eq_true hlen
    subst hl1
    obtain ⟨y, r, rfl, h⟩ := mo_pi_inv hst
    obtain rfl := Option.some.inj h
    exact lv_i2l hx hb hdg rfl (hk _ hT H locs ls hR0 hS hL)
  | i2b =>
    have hl1 : len = 1 := of_decide_eq_true hlen
    subst hl1
    obtain ⟨y, r, rfl, h⟩ := mo_pi_inv hst
    obtain rfl := Option.some.inj h
    exact lv_i2b hx hb hdg rfl (hk _ hT H locs ls hR0 hS hL)
  | l2i =>
    have hl1 : len = 1 := of_decide_eq_true hlen
    subst hl1
    obtain ⟨y, r, rfl, h⟩ := mo_pl_inv hst
    obtain rfl := Option.some.inj h
    exact lv_l2i hx hb hdg rfl (hk _ hT H locs ls hR0 hS hL)
  | dup =>
    have hl1 : len = 1 := of_decide_eq_true hlen
    subst hl1
    cases st with
    | nil => cases hst
    | cons w r =>
      obtain ⟨hw, rfl⟩ := mo_if_inv (show (if mo_cat1 w then mo_go _ else none) = some T from hst)
      exact lv_dup hx hb hdg (mo_cat hw) (hk _ hT H locs ls hR0 hS hL)
  | pop =>
    have hl1 : len = 1 := of_decide_eq_true hlen
    subst hl1
    cases st with
    | nil => cases hst
    | cons w r =>
      obtain ⟨hw, rfl⟩ := mo_if_inv (show (if mo_cat1 w then mo_go _ else none) = some T from hst)
      exact lv_pop hx hb hdg (mo_cat hw) (hk _ hT H locs ls hR0 hS hL)
  | dup2 =>
    have hl1 : len = 1 := of_decide_eq_true hlen
    subst hl1
    cases st with
    | nil => cases hst
    | cons w r =>
      cases r with
      | nil => cases hst
      | cons u r =>
        obtain ⟨hw, rfl⟩ := mo_if_inv (show (if mo_cat1 w && mo_cat1 u then mo_go _ else none) = some T from hst)
        rw [Bool.and_eq_true] at hw
        exact lv_dup2_11 hx hb hdg (mo_cat hw.1) (mo_cat hw.2) (hk _ hT H locs ls hR0 hS hL)
  | ifCond o off =>
    have hl1 : len = 3 := of_decide_eq_true hlen
    subst hl1
    have ht := of_decide_eq_true hlk
    obtain ⟨y, r, rfl, h⟩ := mo_pi_inv hst
    cases o with
    | eq =>
      obtain rfl := Option.some.inj h
      exact lv_if_eq hx hb hdg ht (fun z => hk _ (hT.1 z) H locs ls hR0 hS hL) (fun z => hk _ (hT.2 z) H locs ls hR0 hS hL)
    | ne =>
      obtain rfl := Option.some.inj h
      exact lv_if_ne hx hb hdg ht (fun z => hk _ (hT.2 z) H locs ls hR0 hS hL) (fun z => hk _ (hT.1 z) H locs ls hR0 hS hL)
    | lt =>
      obtain rfl := Option.some.inj h
      exact lv_if_lt hx hb hdg ht (fun z => hk _ (hT.1 z) H locs ls hR0 hS hL) (fun z => hk _ (hT.2 z) H locs ls hR0 hS hL)
    | ge =>
      obtain rfl := Option.some.inj h
      exact lv_if_ge hx hb hdg ht (fun z => hk _ (hT.1 z) H locs ls hR0 hS hL) (fun z => hk _ (hT.2 z) H locs ls hR0 hS hL)
    | gt =>
      obtain rfl := Option.some.inj h
      exact lv_if_gt hx hb hdg ht (fun z => hk _ (hT.1 z) H locs ls hR0 hS hL) (fun z => hk _ (hT.2 z) H locs ls hR0 hS hL)
    | le =>
      obtain rfl := Option.some.inj h
      exact lv_if_le hx hb hdg ht (fun z => hk _ (hT.1 z) H locs ls hR0 hS hL) (fun z => hk _ (hT.2 z) H locs ls hR0 hS hL)
  | if_icmp o off =>
    have hl1 : len = 3 := of_decide_eq_true hlen
    subst hl1
    have ht := of_decide_eq_true hlk
    obtain ⟨y, z, r, rfl, h⟩ := mo_pii_inv hst
    cases o with
    | eq =>
      obtain rfl := Option.some.inj h
      exact lv_icmp_eq hx hb hdg ht (fun z => hk _ (hT.1 z) H locs ls hR0 hS hL) (fun z => hk _ (hT.2 z) H locs ls hR0 hS hL)
    | ne =>
      obtain rfl := Option.some.inj h
      exact lv_icmp_ne hx hb hdg ht (fun z => hk _ (hT.2 z) H locs ls hR0 hS hL) (fun z => hk _ (hT.1 z) H locs ls hR0 hS hL)
    | lt =>
      obtain rfl := Option.some.inj h
      exact lv_icmp_lt hx hb hdg ht (fun z => hk _ (hT.1 z) H locs ls hR0 hS hL) (fun z => hk _ (hT.2 z) H locs ls hR0 hS hL)
    | ge =>
      obtain rfl := Option.some.inj h
      exact lv_icmp_ge hx hb hdg ht (fun z => hk _ (hT.1 z) H locs ls hR0 hS hL) (fun z => hk _ (hT.2 z) H locs ls hR0 hS hL)
    | gt =>
      obtain rfl := Option.some.inj h
      exact lv_icmp_gt hx hb hdg ht (fun z => hk _ (hT.1 z) H locs ls hR0 hS hL) (fun z => hk _ (hT.2 z) H locs ls hR0 hS hL)
    | le =>
      obtain rfl := Option.some.inj h
      exact lv_icmp_le hx hb hdg ht (fun z => hk _ (hT.1 z) H locs ls hR0 hS hL) (fun z => hk _ (hT.2 z) H locs ls hR0 hS hL)
  | goto off =>
    have hl1 : len = 3 := of_decide_eq_true hlen
    subst hl1
    have ht := of_decide_eq_true hlk
    obtain rfl := Option.some.inj hst
    exact lv_goto hx hb hdg ht (hk _ hT H locs ls hR0 hS hL)
  | getfield idx =>
    have hl1 : len = 3 := of_decide_eq_true hlen
    subst hl1
    obtain ⟨q, r, rfl, h⟩ := mo_pr_inv hst
    obtain rfl := Option.some.inj h
    obtain ⟨hq, hT⟩ := hT
    refine mo_getf hC0 hR0 hq hlk hdg ?_
    rw [← mo_fv_tr]
    exact (hk _ hT H locs ls hR0 hS hL)
  | putfield idx =>
    have hl1 : len = 3 := of_decide_eq_true hlen
    subst hl1
    rw [mo_lk, Bool.and_eq_true] at hlk
    obtain ⟨hlk, hfw⟩ := hlk
    have hlk0 := hlk
    obtain ⟨rc, hc, hbN, hft, -⟩ := mo_fl_inv hlk0
    obtain ⟨ty0, hty0, htc0⟩ := (mo_cls_facts hc).2.1 b hbN
    have htt : mo_tc ty0 = t := by rw [← hft]; exact (mo_ft_eq hc hty0).symm
    by_cases t1 : t = 1
    · subst t1
      obtain ⟨q, y, r, rfl, h⟩ := mo_plr_inv hst
      obtain rfl := Option.some.inj h
      obtain ⟨hq, hT⟩ := hT
      exact mo_putf hC0 hini (R' := RR) (I' := I) (L' := mo_up L q b y) (w := .long y) hR0 hS hq hlk hfw hdg (fun z hz => ⟨rfl, rfl, mo_up_off hz⟩) (fun j hj => ⟨rfl, rfl, mo_up_in hj⟩) (by show Value.long (mo_up L q b y q b) = _; rw [mo_up_at]) (fun ty h => by cases ty <;> first | exact ⟨rfl, rfl⟩ | (simp [mo_tc] at h)) (fun H1 locs1 g1 g2 => hk _ hT H1 locs1 ls g1 g2 hL)
    by_cases t2 : t = 2
    · subst t2
      obtain ⟨q, y, r, rfl, h⟩ := mo_prr_inv hst
      obtain rfl := Option.some.inj h
      obtain ⟨hq, hT⟩ := hT
      exact mo_putf hC0 hini (R' := mo_up RR q b y) (I' := I) (L' := L) (w := mo_tr ad (.ref y)) hR0 hS hq hlk hfw hdg (fun z hz => ⟨mo_up_off hz, rfl, rfl⟩) (fun j hj => ⟨mo_up_in hj, rfl, rfl⟩) (by show mo_tr ad (.ref (mo_up RR q b y q b)) = _; rw [mo_up_at]) (fun ty h => by
      by_cases y0 : y = 0
      · subst y0; cases ty <;> first | exact ⟨rfl, rfl⟩ | (simp [mo_tc] at h)
      · rw [mo_tr_ref y0]; cases ty <;> first | exact ⟨rfl, rfl⟩ | (simp [mo_tc] at h)) (fun H1 locs1 g1 g2 => hk _ hT H1 locs1 ls g1 g2 hL)
    by_cases t3 : t = 3
    · subst t3
      obtain ⟨q, y, r, rfl, h⟩ := mo_pir_inv hst
      obtain rfl := Option.some.inj h
      obtain ⟨⟨hq, hy⟩, hT⟩ := hT
      exact mo_putf hC0 hini (R' := RR) (I' := mo_up I q b y) (L' := L) (w := .int y) hR0 hS hq hlk hfw hdg (fun z hz => ⟨rfl, mo_up_off hz, rfl⟩) (fun j hj => ⟨rfl, mo_up_in hj, rfl⟩) (by show Value.int (mo_up I q b y q b) = _; rw [mo_up_at]) (fun ty h => by rcases hy with rfl | rfl <;> cases ty <;> first | exact ⟨rfl, rfl⟩ | exact ⟨by decide, by decide⟩ | (simp [mo_tc] at h)) (fun H1 locs1 g1 g2 => hk _ hT H1 locs1 ls g1 g2 hL)
    have t0 : t = 0 := by
      rw [← htt] at t1 t2 t3 ⊢
      cases ty0 <;> first | rfl | (simp [mo_tc] at htc0 t1 t2 t3)
    subst t0
    obtain ⟨q, y, r, rfl, h⟩ := mo_pir_inv hst
    obtain rfl := Option.some.inj h
    obtain ⟨hq, hT⟩ := hT
    exact mo_putf hC0 hini (R' := RR) (I' := mo_up I q b y) (L' := L) (w := .int y) hR0 hS hq hlk hfw hdg (fun z hz => ⟨rfl, mo_up_off hz, rfl⟩) (fun j hj => ⟨rfl, mo_up_in hj, rfl⟩) (by show Value.int (mo_up I q b y q b) = _; rw [mo_up_at]) (fun ty h => by cases ty <;> first | exact ⟨rfl, rfl⟩ | (simp [mo_tc] at h)) (fun H1 locs1 g1 g2 => hk _ hT H1 locs1 ls g1 g2 hL)
  | iaload =>
    have hl1 : len = 1 := of_decide_eq_true hlen
    subst hl1
    by_cases t0 : t = 0
    · subst t0
      obtain ⟨q, j, r, rfl, h⟩ := mo_pra_inv hst
      obtain rfl := Option.some.inj h
      obtain ⟨⟨hq, hj⟩, hT⟩ := hT
      obtain ⟨g1, g2, g3⟩ := mo_e_i (cA := cA) (ad := ad) (R := RR) (I := I) (L := L) (x := x) h00 hq
      show W p l e R s m args below meth c H locs _ _ Q (F0 m pc ls (.int j :: mo_tr ad (.ref q) :: r.map (mo_tr ad)))
      rw [mo_tr_ref g1]
      exact va_iald hx hb hK hP (q - 1) 0 g3 rfl hj hdg (hk _ hT H locs ls hR0 hS hL)
    by_cases t1 : t = 1
    · subst t1
      obtain ⟨q, j, r, rfl, h⟩ := mo_pra_inv hst
      obtain rfl := Option.some.inj h
      obtain ⟨⟨rfl, hj⟩, hT⟩ := hT
      exact va_ti hx hb st1 hS hj rfl hdg (hk _ hT H locs ls hR0 hS hL)
    obtain ⟨u, rfl⟩ : ∃ u, t = u + 2 := ⟨t - 2, by omega⟩
    obtain ⟨q, j, r, rfl, h⟩ := mo_pra_inv hst
    obtain rfl := Option.some.inj h
    obtain ⟨⟨rfl, hj⟩, hT⟩ := hT
    rcases hXs with hXs | ⟨x1, x2, x3⟩
    · rw [hXs] at hj; exact absurd (Or.inr (Nat.zero_le _)) hj
    · exact va_sld hx hb x1 x2 x3 hS hj hdg (hk _ hT H locs ls hR0 hS hL)
  | laload =>
    have hl1 : len = 1 := of_decide_eq_true hlen
    subst hl1
    by_cases t0 : t = 0
    · subst t0
      obtain ⟨q, j, r, rfl, h⟩ := mo_pra_inv hst
      obtain rfl := Option.some.inj h
      obtain ⟨⟨hq, hj⟩, hT⟩ := hT
      obtain ⟨g1, g2, g3⟩ := mo_e_l (cA := cA) (ad := ad) (R := RR) (I := I) (L := L) (x := x) h00 hq
      show W p l e R s m args below meth c H locs _ _ Q (F0 m pc ls (.int j :: mo_tr ad (.ref q) :: r.map (mo_tr ad)))
      rw [mo_tr_ref g1]
      exact va_lald hx hb hK hP (q - 1) 1 g3 rfl hj hdg (hk _ hT H locs ls hR0 hS hL)
    obtain ⟨u, rfl⟩ : ∃ u, t = u + 1 := ⟨t - 1, by omega⟩
    obtain ⟨q, j, r, rfl, h⟩ := mo_pra_inv hst
    obtain rfl := Option.some.inj h
    obtain ⟨⟨rfl, hj⟩, hT⟩ := hT
    exact va_tl hx hb st2 hS hj rfl hdg (hk _ hT H locs ls hR0 hS hL)
  | getstatic idx =>
    have hl1 : len = 3 := of_decide_eq_true hlen
    subst hl1
    obtain rfl := Option.some.inj hst
    rw [mo_lk] at hlk
    simp only [Bool.or_eq_true, Bool.and_eq_true, decide_eq_true_eq] at hlk
    rcases hlk with ⟨rfl, h1⟩ | ⟨rfl, h1⟩
    · exact va_getsN hx hb sz1 hS hown (va_Nw.use rfl (hN _ h1)) (fun _ z => z) hdg (hk _ hT H locs ls hR0 hS hL)
    · exact va_gets hx hb sz2 hS hown (hts _ (mo_in_ws h1)) (fun _ z => z) hdg (hk _ hT H locs ls hR0 hS hL)
  | new idx =>
    have hl1 : len = 3 := of_decide_eq_true hlen
    subst hl1
    obtain rfl := Option.some.inj hst
    obtain ⟨⟨rfl, o1, o2⟩, hT⟩ := hT
    rcases hXc with hXc | ⟨c1, c2, c3, c4, c5⟩
    · omega
    have r2 : k0 ≤ K.length := r2
    have r3 : z0 ≤ mo_sz K := r3
    have hK0 : K.length ≠ 0 := by omega
    suffices key : H.size = ad K.length → W p l e R s m args below meth c H locs (K.length - k0 + 0) (mo_sz K - z0 + 6 * 0) Q (F0 m pc ls (st.map (mo_tr ad))) from fun T0 hT0 Z => key (mo_next (D := D) (cA := cA) (ad := ad) (A := A) (k0 := k0) (z0 := z0) (s := s) (locs := locs) hR0 hS c1 (by omega) (by rw [← hT0]; exact Z.heapSize)) T0 hT0 Z
    intro hH
    rw [mo_lk] at hlk
    split at hlk
    case h_2 => cases hlk
    rename_i qc hc
    obtain ⟨C, TT, N⟩ := qc
    rw [Bool.and_eq_true] at hlk
    obtain ⟨hlk1, hlk2⟩ := hlk
    have hbN : b = N := of_decide_eq_true hlk1
    subst hbN
    obtain ⟨f1, f2, f3, f4, f5, f6, f7⟩ := mo_cls_facts hc
    have hKn := hK.1 a _ hc
    refine W.newcK hx hb hown (hts _ (mo_in_ws hlk2)) (hts _ f5) (hts _ f6) rfl hdg (by omega) (by show mo_sz K - z0 + 6 * 0 + b ≤ R.slots; omega) hKn.2.1 hH (fun H1 kC hkC e1 z1 o3 => ?_)
    have hent : mo_en cA ad (a, b) (fun _ => 0) (fun _ => 0) (fun _ => 0) = .inr (a, mo_fs ad a (fun _ => 0) (fun _ => 0) (fun _ => 0)) := by
      unfold mo_en
      rw [if_neg (by show ¬ a = 100; omega), if_neg (by show ¬ a = 101; omega), if_neg (by show ¬ a = 102; omega), if_neg (by show ¬ a = 103; omega), if_neg (by show ¬ a = 104; omega)]
    obtain ⟨g1, g2⟩ := mo_Rel_push (q := (a, b)) hR0 hS hA hH z1 o3 (by
      rw [hent]
      refine ⟨_, hc, (u_born (fun k => (ClassFile.parseFieldDescriptor (TT k).2.2.1).getD .int) hts f1 hKn hkC e1 (fun k hk => ?_)).to (fun j hj => ?_)⟩
      · obtain ⟨ty, h1, -⟩ := f2 k hk
        have h1 : ClassFile.parseFieldDescriptor (TT k).2.2.1 = some ty := h1
        rw [h1]; rfl
      · obtain ⟨ty, h1, h2⟩ := f2 j hj
        have h3 := mo_ft_eq hc h1
        have h1 : ClassFile.parseFieldDescriptor (TT j).2.2.1 = some ty := h1
        show defaultValue ((ClassFile.parseFieldDescriptor (TT j).2.2.1).getD .int) = _
        rw [h1]
        unfold vp_V
        rw [List.getD_eq_getElem?_getD, mo_fs_get (by rw [mo_fn_eq hc]; exact hj), h3]
        show defaultValue ty = mo_fv ad (mo_tc ty) 0 0 0
        cases ty <;> first | rfl | (simp [mo_tc] at h2))
    have g := hk _ hT H1 locs ls g1 g2 hL
    have e2 : (K ++ [(a, b)]).length - k0 + 0 = K.length - k0 + 0 + 1 := by rw [List.length_append]; show K.length + 1 - k0 + 0 = _; omega
    have e3 : mo_sz (K ++ [(a, b)]) - z0 + 6 * 0 = mo_sz K - z0 + 6 * 0 + b := by rw [mo_sz_new]; show mo_sz K + b - z0 + 6 * 0 = _; omega
    have e4 : (Value.ref K.length :: st).map (mo_tr ad) = .ref (ad K.length) :: st.map (mo_tr ad) := by rw [List.map_cons, mo_tr_ref hK0]
    have g : W p l e R s m args below meth c H1 locs ((K ++ [(a, b)]).length - k0 + 0) (mo_sz (K ++ [(a, b)]) - z0 + 6 * 0) Q (F0 m (pc + 3) ls ((Value.ref K.length :: st).map (mo_tr ad))) := g
    rw [e2, e3, e4] at g
    exact g
  | newarray at_ =>
    have hl1 : len = 2 := of_decide_eq_true hlen
    subst hl1
    cases at_ with
    | int =>
      have ha := of_decide_eq_true hlk
      subst ha
      obtain ⟨n, r, rfl, h⟩ := mo_pi_inv hst
      obtain rfl := Option.some.inj h
      obtain ⟨⟨rfl, o1, o2, o4, o5⟩, hT⟩ := hT
      rcases hXc with hXc | ⟨c1, c2, c3, c4, c5⟩
      · omega
      have r2 : k0 ≤ K.length := r2
      have r3 : z0 ≤ mo_sz K := r3
      have hK0 : K.length ≠ 0 := by omega
      suffices key : H.size = ad K.length → W p l e R s m args below meth c H locs (K.length - k0 + 0) (mo_sz K - z0 + 6 * 0) Q (F0 m pc ls (.int n :: r.map (mo_tr ad))) from fun T0 hT0 Z => key (mo_next (D := D) (cA := cA) (ad := ad) (A := A) (k0 := k0) (z0 := z0) (s := s) (locs := locs) hR0 hS c1 (by omega) (by rw [← hT0]; exact Z.heapSize)) T0 hT0 Z
      intro hH
      have hcl := mo_ac_int
      refine va_newaK (atype := .int) hx hb (hts _ hcl) rfl hdg rfl o4 rfl (by show n.toNatClampNeg * _ ≤ 536870912; first | (show n.toNatClampNeg * 8 ≤ _; omega) | (show n.toNatClampNeg * 4 ≤ _; omega) | (show n.toNatClampNeg * 1 ≤ _; omega)) (by omega) (by omega) hH (fun H1 cB e1 z1 o3 hAr hNm => ?_)
      have hcB : cB = cA 0 := Option.some.inj (hNm.symm.trans (hK.2 0 _ rfl).2)
      subst hcB
      obtain ⟨g1, g2⟩ := mo_Rel_push (q := (100, n.toNatClampNeg)) hR0 hS hA hH z1 o3 e1
      have g := hk _ hT H1 locs ls g1 g2 hL
      have e2 : (K ++ [(100, n.toNatClampNeg)]).length - k0 + 0 = K.length - k0 + 0 + 1 := by rw [List.length_append]; show K.length + 1 - k0 + 0 = _; omega
      have e3 : mo_sz (K ++ [(100, n.toNatClampNeg)]) - z0 + 6 * 0 = mo_sz K - z0 + 6 * 0 + n.toNatClampNeg := by rw [mo_sz_new]; show mo_sz K + n.toNatClampNeg - z0 + 6 * 0 = _; omega
      have e4 : (Value.ref K.length :: r).map (mo_tr ad) = .ref (ad K.length) :: r.map (mo_tr ad) := by rw [List.map_cons, mo_tr_ref hK0]
      have g : W p l e R s m args below meth c H1 locs ((K ++ [(100, n.toNatClampNeg)]).length - k0 + 0) (mo_sz (K ++ [(100, n.toNatClampNeg)]) - z0 + 6 * 0) Q (F0 m (pc + 2) ls ((Value.ref K.length :: r).map (mo_tr ad))) := g
      rw [e2, e3, e4] at g
      exact g
    | long =>
      have ha := of_decide_eq_true hlk
      subst ha
      obtain ⟨n, r, rfl, h⟩ := mo_pi_inv hst
      obtain rfl := Option.some.inj h
      obtain ⟨⟨rfl, o1, o2, o4, o5⟩, hT⟩ := hT
      rcases hXc with hXc | ⟨c1, c2, c3, c4, c5⟩
      · omega
      have r2 : k0 ≤ K.length := r2
      have r3 : z0 ≤ mo_sz K := r3
      have hK0 : K.length ≠ 0 := by omega
      suffices key : H.size = ad K.length → W p l e R s m args below meth c H locs (K.length - k0 + 0) (mo_sz K - z0 + 6 * 0) Q (F0 m pc ls (.int n :: r.map (mo_tr ad))) from fun T0 hT0 Z => key (mo_next (D := D) (cA := cA) (ad := ad) (A := A) (k0 := k0) (z0 := z0) (s := s) (locs := locs) hR0 hS c1 (by omega) (by rw [← hT0]; exact Z.heapSize)) T0 hT0 Z
      intro hH
      have hcl := mo_ac_long
      refine va_newaK (atype := .long) hx hb (hts _ hcl) rfl hdg rfl o4 rfl (by show n.toNatClampNeg * _ ≤ 536870912; first | (show n.toNatClampNeg * 8 ≤ _; omega) | (show n.toNatClampNeg * 4 ≤ _; omega) | (show n.toNatClampNeg * 1 ≤ _; omega)) (by omega) (by omega) hH (fun H1 cB e1 z1 o3 hAr hNm => ?_)
      have hcB : cB = cA 1 := Option.some.inj (hNm.symm.trans (hK.2 1 _ rfl).2)
      subst hcB
      obtain ⟨g1, g2⟩ := mo_Rel_push (q := (101, n.toNatClampNeg)) hR0 hS hA hH z1 o3 e1
      have g := hk _ hT H1 locs ls g1 g2 hL
      have e2 : (K ++ [(101, n.toNatClampNeg)]).length - k0 + 0 = K.length - k0 + 0 + 1 := by rw [List.length_append]; show K.length + 1 - k0 + 0 = _; omega
      have e3 : mo_sz (K ++ [(101, n.toNatClampNeg)]) - z0 + 6 * 0 = mo_sz K - z0 + 6 * 0 + n.toNatClampNeg := by rw [mo_sz_new]; show mo_sz K + n.toNatClampNeg - z0 + 6 * 0 = _; omega
      have e4 : (Value.ref K.length :: r).map (mo_tr ad) = .ref (ad K.length) :: r.map (mo_tr ad) := by rw [List.map_cons, mo_tr_ref hK0]
      have g : W p l e R s m args below meth c H1 locs ((K ++ [(101, n.toNatClampNeg)]).length - k0 + 0) (mo_sz (K ++ [(101, n.toNatClampNeg)]) - z0 + 6 * 0) Q (F0 m (pc + 2) ls ((Value.ref K.length :: r).map (mo_tr ad))) := g
      rw [e2, e3, e4] at g
      exact g
    | byte =>
      have ha := of_decide_eq_true hlk
      subst ha
      obtain ⟨n, r, rfl, h⟩ := mo_pi_inv hst
      obtain rfl := Option.some.inj h
      obtain ⟨⟨rfl, o1, o2, o4, o5⟩, hT⟩ := hT
      rcases hXc with hXc | ⟨c1, c2, c3, c4, c5⟩
      · omega
      have r2 : k0 ≤ K.length := r2
      have r3 : z0 ≤ mo_sz K := r3
      have hK0 : K.length ≠ 0 := by omega
      suffices key : H.size = ad K.length → W p l e R s m args below meth c H locs (K.length - k0 + 0) (mo_sz K - z0 + 6 * 0) Q (F0 m pc ls (.int n :: r.map (mo_tr ad))) from fun T0 hT0 Z => key (mo_next (D := D) (cA := cA) (ad := ad) (A := A) (k0 := k0) (z0 := z0) (s := s) (locs := locs) hR0 hS c1 (by omega) (by rw [← hT0]; exact Z.heapSize)) T0 hT0 Z
      intro hH
      have hcl := mo_ac_byte
      refine va_newaK (atype := .byte) hx hb (hts _ hcl) rfl hdg rfl o4 rfl (by show n.toNatClampNeg * _ ≤ 536870912; first | (show n.toNatClampNeg * 8 ≤ _; omega) | (show n.toNatClampNeg * 4 ≤ _; omega) | (show n.toNatClampNeg * 1 ≤ _; omega)) (by omega) (by omega) hH (fun H1 cB e1 z1 o3 hAr hNm => ?_)
      have hcB : cB = cA 2 := Option.some.inj (hNm.symm.trans (hK.2 2 _ rfl).2)
      subst hcB
      obtain ⟨g1, g2⟩ := mo_Rel_push (q := (102, n.toNatClampNeg)) hR0 hS hA hH z1 o3 e1
      have g := hk _ hT H1 locs ls g1 g2 hL
      have e2 : (K ++ [(102, n.toNatClampNeg)]).length - k0 + 0 = K.length - k0 + 0 + 1 := by rw [List.length_append]; show K.length + 1 - k0 + 0 = _; omega
      have e3 : mo_sz (K ++ [(102, n.toNatClampNeg)]) - z0 + 6 * 0 = mo_sz K - z0 + 6 * 0 + n.toNatClampNeg := by rw [mo_sz_new]; show mo_sz K + n.toNatClampNeg - z0 + 6 * 0 = _; omega
      have e4 : (Value.ref K.length :: r).map (mo_tr ad) = .ref (ad K.length) :: r.map (mo_tr ad) := by rw [List.map_cons, mo_tr_ref hK0]
      have g : W p l e R s m args below meth c H1 locs ((K ++ [(102, n.toNatClampNeg)]).length - k0 + 0) (mo_sz (K ++ [(102, n.toNatClampNeg)]) - z0 + 6 * 0) Q (F0 m (pc + 2) ls ((Value.ref K.length :: r).map (mo_tr ad))) := g
      rw [e2, e3, e4] at g
      exact g
    | boolean =>
      have ha := of_decide_eq_true hlk
      subst ha
      obtain ⟨n, r, rfl, h⟩ := mo_pi_inv hst
      obtain rfl := Option.some.inj h
      obtain ⟨⟨rfl, o1, o2, o4, o5⟩, hT⟩ := hT
      rcases hXc with hXc | ⟨c1, c2, c3, c4, c5⟩
      · omega
      have r2 : k0 ≤ K.length := r2
      have r3 : z0 ≤ mo_sz K := r3
      have hK0 : K.length ≠ 0 := by omega
      suffices key : H.size = ad K.length → W p l e R s m args below meth c H locs (K.length - k0 + 0) (mo_sz K - z0 + 6 * 0) Q (F0 m pc ls (.int n :: r.map (mo_tr ad))) from fun T0 hT0 Z => key (mo_next (D := D) (cA := cA) (ad := ad) (A := A) (k0 := k0) (z0 := z0) (s := s) (locs := locs) hR0 hS c1 (by omega) (by rw [← hT0]; exact Z.heapSize)) T0 hT0 Z
      intro hH
      have hcl := mo_ac_boolean
      refine va_newaK (atype := .boolean) hx hb (hts _ hcl) rfl hdg rfl o4 rfl (by show n.toNatClampNeg * _ ≤ 536870912; first | (show n.toNatClampNeg * 8 ≤ _; omega) | (show n.toNatClampNeg * 4 ≤ _; omega) | (show n.toNatClampNeg * 1 ≤ _; omega)) (by omega) (by omega) hH (fun H1 cB e1 z1 o3 hAr hNm => ?_)
      have hcB : cB = cA 3 := Option.some.inj (hNm.symm.trans (hK.2 3 _ rfl).2)
      subst hcB
      obtain ⟨g1, g2⟩ := mo_Rel_push (q := (103, n.toNatClampNeg)) hR0 hS hA hH z1 o3 e1
      have g := hk _ hT H1 locs ls g1 g2 hL
      have e2 : (K ++ [(103, n.toNatClampNeg)]).length - k0 + 0 = K.length - k0 + 0 + 1 := by rw [List.length_append]; show K.length + 1 - k0 + 0 = _; omega
      have e3 : mo_sz (K ++ [(103, n.toNatClampNeg)]) - z0 + 6 * 0 = mo_sz K - z0 + 6 * 0 + n.toNatClampNeg := by rw [mo_sz_new]; show mo_sz K + n.toNatClampNeg - z0 + 6 * 0 = _; omega
      have e4 : (Value.ref K.length :: r).map (mo_tr ad) = .ref (ad K.length) :: r.map (mo_tr ad) := by rw [List.map_cons, mo_tr_ref hK0]
      have g : W p l e R s m args below meth c H1 locs ((K ++ [(103, n.toNatClampNeg)]).length - k0 + 0) (mo_sz (K ++ [(103, n.toNatClampNeg)]) - z0 + 6 * 0) Q (F0 m (pc + 2) ls ((Value.ref K.length :: r).map (mo_tr ad))) := g
      rw [e2, e3, e4] at g
      exact g
    | _ => cases hlk
  | anewarray idx =>
    have hl1 : len = 3 := of_decide_eq_true hlen
    subst hl1
    obtain ⟨n, r, rfl, h⟩ := mo_pi_inv hst
    obtain rfl := Option.some.inj h
    obtain ⟨⟨rfl, o1, o2, o4, o5⟩, hT⟩ := hT
    rcases hXc with hXc | ⟨c1, c2, c3, c4, c5⟩
    · omega
    have r2 : k0 ≤ K.length := r2
    have r3 : z0 ≤ mo_sz K := r3
    have hK0 : K.length ≠ 0 := by omega
    suffices key : H.size = ad K.length → W p l e R s m args below meth c H locs (K.length - k0 + 0) (mo_sz K - z0 + 6 * 0) Q (F0 m pc ls (.int n :: r.map (mo_tr ad))) from fun T0 hT0 Z => key (mo_next (D := D) (cA := cA) (ad := ad) (A := A) (k0 := k0) (z0 := z0) (s := s) (locs := locs) hR0 hS c1 (by omega) (by rw [← hT0]; exact Z.heapSize)) T0 hT0 Z
    intro hH
    refine W.anew hx hb hown (hts _ (mo_in_ws hlk)) (va_AO.use c4) rfl hdg rfl o4 (by omega) (by omega) (by omega) (fun cB kA comp f1 f2 f3 f4 => ?_)
    have hcB : cB = cA 4 := by
      obtain ⟨kA2, comp2, -, -, -, h4⟩ := (hK.2 4 (cA 4, .object "GateNames$Town") rfl).2
      exact Option.some.inj (f1.symm.trans h4)
    subst hcB
    generalize hH1 : H.push ({ cls := cA 4, slots := Array.replicate n.toNatClampNeg .null, vm := .none } : Cell) = H1
    have z1 : H1.size = ad K.length + 1 := by rw [← hH1, Array.size_push, hH]
    have e1 : H1[ad K.length]? = some (arrV (cA 4) n.toNatClampNeg (fun _ => .null)) := by rw [← hH1, ← hH, Array.getElem?_push_size, ← arrV_new]
    have o3 : ∀ q : Nat, q < ad K.length → H1[q]? = H[q]? := fun q hq => by rw [← hH] at hq; rw [← hH1, Array.getElem?_push, if_neg (Nat.ne_of_lt hq)]
    obtain ⟨g1, g2⟩ := mo_Rel_push (q := (104, n.toNatClampNeg)) hR0 hS hA hH z1 o3 (by show H1[ad K.length]? = some (vp_cell _ _); rw [vp_cell_q]; exact e1)
    have g := hk _ hT H1 locs ls g1 g2 hL
    have e2 : (K ++ [(104, n.toNatClampNeg)]).length - k0 + 0 = K.length - k0 + 0 + 1 := by rw [List.length_append]; show K.length + 1 - k0 + 0 = _; omega
    have e3 : mo_sz (K ++ [(104, n.toNatClampNeg)]) - z0 + 6 * 0 = mo_sz K - z0 + 6 * 0 + n.toNatClampNeg := by rw [mo_sz_new]; show mo_sz K + n.toNatClampNeg - z0 + 6 * 0 = _; omega
    have e4 : (Value.ref K.length :: r).map (mo_tr ad) = .ref (ad K.length) :: r.map (mo_tr ad) := by rw [List.map_cons, mo_tr_ref hK0]
    have g : W p l e R s m args below meth c H1 locs ((K ++ [(104, n.toNatClampNeg)]).length - k0 + 0) (mo_sz (K ++ [(104, n.toNatClampNeg)]) - z0 + 6 * 0) Q (F0 m (pc + 3) ls ((Value.ref K.length :: r).map (mo_tr ad))) := g
    rw [e2, e3, e4] at g
    rw [hH]
    exact g
  | baload =>
    have hl1 : len = 1 := of_decide_eq_true hlen
    subst hl1
    have ht := of_decide_eq_true hlk
    rcases (show t = 0 ∨ t = 1 by omega) with rfl | rfl
    · obtain ⟨q, j, r, rfl, h⟩ := mo_pra_inv hst
      obtain rfl := Option.some.inj h
      obtain ⟨⟨hq, hj⟩, hT⟩ := hT
      obtain ⟨g1, g2, g3⟩ := mo_e_b (cA := cA) (ad := ad) (R := RR) (I := I) (L := L) (x := x) h00 hq
      show W p l e R s m args below meth c H locs _ _ Q (F0 m pc ls (.int j :: mo_tr ad (.ref q) :: r.map (mo_tr ad)))
      rw [mo_tr_ref g1]
      exact va_bald hx hb hK hP (q - 1) 2 g3 rfl hj hdg (hk _ hT H locs ls hR0 hS hL)
    · obtain ⟨q, j, r, rfl, h⟩ := mo_pra_inv hst
      obtain rfl := Option.some.inj h
      obtain ⟨⟨hq, hj⟩, hT⟩ := hT
      obtain ⟨g1, g2, g3⟩ := mo_e_z (cA := cA) (ad := ad) (R := RR) (I := I) (L := L) (x := x) h00 hq
      show W p l e R s m args below meth c H locs _ _ Q (F0 m pc ls (.int j :: mo_tr ad (.ref q) :: r.map (mo_tr ad)))
      rw [mo_tr_ref g1]
      exact va_zald hx hb hK hP (q - 1) 3 g3 rfl hj hdg (hk _ hT H locs ls hR0 hS hL)
  | aaload =>
    have hl1 : len = 1 := of_decide_eq_true hlen
    subst hl1
    obtain ⟨q, j, r, rfl, h⟩ := mo_pra_inv hst
    obtain rfl := Option.some.inj h
    obtain ⟨⟨hq, hj⟩, hT⟩ := hT
    obtain ⟨g1, g2, g3⟩ := mo_e_t (cA := cA) (ad := ad) (R := RR) (I := I) (L := L) (x := x) h00 hq
    show W p l e R s m args below meth c H locs _ _ Q (F0 m pc ls (.int j :: mo_tr ad (.ref q) :: r.map (mo_tr ad)))
    rw [mo_tr_ref g1]
    refine va_aldq hx hb hK hP (q - 1) 4 g3 rfl hj hdg ?_
    have e1 : va_rf (if RR q j.toNatClampNeg = 0 then none else some (ad (RR q j.toNatClampNeg))) = mo_tr ad (.ref (RR q j.toNatClampNeg)) := by
      show _ = if RR q j.toNatClampNeg = 0 then Value.null else Value.ref (ad (RR q j.toNatClampNeg))
      split <;> rfl
    rw [e1]
    exact (hk _ hT H locs ls hR0 hS hL)
  | iastore =>
    have hl1 : len = 1 := of_decide_eq_true hlen
    subst hl1
    obtain ⟨q, j, y, r, rfl, h⟩ := mo_prai_inv hst
    obtain rfl := Option.some.inj h
    obtain ⟨⟨hq, hj⟩, hT⟩ := hT
    obtain ⟨g1, g2, g3⟩ := mo_e_i (cA := cA) (ad := ad) (R := RR) (I := I) (L := L) (x := x) h00 hq
    show W p l e R s m args below meth c H locs _ _ Q (F0 m pc ls (.int y :: .int j :: mo_tr ad (.ref q) :: r.map (mo_tr ad)))
    rw [mo_tr_ref g1]
    refine va_iast hx hb hK hP hD hS (q - 1) 0 g3 rfl hj hdg (fun H1 locs1 p1 p2 p3 => hk _ hT H1 locs1 ls ⟨?_, ?_, r1, r2, r3, h00⟩ p3 hL)
    · show va_P D mo_cls (mo_w cA ad (K, RR, mo_up I q j.toNatClampNeg y, L, x)) H1
      rw [mo_w_upd (R := RR) (I := I) (L := L) (x := x) g1 g2 (fun z hz => ⟨rfl, mo_up_off hz, rfl⟩), hq, mo_up_i]
      exact p1
    · show va_D A (mo_w cA ad (K, RR, mo_up I q j.toNatClampNeg y, L, x))
      rw [mo_w_upd (R := RR) (I := I) (L := L) (x := x) g1 g2 (fun z hz => ⟨rfl, mo_up_off hz, rfl⟩), hq, mo_up_i]
      exact p2
  | lastore =>
    have hl1 : len = 1 := of_decide_eq_true hlen
    subst hl1
    obtain ⟨q, j, y, r, rfl, h⟩ := mo_pral_inv hst
    obtain rfl := Option.some.inj h
    obtain ⟨⟨hq, hj⟩, hT⟩ := hT
    obtain ⟨g1, g2, g3⟩ := mo_e_l (cA := cA) (ad := ad) (R := RR) (I := I) (L := L) (x := x) h00 hq
    show W p l e R s m args below meth c H locs _ _ Q (F0 m pc ls (.long y :: .int j :: mo_tr ad (.ref q) :: r.map (mo_tr ad)))
    rw [mo_tr_ref g1]
    refine va_last hx hb hK hP hD hS (q - 1) 1 g3 rfl hj hdg (fun H1 locs1 p1 p2 p3 => hk _ hT H1 locs1 ls ⟨?_, ?_, r1, r2, r3, h00⟩ p3 hL)
    · show va_P D mo_cls (mo_w cA ad (K, RR, I, mo_up L q j.toNatClampNeg y, x)) H1
      rw [mo_w_upd (R := RR) (I := I) (L := L) (x := x) g1 g2 (fun z hz => ⟨rfl, rfl, mo_up_off hz⟩), hq, mo_up_l]
      exact p1
    · show va_D A (mo_w cA ad (K, RR, I, mo_up L q j.toNatClampNeg y, x))
      rw [mo_w_upd (R := RR) (I := I) (L := L) (x := x) g1 g2 (fun z hz => ⟨rfl, rfl, mo_up_off hz⟩), hq, mo_up_l]
      exact p2
  | bastore =>
    have hl1 : len = 1 := of_decide_eq_true hlen
    subst hl1
    cases t with
    | zero =>
      obtain ⟨q, j, y, r, rfl, h⟩ := mo_prai_inv hst
      obtain rfl := Option.some.inj h
      obtain ⟨⟨hq, hj⟩, hT⟩ := hT
      obtain ⟨g1, g2, g3⟩ := mo_e_b (cA := cA) (ad := ad) (R := RR) (I := I) (L := L) (x := x) h00 hq
      show W p l e R s m args below meth c H locs _ _ Q (F0 m pc ls (.int y :: .int j :: mo_tr ad (.ref q) :: r.map (mo_tr ad)))
      rw [mo_tr_ref g1]
      refine va_bast hx hb hK hP hD hS (q - 1) 2 g3 rfl hj hdg (fun H1 locs1 p1 p2 p3 => hk _ hT H1 locs1 ls ⟨?_, ?_, r1, r2, r3, h00⟩ p3 hL)
      · show va_P D mo_cls (mo_w cA ad (K, RR, mo_up I q j.toNatClampNeg (vp_nar .byte y), L, x)) H1
        rw [mo_w_upd (R := RR) (I := I) (L := L) (x := x) g1 g2 (fun z hz => ⟨rfl, mo_up_off hz, rfl⟩), hq, mo_up_i]
        exact p1
      · show va_D A (mo_w cA ad (K, RR, mo_up I q j.toNatClampNeg (vp_nar .byte y), L, x))
        rw [mo_w_upd (R := RR) (I := I) (L := L) (x := x) g1 g2 (fun z hz => ⟨rfl, mo_up_off hz, rfl⟩), hq, mo_up_i]
        exact p2
    | succ t' =>
      obtain ⟨q, j, y, r, rfl, h⟩ := mo_prai_inv hst
      obtain rfl := Option.some.inj h
      obtain ⟨⟨hq, hj⟩, hT⟩ := hT
      obtain ⟨g1, g2, g3⟩ := mo_e_z (cA := cA) (ad := ad) (R := RR) (I := I) (L := L) (x := x) h00 hq
      show W p l e R s m args below meth c H locs _ _ Q (F0 m pc ls (.int y :: .int j :: mo_tr ad (.ref q) :: r.map (mo_tr ad)))
      rw [mo_tr_ref g1]
      refine va_zast hx hb hK hP hD hS (q - 1) 3 g3 rfl hj hdg (fun H1 locs1 p1 p2 p3 => hk _ hT H1 locs1 ls ⟨?_, ?_, r1, r2, r3, h00⟩ p3 hL)
      · show va_P D mo_cls (mo_w cA ad (K, RR, mo_up I q j.toNatClampNeg (vp_nar .boolean y), L, x)) H1
        rw [mo_w_upd (R := RR) (I := I) (L := L) (x := x) g1 g2 (fun z hz => ⟨rfl, mo_up_off hz, rfl⟩), hq, mo_up_i]
        exact p1
      · show va_D A (mo_w cA ad (K, RR, mo_up I q j.toNatClampNeg (vp_nar .boolean y), L, x))
        rw [mo_w_upd (R := RR) (I := I) (L := L) (x := x) g1 g2 (fun z hz => ⟨rfl, mo_up_off hz, rfl⟩), hq, mo_up_i]
        exact p2
  | aastore =>
    have hl1 : len = 1 := of_decide_eq_true hlen
    subst hl1
    have ha := of_decide_eq_true hlk
    subst ha
    obtain ⟨q, j, y, r, rfl, h⟩ := mo_prar_inv hst
    obtain rfl := Option.some.inj h
    obtain ⟨⟨hq, hj, hy⟩, hT⟩ := hT
    obtain ⟨g1, g2, g3⟩ := mo_e_t (cA := cA) (ad := ad) (R := RR) (I := I) (L := L) (x := x) h00 hq
    obtain ⟨y1, y2, y3⟩ := mo_e_obj (cA := cA) (ad := ad) (R := RR) (I := I) (L := L) (x := x) h00 hy (by omega)
    show W p l e R s m args below meth c H locs _ _ Q (F0 m pc ls (mo_tr ad (.ref y) :: .int j :: mo_tr ad (.ref q) :: r.map (mo_tr ad)))
    rw [mo_tr_ref g1, mo_tr_ref y1]
    have e1 : (fun z => if mo_up RR q j.toNatClampNeg y q z = 0 then none else some (ad (mo_up RR q j.toNatClampNeg y q z))) = va_up (fun z => if RR q z = 0 then none else some (ad (RR q z))) j.toNatClampNeg (some (ad y)) := by
      funext z
      by_cases ez : z = j.toNatClampNeg
      · subst ez
        rw [mo_up_at, va_up_self, if_neg y1]
      · rw [mo_up_in ez, va_up_ne _ _ ez]
    refine va_astq hx hb hK hP hD hS (q - 1) 4 (y - 1) 3 g3 rfl y3 rfl hj hdg (fun H1 locs1 p1 p2 p3 => hk _ hT H1 locs1 ls ⟨?_, ?_, r1, r2, r3, h00⟩ p3 hL)
    · show va_P D mo_cls (mo_w cA ad (K, mo_up RR q j.toNatClampNeg y, I, L, x)) H1
      rw [mo_w_upd (R := RR) (I := I) (L := L) (x := x) g1 g2 (fun z hz => ⟨mo_up_off hz, rfl, rfl⟩), hq]
      unfold mo_en
      rw [← e1] at p1
      exact p1
    · show va_D A (mo_w cA ad (K, mo_up RR q j.toNatClampNeg y, I, L, x))
      rw [mo_w_upd (R := RR) (I := I) (L := L) (x := x) g1 g2 (fun z hz => ⟨mo_up_off hz, rfl, rfl⟩), hq]
      unfold mo_en
      rw [← e1] at p2
      exact p2
  | arraylength =>
    have hl1 : len = 1 := of_decide_eq_true hlen
    subst hl1
    by_cases t0 : t = 0
    · subst t0
      obtain ⟨q, r, rfl, h⟩ := mo_pr_inv hst
      obtain rfl := Option.some.inj h
      obtain ⟨⟨hq, hq2⟩, hT⟩ := hT
      rcases (show mo_kd K q = 100 ∨ mo_kd K q = 101 ∨ mo_kd K q = 102 ∨ mo_kd K q = 103 ∨ mo_kd K q = 104 by omega) with hq | hq | hq | hq | hq
      · obtain ⟨g1, g2, g3⟩ := mo_e_i (cA := cA) (ad := ad) (R := RR) (I := I) (L := L) (x := x) h00 hq
        show W p l e R s m args below meth c H locs _ _ Q (F0 m pc ls (mo_tr ad (.ref q) :: r.map (mo_tr ad)))
        rw [mo_tr_ref g1]
        exact va_alen hx hb hK hP (q - 1) 0 g3 rfl rfl hdg (hk _ hT H locs ls hR0 hS hL)
      · obtain ⟨g1, g2, g3⟩ := mo_e_l (cA := cA) (ad := ad) (R := RR) (I := I) (L := L) (x := x) h00 hq
        show W p l e R s m args below meth c H locs _ _ Q (F0 m pc ls (mo_tr ad (.ref q) :: r.map (mo_tr ad)))
        rw [mo_tr_ref g1]
        exact va_alen hx hb hK hP (q - 1) 1 g3 rfl rfl hdg (hk _ hT H locs ls hR0 hS hL)
      · obtain ⟨g1, g2, g3⟩ := mo_e_b (cA := cA) (ad := ad) (R := RR) (I := I) (L := L) (x := x) h00 hq
        show W p l e R s m args below meth c H locs _ _ Q (F0 m pc ls (mo_tr ad (.ref q) :: r.map (mo_tr ad)))
        rw [mo_tr_ref g1]
        exact va_alen hx hb hK hP (q - 1) 2 g3 rfl rfl hdg (hk _ hT H locs ls hR0 hS hL)
      · obtain ⟨g1, g2, g3⟩ := mo_e_z (cA := cA) (ad := ad) (R := RR) (I := I) (L := L) (x := x) h00 hq
        show W p l e R s m args below meth c H locs _ _ Q (F0 m pc ls (mo_tr ad (.ref q) :: r.map (mo_tr ad)))
        rw [mo_tr_ref g1]
        exact va_alen hx hb hK hP (q - 1) 3 g3 rfl rfl hdg (hk _ hT H locs ls hR0 hS hL)
      · obtain ⟨g1, g2, g3⟩ := mo_e_t (cA := cA) (ad := ad) (R := RR) (I := I) (L := L) (x := x) h00 hq
        show W p l e R s m args below meth c H locs _ _ Q (F0 m pc ls (mo_tr ad (.ref q) :: r.map (mo_tr ad)))
        rw [mo_tr_ref g1]
        exact va_alen hx hb hK hP (q - 1) 4 g3 rfl rfl hdg (hk _ hT H locs ls hR0 hS hL)
    by_cases t1 : t = 1
    · subst t1
      obtain ⟨q, r, rfl, h⟩ := mo_pr_inv hst
      obtain rfl := Option.some.inj h
      obtain ⟨rfl, hT⟩ := hT
      exact va_tlen hx hb st1 hS rfl hdg (hk _ hT H locs ls hR0 hS hL)
    by_cases t2 : t = 2
    · subst t2
      obtain ⟨q, r, rfl, h⟩ := mo_pr_inv hst
      obtain rfl := Option.some.inj h
      obtain ⟨rfl, hT⟩ := hT
      exact va_tlen hx hb st2 hS rfl hdg (hk _ hT H locs ls hR0 hS hL)
    obtain ⟨u, rfl⟩ : ∃ u, t = u + 3 := ⟨t - 3, by omega⟩
    obtain ⟨q, r, rfl, h⟩ := mo_pr_inv hst
    obtain rfl := Option.some.inj h
    obtain ⟨⟨rfl, hj⟩, hT⟩ := hT
    rcases hXs with hXs | ⟨x1, x2, x3⟩
    · omega
    · exact va_slen hx hb x1 x2 x3 hS hdg (hk _ hT H locs ls hR0 hS hL)
  | _ => cases hst
theorem mo_wp_sound {own : String} {ini : Bool} {cc : ByteArray} {code : List (Nat × mo_I)} (hC : mo_Cx p R s m args c D cA ad A k0 z0 X own cc) (hini : ini = true → meth.name = "<init>") (hok : code.all (mo_chk own ini cc) = true) (cuts : List Nat) : ∀ (n : Nat) (f : mo_F), mo_wp X code cuts n f (mo_G p l e R s m args below meth c Q D cA ad A k0 z0) → mo_G p l e R s m args below meth c Q D cA ad A k0 z0 f
  | 0, f, h => h
  | n + 1, (pc, ml, st, σ), h => by
    unfold mo_wp at h
    split at h
    · exact h
    · split at h
      · exact h
      · rename_i i hat
        split at h
        · exact h
        · rename_i T hst
          exact mo_sound hC hini hok hat hst h (fun f hf => mo_wp_sound hC hini hok cuts n f hf)
/-- THE RULE: from f on, one instruction and more -/
theorem mo_wq_sound {own : String} {ini : Bool} {cc : ByteArray} {code : List (Nat × mo_I)} (hC : mo_Cx p R s m args c D cA ad A k0 z0 X own cc) (hini : ini = true → meth.name = "<init>") (hok : code.all (mo_chk own ini cc) = true) (cuts : List Nat) (n : Nat) (f : mo_F) (h : mo_wq X code cuts n f (mo_G p l e R s m args below meth c Q D cA ad A k0 z0)) : mo_G p l e R s m args below meth c Q D cA ad A k0 z0 f := by
  obtain ⟨pc, ml, st, σ⟩ := f
  unfold mo_wq at h
  dsimp only at h
  split at h
  · exact h
  · rename_i i hat
    split at h
    · exact h
    · rename_i T hst
      exact mo_sound hC hini hok hat hst h (fun f hf => mo_wp_sound hC hini hok cuts n f hf)
/-- fewer locals known -/
theorem mo_fewer {pc : Nat} {ml ml' : mo_L} {st : List Value} {σ : mo_S} (hlen : ml'.length = ml.length) (h : ∀ (i : Nat) (v : Value), ml'[i]? = some (some v) → ml[i]? = some (some v)) (k : mo_G p l e R s m args below meth c Q D cA ad A k0 z0 (pc, ml', st, σ)) : mo_G p l e R s m args below meth c Q D cA ad A k0 z0 (pc, ml, st, σ) :=
  fun H locs ls hR hS hL => k H locs ls hR hS ⟨hL.1.trans hlen.symm, hL.2.1, fun i v hv => hL.2.2 i v (h i v hv)⟩
end MO
