/-! The law's entry, and all of it. -/
def lc_start : List (Nat × mo_I) := [(0, .new 8, 3, 0, 14, 0, .null),
  (3, .dup, 1, 0, 0, 0, .null),
  (4, .invokespecial 35, 3, 0, 0, 0, .null),
  (7, .astore_n 1, 1, 0, 0, 0, .null),
  (8, .new 36, 3, 11, 42, 0, .null),
  (11, .dup, 1, 0, 0, 0, .null),
  (12, .invokespecial 38, 3, 0, 0, 0, .null),
  (15, .astore_n 2, 1, 0, 0, 0, .null),
  (16, .iconst 1, 1, 0, 0, 0, .int 1),
  (17, .newarray .long, 2, 101, 0, 0, .null),
  (19, .astore_n 3, 1, 0, 0, 0, .null),
  (20, .iconst 0, 1, 0, 0, 0, .int 0),
  (21, .istore 4, 2, 0, 0, 0, .null)]
set_option maxRecDepth 100000 in
theorem lok_start : lc_start.all (mo_chk mm_Law_law.1.cls false mm_Law_law.2.1) = true := by decide +kernel
/-- the ints when both were made -/
def gI : Nat → Nat → Int32 := mo_fi (mo_fi zI 70 0 8 (fun _ => -1)) 71 0 8 (fun _ => -1)
theorem gI_0 {a y : Nat} (h1 : a ≠ 70) (h2 : a ≠ 71) : gI a y = 0 := by
  show (if a = 71 ∧ 0 ≤ y ∧ y < 0 + 8 then (-1 : Int32) else (if a = 70 ∧ 0 ≤ y ∧ y < 0 + 8 then -1 else 0)) = 0
  rw [if_neg (fun z => h2 z.1), if_neg (fun z => h1 z.1)]
theorem gI_7 {m : Nat} (hm : m < 8) : gI 70 m = -1 ∧ gI 71 m = -1 := by
  constructor
  · show (if 70 = 71 ∧ 0 ≤ m ∧ m < 0 + 8 then (-1 : Int32) else (if 70 = 70 ∧ 0 ≤ m ∧ m < 0 + 8 then -1 else 0)) = -1
    rw [if_neg (fun z => absurd z.1 (by decide)), if_pos ⟨rfl, Nat.zero_le _, by omega⟩]
  · show (if 71 = 71 ∧ 0 ≤ m ∧ m < 0 + 8 then (-1 : Int32) else (if 71 = 70 ∧ 0 ≤ m ∧ m < 0 + 8 then -1 else 0)) = -1
    rw [if_pos ⟨rfl, Nat.zero_le _, by omega⟩]
theorem gI_row {a : Nat} (h1 : a ≠ 70) (h2 : a ≠ 71) : gI a = fun _ => 0 := funext (fun _ => gI_0 h1 h2)
/-- the invariant as the law begins -/
theorem wInv_0 : wInv false gI zL (rdT (fun _ => 0)) [] := by
  have hz : ∀ k : Nat, (fun _ : Nat => (0 : Int32)) k = nI 0 := fun _ => rfl
  have hA : rdA gI 76 (fun _ => 0) (fun _ => 0) 0 0 0 0 0 := by
    refine ⟨⟨⟨⟨gI_0 (by decide) (by decide), gI_0 (by decide) (by decide), gI_0 (by decide) (by decide), gI_0 (by decide) (by decide), gI_0 (by decide) (by decide)⟩, gI_0 (by decide) (by decide), gI_0 (by decide) (by decide)⟩, ?_, ?_, ?_, ?_, ?_⟩, ⟨⟨⟨rfl, by decide⟩, ⟨rfl, by decide⟩, ⟨rfl, by decide⟩, ⟨rfl, by decide⟩, rfl, by decide⟩, ?_, ?_, ?_, ?_, ?_, ?_⟩, ⟨?_, 0, gI_0 (by decide) (by decide), rfl⟩, ?_⟩
    · intro m hm; exact absurd hm (Nat.not_lt_zero m)
    · intro m hm; exact absurd hm (Nat.not_lt_zero m)
    · intro m hm; exact absurd hm (Nat.not_lt_zero m)
    · intro m hm; exact absurd hm (Nat.not_lt_zero m)
    · intro m hm; exact absurd hm (Nat.not_lt_zero m)
    · intro m hm; exact absurd hm (Nat.not_lt_zero m)
    · intro m m' hm; exact absurd hm (Nat.not_lt_zero m)
    · intro m hm; exact absurd hm (Nat.not_lt_zero m)
    · intro m m' hm; exact absurd hm (Nat.not_lt_zero m)
    · intro m hm; exact absurd hm (Nat.not_lt_zero m)
    · intro m hm; exact absurd hm (Nat.not_lt_zero m)
    · intro m m' hm; exact absurd hm (Nat.not_lt_zero m)
    · intro m hm; exact absurd hm (Nat.not_lt_zero m)
  have hk : ∀ k : Nat, k = 0 ∨ k = 1 → wKp gI zL false k := fun k hk => by
    have e : gI 135 k = 0 := gI_0 (by decide) (by decide)
    refine ⟨⟨fun _ => e, fun _ => ?_⟩, fun z => absurd e z⟩
    rw [gI_0 (by decide) (by decide)]
    rcases hk with rfl | rfl <;> decide +kernel
  refine ⟨?_, ⟨⟨gI_0 (by decide) (by decide), Nat.zero_le _, fun k z => absurd z (Nat.not_lt_zero k)⟩, gI_0 (by decide) (by decide), fun k z => absurd z (Nat.not_lt_zero k)⟩, ?_, ⟨fun m hm => ?_, fun m hm => ?_⟩, hk 0 (Or.inl rfl), hk 1 (Or.inr rfl)⟩
  · rw [gI_row (by decide) (by decide)]
    exact rd_T (s := false) (by decide) hA (fun _ _ => rfl) (fun _ _ _ => rfl) (fun _ _ => rfl)
  · rw [gI_0 (by decide) (by decide), gI_0 (by decide) (by decide)]
  · rw [(gI_7 hm).1, gI_0 (a := 126) (by decide) (by decide), if_pos rfl]
  · rw [(gI_7 hm).2, gI_0 (a := 126) (by decide) (by decide), if_pos rfl]
def kM : mo_K := kG ++ Gate_ks
theorem kM_len : kM.length = 126 := by decide +kernel
def kN : mo_K := (kM ++ [(11, 42)]) ++ Model_ks
theorem kN_len : kN.length = 149 := by decide +kernel
theorem kN_K : kN ++ [(101, 1)] = wK := by decide +kernel
theorem gI_hi {a : Nat} (h : 126 ≤ a) (y : Nat) : gI a y = 0 := gI_0 (by omega) (by omega)
set_option maxRecDepth 100000 in
theorem Gate_es_lt : ∀ q ∈ Gate_es, q.1 < 126 := by decide +kernel
set_option maxRecDepth 100000 in
theorem wE_lt : ∀ q ∈ wE, q.1 < 149 := by decide +kernel
section L
variable {l : Launch} {n : Nat} {f : Nat → Int32}
set_option maxRecDepth 100000 in
theorem law_entry (kk : JL l n f (23, [some (.ref 1000000), some (.ref 1), some (.ref 126), some (.ref 149), some (.int (nI 0)), none, none, none], [], (wK, wR false, gI, zL, 0))) : JL l n f (0, [some (.ref 1000000), none, none, none, none, none, none, none], [], σL) := by
  refine J_cast (f := (0, [some (.ref 1000000), none, none, none, none, none, none, none], [], ([(99, 0)] ++ [], ru [], zI, zL, 0))) rfl ?_
  refine mo_J_runS lok_start [3] 400 _ (show (0 = 0 ∧ List.length ([(99, 0)] ++ []) + 1 ≤ σL.1.length + 661 ∧ mo_sz ([(99, 0)] ++ []) + 14 ≤ mo_sz σL.1 + 53795) ∧ JL l n f (3, [some (.ref 1000000), none, none, none, none, none, none, none], [.ref (List.length ([((99 : Nat), (0 : Nat))] ++ []))], (([(99, 0)] ++ []) ++ [(0, 14)], mo_zr (ru []) (List.length ([((99 : Nat), (0 : Nat))] ++ [])) 0, mo_zr zI (List.length ([((99 : Nat), (0 : Nat))] ++ [])) 0, mo_zr zL (List.length ([((99 : Nat), (0 : Nat))] ++ [])) 0, 0)) from ⟨⟨rfl, by decide +kernel, by decide +kernel⟩, J_nw (K := [(99, 0)]) (ks := []) (E := []) (c := 0) (N := 14) (fun q h => by cases h) rfl rfl ?_⟩)
  refine mo_J_runS lok_start [] 400 _ (show JL l n f (4, [some (.ref 1000000), none, none, none, none, none, none, none], [.ref 1, .ref 1], (kG, ru [], zI, zL, 0)) from mo_J_callI (q := 1) (as2 := []) (rest := [.ref 1]) (C_Gate_init l) cd_Gate_init rfl (mo_dec lok_start (show mo_at lc_start 4 = some (.invokespecial 35, 3, 0, 0, 0, .null) from rfl)) (show mo_kI mm_Law_law.1.cls 35 mm_Gate_init 0 = true by decide +kernel) (by decide) rfl rfl ⟨by decide +kernel, by decide +kernel, by decide +kernel, by decide +kernel, by decide +kernel, fun _ => ⟨rfl, rfl, by decide +kernel⟩⟩ (fun r K2 R2 I2 L2 x2 z => J_cl z ?_))
  refine J_cast (f := (7, [some (.ref 1000000), none, none, none, none, none, none, none], [.ref 1], (kM ++ [], ru Gate_es, gI, zL, 0))) (by rw [List.append_nil] <;> rfl) ?_
  have hZ : ∀ a, kM.length ≤ a → ∀ y, gI a y = 0 := fun a h y => gI_hi (by rw [kM_len] at h; exact h) y
  have hE : ∀ q ∈ Gate_es, q.1 < (kM ++ []).length := fun q h => by rw [List.append_nil, kM_len]; exact Gate_es_lt q h
  refine mo_J_runS lok_start [11] 400 _ (show (0 = 0 ∧ List.length (kM ++ []) + 1 ≤ σL.1.length + 661 ∧ mo_sz (kM ++ []) + 42 ≤ mo_sz σL.1 + 53795) ∧ JL l n f (11, [some (.ref 1000000), some (.ref 1), none, none, none, none, none, none], [.ref (List.length (kM ++ []))], ((kM ++ []) ++ [(11, 42)], mo_zr (ru Gate_es) (List.length (kM ++ [])) 0, mo_zr gI (List.length (kM ++ [])) 0, mo_zr zL (List.length (kM ++ [])) 0, 0)) from ⟨⟨rfl, by decide +kernel, by decide +kernel⟩, J_nwI (K := kM) (ks := []) (E := Gate_es) (c := 11) (N := 42) (I0 := gI) hZ hE rfl rfl ?_⟩)
  have e126 : List.length (kM ++ []) = 126 := by rw [List.append_nil]; exact kM_len
  rw [e126]
  refine J_cast (f := (11, [some (.ref 1000000), some (.ref 1), none, none, none, none, none, none], [.ref 126], (kM ++ [(11, 42)], ru Gate_es, gI, zL, 0))) rfl ?_
  refine mo_J_runS lok_start [] 400 _ (show JL l n f (12, [some (.ref 1000000), some (.ref 1), none, none, none, none, none, none], [.ref 126, .ref 126], (kM ++ [(11, 42)], ru Gate_es, gI, zL, 0)) from mo_J_callI (q := 126) (as2 := []) (rest := [.ref 126]) (C_Model_initI l (kM ++ [(11, 42)]) Gate_es 126 (by decide +kernel) (fun q h => by have := Gate_es_lt q h; rw [List.length_append, kM_len]; omega) (by decide) gI (fun a h y => gI_hi (by rw [List.length_append, kM_len] at h; omega) y) (by rw [List.length_append, kM_len]; decide)) cd_Model_init rfl (mo_dec lok_start (show mo_at lc_start 12 = some (.invokespecial 38, 3, 0, 0, 0, .null) from rfl)) (show mo_kI mm_Law_law.1.cls 38 mm_Model_init 0 = true by decide +kernel) (by decide) rfl rfl ⟨by decide +kernel, by decide +kernel, by decide +kernel, by decide +kernel, by decide +kernel, fun _ => ⟨rfl, rfl, by decide +kernel⟩⟩ (fun r K2 R2 I2 L2 x2 z => J_cl z ?_))
  have e127 : (kM ++ [(11, 42)]).length = 127 := by rw [List.length_append, kM_len]; rfl
  rw [e127]
  refine J_cast (f := (15, [some (.ref 1000000), some (.ref 1), none, none, none, none, none, none], [.ref 126], (kN ++ [], ru wE, gI, zL, 0))) (by rw [List.append_nil] <;> rfl) ?_
  have hE2 : ∀ q ∈ wE, q.1 < (kN ++ []).length := fun q h => by rw [List.append_nil, kN_len]; exact wE_lt q h
  refine mo_J_runS lok_start [19] 400 _ (show (0 = 0 ∧ List.length (kN ++ []) + 1 ≤ σL.1.length + 661 ∧ mo_sz (kN ++ []) + (1 : Int32).toNatClampNeg ≤ mo_sz σL.1 + 53795 ∧ ¬ (1 : Int32) < 0 ∧ (1 : Int32).toNatClampNeg ≤ 67108864) ∧ JL l n f (19, [some (.ref 1000000), some (.ref 1), some (.ref 126), none, none, none, none, none], [.ref (List.length (kN ++ []))], ((kN ++ []) ++ [(101, (1 : Int32).toNatClampNeg)], mo_zr (ru wE) (List.length (kN ++ [])) 0, mo_zr gI (List.length (kN ++ [])) 0, mo_zr zL (List.length (kN ++ [])) 0, 0)) from ⟨⟨rfl, by decide +kernel, by decide +kernel, by decide, by decide⟩, J_nwI (K := kN) (ks := []) (E := wE) (c := 101) (N := 1) (I0 := gI) (fun a h y => gI_hi (by rw [kN_len] at h; omega) y) hE2 (by decide) rfl ?_⟩)
  have e149 : List.length (kN ++ []) = 149 := by rw [List.append_nil]; exact kN_len
  rw [e149]
  refine J_cast (f := (19, [some (.ref 1000000), some (.ref 1), some (.ref 126), none, none, none, none, none], [.ref 149], (wK, wR false, gI, zL, 0))) (by rw [← kN_K, ← wR_0]; rfl) ?_
  exact mo_J_runS lok_start [23] 400 _ (show JL l n f (23, [some (.ref 1000000), some (.ref 1), some (.ref 126), some (.ref 149), some (.int 0), none, none, none], [], (wK, wR false, gI, zL, 0)) from kk)
theorem law_all (hfl : l.flags = pinnedFlags ++ [noTraceFlag]) (hn : n ≤ 3072) : JL l n f (0, [some (.ref 1000000), none, none, none, none, none, none, none], [], σL) :=
  law_entry (law_loop hfl hn (fun _ _ _ _ _ h => P_town l h) (fun _ _ _ _ _ h => P_sights l h) (n / 6) 0 0 false gI zL _ [] (by omega) (by omega) (by omega) wInv_0)
end L
