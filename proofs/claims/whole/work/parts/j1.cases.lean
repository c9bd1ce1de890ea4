/-! The law's cases. -/
def σL : mo_S := ([(99, 0)], ru [], zI, zL, 0)
/-- within the law: it comes to its end with 1 -/
abbrev JL (l : Launch) (n : Nat) (f : Nat → Int32) (F : mo_F) : Prop := mo_JQ l mm_Law_law 20 661 53795 true σL (sQ n f σL (mo_MQ σL 661 53795 (fun r _ => r = some (.int 1)))) F
theorem vin {i k n : Nat} (hk : k < 6) (hi : i + 6 ≤ n) (hn : n ≤ 3072) : vp_in (nI i + nI k) n := by
  rw [show nI i + nI k = nI (i + k) from nI_add i k]
  exact nI_in (by omega) (by omega)
set_option maxRecDepth 100000 in
theorem w_sz : mo_sz wK = 50723 := by decide +kernel
set_option maxRecDepth 100000 in
theorem w_len : wK.length = 150 := by decide +kernel
theorem w_kdm : mo_kd wK 126 = 11 := by decide +kernel
theorem fitL {M2 : mo_M} {d2 mc2 ms2 x : Nat} {rest : List Value} (h1 : d2 + 1 ≤ 20) (h2 : M2.2.2.1 ≤ 80) (hx : x + mc2 ≤ 512) (hm : 6 * x + ms2 ≤ 3072) (hw : mo_wd rest ≤ 8) : mo_fit 20 661 53795 true σL M2 d2 mc2 ms2 false wK x rest := by
  refine ⟨h1, h2, ?_, ?_, hw, fun z => by cases z⟩
  · rw [w_len]
    show 150 + x + mc2 ≤ 1 + 661
    omega
  · rw [w_sz]
    show 50723 + 6 * x + ms2 ≤ 0 + 53795
    omega
theorem fewL {a b c d e g h k : Option Value} {j : Nat} {v : Value} (hj : ([a, b, c, d, e, none, none, none] : mo_L)[j]? = some (some v)) {m : mo_L} (hm : m = [a, b, c, d, e, g, h, k]) : m[j]? = some (some v) := by
  subst hm
  match j with
  | 0 => exact hj
  | 1 => exact hj
  | 2 => exact hj
  | 3 => exact hj
  | 4 => exact hj
  | 5 => cases hj
  | 6 => cases hj
  | 7 => cases hj
  | j + 8 => cases hj

def lc_feed : List (Nat × mo_I) := [(228, .aload_n 1, 1, 0, 0, 0, .null),
  (229, .aload_n 0, 1, 0, 0, 0, .null),
  (230, .iload 4, 2, 0, 0, 0, .null),
  (232, .iconst 1, 1, 0, 0, 0, .int 1),
  (233, .iadd, 1, 0, 0, 0, .null),
  (234, .iaload, 1, 0, 0, 2, .null),
  (235, .aload_n 0, 1, 0, 0, 0, .null),
  (236, .iload 4, 2, 0, 0, 0, .null),
  (238, .iconst 2, 1, 0, 0, 0, .int 2),
  (239, .iadd, 1, 0, 0, 0, .null),
  (240, .iaload, 1, 0, 0, 2, .null),
  (241, .aload_n 0, 1, 0, 0, 0, .null),
  (242, .iload 4, 2, 0, 0, 0, .null),
  (244, .iconst 3, 1, 0, 0, 0, .int 3),
  (245, .iadd, 1, 0, 0, 0, .null),
  (246, .iaload, 1, 0, 0, 2, .null),
  (247, .aload_n 0, 1, 0, 0, 0, .null),
  (248, .iload 4, 2, 0, 0, 0, .null),
  (250, .iconst 4, 1, 0, 0, 0, .int 4),
  (251, .iadd, 1, 0, 0, 0, .null),
  (252, .iaload, 1, 0, 0, 2, .null),
  (253, .aload_n 0, 1, 0, 0, 0, .null),
  (254, .iload 4, 2, 0, 0, 0, .null),
  (256, .iconst 5, 1, 0, 0, 0, .int 5),
  (257, .iadd, 1, 0, 0, 0, .null),
  (258, .iaload, 1, 0, 0, 2, .null),
  (259, .invokevirtual 39, 3, 0, 0, 0, .null),
  (262, .aload_n 2, 1, 0, 0, 0, .null),
  (263, .aload_n 0, 1, 0, 0, 0, .null),
  (264, .iload 4, 2, 0, 0, 0, .null),
  (266, .iconst 1, 1, 0, 0, 0, .int 1),
  (267, .iadd, 1, 0, 0, 0, .null),
  (268, .iaload, 1, 0, 0, 2, .null),
  (269, .aload_n 0, 1, 0, 0, 0, .null),
  (270, .iload 4, 2, 0, 0, 0, .null),
  (272, .iconst 2, 1, 0, 0, 0, .int 2),
  (273, .iadd, 1, 0, 0, 0, .null),
  (274, .iaload, 1, 0, 0, 2, .null),
  (275, .aload_n 0, 1, 0, 0, 0, .null),
  (276, .iload 4, 2, 0, 0, 0, .null),
  (278, .iconst 3, 1, 0, 0, 0, .int 3),
  (279, .iadd, 1, 0, 0, 0, .null),
  (280, .iaload, 1, 0, 0, 2, .null),
  (281, .aload_n 0, 1, 0, 0, 0, .null),
  (282, .iload 4, 2, 0, 0, 0, .null),
  (284, .iconst 4, 1, 0, 0, 0, .int 4),
  (285, .iadd, 1, 0, 0, 0, .null),
  (286, .iaload, 1, 0, 0, 2, .null),
  (287, .aload_n 0, 1, 0, 0, 0, .null),
  (288, .iload 4, 2, 0, 0, 0, .null),
  (290, .iconst 5, 1, 0, 0, 0, .int 5),
  (291, .iadd, 1, 0, 0, 0, .null),
  (292, .iaload, 1, 0, 0, 2, .null),
  (293, .invokevirtual 43, 3, 0, 0, 0, .null),
  (296, .if_icmp .eq 1460, 3, 1756, 0, 0, .null),
  (299, .iconst 0, 1, 0, 0, 0, .int 0),
  (300, .ireturn, 1, 0, 0, 0, .null)]
set_option maxRecDepth 100000 in
theorem lok_feed : lc_feed.all (mo_chk mm_Law_law.1.cls false mm_Law_law.2.1) = true := by decide +kernel
theorem K_feed {l : Launch} {n : Nat} {f : Nat → Int32} {s : Bool} {I : Nat → Nat → Int32} {L : Nat → Nat → Int64} {T : mo_Tn} {xs : List Nat} {i x : Nat} (hI : wInv s I L T xs) (hx : x ≤ 512) (hi : i + 6 ≤ n) (hn : n ≤ 3072) (kk : ∀ s I L T xs, wInv s I L T xs → JL l n f (1756, [some (.ref 1000000), some (.ref 1), some (.ref 126), some (.ref 149), some (.int (nI i)), none, none, none], [], (wK, wR s, I, L, x))) : JL l n f (228, [some (.ref 1000000), some (.ref 1), some (.ref 126), some (.ref 149), some (.int (nI i)), none, none, none], [], (wK, wR s, I, L, x)) := by
  refine mo_J_runS lok_feed [] 400 _ (show (1000000 = 1000000 ∧ vp_in (nI i + 1) n) ∧ (1000000 = 1000000 ∧ vp_in (nI i + 2) n) ∧ (1000000 = 1000000 ∧ vp_in (nI i + 3) n) ∧ (1000000 = 1000000 ∧ vp_in (nI i + 4) n) ∧ (1000000 = 1000000 ∧ vp_in (nI i + 5) n) ∧ JL l n f (259, [some (.ref 1000000), some (.ref 1), some (.ref 126), some (.ref 149), some (.int (nI i)), none, none, none], [.int (f (nI i + 5).toNatClampNeg), .int (f (nI i + 4).toNatClampNeg), .int (f (nI i + 3).toNatClampNeg), .int (f (nI i + 2).toNatClampNeg), .int (f (nI i + 1).toNatClampNeg), .ref 1], (wK, wR s, I, L, x)) from ⟨⟨rfl, vin (k := 1) (by decide) hi hn⟩, ⟨rfl, vin (k := 2) (by decide) hi hn⟩, ⟨rfl, vin (k := 3) (by decide) hi hn⟩, ⟨rfl, vin (k := 4) (by decide) hi hn⟩, ⟨rfl, vin (k := 5) (by decide) hi hn⟩, ?_⟩)
  obtain ⟨Ψ1, hc1, h1⟩ := P_feed l hI (f (nI i + 1).toNatClampNeg) (f (nI i + 2).toNatClampNeg) (f (nI i + 3).toNatClampNeg) (f (nI i + 4).toNatClampNeg) (f (nI i + 5).toNatClampNeg)
  refine mo_J_callV (q := 1) (rest := []) hc1 cd_Gate_feed (mo_dec lok_feed (show mo_at lc_feed 259 = some (.invokevirtual 39, 3, 0, 0, 0, .null) from rfl)) (show mo_kV mm_Law_law.1.cls 39 mm_Gate_feed 5 0 = true by decide +kernel) w_kd0 rfl rfl (fitL (by decide) (by decide) (by omega) (by omega) (Nat.le_of_ble_eq_true rfl)) (fun r K2 R2 I2 L2 x2 z => ?_)
  obtain ⟨v, s1, rfl, ⟨b, rfl⟩, rfl, rfl, rfl, Ψ2, hc2, h2⟩ := h1 _ _ _ _ _ _ z
  refine mo_J_runS lok_feed [] 400 _ (show (1000000 = 1000000 ∧ vp_in (nI i + 1) n) ∧ (1000000 = 1000000 ∧ vp_in (nI i + 2) n) ∧ (1000000 = 1000000 ∧ vp_in (nI i + 3) n) ∧ (1000000 = 1000000 ∧ vp_in (nI i + 4) n) ∧ (1000000 = 1000000 ∧ vp_in (nI i + 5) n) ∧ JL l n f (293, [some (.ref 1000000), some (.ref 1), some (.ref 126), some (.ref 149), some (.int (nI i)), none, none, none], [.int (f (nI i + 5).toNatClampNeg), .int (f (nI i + 4).toNatClampNeg), .int (f (nI i + 3).toNatClampNeg), .int (f (nI i + 2).toNatClampNeg), .int (f (nI i + 1).toNatClampNeg), .ref 126, .int b], (wK, wR s1, I2, L2, x + 0)) from ⟨⟨rfl, vin (k := 1) (by decide) hi hn⟩, ⟨rfl, vin (k := 2) (by decide) hi hn⟩, ⟨rfl, vin (k := 3) (by decide) hi hn⟩, ⟨rfl, vin (k := 4) (by decide) hi hn⟩, ⟨rfl, vin (k := 5) (by decide) hi hn⟩, ?_⟩)
  refine mo_J_callV (q := 126) (rest := [.int b]) hc2 cd_Model_feed (mo_dec lok_feed (show mo_at lc_feed 293 = some (.invokevirtual 43, 3, 0, 0, 0, .null) from rfl)) (show mo_kV mm_Law_law.1.cls 43 mm_Model_feed 5 11 = true by decide +kernel) w_kdm rfl rfl (fitL (by decide) (by decide) (by omega) (by omega) (Nat.le_of_ble_eq_true rfl)) (fun r K2 R2 I3 L3 x2 z => ?_)
  obtain ⟨rfl, rfl, rfl, rfl, T', xs', hI'⟩ := h2 _ _ _ _ _ _ z
  exact mo_J_runS lok_feed [1756] 400 _ (show (b = b → JL l n f (1756, [some (.ref 1000000), some (.ref 1), some (.ref 126), some (.ref 149), some (.int (nI i)), none, none, none], [], (wK, wR s1, I3, L3, x + 0 + 0))) ∧ (¬ b = b → JL l n f (300, [some (.ref 1000000), some (.ref 1), some (.ref 126), some (.ref 149), some (.int (nI i)), none, none, none], [.int 0], (wK, wR s1, I3, L3, x + 0 + 0))) from ⟨fun _ => kk _ _ _ _ _ hI', fun z => absurd rfl z⟩)
def lc_end : List (Nat × mo_I) := [(301, .aload_n 1, 1, 0, 0, 0, .null),
  (302, .aload_n 0, 1, 0, 0, 0, .null),
  (303, .iload 4, 2, 0, 0, 0, .null),
  (305, .iconst 1, 1, 0, 0, 0, .int 1),
  (306, .iadd, 1, 0, 0, 0, .null),
  (307, .iaload, 1, 0, 0, 2, .null),
  (308, .invokevirtual 44, 3, 0, 0, 0, .null),
  (311, .aload_n 2, 1, 0, 0, 0, .null),
  (312, .aload_n 0, 1, 0, 0, 0, .null),
  (313, .iload 4, 2, 0, 0, 0, .null),
  (315, .iconst 1, 1, 0, 0, 0, .int 1),
  (316, .iadd, 1, 0, 0, 0, .null),
  (317, .iaload, 1, 0, 0, 2, .null),
  (318, .invokevirtual 48, 3, 0, 0, 0, .null),
  (321, .if_icmp .eq 1435, 3, 1756, 0, 0, .null),
  (324, .iconst 0, 1, 0, 0, 0, .int 0),
  (325, .ireturn, 1, 0, 0, 0, .null)]
set_option maxRecDepth 100000 in
theorem lok_end : lc_end.all (mo_chk mm_Law_law.1.cls false mm_Law_law.2.1) = true := by decide +kernel
theorem K_end {l : Launch} {n : Nat} {f : Nat → Int32} {s : Bool} {I : Nat → Nat → Int32} {L : Nat → Nat → Int64} {T : mo_Tn} {xs : List Nat} {i x : Nat} (hI : wInv s I L T xs) (hx : x ≤ 512) (hi : i + 6 ≤ n) (hn : n ≤ 3072) (kk : ∀ s I L T xs, wInv s I L T xs → JL l n f (1756, [some (.ref 1000000), some (.ref 1), some (.ref 126), some (.ref 149), some (.int (nI i)), none, none, none], [], (wK, wR s, I, L, x))) : JL l n f (301, [some (.ref 1000000), some (.ref 1), some (.ref 126), some (.ref 149), some (.int (nI i)), none, none, none], [], (wK, wR s, I, L, x)) := by
  refine mo_J_runS lok_end [] 400 _ (show (1000000 = 1000000 ∧ vp_in (nI i + 1) n) ∧ JL l n f (308, [some (.ref 1000000), some (.ref 1), some (.ref 126), some (.ref 149), some (.int (nI i)), none, none, none], [.int (f (nI i + 1).toNatClampNeg), .ref 1], (wK, wR s, I, L, x)) from ⟨⟨rfl, vin (k := 1) (by decide) hi hn⟩, ?_⟩)
  obtain ⟨Ψ1, hc1, h1⟩ := P_end l hI (f (nI i + 1).toNatClampNeg)
  refine mo_J_callV (q := 1) (rest := []) hc1 cd_Gate_end (mo_dec lok_end (show mo_at lc_end 308 = some (.invokevirtual 44, 3, 0, 0, 0, .null) from rfl)) (show mo_kV mm_Law_law.1.cls 44 mm_Gate_end 1 0 = true by decide +kernel) w_kd0 rfl rfl (fitL (by decide) (by decide) (by omega) (by omega) (Nat.le_of_ble_eq_true rfl)) (fun r K2 R2 I2 L2 x2 z => ?_)
  obtain ⟨v, s1, rfl, ⟨b, rfl⟩, rfl, rfl, rfl, Ψ2, hc2, h2⟩ := h1 _ _ _ _ _ _ z
  refine mo_J_runS lok_end [] 400 _ (show (1000000 = 1000000 ∧ vp_in (nI i + 1) n) ∧ JL l n f (318, [some (.ref 1000000), some (.ref 1), some (.ref 126), some (.ref 149), some (.int (nI i)), none, none, none], [.int (f (nI i + 1).toNatClampNeg), .ref 126, .int b], (wK, wR s1, I2, L2, x + 0)) from ⟨⟨rfl, vin (k := 1) (by decide) hi hn⟩, ?_⟩)
  refine mo_J_callV (q := 126) (rest := [.int b]) hc2 cd_Model_end (mo_dec lok_end (show mo_at lc_end 318 = some (.invokevirtual 48, 3, 0, 0, 0, .null) from rfl)) (show mo_kV mm_Law_law.1.cls 48 mm_Model_end 1 11 = true by decide +kernel) w_kdm rfl rfl (fitL (by decide) (by decide) (by omega) (by omega) (Nat.le_of_ble_eq_true rfl)) (fun r K2 R2 I3 L3 x2 z => ?_)
  obtain ⟨rfl, rfl, rfl, rfl, T', xs', hI'⟩ := h2 _ _ _ _ _ _ z
  exact mo_J_runS lok_end [1756] 400 _ (show (b = b → JL l n f (1756, [some (.ref 1000000), some (.ref 1), some (.ref 126), some (.ref 149), some (.int (nI i)), none, none, none], [], (wK, wR s1, I3, L3, x + 0 + 0))) ∧ (¬ b = b → JL l n f (325, [some (.ref 1000000), some (.ref 1), some (.ref 126), some (.ref 149), some (.int (nI i)), none, none, none], [.int 0], (wK, wR s1, I3, L3, x + 0 + 0))) from ⟨fun _ => kk _ _ _ _ _ hI', fun z => absurd rfl z⟩)
def lc_town : List (Nat × mo_I) := [(326, .aload_n 1, 1, 0, 0, 0, .null),
  (327, .invokevirtual 49, 3, 0, 0, 0, .null),
  (330, .aload_n 2, 1, 0, 0, 0, .null),
  (331, .invokevirtual 53, 3, 0, 0, 0, .null),
  (334, .if_icmp .eq 1422, 3, 1756, 0, 0, .null),
  (337, .iconst 0, 1, 0, 0, 0, .int 0),
  (338, .ireturn, 1, 0, 0, 0, .null)]
set_option maxRecDepth 100000 in
theorem lok_town : lc_town.all (mo_chk mm_Law_law.1.cls false mm_Law_law.2.1) = true := by decide +kernel
theorem K_town {l : Launch} {n : Nat} {f : Nat → Int32} {s : Bool} {I : Nat → Nat → Int32} {L : Nat → Nat → Int64} {T : mo_Tn} {xs : List Nat} {i x : Nat} (hI : wInv s I L T xs) (hP : wPair l mm_Gate_town 6 [.ref 1] mm_Model_town 7 [.ref 126] s I L) (hx : x ≤ 512) (hi : i + 6 ≤ n) (hn : n ≤ 3072) (kk : ∀ s I L T xs, wInv s I L T xs → JL l n f (1756, [some (.ref 1000000), some (.ref 1), some (.ref 126), some (.ref 149), some (.int (nI i)), none, none, none], [], (wK, wR s, I, L, x))) : JL l n f (326, [some (.ref 1000000), some (.ref 1), some (.ref 126), some (.ref 149), some (.int (nI i)), none, none, none], [], (wK, wR s, I, L, x)) := by
  refine mo_J_runS lok_town [] 400 _ (show JL l n f (327, [some (.ref 1000000), some (.ref 1), some (.ref 126), some (.ref 149), some (.int (nI i)), none, none, none], [.ref 1], (wK, wR s, I, L, x)) from ?_)
  obtain ⟨Ψ1, hc1, h1⟩ := hP
  refine mo_J_callV (q := 1) (rest := []) hc1 cd_Gate_town (mo_dec lok_town (show mo_at lc_town 327 = some (.invokevirtual 49, 3, 0, 0, 0, .null) from rfl)) (show mo_kV mm_Law_law.1.cls 49 mm_Gate_town 0 0 = true by decide +kernel) w_kd0 rfl rfl (fitL (by decide) (by decide) (by omega) (by omega) (Nat.le_of_ble_eq_true rfl)) (fun r K2 R2 I2 L2 x2 z => ?_)
  obtain ⟨v, s1, rfl, ⟨b, rfl⟩, rfl, rfl, rfl, Ψ2, hc2, h2⟩ := h1 _ _ _ _ _ _ z
  refine mo_J_runS lok_town [] 400 _ (show JL l n f (331, [some (.ref 1000000), some (.ref 1), some (.ref 126), some (.ref 149), some (.int (nI i)), none, none, none], [.ref 126, .int b], (wK, wR s1, I2, L2, x + 0)) from ?_)
  refine mo_J_callV (q := 126) (rest := [.int b]) hc2 cd_Model_town (mo_dec lok_town (show mo_at lc_town 331 = some (.invokevirtual 53, 3, 0, 0, 0, .null) from rfl)) (show mo_kV mm_Law_law.1.cls 53 mm_Model_town 0 11 = true by decide +kernel) w_kdm rfl rfl (fitL (by decide) (by decide) (by omega) (by omega) (Nat.le_of_ble_eq_true rfl)) (fun r K2 R2 I3 L3 x2 z => ?_)
  obtain ⟨rfl, rfl, rfl, rfl, T', xs', hI'⟩ := h2 _ _ _ _ _ _ z
  exact mo_J_runS lok_town [1756] 400 _ (show (b = b → JL l n f (1756, [some (.ref 1000000), some (.ref 1), some (.ref 126), some (.ref 149), some (.int (nI i)), none, none, none], [], (wK, wR s1, I3, L3, x + 0 + 0))) ∧ (¬ b = b → JL l n f (338, [some (.ref 1000000), some (.ref 1), some (.ref 126), some (.ref 149), some (.int (nI i)), none, none, none], [.int 0], (wK, wR s1, I3, L3, x + 0 + 0))) from ⟨fun _ => kk _ _ _ _ _ hI', fun z => absurd rfl z⟩)
def lc_fault : List (Nat × mo_I) := [(339, .aload_n 1, 1, 0, 0, 0, .null),
  (340, .invokevirtual 54, 3, 0, 0, 0, .null),
  (343, .aload_n 2, 1, 0, 0, 0, .null),
  (344, .invokevirtual 57, 3, 0, 0, 0, .null),
  (347, .if_icmp .eq 1409, 3, 1756, 0, 0, .null),
  (350, .iconst 0, 1, 0, 0, 0, .int 0),
  (351, .ireturn, 1, 0, 0, 0, .null)]
set_option maxRecDepth 100000 in
theorem lok_fault : lc_fault.all (mo_chk mm_Law_law.1.cls false mm_Law_law.2.1) = true := by decide +kernel
theorem K_fault {l : Launch} {n : Nat} {f : Nat → Int32} {s : Bool} {I : Nat → Nat → Int32} {L : Nat → Nat → Int64} {T : mo_Tn} {xs : List Nat} {i x : Nat} (hI : wInv s I L T xs) (hx : x ≤ 512) (hi : i + 6 ≤ n) (hn : n ≤ 3072) (kk : ∀ s I L T xs, wInv s I L T xs → JL l n f (1756, [some (.ref 1000000), some (.ref 1), some (.ref 126), some (.ref 149), some (.int (nI i)), none, none, none], [], (wK, wR s, I, L, x))) : JL l n f (339, [some (.ref 1000000), some (.ref 1), some (.ref 126), some (.ref 149), some (.int (nI i)), none, none, none], [], (wK, wR s, I, L, x)) := by
  refine mo_J_runS lok_fault [] 400 _ (show JL l n f (340, [some (.ref 1000000), some (.ref 1), some (.ref 126), some (.ref 149), some (.int (nI i)), none, none, none], [.ref 1], (wK, wR s, I, L, x)) from ?_)
  obtain ⟨Ψ1, hc1, h1⟩ := P_fault l hI 
  refine mo_J_callV (q := 1) (rest := []) hc1 cd_Gate_fault (mo_dec lok_fault (show mo_at lc_fault 340 = some (.invokevirtual 54, 3, 0, 0, 0, .null) from rfl)) (show mo_kV mm_Law_law.1.cls 54 mm_Gate_fault 0 0 = true by decide +kernel) w_kd0 rfl rfl (fitL (by decide) (by decide) (by omega) (by omega) (Nat.le_of_ble_eq_true rfl)) (fun r K2 R2 I2 L2 x2 z => ?_)
  obtain ⟨v, s1, rfl, ⟨b, rfl⟩, rfl, rfl, rfl, Ψ2, hc2, h2⟩ := h1 _ _ _ _ _ _ z
  refine mo_J_runS lok_fault [] 400 _ (show JL l n f (344, [some (.ref 1000000), some (.ref 1), some (.ref 126), some (.ref 149), some (.int (nI i)), none, none, none], [.ref 126, .int b], (wK, wR s1, I2, L2, x + 0)) from ?_)
  refine mo_J_callV (q := 126) (rest := [.int b]) hc2 cd_Model_fault (mo_dec lok_fault (show mo_at lc_fault 344 = some (.invokevirtual 57, 3, 0, 0, 0, .null) from rfl)) (show mo_kV mm_Law_law.1.cls 57 mm_Model_fault 0 11 = true by decide +kernel) w_kdm rfl rfl (fitL (by decide) (by decide) (by omega) (by omega) (Nat.le_of_ble_eq_true rfl)) (fun r K2 R2 I3 L3 x2 z => ?_)
  obtain ⟨rfl, rfl, rfl, rfl, T', xs', hI'⟩ := h2 _ _ _ _ _ _ z
  exact mo_J_runS lok_fault [1756] 400 _ (show (b = b → JL l n f (1756, [some (.ref 1000000), some (.ref 1), some (.ref 126), some (.ref 149), some (.int (nI i)), none, none, none], [], (wK, wR s1, I3, L3, x + 0 + 0))) ∧ (¬ b = b → JL l n f (351, [some (.ref 1000000), some (.ref 1), some (.ref 126), some (.ref 149), some (.int (nI i)), none, none, none], [.int 0], (wK, wR s1, I3, L3, x + 0 + 0))) from ⟨fun _ => kk _ _ _ _ _ hI', fun z => absurd rfl z⟩)
def lc_man : List (Nat × mo_I) := [(352, .aload_n 1, 1, 0, 0, 0, .null),
  (353, .aload_n 0, 1, 0, 0, 0, .null),
  (354, .iload 4, 2, 0, 0, 0, .null),
  (356, .iconst 1, 1, 0, 0, 0, .int 1),
  (357, .iadd, 1, 0, 0, 0, .null),
  (358, .iaload, 1, 0, 0, 2, .null),
  (359, .aload_n 0, 1, 0, 0, 0, .null),
  (360, .iload 4, 2, 0, 0, 0, .null),
  (362, .iconst 2, 1, 0, 0, 0, .int 2),
  (363, .iadd, 1, 0, 0, 0, .null),
  (364, .iaload, 1, 0, 0, 2, .null),
  (365, .aload_n 3, 1, 0, 0, 0, .null),
  (366, .invokestatic 58, 3, 0, 0, 0, .null),
  (369, .istore 5, 2, 0, 0, 0, .null),
  (371, .aload_n 2, 1, 0, 0, 0, .null),
  (372, .aload_n 0, 1, 0, 0, 0, .null),
  (373, .iload 4, 2, 0, 0, 0, .null),
  (375, .iconst 1, 1, 0, 0, 0, .int 1),
  (376, .iadd, 1, 0, 0, 0, .null),
  (377, .iaload, 1, 0, 0, 2, .null),
  (378, .aload_n 0, 1, 0, 0, 0, .null),
  (379, .iload 4, 2, 0, 0, 0, .null),
  (381, .iconst 2, 1, 0, 0, 0, .int 2),
  (382, .iadd, 1, 0, 0, 0, .null),
  (383, .iaload, 1, 0, 0, 2, .null),
  (384, .invokevirtual 63, 3, 0, 0, 0, .null),
  (387, .istore 6, 2, 0, 0, 0, .null),
  (389, .aload_n 2, 1, 0, 0, 0, .null),
  (390, .invokevirtual 64, 3, 0, 0, 0, .null),
  (393, .iload 5, 2, 0, 0, 0, .null),
  (395, .if_icmp .eq 5, 3, 400, 0, 0, .null),
  (398, .iconst 0, 1, 0, 0, 0, .int 0),
  (399, .ireturn, 1, 0, 0, 0, .null),
  (400, .iload 5, 2, 0, 0, 0, .null),
  (402, .ifCond .ne 15, 3, 417, 0, 0, .null),
  (405, .aload_n 3, 1, 0, 0, 0, .null),
  (406, .iconst 0, 1, 0, 0, 0, .int 0),
  (407, .laload, 1, 0, 0, 0, .null),
  (408, .iload 6, 2, 0, 0, 0, .null),
  (410, .i2l, 1, 0, 0, 0, .null),
  (411, .lcmp, 1, 0, 0, 0, .null),
  (412, .ifCond .eq 5, 3, 417, 0, 0, .null),
  (415, .iconst 0, 1, 0, 0, 0, .int 0),
  (416, .ireturn, 1, 0, 0, 0, .null),
  (417, .goto 1339, 3, 1756, 0, 0, .null)]
set_option maxRecDepth 100000 in
theorem lok_man : lc_man.all (mo_chk mm_Law_law.1.cls false mm_Law_law.2.1) = true := by decide +kernel
theorem K_man {l : Launch} {n : Nat} {f : Nat → Int32} {s : Bool} {I : Nat → Nat → Int32} {L : Nat → Nat → Int64} {T : mo_Tn} {xs : List Nat} {i x : Nat} (hfl : l.flags = pinnedFlags ++ [noTraceFlag]) (hI : wInv s I L T xs) (hx : x + 1 ≤ 512) (hi : i + 6 ≤ n) (hn : n ≤ 3072) (kk : ∀ s I L T xs, wInv s I L T xs → JL l n f (1756, [some (.ref 1000000), some (.ref 1), some (.ref 126), some (.ref 149), some (.int (nI i)), none, none, none], [], (wK, wR s, I, L, (x + 1)))) : JL l n f (352, [some (.ref 1000000), some (.ref 1), some (.ref 126), some (.ref 149), some (.int (nI i)), none, none, none], [], (wK, wR s, I, L, x)) := by
  refine mo_J_runS lok_man [] 400 _ (show (1000000 = 1000000 ∧ vp_in (nI i + 1) n) ∧ (1000000 = 1000000 ∧ vp_in (nI i + 2) n) ∧ JL l n f (366, [some (.ref 1000000), some (.ref 1), some (.ref 126), some (.ref 149), some (.int (nI i)), none, none, none], [.ref 149, .int (f (nI i + 2).toNatClampNeg), .int (f (nI i + 1).toNatClampNeg), .ref 1], (wK, wR s, I, L, x)) from ⟨⟨rfl, vin (k := 1) (by decide) hi hn⟩, ⟨rfl, vin (k := 2) (by decide) hi hn⟩, ?_⟩)
  obtain ⟨Ψ1, hc1, h1⟩ := Q_man hfl hI (f (nI i + 1).toNatClampNeg) (f (nI i + 2).toNatClampNeg)
  refine mo_J_callH (as2 := [.ref 1, .int (f (nI i + 1).toNatClampNeg), .int (f (nI i + 2).toNatClampNeg), .ref 149]) (rest := []) hc1 cw_Law_man (mo_dec lok_man (show mo_at lc_man 366 = some (.invokestatic 58, 3, 0, 0, 0, .null) from rfl)) (show mo_kH mm_Law_law.1.cls 58 mm_Law_man 4 = true by decide +kernel) rfl rfl (fitL (by decide) (by decide) (by omega) (by omega) (Nat.le_of_ble_eq_true rfl)) (fun r K2 R2 I2 L2 x2 z => ?_)
  obtain ⟨k, rfl, hk, rfl, rfl, rfl, Ψ2, hc2, h2⟩ := h1 _ _ _ _ _ _ z
  refine mo_J_runS lok_man [] 400 _ (show (1000000 = 1000000 ∧ vp_in (nI i + 1) n) ∧ (1000000 = 1000000 ∧ vp_in (nI i + 2) n) ∧ JL l n f (384, [some (.ref 1000000), some (.ref 1), some (.ref 126), some (.ref 149), some (.int (nI i)), some (.int k), none, none], [.int (f (nI i + 2).toNatClampNeg), .int (f (nI i + 1).toNatClampNeg), .ref 126], (wK, wR s, I2, L2, x + 1)) from ⟨⟨rfl, vin (k := 1) (by decide) hi hn⟩, ⟨rfl, vin (k := 2) (by decide) hi hn⟩, ?_⟩)
  refine mo_J_callV (q := 126) (rest := []) hc2 cd_Model_man (mo_dec lok_man (show mo_at lc_man 384 = some (.invokevirtual 63, 3, 0, 0, 0, .null) from rfl)) (show mo_kV mm_Law_law.1.cls 63 mm_Model_man 2 11 = true by decide +kernel) w_kdm rfl rfl (fitL (by decide) (by decide) (by omega) (by omega) (Nat.le_of_ble_eq_true rfl)) (fun r K2 R2 I3 L3 x2 z => ?_)
  obtain ⟨b, rfl, rfl, rfl, rfl, h0, hb, T', xs', hI'⟩ := h2 _ _ _ _ _ _ z
  refine mo_J_runS lok_man [] 400 _ (show JL l n f (390, [some (.ref 1000000), some (.ref 1), some (.ref 126), some (.ref 149), some (.int (nI i)), some (.int k), some (.int b), none], [.ref 126], (wK, wR s, I3, L3, x + 1 + 0)) from ?_)
  refine mo_J_callV (q := 126) (as2 := []) (rest := []) (C_Model_thrown l wK (wR s) I3 L3 126 (w_md s)) cd_Model_thrown (mo_dec lok_man (show mo_at lc_man 390 = some (.invokevirtual 64, 3, 0, 0, 0, .null) from rfl)) (show mo_kV mm_Law_law.1.cls 64 mm_Model_thrown 0 11 = true by decide +kernel) w_kdm rfl rfl (fitL (by decide) (by decide) (by omega) (by omega) (Nat.le_of_ble_eq_true rfl)) (fun r K2 R2 I4 L4 x2 z => ?_)
  obtain ⟨z, rfl⟩ := z
  cases z
  have fin : JL l n f (1756, [some (.ref 1000000), some (.ref 1), some (.ref 126), some (.ref 149), some (.int (nI i)), some (.int k), some (.int b), none], [], (wK, wR s, I3, L3, x + 1 + 0 + 0)) := mo_J_fewer (ml' := [some (.ref 1000000), some (.ref 1), some (.ref 126), some (.ref 149), some (.int (nI i)), none, none, none]) rfl (fun j v hj => fewL hj rfl) (kk _ _ _ _ _ hI')
  exact mo_J_runS lok_man [1756] 400 _ (show ((I3 126 0) = k → (k = 0 → (mo_kd wK 149 = 101 ∧ vp_in 0 (mo_ln wK 149)) ∧ (lg_cmp (L3 149 (0 : Int32).toNatClampNeg) b.toInt64 = 0 → JL l n f (1756, [some (.ref 1000000), some (.ref 1), some (.ref 126), some (.ref 149), some (.int (nI i)), some (.int k), some (.int b), none], [], (wK, wR s, I3, L3, x + 1 + 0 + 0))) ∧ (¬ lg_cmp (L3 149 (0 : Int32).toNatClampNeg) b.toInt64 = 0 → JL l n f (416, [some (.ref 1000000), some (.ref 1), some (.ref 126), some (.ref 149), some (.int (nI i)), some (.int k), some (.int b), none], [.int 0], (wK, wR s, I3, L3, x + 1 + 0 + 0)))) ∧ (¬ k = 0 → JL l n f (1756, [some (.ref 1000000), some (.ref 1), some (.ref 126), some (.ref 149), some (.int (nI i)), some (.int k), some (.int b), none], [], (wK, wR s, I3, L3, x + 1 + 0 + 0)))) ∧ (¬ (I3 126 0) = k → JL l n f (399, [some (.ref 1000000), some (.ref 1), some (.ref 126), some (.ref 149), some (.int (nI i)), some (.int k), some (.int b), none], [.int 0], (wK, wR s, I3, L3, x + 1 + 0 + 0))) from ⟨fun _ => ⟨fun z => ⟨w_149, fun _ => fin, fun y => absurd (lc_eq0.mpr (hb z)) y⟩, fun _ => fin⟩, fun z => absurd h0 z⟩)
def lc_owner : List (Nat × mo_I) := [(420, .aload_n 1, 1, 0, 0, 0, .null),
  (421, .aload_n 0, 1, 0, 0, 0, .null),
  (422, .iload 4, 2, 0, 0, 0, .null),
  (424, .iconst 1, 1, 0, 0, 0, .int 1),
  (425, .iadd, 1, 0, 0, 0, .null),
  (426, .iaload, 1, 0, 0, 2, .null),
  (427, .invokevirtual 67, 3, 0, 0, 0, .null),
  (430, .aload_n 2, 1, 0, 0, 0, .null),
  (431, .aload_n 0, 1, 0, 0, 0, .null),
  (432, .iload 4, 2, 0, 0, 0, .null),
  (434, .iconst 1, 1, 0, 0, 0, .int 1),
  (435, .iadd, 1, 0, 0, 0, .null),
  (436, .iaload, 1, 0, 0, 2, .null),
  (437, .invokevirtual 71, 3, 0, 0, 0, .null),
  (440, .if_icmp .eq 1316, 3, 1756, 0, 0, .null),
  (443, .iconst 0, 1, 0, 0, 0, .int 0),
  (444, .ireturn, 1, 0, 0, 0, .null)]
set_option maxRecDepth 100000 in
theorem lok_owner : lc_owner.all (mo_chk mm_Law_law.1.cls false mm_Law_law.2.1) = true := by decide +kernel
theorem K_owner {l : Launch} {n : Nat} {f : Nat → Int32} {s : Bool} {I : Nat → Nat → Int32} {L : Nat → Nat → Int64} {T : mo_Tn} {xs : List Nat} {i x : Nat} (hI : wInv s I L T xs) (hx : x ≤ 512) (hi : i + 6 ≤ n) (hn : n ≤ 3072) (kk : ∀ s I L T xs, wInv s I L T xs → JL l n f (1756, [some (.ref 1000000), some (.ref 1), some (.ref 126), some (.ref 149), some (.int (nI i)), none, none, none], [], (wK, wR s, I, L, x))) : JL l n f (420, [some (.ref 1000000), some (.ref 1), some (.ref 126), some (.ref 149), some (.int (nI i)), none, none, none], [], (wK, wR s, I, L, x)) := by
  refine mo_J_runS lok_owner [] 400 _ (show (1000000 = 1000000 ∧ vp_in (nI i + 1) n) ∧ JL l n f (427, [some (.ref 1000000), some (.ref 1), some (.ref 126), some (.ref 149), some (.int (nI i)), none, none, none], [.int (f (nI i + 1).toNatClampNeg), .ref 1], (wK, wR s, I, L, x)) from ⟨⟨rfl, vin (k := 1) (by decide) hi hn⟩, ?_⟩)
  obtain ⟨Ψ1, hc1, h1⟩ := P_owner l hI (f (nI i + 1).toNatClampNeg)
  refine mo_J_callV (q := 1) (rest := []) hc1 cd_Gate_owner (mo_dec lok_owner (show mo_at lc_owner 427 = some (.invokevirtual 67, 3, 0, 0, 0, .null) from rfl)) (show mo_kV mm_Law_law.1.cls 67 mm_Gate_owner 1 0 = true by decide +kernel) w_kd0 rfl rfl (fitL (by decide) (by decide) (by omega) (by omega) (Nat.le_of_ble_eq_true rfl)) (fun r K2 R2 I2 L2 x2 z => ?_)
  obtain ⟨v, s1, rfl, ⟨b, rfl⟩, rfl, rfl, rfl, Ψ2, hc2, h2⟩ := h1 _ _ _ _ _ _ z
  refine mo_J_runS lok_owner [] 400 _ (show (1000000 = 1000000 ∧ vp_in (nI i + 1) n) ∧ JL l n f (437, [some (.ref 1000000), some (.ref 1), some (.ref 126), some (.ref 149), some (.int (nI i)), none, none, none], [.int (f (nI i + 1).toNatClampNeg), .ref 126, .int b], (wK, wR s1, I2, L2, x + 0)) from ⟨⟨rfl, vin (k := 1) (by decide) hi hn⟩, ?_⟩)
  refine mo_J_callV (q := 126) (rest := [.int b]) hc2 cd_Model_owner (mo_dec lok_owner (show mo_at lc_owner 437 = some (.invokevirtual 71, 3, 0, 0, 0, .null) from rfl)) (show mo_kV mm_Law_law.1.cls 71 mm_Model_owner 1 11 = true by decide +kernel) w_kdm rfl rfl (fitL (by decide) (by decide) (by omega) (by omega) (Nat.le_of_ble_eq_true rfl)) (fun r K2 R2 I3 L3 x2 z => ?_)
  obtain ⟨rfl, rfl, rfl, rfl, T', xs', hI'⟩ := h2 _ _ _ _ _ _ z
  exact mo_J_runS lok_owner [1756] 400 _ (show (b = b → JL l n f (1756, [some (.ref 1000000), some (.ref 1), some (.ref 126), some (.ref 149), some (.int (nI i)), none, none, none], [], (wK, wR s1, I3, L3, x + 0 + 0))) ∧ (¬ b = b → JL l n f (444, [some (.ref 1000000), some (.ref 1), some (.ref 126), some (.ref 149), some (.int (nI i)), none, none, none], [.int 0], (wK, wR s1, I3, L3, x + 0 + 0))) from ⟨fun _ => kk _ _ _ _ _ hI', fun z => absurd rfl z⟩)
def lc_comer : List (Nat × mo_I) := [(445, .aload_n 1, 1, 0, 0, 0, .null),
  (446, .aload_n 0, 1, 0, 0, 0, .null),
  (447, .iload 4, 2, 0, 0, 0, .null),
  (449, .iconst 1, 1, 0, 0, 0, .int 1),
  (450, .iadd, 1, 0, 0, 0, .null),
  (451, .iaload, 1, 0, 0, 2, .null),
  (452, .aload_n 0, 1, 0, 0, 0, .null),
  (453, .iload 4, 2, 0, 0, 0, .null),
  (455, .iconst 2, 1, 0, 0, 0, .int 2),
  (456, .iadd, 1, 0, 0, 0, .null),
  (457, .iaload, 1, 0, 0, 2, .null),
  (458, .invokevirtual 72, 3, 0, 0, 0, .null),
  (461, .aload_n 2, 1, 0, 0, 0, .null),
  (462, .aload_n 0, 1, 0, 0, 0, .null),
  (463, .iload 4, 2, 0, 0, 0, .null),
  (465, .iconst 1, 1, 0, 0, 0, .int 1),
  (466, .iadd, 1, 0, 0, 0, .null),
  (467, .iaload, 1, 0, 0, 2, .null),
  (468, .aload_n 0, 1, 0, 0, 0, .null),
  (469, .iload 4, 2, 0, 0, 0, .null),
  (471, .iconst 2, 1, 0, 0, 0, .int 2),
  (472, .iadd, 1, 0, 0, 0, .null),
  (473, .iaload, 1, 0, 0, 2, .null),
  (474, .invokevirtual 75, 3, 0, 0, 0, .null),
  (477, .if_icmp .eq 1279, 3, 1756, 0, 0, .null),
  (480, .iconst 0, 1, 0, 0, 0, .int 0),
  (481, .ireturn, 1, 0, 0, 0, .null)]
set_option maxRecDepth 100000 in
theorem lok_comer : lc_comer.all (mo_chk mm_Law_law.1.cls false mm_Law_law.2.1) = true := by decide +kernel
theorem K_comer {l : Launch} {n : Nat} {f : Nat → Int32} {s : Bool} {I : Nat → Nat → Int32} {L : Nat → Nat → Int64} {T : mo_Tn} {xs : List Nat} {i x : Nat} (hI : wInv s I L T xs) (hx : x ≤ 512) (hi : i + 6 ≤ n) (hn : n ≤ 3072) (kk : ∀ s I L T xs, wInv s I L T xs → JL l n f (1756, [some (.ref 1000000), some (.ref 1), some (.ref 126), some (.ref 149), some (.int (nI i)), none, none, none], [], (wK, wR s, I, L, x))) : JL l n f (445, [some (.ref 1000000), some (.ref 1), some (.ref 126), some (.ref 149), some (.int (nI i)), none, none, none], [], (wK, wR s, I, L, x)) := by
  refine mo_J_runS lok_comer [] 400 _ (show (1000000 = 1000000 ∧ vp_in (nI i + 1) n) ∧ (1000000 = 1000000 ∧ vp_in (nI i + 2) n) ∧ JL l n f (458, [some (.ref 1000000), some (.ref 1), some (.ref 126), some (.ref 149), some (.int (nI i)), none, none, none], [.int (f (nI i + 2).toNatClampNeg), .int (f (nI i + 1).toNatClampNeg), .ref 1], (wK, wR s, I, L, x)) from ⟨⟨rfl, vin (k := 1) (by decide) hi hn⟩, ⟨rfl, vin (k := 2) (by decide) hi hn⟩, ?_⟩)
  obtain ⟨Ψ1, hc1, h1⟩ := P_comer l hI (f (nI i + 1).toNatClampNeg) (f (nI i + 2).toNatClampNeg)
  refine mo_J_callV (q := 1) (rest := []) hc1 cd_Gate_comer (mo_dec lok_comer (show mo_at lc_comer 458 = some (.invokevirtual 72, 3, 0, 0, 0, .null) from rfl)) (show mo_kV mm_Law_law.1.cls 72 mm_Gate_comer 2 0 = true by decide +kernel) w_kd0 rfl rfl (fitL (by decide) (by decide) (by omega) (by omega) (Nat.le_of_ble_eq_true rfl)) (fun r K2 R2 I2 L2 x2 z => ?_)
  obtain ⟨v, s1, rfl, ⟨b, rfl⟩, rfl, rfl, rfl, Ψ2, hc2, h2⟩ := h1 _ _ _ _ _ _ z
  refine mo_J_runS lok_comer [] 400 _ (show (1000000 = 1000000 ∧ vp_in (nI i + 1) n) ∧ (1000000 = 1000000 ∧ vp_in (nI i + 2) n) ∧ JL l n f (474, [some (.ref 1000000), some (.ref 1), some (.ref 126), some (.ref 149), some (.int (nI i)), none, none, none], [.int (f (nI i + 2).toNatClampNeg), .int (f (nI i + 1).toNatClampNeg), .ref 126, .int b], (wK, wR s1, I2, L2, x + 0)) from ⟨⟨rfl, vin (k := 1) (by decide) hi hn⟩, ⟨rfl, vin (k := 2) (by decide) hi hn⟩, ?_⟩)
  refine mo_J_callV (q := 126) (rest := [.int b]) hc2 cd_Model_comer (mo_dec lok_comer (show mo_at lc_comer 474 = some (.invokevirtual 75, 3, 0, 0, 0, .null) from rfl)) (show mo_kV mm_Law_law.1.cls 75 mm_Model_comer 2 11 = true by decide +kernel) w_kdm rfl rfl (fitL (by decide) (by decide) (by omega) (by omega) (Nat.le_of_ble_eq_true rfl)) (fun r K2 R2 I3 L3 x2 z => ?_)
  obtain ⟨rfl, rfl, rfl, rfl, T', xs', hI'⟩ := h2 _ _ _ _ _ _ z
  exact mo_J_runS lok_comer [1756] 400 _ (show (b = b → JL l n f (1756, [some (.ref 1000000), some (.ref 1), some (.ref 126), some (.ref 149), some (.int (nI i)), none, none, none], [], (wK, wR s1, I3, L3, x + 0 + 0))) ∧ (¬ b = b → JL l n f (481, [some (.ref 1000000), some (.ref 1), some (.ref 126), some (.ref 149), some (.int (nI i)), none, none, none], [.int 0], (wK, wR s1, I3, L3, x + 0 + 0))) from ⟨fun _ => kk _ _ _ _ _ hI', fun z => absurd rfl z⟩)
def lc_when : List (Nat × mo_I) := [(482, .aload_n 1, 1, 0, 0, 0, .null),
  (483, .aload_n 0, 1, 0, 0, 0, .null),
  (484, .iload 4, 2, 0, 0, 0, .null),
  (486, .iconst 1, 1, 0, 0, 0, .int 1),
  (487, .iadd, 1, 0, 0, 0, .null),
  (488, .iaload, 1, 0, 0, 2, .null),
  (489, .aload_n 0, 1, 0, 0, 0, .null),
  (490, .iload 4, 2, 0, 0, 0, .null),
  (492, .iconst 2, 1, 0, 0, 0, .int 2),
  (493, .iadd, 1, 0, 0, 0, .null),
  (494, .iaload, 1, 0, 0, 2, .null),
  (495, .aload_n 0, 1, 0, 0, 0, .null),
  (496, .iload 4, 2, 0, 0, 0, .null),
  (498, .iconst 3, 1, 0, 0, 0, .int 3),
  (499, .iadd, 1, 0, 0, 0, .null),
  (500, .iaload, 1, 0, 0, 2, .null),
  (501, .invokevirtual 76, 3, 0, 0, 0, .null),
  (504, .aload_n 2, 1, 0, 0, 0, .null),
  (505, .aload_n 0, 1, 0, 0, 0, .null),
  (506, .iload 4, 2, 0, 0, 0, .null),
  (508, .iconst 1, 1, 0, 0, 0, .int 1),
  (509, .iadd, 1, 0, 0, 0, .null),
  (510, .iaload, 1, 0, 0, 2, .null),
  (511, .aload_n 0, 1, 0, 0, 0, .null),
  (512, .iload 4, 2, 0, 0, 0, .null),
  (514, .iconst 2, 1, 0, 0, 0, .int 2),
  (515, .iadd, 1, 0, 0, 0, .null),
  (516, .iaload, 1, 0, 0, 2, .null),
  (517, .aload_n 0, 1, 0, 0, 0, .null),
  (518, .iload 4, 2, 0, 0, 0, .null),
  (520, .iconst 3, 1, 0, 0, 0, .int 3),
  (521, .iadd, 1, 0, 0, 0, .null),
  (522, .iaload, 1, 0, 0, 2, .null),
  (523, .invokevirtual 80, 3, 0, 0, 0, .null),
  (526, .if_icmp .eq 1230, 3, 1756, 0, 0, .null),
  (529, .iconst 0, 1, 0, 0, 0, .int 0),
  (530, .ireturn, 1, 0, 0, 0, .null)]
set_option maxRecDepth 100000 in
theorem lok_when : lc_when.all (mo_chk mm_Law_law.1.cls false mm_Law_law.2.1) = true := by decide +kernel
theorem K_when {l : Launch} {n : Nat} {f : Nat → Int32} {s : Bool} {I : Nat → Nat → Int32} {L : Nat → Nat → Int64} {T : mo_Tn} {xs : List Nat} {i x : Nat} (hI : wInv s I L T xs) (hx : x ≤ 512) (hi : i + 6 ≤ n) (hn : n ≤ 3072) (kk : ∀ s I L T xs, wInv s I L T xs → JL l n f (1756, [some (.ref 1000000), some (.ref 1), some (.ref 126), some (.ref 149), some (.int (nI i)), none, none, none], [], (wK, wR s, I, L, x))) : JL l n f (482, [some (.ref 1000000), some (.ref 1), some (.ref 126), some (.ref 149), some (.int (nI i)), none, none, none], [], (wK, wR s, I, L, x)) := by
  refine mo_J_runS lok_when [] 400 _ (show (1000000 = 1000000 ∧ vp_in (nI i + 1) n) ∧ (1000000 = 1000000 ∧ vp_in (nI i + 2) n) ∧ (1000000 = 1000000 ∧ vp_in (nI i + 3) n) ∧ JL l n f (501, [some (.ref 1000000), some (.ref 1), some (.ref 126), some (.ref 149), some (.int (nI i)), none, none, none], [.int (f (nI i + 3).toNatClampNeg), .int (f (nI i + 2).toNatClampNeg), .int (f (nI i + 1).toNatClampNeg), .ref 1], (wK, wR s, I, L, x)) from ⟨⟨rfl, vin (k := 1) (by decide) hi hn⟩, ⟨rfl, vin (k := 2) (by decide) hi hn⟩, ⟨rfl, vin (k := 3) (by decide) hi hn⟩, ?_⟩)
  obtain ⟨Ψ1, hc1, h1⟩ := P_when l hI (f (nI i + 1).toNatClampNeg) (f (nI i + 2).toNatClampNeg) (f (nI i + 3).toNatClampNeg)
  refine mo_J_callV (q := 1) (rest := []) hc1 cd_Gate_when (mo_dec lok_when (show mo_at lc_when 501 = some (.invokevirtual 76, 3, 0, 0, 0, .null) from rfl)) (show mo_kV mm_Law_law.1.cls 76 mm_Gate_when 3 0 = true by decide +kernel) w_kd0 rfl rfl (fitL (by decide) (by decide) (by omega) (by omega) (Nat.le_of_ble_eq_true rfl)) (fun r K2 R2 I2 L2 x2 z => ?_)
  obtain ⟨v, s1, rfl, ⟨b, rfl⟩, rfl, rfl, rfl, Ψ2, hc2, h2⟩ := h1 _ _ _ _ _ _ z
  refine mo_J_runS lok_when [] 400 _ (show (1000000 = 1000000 ∧ vp_in (nI i + 1) n) ∧ (1000000 = 1000000 ∧ vp_in (nI i + 2) n) ∧ (1000000 = 1000000 ∧ vp_in (nI i + 3) n) ∧ JL l n f (523, [some (.ref 1000000), some (.ref 1), some (.ref 126), some (.ref 149), some (.int (nI i)), none, none, none], [.int (f (nI i + 3).toNatClampNeg), .int (f (nI i + 2).toNatClampNeg), .int (f (nI i + 1).toNatClampNeg), .ref 126, .int b], (wK, wR s1, I2, L2, x + 0)) from ⟨⟨rfl, vin (k := 1) (by decide) hi hn⟩, ⟨rfl, vin (k := 2) (by decide) hi hn⟩, ⟨rfl, vin (k := 3) (by decide) hi hn⟩, ?_⟩)
  refine mo_J_callV (q := 126) (rest := [.int b]) hc2 cd_Model_when (mo_dec lok_when (show mo_at lc_when 523 = some (.invokevirtual 80, 3, 0, 0, 0, .null) from rfl)) (show mo_kV mm_Law_law.1.cls 80 mm_Model_when 3 11 = true by decide +kernel) w_kdm rfl rfl (fitL (by decide) (by decide) (by omega) (by omega) (Nat.le_of_ble_eq_true rfl)) (fun r K2 R2 I3 L3 x2 z => ?_)
  obtain ⟨rfl, rfl, rfl, rfl, T', xs', hI'⟩ := h2 _ _ _ _ _ _ z
  exact mo_J_runS lok_when [1756] 400 _ (show (b = b → JL l n f (1756, [some (.ref 1000000), some (.ref 1), some (.ref 126), some (.ref 149), some (.int (nI i)), none, none, none], [], (wK, wR s1, I3, L3, x + 0 + 0))) ∧ (¬ b = b → JL l n f (530, [some (.ref 1000000), some (.ref 1), some (.ref 126), some (.ref 149), some (.int (nI i)), none, none, none], [.int 0], (wK, wR s1, I3, L3, x + 0 + 0))) from ⟨fun _ => kk _ _ _ _ _ hI', fun z => absurd rfl z⟩)
def lc_mean : List (Nat × mo_I) := [(531, .aload_n 1, 1, 0, 0, 0, .null),
  (532, .aload_n 0, 1, 0, 0, 0, .null),
  (533, .iload 4, 2, 0, 0, 0, .null),
  (535, .iconst 1, 1, 0, 0, 0, .int 1),
  (536, .iadd, 1, 0, 0, 0, .null),
  (537, .iaload, 1, 0, 0, 2, .null),
  (538, .aload_n 0, 1, 0, 0, 0, .null),
  (539, .iload 4, 2, 0, 0, 0, .null),
  (541, .iconst 2, 1, 0, 0, 0, .int 2),
  (542, .iadd, 1, 0, 0, 0, .null),
  (543, .iaload, 1, 0, 0, 2, .null),
  (544, .aload_n 0, 1, 0, 0, 0, .null),
  (545, .iload 4, 2, 0, 0, 0, .null),
  (547, .iconst 3, 1, 0, 0, 0, .int 3),
  (548, .iadd, 1, 0, 0, 0, .null),
  (549, .iaload, 1, 0, 0, 2, .null),
  (550, .aload_n 3, 1, 0, 0, 0, .null),
  (551, .invokestatic 81, 3, 0, 0, 0, .null),
  (554, .istore 5, 2, 0, 0, 0, .null),
  (556, .aload_n 2, 1, 0, 0, 0, .null),
  (557, .aload_n 0, 1, 0, 0, 0, .null),
  (558, .iload 4, 2, 0, 0, 0, .null),
  (560, .iconst 1, 1, 0, 0, 0, .int 1),
  (561, .iadd, 1, 0, 0, 0, .null),
  (562, .iaload, 1, 0, 0, 2, .null),
  (563, .aload_n 0, 1, 0, 0, 0, .null),
  (564, .iload 4, 2, 0, 0, 0, .null),
  (566, .iconst 2, 1, 0, 0, 0, .int 2),
  (567, .iadd, 1, 0, 0, 0, .null),
  (568, .iaload, 1, 0, 0, 2, .null),
  (569, .aload_n 0, 1, 0, 0, 0, .null),
  (570, .iload 4, 2, 0, 0, 0, .null),
  (572, .iconst 3, 1, 0, 0, 0, .int 3),
  (573, .iadd, 1, 0, 0, 0, .null),
  (574, .iaload, 1, 0, 0, 2, .null),
  (575, .invokevirtual 84, 3, 0, 0, 0, .null),
  (578, .lstore 6, 2, 0, 0, 0, .null),
  (580, .aload_n 2, 1, 0, 0, 0, .null),
  (581, .invokevirtual 64, 3, 0, 0, 0, .null),
  (584, .iload 5, 2, 0, 0, 0, .null),
  (586, .if_icmp .eq 5, 3, 591, 0, 0, .null),
  (589, .iconst 0, 1, 0, 0, 0, .int 0),
  (590, .ireturn, 1, 0, 0, 0, .null),
  (591, .iload 5, 2, 0, 0, 0, .null),
  (593, .ifCond .ne 14, 3, 607, 0, 0, .null),
  (596, .aload_n 3, 1, 0, 0, 0, .null),
  (597, .iconst 0, 1, 0, 0, 0, .int 0),
  (598, .laload, 1, 0, 0, 0, .null),
  (599, .lload 6, 2, 0, 0, 0, .null),
  (601, .lcmp, 1, 0, 0, 0, .null),
  (602, .ifCond .eq 5, 3, 607, 0, 0, .null),
  (605, .iconst 0, 1, 0, 0, 0, .int 0),
  (606, .ireturn, 1, 0, 0, 0, .null),
  (607, .goto 1149, 3, 1756, 0, 0, .null)]
set_option maxRecDepth 100000 in
theorem lok_mean : lc_mean.all (mo_chk mm_Law_law.1.cls false mm_Law_law.2.1) = true := by decide +kernel
theorem K_mean {l : Launch} {n : Nat} {f : Nat → Int32} {s : Bool} {I : Nat → Nat → Int32} {L : Nat → Nat → Int64} {T : mo_Tn} {xs : List Nat} {i x : Nat} (hfl : l.flags = pinnedFlags ++ [noTraceFlag]) (hI : wInv s I L T xs) (hx : x + 1 ≤ 512) (hi : i + 6 ≤ n) (hn : n ≤ 3072) (kk : ∀ s I L T xs, wInv s I L T xs → JL l n f (1756, [some (.ref 1000000), some (.ref 1), some (.ref 126), some (.ref 149), some (.int (nI i)), none, none, none], [], (wK, wR s, I, L, (x + 1)))) : JL l n f (531, [some (.ref 1000000), some (.ref 1), some (.ref 126), some (.ref 149), some (.int (nI i)), none, none, none], [], (wK, wR s, I, L, x)) := by
  refine mo_J_runS lok_mean [] 400 _ (show (1000000 = 1000000 ∧ vp_in (nI i + 1) n) ∧ (1000000 = 1000000 ∧ vp_in (nI i + 2) n) ∧ (1000000 = 1000000 ∧ vp_in (nI i + 3) n) ∧ JL l n f (551, [some (.ref 1000000), some (.ref 1), some (.ref 126), some (.ref 149), some (.int (nI i)), none, none, none], [.ref 149, .int (f (nI i + 3).toNatClampNeg), .int (f (nI i + 2).toNatClampNeg), .int (f (nI i + 1).toNatClampNeg), .ref 1], (wK, wR s, I, L, x)) from ⟨⟨rfl, vin (k := 1) (by decide) hi hn⟩, ⟨rfl, vin (k := 2) (by decide) hi hn⟩, ⟨rfl, vin (k := 3) (by decide) hi hn⟩, ?_⟩)
  obtain ⟨Ψ1, hc1, h1⟩ := Q_mean hfl hI (f (nI i + 1).toNatClampNeg) (f (nI i + 2).toNatClampNeg) (f (nI i + 3).toNatClampNeg)
  refine mo_J_callH (as2 := [.ref 1, .int (f (nI i + 1).toNatClampNeg), .int (f (nI i + 2).toNatClampNeg), .int (f (nI i + 3).toNatClampNeg), .ref 149]) (rest := []) hc1 cw_Law_mean (mo_dec lok_mean (show mo_at lc_mean 551 = some (.invokestatic 81, 3, 0, 0, 0, .null) from rfl)) (show mo_kH mm_Law_law.1.cls 81 mm_Law_mean 5 = true by decide +kernel) rfl rfl (fitL (by decide) (by decide) (by omega) (by omega) (Nat.le_of_ble_eq_true rfl)) (fun r K2 R2 I2 L2 x2 z => ?_)
  obtain ⟨k, rfl, hk, rfl, rfl, rfl, Ψ2, hc2, h2⟩ := h1 _ _ _ _ _ _ z
  refine mo_J_runS lok_mean [] 400 _ (show (1000000 = 1000000 ∧ vp_in (nI i + 1) n) ∧ (1000000 = 1000000 ∧ vp_in (nI i + 2) n) ∧ (1000000 = 1000000 ∧ vp_in (nI i + 3) n) ∧ JL l n f (575, [some (.ref 1000000), some (.ref 1), some (.ref 126), some (.ref 149), some (.int (nI i)), some (.int k), none, none], [.int (f (nI i + 3).toNatClampNeg), .int (f (nI i + 2).toNatClampNeg), .int (f (nI i + 1).toNatClampNeg), .ref 126], (wK, wR s, I2, L2, x + 1)) from ⟨⟨rfl, vin (k := 1) (by decide) hi hn⟩, ⟨rfl, vin (k := 2) (by decide) hi hn⟩, ⟨rfl, vin (k := 3) (by decide) hi hn⟩, ?_⟩)
  refine mo_J_callV (q := 126) (rest := []) hc2 cd_Model_mean (mo_dec lok_mean (show mo_at lc_mean 575 = some (.invokevirtual 84, 3, 0, 0, 0, .null) from rfl)) (show mo_kV mm_Law_law.1.cls 84 mm_Model_mean 3 11 = true by decide +kernel) w_kdm rfl rfl (fitL (by decide) (by decide) (by omega) (by omega) (Nat.le_of_ble_eq_true rfl)) (fun r K2 R2 I3 L3 x2 z => ?_)
  obtain ⟨b, rfl, rfl, rfl, rfl, h0, hb, T', xs', hI'⟩ := h2 _ _ _ _ _ _ z
  refine mo_J_runS lok_mean [] 400 _ (show JL l n f (581, [some (.ref 1000000), some (.ref 1), some (.ref 126), some (.ref 149), some (.int (nI i)), some (.int k), some (.long b), none], [.ref 126], (wK, wR s, I3, L3, x + 1 + 0)) from ?_)
  refine mo_J_callV (q := 126) (as2 := []) (rest := []) (C_Model_thrown l wK (wR s) I3 L3 126 (w_md s)) cd_Model_thrown (mo_dec lok_mean (show mo_at lc_mean 581 = some (.invokevirtual 64, 3, 0, 0, 0, .null) from rfl)) (show mo_kV mm_Law_law.1.cls 64 mm_Model_thrown 0 11 = true by decide +kernel) w_kdm rfl rfl (fitL (by decide) (by decide) (by omega) (by omega) (Nat.le_of_ble_eq_true rfl)) (fun r K2 R2 I4 L4 x2 z => ?_)
  obtain ⟨z, rfl⟩ := z
  cases z
  have fin : JL l n f (1756, [some (.ref 1000000), some (.ref 1), some (.ref 126), some (.ref 149), some (.int (nI i)), some (.int k), some (.long b), none], [], (wK, wR s, I3, L3, x + 1 + 0 + 0)) := mo_J_fewer (ml' := [some (.ref 1000000), some (.ref 1), some (.ref 126), some (.ref 149), some (.int (nI i)), none, none, none]) rfl (fun j v hj => fewL hj rfl) (kk _ _ _ _ _ hI')
  exact mo_J_runS lok_mean [1756] 400 _ (show ((I3 126 0) = k → (k = 0 → (mo_kd wK 149 = 101 ∧ vp_in 0 (mo_ln wK 149)) ∧ (lg_cmp (L3 149 (0 : Int32).toNatClampNeg) b = 0 → JL l n f (1756, [some (.ref 1000000), some (.ref 1), some (.ref 126), some (.ref 149), some (.int (nI i)), some (.int k), some (.long b), none], [], (wK, wR s, I3, L3, x + 1 + 0 + 0))) ∧ (¬ lg_cmp (L3 149 (0 : Int32).toNatClampNeg) b = 0 → JL l n f (606, [some (.ref 1000000), some (.ref 1), some (.ref 126), some (.ref 149), some (.int (nI i)), some (.int k), some (.long b), none], [.int 0], (wK, wR s, I3, L3, x + 1 + 0 + 0)))) ∧ (¬ k = 0 → JL l n f (1756, [some (.ref 1000000), some (.ref 1), some (.ref 126), some (.ref 149), some (.int (nI i)), some (.int k), some (.long b), none], [], (wK, wR s, I3, L3, x + 1 + 0 + 0)))) ∧ (¬ (I3 126 0) = k → JL l n f (590, [some (.ref 1000000), some (.ref 1), some (.ref 126), some (.ref 149), some (.int (nI i)), some (.int k), some (.long b), none], [.int 0], (wK, wR s, I3, L3, x + 1 + 0 + 0))) from ⟨fun _ => ⟨fun z => ⟨w_149, fun _ => fin, fun y => absurd (lc_eq0.mpr (hb z)) y⟩, fun _ => fin⟩, fun z => absurd h0 z⟩)
def lc_give : List (Nat × mo_I) := [(610, .aload_n 1, 1, 0, 0, 0, .null),
  (611, .aload_n 0, 1, 0, 0, 0, .null),
  (612, .iload 4, 2, 0, 0, 0, .null),
  (614, .iconst 1, 1, 0, 0, 0, .int 1),
  (615, .iadd, 1, 0, 0, 0, .null),
  (616, .iaload, 1, 0, 0, 2, .null),
  (617, .aload_n 0, 1, 0, 0, 0, .null),
  (618, .iload 4, 2, 0, 0, 0, .null),
  (620, .iconst 2, 1, 0, 0, 0, .int 2),
  (621, .iadd, 1, 0, 0, 0, .null),
  (622, .iaload, 1, 0, 0, 2, .null),
  (623, .invokevirtual 85, 3, 0, 0, 0, .null),
  (626, .aload_n 2, 1, 0, 0, 0, .null),
  (627, .aload_n 0, 1, 0, 0, 0, .null),
  (628, .iload 4, 2, 0, 0, 0, .null),
  (630, .iconst 1, 1, 0, 0, 0, .int 1),
  (631, .iadd, 1, 0, 0, 0, .null),
  (632, .iaload, 1, 0, 0, 2, .null),
  (633, .aload_n 0, 1, 0, 0, 0, .null),
  (634, .iload 4, 2, 0, 0, 0, .null),
  (636, .iconst 2, 1, 0, 0, 0, .int 2),
  (637, .iadd, 1, 0, 0, 0, .null),
  (638, .iaload, 1, 0, 0, 2, .null),
  (639, .invokevirtual 88, 3, 0, 0, 0, .null),
  (642, .if_icmp .eq 1114, 3, 1756, 0, 0, .null),
  (645, .iconst 0, 1, 0, 0, 0, .int 0),
  (646, .ireturn, 1, 0, 0, 0, .null)]
set_option maxRecDepth 100000 in
theorem lok_give : lc_give.all (mo_chk mm_Law_law.1.cls false mm_Law_law.2.1) = true := by decide +kernel
theorem K_give {l : Launch} {n : Nat} {f : Nat → Int32} {s : Bool} {I : Nat → Nat → Int32} {L : Nat → Nat → Int64} {T : mo_Tn} {xs : List Nat} {i x : Nat} (hI : wInv s I L T xs) (hx : x ≤ 512) (hi : i + 6 ≤ n) (hn : n ≤ 3072) (kk : ∀ s I L T xs, wInv s I L T xs → JL l n f (1756, [some (.ref 1000000), some (.ref 1), some (.ref 126), some (.ref 149), some (.int (nI i)), none, none, none], [], (wK, wR s, I, L, x))) : JL l n f (610, [some (.ref 1000000), some (.ref 1), some (.ref 126), some (.ref 149), some (.int (nI i)), none, none, none], [], (wK, wR s, I, L, x)) := by
  refine mo_J_runS lok_give [] 400 _ (show (1000000 = 1000000 ∧ vp_in (nI i + 1) n) ∧ (1000000 = 1000000 ∧ vp_in (nI i + 2) n) ∧ JL l n f (623, [some (.ref 1000000), some (.ref 1), some (.ref 126), some (.ref 149), some (.int (nI i)), none, none, none], [.int (f (nI i + 2).toNatClampNeg), .int (f (nI i + 1).toNatClampNeg), .ref 1], (wK, wR s, I, L, x)) from ⟨⟨rfl, vin (k := 1) (by decide) hi hn⟩, ⟨rfl, vin (k := 2) (by decide) hi hn⟩, ?_⟩)
  obtain ⟨Ψ1, hc1, h1⟩ := P_give l hI (f (nI i + 1).toNatClampNeg) (f (nI i + 2).toNatClampNeg)
  refine mo_J_callV (q := 1) (rest := []) hc1 cd_Gate_give (mo_dec lok_give (show mo_at lc_give 623 = some (.invokevirtual 85, 3, 0, 0, 0, .null) from rfl)) (show mo_kV mm_Law_law.1.cls 85 mm_Gate_give 2 0 = true by decide +kernel) w_kd0 rfl rfl (fitL (by decide) (by decide) (by omega) (by omega) (Nat.le_of_ble_eq_true rfl)) (fun r K2 R2 I2 L2 x2 z => ?_)
  obtain ⟨v, s1, rfl, ⟨b, rfl⟩, rfl, rfl, rfl, Ψ2, hc2, h2⟩ := h1 _ _ _ _ _ _ z
  refine mo_J_runS lok_give [] 400 _ (show (1000000 = 1000000 ∧ vp_in (nI i + 1) n) ∧ (1000000 = 1000000 ∧ vp_in (nI i + 2) n) ∧ JL l n f (639, [some (.ref 1000000), some (.ref 1), some (.ref 126), some (.ref 149), some (.int (nI i)), none, none, none], [.int (f (nI i + 2).toNatClampNeg), .int (f (nI i + 1).toNatClampNeg), .ref 126, .int b], (wK, wR s1, I2, L2, x + 0)) from ⟨⟨rfl, vin (k := 1) (by decide) hi hn⟩, ⟨rfl, vin (k := 2) (by decide) hi hn⟩, ?_⟩)
  refine mo_J_callV (q := 126) (rest := [.int b]) hc2 cd_Model_give (mo_dec lok_give (show mo_at lc_give 639 = some (.invokevirtual 88, 3, 0, 0, 0, .null) from rfl)) (show mo_kV mm_Law_law.1.cls 88 mm_Model_give 2 11 = true by decide +kernel) w_kdm rfl rfl (fitL (by decide) (by decide) (by omega) (by omega) (Nat.le_of_ble_eq_true rfl)) (fun r K2 R2 I3 L3 x2 z => ?_)
  obtain ⟨rfl, rfl, rfl, rfl, T', xs', hI'⟩ := h2 _ _ _ _ _ _ z
  exact mo_J_runS lok_give [1756] 400 _ (show (b = b → JL l n f (1756, [some (.ref 1000000), some (.ref 1), some (.ref 126), some (.ref 149), some (.int (nI i)), none, none, none], [], (wK, wR s1, I3, L3, x + 0 + 0))) ∧ (¬ b = b → JL l n f (646, [some (.ref 1000000), some (.ref 1), some (.ref 126), some (.ref 149), some (.int (nI i)), none, none, none], [.int 0], (wK, wR s1, I3, L3, x + 0 + 0))) from ⟨fun _ => kk _ _ _ _ _ hI', fun z => absurd rfl z⟩)
def lc_gave : List (Nat × mo_I) := [(647, .aload_n 1, 1, 0, 0, 0, .null),
  (648, .aload_n 0, 1, 0, 0, 0, .null),
  (649, .iload 4, 2, 0, 0, 0, .null),
  (651, .iconst 1, 1, 0, 0, 0, .int 1),
  (652, .iadd, 1, 0, 0, 0, .null),
  (653, .iaload, 1, 0, 0, 2, .null),
  (654, .aload_n 0, 1, 0, 0, 0, .null),
  (655, .iload 4, 2, 0, 0, 0, .null),
  (657, .iconst 2, 1, 0, 0, 0, .int 2),
  (658, .iadd, 1, 0, 0, 0, .null),
  (659, .iaload, 1, 0, 0, 2, .null),
  (660, .invokevirtual 89, 3, 0, 0, 0, .null),
  (663, .aload_n 2, 1, 0, 0, 0, .null),
  (664, .aload_n 0, 1, 0, 0, 0, .null),
  (665, .iload 4, 2, 0, 0, 0, .null),
  (667, .iconst 1, 1, 0, 0, 0, .int 1),
  (668, .iadd, 1, 0, 0, 0, .null),
  (669, .iaload, 1, 0, 0, 2, .null),
  (670, .aload_n 0, 1, 0, 0, 0, .null),
  (671, .iload 4, 2, 0, 0, 0, .null),
  (673, .iconst 2, 1, 0, 0, 0, .int 2),
  (674, .iadd, 1, 0, 0, 0, .null),
  (675, .iaload, 1, 0, 0, 2, .null),
  (676, .invokevirtual 92, 3, 0, 0, 0, .null),
  (679, .if_icmp .eq 1077, 3, 1756, 0, 0, .null),
  (682, .iconst 0, 1, 0, 0, 0, .int 0),
  (683, .ireturn, 1, 0, 0, 0, .null)]
set_option maxRecDepth 100000 in
theorem lok_gave : lc_gave.all (mo_chk mm_Law_law.1.cls false mm_Law_law.2.1) = true := by decide +kernel
theorem K_gave {l : Launch} {n : Nat} {f : Nat → Int32} {s : Bool} {I : Nat → Nat → Int32} {L : Nat → Nat → Int64} {T : mo_Tn} {xs : List Nat} {i x : Nat} (hI : wInv s I L T xs) (hx : x ≤ 512) (hi : i + 6 ≤ n) (hn : n ≤ 3072) (kk : ∀ s I L T xs, wInv s I L T xs → JL l n f (1756, [some (.ref 1000000), some (.ref 1), some (.ref 126), some (.ref 149), some (.int (nI i)), none, none, none], [], (wK, wR s, I, L, x))) : JL l n f (647, [some (.ref 1000000), some (.ref 1), some (.ref 126), some (.ref 149), some (.int (nI i)), none, none, none], [], (wK, wR s, I, L, x)) := by
  refine mo_J_runS lok_gave [] 400 _ (show (1000000 = 1000000 ∧ vp_in (nI i + 1) n) ∧ (1000000 = 1000000 ∧ vp_in (nI i + 2) n) ∧ JL l n f (660, [some (.ref 1000000), some (.ref 1), some (.ref 126), some (.ref 149), some (.int (nI i)), none, none, none], [.int (f (nI i + 2).toNatClampNeg), .int (f (nI i + 1).toNatClampNeg), .ref 1], (wK, wR s, I, L, x)) from ⟨⟨rfl, vin (k := 1) (by decide) hi hn⟩, ⟨rfl, vin (k := 2) (by decide) hi hn⟩, ?_⟩)
  obtain ⟨Ψ1, hc1, h1⟩ := P_gave l hI (f (nI i + 1).toNatClampNeg) (f (nI i + 2).toNatClampNeg)
  refine mo_J_callV (q := 1) (rest := []) hc1 cd_Gate_gave (mo_dec lok_gave (show mo_at lc_gave 660 = some (.invokevirtual 89, 3, 0, 0, 0, .null) from rfl)) (show mo_kV mm_Law_law.1.cls 89 mm_Gate_gave 2 0 = true by decide +kernel) w_kd0 rfl rfl (fitL (by decide) (by decide) (by omega) (by omega) (Nat.le_of_ble_eq_true rfl)) (fun r K2 R2 I2 L2 x2 z => ?_)
  obtain ⟨v, s1, rfl, ⟨b, rfl⟩, rfl, rfl, rfl, Ψ2, hc2, h2⟩ := h1 _ _ _ _ _ _ z
  refine mo_J_runS lok_gave [] 400 _ (show (1000000 = 1000000 ∧ vp_in (nI i + 1) n) ∧ (1000000 = 1000000 ∧ vp_in (nI i + 2) n) ∧ JL l n f (676, [some (.ref 1000000), some (.ref 1), some (.ref 126), some (.ref 149), some (.int (nI i)), none, none, none], [.int (f (nI i + 2).toNatClampNeg), .int (f (nI i + 1).toNatClampNeg), .ref 126, .int b], (wK, wR s1, I2, L2, x + 0)) from ⟨⟨rfl, vin (k := 1) (by decide) hi hn⟩, ⟨rfl, vin (k := 2) (by decide) hi hn⟩, ?_⟩)
  refine mo_J_callV (q := 126) (rest := [.int b]) hc2 cd_Model_gave (mo_dec lok_gave (show mo_at lc_gave 676 = some (.invokevirtual 92, 3, 0, 0, 0, .null) from rfl)) (show mo_kV mm_Law_law.1.cls 92 mm_Model_gave 2 11 = true by decide +kernel) w_kdm rfl rfl (fitL (by decide) (by decide) (by omega) (by omega) (Nat.le_of_ble_eq_true rfl)) (fun r K2 R2 I3 L3 x2 z => ?_)
  obtain ⟨rfl, rfl, rfl, rfl, T', xs', hI'⟩ := h2 _ _ _ _ _ _ z
  exact mo_J_runS lok_gave [1756] 400 _ (show (b = b → JL l n f (1756, [some (.ref 1000000), some (.ref 1), some (.ref 126), some (.ref 149), some (.int (nI i)), none, none, none], [], (wK, wR s1, I3, L3, x + 0 + 0))) ∧ (¬ b = b → JL l n f (683, [some (.ref 1000000), some (.ref 1), some (.ref 126), some (.ref 149), some (.int (nI i)), none, none, none], [.int 0], (wK, wR s1, I3, L3, x + 0 + 0))) from ⟨fun _ => kk _ _ _ _ _ hI', fun z => absurd rfl z⟩)
def lc_bearer : List (Nat × mo_I) := [(684, .aload_n 1, 1, 0, 0, 0, .null),
  (685, .aload_n 0, 1, 0, 0, 0, .null),
  (686, .iload 4, 2, 0, 0, 0, .null),
  (688, .iconst 1, 1, 0, 0, 0, .int 1),
  (689, .iadd, 1, 0, 0, 0, .null),
  (690, .iaload, 1, 0, 0, 2, .null),
  (691, .aload_n 0, 1, 0, 0, 0, .null),
  (692, .iload 4, 2, 0, 0, 0, .null),
  (694, .iconst 2, 1, 0, 0, 0, .int 2),
  (695, .iadd, 1, 0, 0, 0, .null),
  (696, .iaload, 1, 0, 0, 2, .null),
  (697, .invokevirtual 93, 3, 0, 0, 0, .null),
  (700, .aload_n 2, 1, 0, 0, 0, .null),
  (701, .aload_n 0, 1, 0, 0, 0, .null),
  (702, .iload 4, 2, 0, 0, 0, .null),
  (704, .iconst 1, 1, 0, 0, 0, .int 1),
  (705, .iadd, 1, 0, 0, 0, .null),
  (706, .iaload, 1, 0, 0, 2, .null),
  (707, .aload_n 0, 1, 0, 0, 0, .null),
  (708, .iload 4, 2, 0, 0, 0, .null),
  (710, .iconst 2, 1, 0, 0, 0, .int 2),
  (711, .iadd, 1, 0, 0, 0, .null),
  (712, .iaload, 1, 0, 0, 2, .null),
  (713, .invokevirtual 96, 3, 0, 0, 0, .null),
  (716, .if_icmp .eq 1040, 3, 1756, 0, 0, .null),
  (719, .iconst 0, 1, 0, 0, 0, .int 0),
  (720, .ireturn, 1, 0, 0, 0, .null)]
set_option maxRecDepth 100000 in
theorem lok_bearer : lc_bearer.all (mo_chk mm_Law_law.1.cls false mm_Law_law.2.1) = true := by decide +kernel
theorem K_bearer {l : Launch} {n : Nat} {f : Nat → Int32} {s : Bool} {I : Nat → Nat → Int32} {L : Nat → Nat → Int64} {T : mo_Tn} {xs : List Nat} {i x : Nat} (hI : wInv s I L T xs) (hx : x ≤ 512) (hi : i + 6 ≤ n) (hn : n ≤ 3072) (kk : ∀ s I L T xs, wInv s I L T xs → JL l n f (1756, [some (.ref 1000000), some (.ref 1), some (.ref 126), some (.ref 149), some (.int (nI i)), none, none, none], [], (wK, wR s, I, L, x))) : JL l n f (684, [some (.ref 1000000), some (.ref 1), some (.ref 126), some (.ref 149), some (.int (nI i)), none, none, none], [], (wK, wR s, I, L, x)) := by
  refine mo_J_runS lok_bearer [] 400 _ (show (1000000 = 1000000 ∧ vp_in (nI i + 1) n) ∧ (1000000 = 1000000 ∧ vp_in (nI i + 2) n) ∧ JL l n f (697, [some (.ref 1000000), some (.ref 1), some (.ref 126), some (.ref 149), some (.int (nI i)), none, none, none], [.int (f (nI i + 2).toNatClampNeg), .int (f (nI i + 1).toNatClampNeg), .ref 1], (wK, wR s, I, L, x)) from ⟨⟨rfl, vin (k := 1) (by decide) hi hn⟩, ⟨rfl, vin (k := 2) (by decide) hi hn⟩, ?_⟩)
  obtain ⟨Ψ1, hc1, h1⟩ := P_bearer l hI (f (nI i + 1).toNatClampNeg) (f (nI i + 2).toNatClampNeg)
  refine mo_J_callV (q := 1) (rest := []) hc1 cd_Gate_bearer (mo_dec lok_bearer (show mo_at lc_bearer 697 = some (.invokevirtual 93, 3, 0, 0, 0, .null) from rfl)) (show mo_kV mm_Law_law.1.cls 93 mm_Gate_bearer 2 0 = true by decide +kernel) w_kd0 rfl rfl (fitL (by decide) (by decide) (by omega) (by omega) (Nat.le_of_ble_eq_true rfl)) (fun r K2 R2 I2 L2 x2 z => ?_)
  obtain ⟨v, s1, rfl, ⟨b, rfl⟩, rfl, rfl, rfl, Ψ2, hc2, h2⟩ := h1 _ _ _ _ _ _ z
  refine mo_J_runS lok_bearer [] 400 _ (show (1000000 = 1000000 ∧ vp_in (nI i + 1) n) ∧ (1000000 = 1000000 ∧ vp_in (nI i + 2) n) ∧ JL l n f (713, [some (.ref 1000000), some (.ref 1), some (.ref 126), some (.ref 149), some (.int (nI i)), none, none, none], [.int (f (nI i + 2).toNatClampNeg), .int (f (nI i + 1).toNatClampNeg), .ref 126, .int b], (wK, wR s1, I2, L2, x + 0)) from ⟨⟨rfl, vin (k := 1) (by decide) hi hn⟩, ⟨rfl, vin (k := 2) (by decide) hi hn⟩, ?_⟩)
  refine mo_J_callV (q := 126) (rest := [.int b]) hc2 cd_Model_bearer (mo_dec lok_bearer (show mo_at lc_bearer 713 = some (.invokevirtual 96, 3, 0, 0, 0, .null) from rfl)) (show mo_kV mm_Law_law.1.cls 96 mm_Model_bearer 2 11 = true by decide +kernel) w_kdm rfl rfl (fitL (by decide) (by decide) (by omega) (by omega) (Nat.le_of_ble_eq_true rfl)) (fun r K2 R2 I3 L3 x2 z => ?_)
  obtain ⟨rfl, rfl, rfl, rfl, T', xs', hI'⟩ := h2 _ _ _ _ _ _ z
  exact mo_J_runS lok_bearer [1756] 400 _ (show (b = b → JL l n f (1756, [some (.ref 1000000), some (.ref 1), some (.ref 126), some (.ref 149), some (.int (nI i)), none, none, none], [], (wK, wR s1, I3, L3, x + 0 + 0))) ∧ (¬ b = b → JL l n f (720, [some (.ref 1000000), some (.ref 1), some (.ref 126), some (.ref 149), some (.int (nI i)), none, none, none], [.int 0], (wK, wR s1, I3, L3, x + 0 + 0))) from ⟨fun _ => kk _ _ _ _ _ hI', fun z => absurd rfl z⟩)
def lc_idle : List (Nat × mo_I) := [(721, .aload_n 1, 1, 0, 0, 0, .null),
  (722, .aload_n 0, 1, 0, 0, 0, .null),
  (723, .iload 4, 2, 0, 0, 0, .null),
  (725, .iconst 1, 1, 0, 0, 0, .int 1),
  (726, .iadd, 1, 0, 0, 0, .null),
  (727, .iaload, 1, 0, 0, 2, .null),
  (728, .invokevirtual 97, 3, 0, 0, 0, .null),
  (731, .aload_n 2, 1, 0, 0, 0, .null),
  (732, .aload_n 0, 1, 0, 0, 0, .null),
  (733, .iload 4, 2, 0, 0, 0, .null),
  (735, .iconst 1, 1, 0, 0, 0, .int 1),
  (736, .iadd, 1, 0, 0, 0, .null),
  (737, .iaload, 1, 0, 0, 2, .null),
  (738, .invokevirtual 100, 3, 0, 0, 0, .null),
  (741, .if_icmp .eq 1015, 3, 1756, 0, 0, .null),
  (744, .iconst 0, 1, 0, 0, 0, .int 0),
  (745, .ireturn, 1, 0, 0, 0, .null)]
set_option maxRecDepth 100000 in
theorem lok_idle : lc_idle.all (mo_chk mm_Law_law.1.cls false mm_Law_law.2.1) = true := by decide +kernel
theorem K_idle {l : Launch} {n : Nat} {f : Nat → Int32} {s : Bool} {I : Nat → Nat → Int32} {L : Nat → Nat → Int64} {T : mo_Tn} {xs : List Nat} {i x : Nat} (hI : wInv s I L T xs) (hx : x ≤ 512) (hi : i + 6 ≤ n) (hn : n ≤ 3072) (kk : ∀ s I L T xs, wInv s I L T xs → JL l n f (1756, [some (.ref 1000000), some (.ref 1), some (.ref 126), some (.ref 149), some (.int (nI i)), none, none, none], [], (wK, wR s, I, L, x))) : JL l n f (721, [some (.ref 1000000), some (.ref 1), some (.ref 126), some (.ref 149), some (.int (nI i)), none, none, none], [], (wK, wR s, I, L, x)) := by
  refine mo_J_runS lok_idle [] 400 _ (show (1000000 = 1000000 ∧ vp_in (nI i + 1) n) ∧ JL l n f (728, [some (.ref 1000000), some (.ref 1), some (.ref 126), some (.ref 149), some (.int (nI i)), none, none, none], [.int (f (nI i + 1).toNatClampNeg), .ref 1], (wK, wR s, I, L, x)) from ⟨⟨rfl, vin (k := 1) (by decide) hi hn⟩, ?_⟩)
  obtain ⟨Ψ1, hc1, h1⟩ := P_idle l hI (f (nI i + 1).toNatClampNeg)
  refine mo_J_callV (q := 1) (rest := []) hc1 cd_Gate_idle (mo_dec lok_idle (show mo_at lc_idle 728 = some (.invokevirtual 97, 3, 0, 0, 0, .null) from rfl)) (show mo_kV mm_Law_law.1.cls 97 mm_Gate_idle 1 0 = true by decide +kernel) w_kd0 rfl rfl (fitL (by decide) (by decide) (by omega) (by omega) (Nat.le_of_ble_eq_true rfl)) (fun r K2 R2 I2 L2 x2 z => ?_)
  obtain ⟨v, s1, rfl, ⟨b, rfl⟩, rfl, rfl, rfl, Ψ2, hc2, h2⟩ := h1 _ _ _ _ _ _ z
  refine mo_J_runS lok_idle [] 400 _ (show (1000000 = 1000000 ∧ vp_in (nI i + 1) n) ∧ JL l n f (738, [some (.ref 1000000), some (.ref 1), some (.ref 126), some (.ref 149), some (.int (nI i)), none, none, none], [.int (f (nI i + 1).toNatClampNeg), .ref 126, .int b], (wK, wR s1, I2, L2, x + 0)) from ⟨⟨rfl, vin (k := 1) (by decide) hi hn⟩, ?_⟩)
  refine mo_J_callV (q := 126) (rest := [.int b]) hc2 cd_Model_idle (mo_dec lok_idle (show mo_at lc_idle 738 = some (.invokevirtual 100, 3, 0, 0, 0, .null) from rfl)) (show mo_kV mm_Law_law.1.cls 100 mm_Model_idle 1 11 = true by decide +kernel) w_kdm rfl rfl (fitL (by decide) (by decide) (by omega) (by omega) (Nat.le_of_ble_eq_true rfl)) (fun r K2 R2 I3 L3 x2 z => ?_)
  obtain ⟨rfl, rfl, rfl, rfl, T', xs', hI'⟩ := h2 _ _ _ _ _ _ z
  exact mo_J_runS lok_idle [1756] 400 _ (show (b = b → JL l n f (1756, [some (.ref 1000000), some (.ref 1), some (.ref 126), some (.ref 149), some (.int (nI i)), none, none, none], [], (wK, wR s1, I3, L3, x + 0 + 0))) ∧ (¬ b = b → JL l n f (745, [some (.ref 1000000), some (.ref 1), some (.ref 126), some (.ref 149), some (.int (nI i)), none, none, none], [.int 0], (wK, wR s1, I3, L3, x + 0 + 0))) from ⟨fun _ => kk _ _ _ _ _ hI', fun z => absurd rfl z⟩)
def lc_dawn : List (Nat × mo_I) := [(746, .aload_n 1, 1, 0, 0, 0, .null),
  (747, .invokevirtual 101, 3, 0, 0, 0, .null),
  (750, .aload_n 2, 1, 0, 0, 0, .null),
  (751, .invokevirtual 104, 3, 0, 0, 0, .null),
  (754, .if_icmp .eq 1002, 3, 1756, 0, 0, .null),
  (757, .iconst 0, 1, 0, 0, 0, .int 0),
  (758, .ireturn, 1, 0, 0, 0, .null)]
set_option maxRecDepth 100000 in
theorem lok_dawn : lc_dawn.all (mo_chk mm_Law_law.1.cls false mm_Law_law.2.1) = true := by decide +kernel
theorem K_dawn {l : Launch} {n : Nat} {f : Nat → Int32} {s : Bool} {I : Nat → Nat → Int32} {L : Nat → Nat → Int64} {T : mo_Tn} {xs : List Nat} {i x : Nat} (hI : wInv s I L T xs) (hx : x ≤ 512) (hi : i + 6 ≤ n) (hn : n ≤ 3072) (kk : ∀ s I L T xs, wInv s I L T xs → JL l n f (1756, [some (.ref 1000000), some (.ref 1), some (.ref 126), some (.ref 149), some (.int (nI i)), none, none, none], [], (wK, wR s, I, L, x))) : JL l n f (746, [some (.ref 1000000), some (.ref 1), some (.ref 126), some (.ref 149), some (.int (nI i)), none, none, none], [], (wK, wR s, I, L, x)) := by
  refine mo_J_runS lok_dawn [] 400 _ (show JL l n f (747, [some (.ref 1000000), some (.ref 1), some (.ref 126), some (.ref 149), some (.int (nI i)), none, none, none], [.ref 1], (wK, wR s, I, L, x)) from ?_)
  obtain ⟨Ψ1, hc1, h1⟩ := P_dawn l hI 
  refine mo_J_callV (q := 1) (rest := []) hc1 cd_Gate_dawn (mo_dec lok_dawn (show mo_at lc_dawn 747 = some (.invokevirtual 101, 3, 0, 0, 0, .null) from rfl)) (show mo_kV mm_Law_law.1.cls 101 mm_Gate_dawn 0 0 = true by decide +kernel) w_kd0 rfl rfl (fitL (by decide) (by decide) (by omega) (by omega) (Nat.le_of_ble_eq_true rfl)) (fun r K2 R2 I2 L2 x2 z => ?_)
  obtain ⟨v, s1, rfl, ⟨b, rfl⟩, rfl, rfl, rfl, Ψ2, hc2, h2⟩ := h1 _ _ _ _ _ _ z
  refine mo_J_runS lok_dawn [] 400 _ (show JL l n f (751, [some (.ref 1000000), some (.ref 1), some (.ref 126), some (.ref 149), some (.int (nI i)), none, none, none], [.ref 126, .int b], (wK, wR s1, I2, L2, x + 0)) from ?_)
  refine mo_J_callV (q := 126) (rest := [.int b]) hc2 cd_Model_dawn (mo_dec lok_dawn (show mo_at lc_dawn 751 = some (.invokevirtual 104, 3, 0, 0, 0, .null) from rfl)) (show mo_kV mm_Law_law.1.cls 104 mm_Model_dawn 0 11 = true by decide +kernel) w_kdm rfl rfl (fitL (by decide) (by decide) (by omega) (by omega) (Nat.le_of_ble_eq_true rfl)) (fun r K2 R2 I3 L3 x2 z => ?_)
  obtain ⟨rfl, rfl, rfl, rfl, T', xs', hI'⟩ := h2 _ _ _ _ _ _ z
  exact mo_J_runS lok_dawn [1756] 400 _ (show (b = b → JL l n f (1756, [some (.ref 1000000), some (.ref 1), some (.ref 126), some (.ref 149), some (.int (nI i)), none, none, none], [], (wK, wR s1, I3, L3, x + 0 + 0))) ∧ (¬ b = b → JL l n f (758, [some (.ref 1000000), some (.ref 1), some (.ref 126), some (.ref 149), some (.int (nI i)), none, none, none], [.int 0], (wK, wR s1, I3, L3, x + 0 + 0))) from ⟨fun _ => kk _ _ _ _ _ hI', fun z => absurd rfl z⟩)
def lc_back : List (Nat × mo_I) := [(759, .aload_n 1, 1, 0, 0, 0, .null),
  (760, .invokevirtual 105, 3, 0, 0, 0, .null),
  (763, .aload_n 2, 1, 0, 0, 0, .null),
  (764, .invokevirtual 108, 3, 0, 0, 0, .null),
  (767, .if_icmp .eq 989, 3, 1756, 0, 0, .null),
  (770, .iconst 0, 1, 0, 0, 0, .int 0),
  (771, .ireturn, 1, 0, 0, 0, .null)]
set_option maxRecDepth 100000 in
theorem lok_back : lc_back.all (mo_chk mm_Law_law.1.cls false mm_Law_law.2.1) = true := by decide +kernel
theorem K_back {l : Launch} {n : Nat} {f : Nat → Int32} {s : Bool} {I : Nat → Nat → Int32} {L : Nat → Nat → Int64} {T : mo_Tn} {xs : List Nat} {i x : Nat} (hI : wInv s I L T xs) (hx : x ≤ 512) (hi : i + 6 ≤ n) (hn : n ≤ 3072) (kk : ∀ s I L T xs, wInv s I L T xs → JL l n f (1756, [some (.ref 1000000), some (.ref 1), some (.ref 126), some (.ref 149), some (.int (nI i)), none, none, none], [], (wK, wR s, I, L, x))) : JL l n f (759, [some (.ref 1000000), some (.ref 1), some (.ref 126), some (.ref 149), some (.int (nI i)), none, none, none], [], (wK, wR s, I, L, x)) := by
  refine mo_J_runS lok_back [] 400 _ (show JL l n f (760, [some (.ref 1000000), some (.ref 1), some (.ref 126), some (.ref 149), some (.int (nI i)), none, none, none], [.ref 1], (wK, wR s, I, L, x)) from ?_)
  obtain ⟨Ψ1, hc1, h1⟩ := P_back l hI 
  refine mo_J_callV (q := 1) (rest := []) hc1 cd_Gate_back (mo_dec lok_back (show mo_at lc_back 760 = some (.invokevirtual 105, 3, 0, 0, 0, .null) from rfl)) (show mo_kV mm_Law_law.1.cls 105 mm_Gate_back 0 0 = true by decide +kernel) w_kd0 rfl rfl (fitL (by decide) (by decide) (by omega) (by omega) (Nat.le_of_ble_eq_true rfl)) (fun r K2 R2 I2 L2 x2 z => ?_)
  obtain ⟨v, s1, rfl, ⟨b, rfl⟩, rfl, rfl, rfl, Ψ2, hc2, h2⟩ := h1 _ _ _ _ _ _ z
  refine mo_J_runS lok_back [] 400 _ (show JL l n f (764, [some (.ref 1000000), some (.ref 1), some (.ref 126), some (.ref 149), some (.int (nI i)), none, none, none], [.ref 126, .int b], (wK, wR s1, I2, L2, x + 0)) from ?_)
  refine mo_J_callV (q := 126) (rest := [.int b]) hc2 cd_Model_back (mo_dec lok_back (show mo_at lc_back 764 = some (.invokevirtual 108, 3, 0, 0, 0, .null) from rfl)) (show mo_kV mm_Law_law.1.cls 108 mm_Model_back 0 11 = true by decide +kernel) w_kdm rfl rfl (fitL (by decide) (by decide) (by omega) (by omega) (Nat.le_of_ble_eq_true rfl)) (fun r K2 R2 I3 L3 x2 z => ?_)
  obtain ⟨rfl, rfl, rfl, rfl, T', xs', hI'⟩ := h2 _ _ _ _ _ _ z
  exact mo_J_runS lok_back [1756] 400 _ (show (b = b → JL l n f (1756, [some (.ref 1000000), some (.ref 1), some (.ref 126), some (.ref 149), some (.int (nI i)), none, none, none], [], (wK, wR s1, I3, L3, x + 0 + 0))) ∧ (¬ b = b → JL l n f (771, [some (.ref 1000000), some (.ref 1), some (.ref 126), some (.ref 149), some (.int (nI i)), none, none, none], [.int 0], (wK, wR s1, I3, L3, x + 0 + 0))) from ⟨fun _ => kk _ _ _ _ _ hI', fun z => absurd rfl z⟩)
