/-! The law's cases, further. -/
def lc_out : List (Nat × mo_I) := [(772, .aload_n 1, 1, 0, 0, 0, .null),
  (773, .aload_n 0, 1, 0, 0, 0, .null),
  (774, .iload 4, 2, 0, 0, 0, .null),
  (776, .iconst 1, 1, 0, 0, 0, .int 1),
  (777, .iadd, 1, 0, 0, 0, .null),
  (778, .iaload, 1, 0, 0, 2, .null),
  (779, .aload_n 0, 1, 0, 0, 0, .null),
  (780, .iload 4, 2, 0, 0, 0, .null),
  (782, .iconst 2, 1, 0, 0, 0, .int 2),
  (783, .iadd, 1, 0, 0, 0, .null),
  (784, .iaload, 1, 0, 0, 2, .null),
  (785, .aload_n 3, 1, 0, 0, 0, .null),
  (786, .invokestatic 109, 3, 0, 0, 0, .null),
  (789, .istore 5, 2, 0, 0, 0, .null),
  (791, .aload_n 2, 1, 0, 0, 0, .null),
  (792, .aload_n 0, 1, 0, 0, 0, .null),
  (793, .iload 4, 2, 0, 0, 0, .null),
  (795, .iconst 1, 1, 0, 0, 0, .int 1),
  (796, .iadd, 1, 0, 0, 0, .null),
  (797, .iaload, 1, 0, 0, 2, .null),
  (798, .aload_n 0, 1, 0, 0, 0, .null),
  (799, .iload 4, 2, 0, 0, 0, .null),
  (801, .iconst 2, 1, 0, 0, 0, .int 2),
  (802, .iadd, 1, 0, 0, 0, .null),
  (803, .iaload, 1, 0, 0, 2, .null),
  (804, .invokevirtual 111, 3, 0, 0, 0, .null),
  (807, .lstore 6, 2, 0, 0, 0, .null),
  (809, .aload_n 2, 1, 0, 0, 0, .null),
  (810, .invokevirtual 64, 3, 0, 0, 0, .null),
  (813, .iload 5, 2, 0, 0, 0, .null),
  (815, .if_icmp .eq 5, 3, 820, 0, 0, .null),
  (818, .iconst 0, 1, 0, 0, 0, .int 0),
  (819, .ireturn, 1, 0, 0, 0, .null),
  (820, .iload 5, 2, 0, 0, 0, .null),
  (822, .ifCond .ne 14, 3, 836, 0, 0, .null),
  (825, .aload_n 3, 1, 0, 0, 0, .null),
  (826, .iconst 0, 1, 0, 0, 0, .int 0),
  (827, .laload, 1, 0, 0, 0, .null),
  (828, .lload 6, 2, 0, 0, 0, .null),
  (830, .lcmp, 1, 0, 0, 0, .null),
  (831, .ifCond .eq 5, 3, 836, 0, 0, .null),
  (834, .iconst 0, 1, 0, 0, 0, .int 0),
  (835, .ireturn, 1, 0, 0, 0, .null),
  (836, .goto 920, 3, 1756, 0, 0, .null)]
set_option maxRecDepth 100000 in
theorem lok_out : lc_out.all (mo_chk mm_Law_law.1.cls false mm_Law_law.2.1) = true := by decide +kernel
theorem K_out {l : Launch} {n : Nat} {f : Nat → Int32} {s : Bool} {I : Nat → Nat → Int32} {L : Nat → Nat → Int64} {T : mo_Tn} {xs : List Nat} {i x : Nat} (hfl : l.flags = pinnedFlags ++ [noTraceFlag]) (hI : wInv s I L T xs) (hx : x + 1 ≤ 512) (hi : i + 6 ≤ n) (hn : n ≤ 3072) (kk : ∀ s I L T xs, wInv s I L T xs → JL l n f (1756, [some (.ref 1000000), some (.ref 1), some (.ref 126), some (.ref 149), some (.int (nI i)), none, none, none], [], (wK, wR s, I, L, (x + 1)))) : JL l n f (772, [some (.ref 1000000), some (.ref 1), some (.ref 126), some (.ref 149), some (.int (nI i)), none, none, none], [], (wK, wR s, I, L, x)) := by
  refine mo_J_runS lok_out [] 400 _ (show (1000000 = 1000000 ∧ vp_in (nI i + 1) n) ∧ (1000000 = 1000000 ∧ vp_in (nI i + 2) n) ∧ JL l n f (786, [some (.ref 1000000), some (.ref 1), some (.ref 126), some (.ref 149), some (.int (nI i)), none, none, none], [.ref 149, .int (f (nI i + 2).toNatClampNeg), .int (f (nI i + 1).toNatClampNeg), .ref 1], (wK, wR s, I, L, x)) from ⟨⟨rfl, vin (k := 1) (by decide) hi hn⟩, ⟨rfl, vin (k := 2) (by decide) hi hn⟩, ?_⟩)
  obtain ⟨Ψ1, hc1, h1⟩ := Q_out hfl hI (f (nI i + 1).toNatClampNeg) (f (nI i + 2).toNatClampNeg)
  refine mo_J_callH (as2 := [.ref 1, .int (f (nI i + 1).toNatClampNeg), .int (f (nI i + 2).toNatClampNeg), .ref 149]) (rest := []) hc1 cw_Law_out (mo_dec lok_out (show mo_at lc_out 786 = some (.invokestatic 109, 3, 0, 0, 0, .null) from rfl)) (show mo_kH mm_Law_law.1.cls 109 mm_Law_out 4 = true by decide +kernel) rfl rfl (fitL (by decide) (by decide) (by omega) (by omega) (Nat.le_of_ble_eq_true rfl)) (fun r K2 R2 I2 L2 x2 z => ?_)
  obtain ⟨k, rfl, hk, rfl, rfl, rfl, Ψ2, hc2, h2⟩ := h1 _ _ _ _ _ _ z
  refine mo_J_runS lok_out [] 400 _ (show (1000000 = 1000000 ∧ vp_in (nI i + 1) n) ∧ (1000000 = 1000000 ∧ vp_in (nI i + 2) n) ∧ JL l n f (804, [some (.ref 1000000), some (.ref 1), some (.ref 126), some (.ref 149), some (.int (nI i)), some (.int k), none, none], [.int (f (nI i + 2).toNatClampNeg), .int (f (nI i + 1).toNatClampNeg), .ref 126], (wK, wR s, I2, L2, x + 1)) from ⟨⟨rfl, vin (k := 1) (by decide) hi hn⟩, ⟨rfl, vin (k := 2) (by decide) hi hn⟩, ?_⟩)
  refine mo_J_callV (q := 126) (rest := []) hc2 cd_Model_out (mo_dec lok_out (show mo_at lc_out 804 = some (.invokevirtual 111, 3, 0, 0, 0, .null) from rfl)) (show mo_kV mm_Law_law.1.cls 111 mm_Model_out 2 11 = true by decide +kernel) w_kdm rfl rfl (fitL (by decide) (by decide) (by omega) (by omega) (Nat.le_of_ble_eq_true rfl)) (fun r K2 R2 I3 L3 x2 z => ?_)
  obtain ⟨b, rfl, rfl, rfl, rfl, h0, hb, T', xs', hI'⟩ := h2 _ _ _ _ _ _ z
  refine mo_J_runS lok_out [] 400 _ (show JL l n f (810, [some (.ref 1000000), some (.ref 1), some (.ref 126), some (.ref 149), some (.int (nI i)), some (.int k), some (.long b), none], [.ref 126], (wK, wR s, I3, L3, x + 1 + 0)) from ?_)
  refine mo_J_callV (q := 126) (as2 := []) (rest := []) (C_Model_thrown l wK (wR s) I3 L3 126 (w_md s)) cd_Model_thrown (mo_dec lok_out (show mo_at lc_out 810 = some (.invokevirtual 64, 3, 0, 0, 0, .null) from rfl)) (show mo_kV mm_Law_law.1.cls 64 mm_Model_thrown 0 11 = true by decide +kernel) w_kdm rfl rfl (fitL (by decide) (by decide) (by omega) (by omega) (Nat.le_of_ble_eq_true rfl)) (fun r K2 R2 I4 L4 x2 z => ?_)
  obtain ⟨z, rfl⟩ := z
  cases z
  have fin : JL l n f (1756, [some (.ref 1000000), some (.ref 1), some (.ref 126), some (.ref 149), some (.int (nI i)), some (.int k), some (.long b), none], [], (wK, wR s, I3, L3, x + 1 + 0 + 0)) := mo_J_fewer (ml' := [some (.ref 1000000), some (.ref 1), some (.ref 126), some (.ref 149), some (.int (nI i)), none, none, none]) rfl (fun j v hj => fewL hj rfl) (kk _ _ _ _ _ hI')
  exact mo_J_runS lok_out [1756] 400 _ (show ((I3 126 0) = k → (k = 0 → (mo_kd wK 149 = 101 ∧ vp_in 0 (mo_ln wK 149)) ∧ (lg_cmp (L3 149 (0 : Int32).toNatClampNeg) b = 0 → JL l n f (1756, [some (.ref 1000000), some (.ref 1), some (.ref 126), some (.ref 149), some (.int (nI i)), some (.int k), some (.long b), none], [], (wK, wR s, I3, L3, x + 1 + 0 + 0))) ∧ (¬ lg_cmp (L3 149 (0 : Int32).toNatClampNeg) b = 0 → JL l n f (835, [some (.ref 1000000), some (.ref 1), some (.ref 126), some (.ref 149), some (.int (nI i)), some (.int k), some (.long b), none], [.int 0], (wK, wR s, I3, L3, x + 1 + 0 + 0)))) ∧ (¬ k = 0 → JL l n f (1756, [some (.ref 1000000), some (.ref 1), some (.ref 126), some (.ref 149), some (.int (nI i)), some (.int k), some (.long b), none], [], (wK, wR s, I3, L3, x + 1 + 0 + 0)))) ∧ (¬ (I3 126 0) = k → JL l n f (819, [some (.ref 1000000), some (.ref 1), some (.ref 126), some (.ref 149), some (.int (nI i)), some (.int k), some (.long b), none], [.int 0], (wK, wR s, I3, L3, x + 1 + 0 + 0))) from ⟨fun _ => ⟨fun z => ⟨w_149, fun _ => fin, fun y => absurd (lc_eq0.mpr (hb z)) y⟩, fun _ => fin⟩, fun z => absurd h0 z⟩)
def lc_debt : List (Nat × mo_I) := [(839, .aload_n 1, 1, 0, 0, 0, .null),
  (840, .aload_n 0, 1, 0, 0, 0, .null),
  (841, .iload 4, 2, 0, 0, 0, .null),
  (843, .iconst 1, 1, 0, 0, 0, .int 1),
  (844, .iadd, 1, 0, 0, 0, .null),
  (845, .iaload, 1, 0, 0, 2, .null),
  (846, .aload_n 0, 1, 0, 0, 0, .null),
  (847, .iload 4, 2, 0, 0, 0, .null),
  (849, .iconst 2, 1, 0, 0, 0, .int 2),
  (850, .iadd, 1, 0, 0, 0, .null),
  (851, .iaload, 1, 0, 0, 2, .null),
  (852, .invokevirtual 112, 3, 0, 0, 0, .null),
  (855, .aload_n 2, 1, 0, 0, 0, .null),
  (856, .aload_n 0, 1, 0, 0, 0, .null),
  (857, .iload 4, 2, 0, 0, 0, .null),
  (859, .iconst 1, 1, 0, 0, 0, .int 1),
  (860, .iadd, 1, 0, 0, 0, .null),
  (861, .iaload, 1, 0, 0, 2, .null),
  (862, .aload_n 0, 1, 0, 0, 0, .null),
  (863, .iload 4, 2, 0, 0, 0, .null),
  (865, .iconst 2, 1, 0, 0, 0, .int 2),
  (866, .iadd, 1, 0, 0, 0, .null),
  (867, .iaload, 1, 0, 0, 2, .null),
  (868, .invokevirtual 115, 3, 0, 0, 0, .null),
  (871, .if_icmp .eq 885, 3, 1756, 0, 0, .null),
  (874, .iconst 0, 1, 0, 0, 0, .int 0),
  (875, .ireturn, 1, 0, 0, 0, .null)]
set_option maxRecDepth 100000 in
theorem lok_debt : lc_debt.all (mo_chk mm_Law_law.1.cls false mm_Law_law.2.1) = true := by decide +kernel
theorem K_debt {l : Launch} {n : Nat} {f : Nat → Int32} {s : Bool} {I : Nat → Nat → Int32} {L : Nat → Nat → Int64} {T : mo_Tn} {xs : List Nat} {i x : Nat} (hI : wInv s I L T xs) (hx : x ≤ 512) (hi : i + 6 ≤ n) (hn : n ≤ 3072) (kk : ∀ s I L T xs, wInv s I L T xs → JL l n f (1756, [some (.ref 1000000), some (.ref 1), some (.ref 126), some (.ref 149), some (.int (nI i)), none, none, none], [], (wK, wR s, I, L, x))) : JL l n f (839, [some (.ref 1000000), some (.ref 1), some (.ref 126), some (.ref 149), some (.int (nI i)), none, none, none], [], (wK, wR s, I, L, x)) := by
  refine mo_J_runS lok_debt [] 400 _ (show (1000000 = 1000000 ∧ vp_in (nI i + 1) n) ∧ (1000000 = 1000000 ∧ vp_in (nI i + 2) n) ∧ JL l n f (852, [some (.ref 1000000), some (.ref 1), some (.ref 126), some (.ref 149), some (.int (nI i)), none, none, none], [.int (f (nI i + 2).toNatClampNeg), .int (f (nI i + 1).toNatClampNeg), .ref 1], (wK, wR s, I, L, x)) from ⟨⟨rfl, vin (k := 1) (by decide) hi hn⟩, ⟨rfl, vin (k := 2) (by decide) hi hn⟩, ?_⟩)
  obtain ⟨Ψ1, hc1, h1⟩ := P_debt l hI (f (nI i + 1).toNatClampNeg) (f (nI i + 2).toNatClampNeg)
  refine mo_J_callV (q := 1) (rest := []) hc1 cd_Gate_debt (mo_dec lok_debt (show mo_at lc_debt 852 = some (.invokevirtual 112, 3, 0, 0, 0, .null) from rfl)) (show mo_kV mm_Law_law.1.cls 112 mm_Gate_debt 2 0 = true by decide +kernel) w_kd0 rfl rfl (fitL (by decide) (by decide) (by omega) (by omega) (Nat.le_of_ble_eq_true rfl)) (fun r K2 R2 I2 L2 x2 z => ?_)
  obtain ⟨v, s1, rfl, ⟨b, rfl⟩, rfl, rfl, rfl, Ψ2, hc2, h2⟩ := h1 _ _ _ _ _ _ z
  refine mo_J_runS lok_debt [] 400 _ (show (1000000 = 1000000 ∧ vp_in (nI i + 1) n) ∧ (1000000 = 1000000 ∧ vp_in (nI i + 2) n) ∧ JL l n f (868, [some (.ref 1000000), some (.ref 1), some (.ref 126), some (.ref 149), some (.int (nI i)), none, none, none], [.int (f (nI i + 2).toNatClampNeg), .int (f (nI i + 1).toNatClampNeg), .ref 126, .int b], (wK, wR s1, I2, L2, x + 0)) from ⟨⟨rfl, vin (k := 1) (by decide) hi hn⟩, ⟨rfl, vin (k := 2) (by decide) hi hn⟩, ?_⟩)
  refine mo_J_callV (q := 126) (rest := [.int b]) hc2 cd_Model_debt (mo_dec lok_debt (show mo_at lc_debt 868 = some (.invokevirtual 115, 3, 0, 0, 0, .null) from rfl)) (show mo_kV mm_Law_law.1.cls 115 mm_Model_debt 2 11 = true by decide +kernel) w_kdm rfl rfl (fitL (by decide) (by decide) (by omega) (by omega) (Nat.le_of_ble_eq_true rfl)) (fun r K2 R2 I3 L3 x2 z => ?_)
  obtain ⟨rfl, rfl, rfl, rfl, T', xs', hI'⟩ := h2 _ _ _ _ _ _ z
  exact mo_J_runS lok_debt [1756] 400 _ (show (b = b → JL l n f (1756, [some (.ref 1000000), some (.ref 1), some (.ref 126), some (.ref 149), some (.int (nI i)), none, none, none], [], (wK, wR s1, I3, L3, x + 0 + 0))) ∧ (¬ b = b → JL l n f (875, [some (.ref 1000000), some (.ref 1), some (.ref 126), some (.ref 149), some (.int (nI i)), none, none, none], [.int 0], (wK, wR s1, I3, L3, x + 0 + 0))) from ⟨fun _ => kk _ _ _ _ _ hI', fun z => absurd rfl z⟩)
def lc_net : List (Nat × mo_I) := [(876, .aload_n 1, 1, 0, 0, 0, .null),
  (877, .aload_n 0, 1, 0, 0, 0, .null),
  (878, .iload 4, 2, 0, 0, 0, .null),
  (880, .iconst 1, 1, 0, 0, 0, .int 1),
  (881, .iadd, 1, 0, 0, 0, .null),
  (882, .iaload, 1, 0, 0, 2, .null),
  (883, .aload_n 0, 1, 0, 0, 0, .null),
  (884, .iload 4, 2, 0, 0, 0, .null),
  (886, .iconst 2, 1, 0, 0, 0, .int 2),
  (887, .iadd, 1, 0, 0, 0, .null),
  (888, .iaload, 1, 0, 0, 2, .null),
  (889, .invokevirtual 116, 3, 0, 0, 0, .null),
  (892, .aload_n 2, 1, 0, 0, 0, .null),
  (893, .aload_n 0, 1, 0, 0, 0, .null),
  (894, .iload 4, 2, 0, 0, 0, .null),
  (896, .iconst 1, 1, 0, 0, 0, .int 1),
  (897, .iadd, 1, 0, 0, 0, .null),
  (898, .iaload, 1, 0, 0, 2, .null),
  (899, .aload_n 0, 1, 0, 0, 0, .null),
  (900, .iload 4, 2, 0, 0, 0, .null),
  (902, .iconst 2, 1, 0, 0, 0, .int 2),
  (903, .iadd, 1, 0, 0, 0, .null),
  (904, .iaload, 1, 0, 0, 2, .null),
  (905, .invokevirtual 119, 3, 0, 0, 0, .null),
  (908, .if_icmp .eq 848, 3, 1756, 0, 0, .null),
  (911, .iconst 0, 1, 0, 0, 0, .int 0),
  (912, .ireturn, 1, 0, 0, 0, .null)]
set_option maxRecDepth 100000 in
theorem lok_net : lc_net.all (mo_chk mm_Law_law.1.cls false mm_Law_law.2.1) = true := by decide +kernel
theorem K_net {l : Launch} {n : Nat} {f : Nat → Int32} {s : Bool} {I : Nat → Nat → Int32} {L : Nat → Nat → Int64} {T : mo_Tn} {xs : List Nat} {i x : Nat} (hI : wInv s I L T xs) (hx : x ≤ 512) (hi : i + 6 ≤ n) (hn : n ≤ 3072) (kk : ∀ s I L T xs, wInv s I L T xs → JL l n f (1756, [some (.ref 1000000), some (.ref 1), some (.ref 126), some (.ref 149), some (.int (nI i)), none, none, none], [], (wK, wR s, I, L, x))) : JL l n f (876, [some (.ref 1000000), some (.ref 1), some (.ref 126), some (.ref 149), some (.int (nI i)), none, none, none], [], (wK, wR s, I, L, x)) := by
  refine mo_J_runS lok_net [] 400 _ (show (1000000 = 1000000 ∧ vp_in (nI i + 1) n) ∧ (1000000 = 1000000 ∧ vp_in (nI i + 2) n) ∧ JL l n f (889, [some (.ref 1000000), some (.ref 1), some (.ref 126), some (.ref 149), some (.int (nI i)), none, none, none], [.int (f (nI i + 2).toNatClampNeg), .int (f (nI i + 1).toNatClampNeg), .ref 1], (wK, wR s, I, L, x)) from ⟨⟨rfl, vin (k := 1) (by decide) hi hn⟩, ⟨rfl, vin (k := 2) (by decide) hi hn⟩, ?_⟩)
  obtain ⟨Ψ1, hc1, h1⟩ := P_net l hI (f (nI i + 1).toNatClampNeg) (f (nI i + 2).toNatClampNeg)
  refine mo_J_callV (q := 1) (rest := []) hc1 cd_Gate_net (mo_dec lok_net (show mo_at lc_net 889 = some (.invokevirtual 116, 3, 0, 0, 0, .null) from rfl)) (show mo_kV mm_Law_law.1.cls 116 mm_Gate_net 2 0 = true by decide +kernel) w_kd0 rfl rfl (fitL (by decide) (by decide) (by omega) (by omega) (Nat.le_of_ble_eq_true rfl)) (fun r K2 R2 I2 L2 x2 z => ?_)
  obtain ⟨v, s1, rfl, ⟨b, rfl⟩, rfl, rfl, rfl, Ψ2, hc2, h2⟩ := h1 _ _ _ _ _ _ z
  refine mo_J_runS lok_net [] 400 _ (show (1000000 = 1000000 ∧ vp_in (nI i + 1) n) ∧ (1000000 = 1000000 ∧ vp_in (nI i + 2) n) ∧ JL l n f (905, [some (.ref 1000000), some (.ref 1), some (.ref 126), some (.ref 149), some (.int (nI i)), none, none, none], [.int (f (nI i + 2).toNatClampNeg), .int (f (nI i + 1).toNatClampNeg), .ref 126, .int b], (wK, wR s1, I2, L2, x + 0)) from ⟨⟨rfl, vin (k := 1) (by decide) hi hn⟩, ⟨rfl, vin (k := 2) (by decide) hi hn⟩, ?_⟩)
  refine mo_J_callV (q := 126) (rest := [.int b]) hc2 cd_Model_net (mo_dec lok_net (show mo_at lc_net 905 = some (.invokevirtual 119, 3, 0, 0, 0, .null) from rfl)) (show mo_kV mm_Law_law.1.cls 119 mm_Model_net 2 11 = true by decide +kernel) w_kdm rfl rfl (fitL (by decide) (by decide) (by omega) (by omega) (Nat.le_of_ble_eq_true rfl)) (fun r K2 R2 I3 L3 x2 z => ?_)
  obtain ⟨rfl, rfl, rfl, rfl, T', xs', hI'⟩ := h2 _ _ _ _ _ _ z
  exact mo_J_runS lok_net [1756] 400 _ (show (b = b → JL l n f (1756, [some (.ref 1000000), some (.ref 1), some (.ref 126), some (.ref 149), some (.int (nI i)), none, none, none], [], (wK, wR s1, I3, L3, x + 0 + 0))) ∧ (¬ b = b → JL l n f (912, [some (.ref 1000000), some (.ref 1), some (.ref 126), some (.ref 149), some (.int (nI i)), none, none, none], [.int 0], (wK, wR s1, I3, L3, x + 0 + 0))) from ⟨fun _ => kk _ _ _ _ _ hI', fun z => absurd rfl z⟩)
def lc_rings : List (Nat × mo_I) := [(913, .aload_n 1, 1, 0, 0, 0, .null),
  (914, .invokevirtual 120, 3, 0, 0, 0, .null),
  (917, .aload_n 2, 1, 0, 0, 0, .null),
  (918, .invokevirtual 123, 3, 0, 0, 0, .null),
  (921, .if_icmp .eq 835, 3, 1756, 0, 0, .null),
  (924, .iconst 0, 1, 0, 0, 0, .int 0),
  (925, .ireturn, 1, 0, 0, 0, .null)]
set_option maxRecDepth 100000 in
theorem lok_rings : lc_rings.all (mo_chk mm_Law_law.1.cls false mm_Law_law.2.1) = true := by decide +kernel
theorem K_rings {l : Launch} {n : Nat} {f : Nat → Int32} {s : Bool} {I : Nat → Nat → Int32} {L : Nat → Nat → Int64} {T : mo_Tn} {xs : List Nat} {i x : Nat} (hI : wInv s I L T xs) (hx : x ≤ 512) (hi : i + 6 ≤ n) (hn : n ≤ 3072) (kk : ∀ s I L T xs, wInv s I L T xs → JL l n f (1756, [some (.ref 1000000), some (.ref 1), some (.ref 126), some (.ref 149), some (.int (nI i)), none, none, none], [], (wK, wR s, I, L, x))) : JL l n f (913, [some (.ref 1000000), some (.ref 1), some (.ref 126), some (.ref 149), some (.int (nI i)), none, none, none], [], (wK, wR s, I, L, x)) := by
  refine mo_J_runS lok_rings [] 400 _ (show JL l n f (914, [some (.ref 1000000), some (.ref 1), some (.ref 126), some (.ref 149), some (.int (nI i)), none, none, none], [.ref 1], (wK, wR s, I, L, x)) from ?_)
  obtain ⟨Ψ1, hc1, h1⟩ := P_rings l hI 
  refine mo_J_callV (q := 1) (rest := []) hc1 cd_Gate_rings (mo_dec lok_rings (show mo_at lc_rings 914 = some (.invokevirtual 120, 3, 0, 0, 0, .null) from rfl)) (show mo_kV mm_Law_law.1.cls 120 mm_Gate_rings 0 0 = true by decide +kernel) w_kd0 rfl rfl (fitL (by decide) (by decide) (by omega) (by omega) (Nat.le_of_ble_eq_true rfl)) (fun r K2 R2 I2 L2 x2 z => ?_)
  obtain ⟨v, s1, rfl, ⟨b, rfl⟩, rfl, rfl, rfl, Ψ2, hc2, h2⟩ := h1 _ _ _ _ _ _ z
  refine mo_J_runS lok_rings [] 400 _ (show JL l n f (918, [some (.ref 1000000), some (.ref 1), some (.ref 126), some (.ref 149), some (.int (nI i)), none, none, none], [.ref 126, .int b], (wK, wR s1, I2, L2, x + 0)) from ?_)
  refine mo_J_callV (q := 126) (rest := [.int b]) hc2 cd_Model_rings (mo_dec lok_rings (show mo_at lc_rings 918 = some (.invokevirtual 123, 3, 0, 0, 0, .null) from rfl)) (show mo_kV mm_Law_law.1.cls 123 mm_Model_rings 0 11 = true by decide +kernel) w_kdm rfl rfl (fitL (by decide) (by decide) (by omega) (by omega) (Nat.le_of_ble_eq_true rfl)) (fun r K2 R2 I3 L3 x2 z => ?_)
  obtain ⟨rfl, rfl, rfl, rfl, T', xs', hI'⟩ := h2 _ _ _ _ _ _ z
  exact mo_J_runS lok_rings [1756] 400 _ (show (b = b → JL l n f (1756, [some (.ref 1000000), some (.ref 1), some (.ref 126), some (.ref 149), some (.int (nI i)), none, none, none], [], (wK, wR s1, I3, L3, x + 0 + 0))) ∧ (¬ b = b → JL l n f (925, [some (.ref 1000000), some (.ref 1), some (.ref 126), some (.ref 149), some (.int (nI i)), none, none, none], [.int 0], (wK, wR s1, I3, L3, x + 0 + 0))) from ⟨fun _ => kk _ _ _ _ _ hI', fun z => absurd rfl z⟩)
def lc_matched : List (Nat × mo_I) := [(926, .aload_n 1, 1, 0, 0, 0, .null),
  (927, .aload_n 0, 1, 0, 0, 0, .null),
  (928, .iload 4, 2, 0, 0, 0, .null),
  (930, .iconst 1, 1, 0, 0, 0, .int 1),
  (931, .iadd, 1, 0, 0, 0, .null),
  (932, .iaload, 1, 0, 0, 2, .null),
  (933, .aload_n 0, 1, 0, 0, 0, .null),
  (934, .iload 4, 2, 0, 0, 0, .null),
  (936, .iconst 2, 1, 0, 0, 0, .int 2),
  (937, .iadd, 1, 0, 0, 0, .null),
  (938, .iaload, 1, 0, 0, 2, .null),
  (939, .aload_n 0, 1, 0, 0, 0, .null),
  (940, .iload 4, 2, 0, 0, 0, .null),
  (942, .iconst 3, 1, 0, 0, 0, .int 3),
  (943, .iadd, 1, 0, 0, 0, .null),
  (944, .iaload, 1, 0, 0, 2, .null),
  (945, .aload_n 3, 1, 0, 0, 0, .null),
  (946, .invokestatic 124, 3, 0, 0, 0, .null),
  (949, .istore 5, 2, 0, 0, 0, .null),
  (951, .aload_n 2, 1, 0, 0, 0, .null),
  (952, .aload_n 0, 1, 0, 0, 0, .null),
  (953, .iload 4, 2, 0, 0, 0, .null),
  (955, .iconst 1, 1, 0, 0, 0, .int 1),
  (956, .iadd, 1, 0, 0, 0, .null),
  (957, .iaload, 1, 0, 0, 2, .null),
  (958, .aload_n 0, 1, 0, 0, 0, .null),
  (959, .iload 4, 2, 0, 0, 0, .null),
  (961, .iconst 2, 1, 0, 0, 0, .int 2),
  (962, .iadd, 1, 0, 0, 0, .null),
  (963, .iaload, 1, 0, 0, 2, .null),
  (964, .aload_n 0, 1, 0, 0, 0, .null),
  (965, .iload 4, 2, 0, 0, 0, .null),
  (967, .iconst 3, 1, 0, 0, 0, .int 3),
  (968, .iadd, 1, 0, 0, 0, .null),
  (969, .iaload, 1, 0, 0, 2, .null),
  (970, .invokevirtual 126, 3, 0, 0, 0, .null),
  (973, .lstore 6, 2, 0, 0, 0, .null),
  (975, .aload_n 2, 1, 0, 0, 0, .null),
  (976, .invokevirtual 64, 3, 0, 0, 0, .null),
  (979, .iload 5, 2, 0, 0, 0, .null),
  (981, .if_icmp .eq 5, 3, 986, 0, 0, .null),
  (984, .iconst 0, 1, 0, 0, 0, .int 0),
  (985, .ireturn, 1, 0, 0, 0, .null),
  (986, .iload 5, 2, 0, 0, 0, .null),
  (988, .ifCond .ne 14, 3, 1002, 0, 0, .null),
  (991, .aload_n 3, 1, 0, 0, 0, .null),
  (992, .iconst 0, 1, 0, 0, 0, .int 0),
  (993, .laload, 1, 0, 0, 0, .null),
  (994, .lload 6, 2, 0, 0, 0, .null),
  (996, .lcmp, 1, 0, 0, 0, .null),
  (997, .ifCond .eq 5, 3, 1002, 0, 0, .null),
  (1000, .iconst 0, 1, 0, 0, 0, .int 0),
  (1001, .ireturn, 1, 0, 0, 0, .null),
  (1002, .goto 754, 3, 1756, 0, 0, .null)]
set_option maxRecDepth 100000 in
theorem lok_matched : lc_matched.all (mo_chk mm_Law_law.1.cls false mm_Law_law.2.1) = true := by decide +kernel
theorem K_matched {l : Launch} {n : Nat} {f : Nat → Int32} {s : Bool} {I : Nat → Nat → Int32} {L : Nat → Nat → Int64} {T : mo_Tn} {xs : List Nat} {i x : Nat} (hfl : l.flags = pinnedFlags ++ [noTraceFlag]) (hI : wInv s I L T xs) (hx : x + 1 ≤ 512) (hi : i + 6 ≤ n) (hn : n ≤ 3072) (kk : ∀ s I L T xs, wInv s I L T xs → JL l n f (1756, [some (.ref 1000000), some (.ref 1), some (.ref 126), some (.ref 149), some (.int (nI i)), none, none, none], [], (wK, wR s, I, L, (x + 1)))) : JL l n f (926, [some (.ref 1000000), some (.ref 1), some (.ref 126), some (.ref 149), some (.int (nI i)), none, none, none], [], (wK, wR s, I, L, x)) := by
  refine mo_J_runS lok_matched [] 400 _ (show (1000000 = 1000000 ∧ vp_in (nI i + 1) n) ∧ (1000000 = 1000000 ∧ vp_in (nI i + 2) n) ∧ (1000000 = 1000000 ∧ vp_in (nI i + 3) n) ∧ JL l n f (946, [some (.ref 1000000), some (.ref 1), some (.ref 126), some (.ref 149), some (.int (nI i)), none, none, none], [.ref 149, .int (f (nI i + 3).toNatClampNeg), .int (f (nI i + 2).toNatClampNeg), .int (f (nI i + 1).toNatClampNeg), .ref 1], (wK, wR s, I, L, x)) from ⟨⟨rfl, vin (k := 1) (by decide) hi hn⟩, ⟨rfl, vin (k := 2) (by decide) hi hn⟩, ⟨rfl, vin (k := 3) (by decide) hi hn⟩, ?_⟩)
  obtain ⟨Ψ1, hc1, h1⟩ := Q_matched hfl hI (f (nI i + 1).toNatClampNeg) (f (nI i + 2).toNatClampNeg) (f (nI i + 3).toNatClampNeg)
  refine mo_J_callH (as2 := [.ref 1, .int (f (nI i + 1).toNatClampNeg), .int (f (nI i + 2).toNatClampNeg), .int (f (nI i + 3).toNatClampNeg), .ref 149]) (rest := []) hc1 cw_Law_matched (mo_dec lok_matched (show mo_at lc_matched 946 = some (.invokestatic 124, 3, 0, 0, 0, .null) from rfl)) (show mo_kH mm_Law_law.1.cls 124 mm_Law_matched 5 = true by decide +kernel) rfl rfl (fitL (by decide) (by decide) (by omega) (by omega) (Nat.le_of_ble_eq_true rfl)) (fun r K2 R2 I2 L2 x2 z => ?_)
  obtain ⟨k, rfl, hk, rfl, rfl, rfl, Ψ2, hc2, h2⟩ := h1 _ _ _ _ _ _ z
  refine mo_J_runS lok_matched [] 400 _ (show (1000000 = 1000000 ∧ vp_in (nI i + 1) n) ∧ (1000000 = 1000000 ∧ vp_in (nI i + 2) n) ∧ (1000000 = 1000000 ∧ vp_in (nI i + 3) n) ∧ JL l n f (970, [some (.ref 1000000), some (.ref 1), some (.ref 126), some (.ref 149), some (.int (nI i)), some (.int k), none, none], [.int (f (nI i + 3).toNatClampNeg), .int (f (nI i + 2).toNatClampNeg), .int (f (nI i + 1).toNatClampNeg), .ref 126], (wK, wR s, I2, L2, x + 1)) from ⟨⟨rfl, vin (k := 1) (by decide) hi hn⟩, ⟨rfl, vin (k := 2) (by decide) hi hn⟩, ⟨rfl, vin (k := 3) (by decide) hi hn⟩, ?_⟩)
  refine mo_J_callV (q := 126) (rest := []) hc2 cd_Model_matched (mo_dec lok_matched (show mo_at lc_matched 970 = some (.invokevirtual 126, 3, 0, 0, 0, .null) from rfl)) (show mo_kV mm_Law_law.1.cls 126 mm_Model_matched 3 11 = true by decide +kernel) w_kdm rfl rfl (fitL (by decide) (by decide) (by omega) (by omega) (Nat.le_of_ble_eq_true rfl)) (fun r K2 R2 I3 L3 x2 z => ?_)
  obtain ⟨b, rfl, rfl, rfl, rfl, h0, hb, T', xs', hI'⟩ := h2 _ _ _ _ _ _ z
  refine mo_J_runS lok_matched [] 400 _ (show JL l n f (976, [some (.ref 1000000), some (.ref 1), some (.ref 126), some (.ref 149), some (.int (nI i)), some (.int k), some (.long b), none], [.ref 126], (wK, wR s, I3, L3, x + 1 + 0)) from ?_)
  refine mo_J_callV (q := 126) (as2 := []) (rest := []) (C_Model_thrown l wK (wR s) I3 L3 126 (w_md s)) cd_Model_thrown (mo_dec lok_matched (show mo_at lc_matched 976 = some (.invokevirtual 64, 3, 0, 0, 0, .null) from rfl)) (show mo_kV mm_Law_law.1.cls 64 mm_Model_thrown 0 11 = true by decide +kernel) w_kdm rfl rfl (fitL (by decide) (by decide) (by omega) (by omega) (Nat.le_of_ble_eq_true rfl)) (fun r K2 R2 I4 L4 x2 z => ?_)
  obtain ⟨z, rfl⟩ := z
  cases z
  have fin : JL l n f (1756, [some (.ref 1000000), some (.ref 1), some (.ref 126), some (.ref 149), some (.int (nI i)), some (.int k), some (.long b), none], [], (wK, wR s, I3, L3, x + 1 + 0 + 0)) := mo_J_fewer (ml' := [some (.ref 1000000), some (.ref 1), some (.ref 126), some (.ref 149), some (.int (nI i)), none, none, none]) rfl (fun j v hj => fewL hj rfl) (kk _ _ _ _ _ hI')
  exact mo_J_runS lok_matched [1756] 400 _ (show ((I3 126 0) = k → (k = 0 → (mo_kd wK 149 = 101 ∧ vp_in 0 (mo_ln wK 149)) ∧ (lg_cmp (L3 149 (0 : Int32).toNatClampNeg) b = 0 → JL l n f (1756, [some (.ref 1000000), some (.ref 1), some (.ref 126), some (.ref 149), some (.int (nI i)), some (.int k), some (.long b), none], [], (wK, wR s, I3, L3, x + 1 + 0 + 0))) ∧ (¬ lg_cmp (L3 149 (0 : Int32).toNatClampNeg) b = 0 → JL l n f (1001, [some (.ref 1000000), some (.ref 1), some (.ref 126), some (.ref 149), some (.int (nI i)), some (.int k), some (.long b), none], [.int 0], (wK, wR s, I3, L3, x + 1 + 0 + 0)))) ∧ (¬ k = 0 → JL l n f (1756, [some (.ref 1000000), some (.ref 1), some (.ref 126), some (.ref 149), some (.int (nI i)), some (.int k), some (.long b), none], [], (wK, wR s, I3, L3, x + 1 + 0 + 0)))) ∧ (¬ (I3 126 0) = k → JL l n f (985, [some (.ref 1000000), some (.ref 1), some (.ref 126), some (.ref 149), some (.int (nI i)), some (.int k), some (.long b), none], [.int 0], (wK, wR s, I3, L3, x + 1 + 0 + 0))) from ⟨fun _ => ⟨fun z => ⟨w_149, fun _ => fin, fun y => absurd (lc_eq0.mpr (hb z)) y⟩, fun _ => fin⟩, fun z => absurd h0 z⟩)
def lc_matchedAs : List (Nat × mo_I) := [(1005, .aload_n 1, 1, 0, 0, 0, .null),
  (1006, .aload_n 0, 1, 0, 0, 0, .null),
  (1007, .iload 4, 2, 0, 0, 0, .null),
  (1009, .iconst 1, 1, 0, 0, 0, .int 1),
  (1010, .iadd, 1, 0, 0, 0, .null),
  (1011, .iaload, 1, 0, 0, 2, .null),
  (1012, .invokevirtual 127, 3, 0, 0, 0, .null),
  (1015, .aload_n 2, 1, 0, 0, 0, .null),
  (1016, .aload_n 0, 1, 0, 0, 0, .null),
  (1017, .iload 4, 2, 0, 0, 0, .null),
  (1019, .iconst 1, 1, 0, 0, 0, .int 1),
  (1020, .iadd, 1, 0, 0, 0, .null),
  (1021, .iaload, 1, 0, 0, 2, .null),
  (1022, .invokevirtual 130, 3, 0, 0, 0, .null),
  (1025, .if_icmp .eq 731, 3, 1756, 0, 0, .null),
  (1028, .iconst 0, 1, 0, 0, 0, .int 0),
  (1029, .ireturn, 1, 0, 0, 0, .null)]
set_option maxRecDepth 100000 in
theorem lok_matchedAs : lc_matchedAs.all (mo_chk mm_Law_law.1.cls false mm_Law_law.2.1) = true := by decide +kernel
theorem K_matchedAs {l : Launch} {n : Nat} {f : Nat → Int32} {s : Bool} {I : Nat → Nat → Int32} {L : Nat → Nat → Int64} {T : mo_Tn} {xs : List Nat} {i x : Nat} (hI : wInv s I L T xs) (hx : x ≤ 512) (hi : i + 6 ≤ n) (hn : n ≤ 3072) (kk : ∀ s I L T xs, wInv s I L T xs → JL l n f (1756, [some (.ref 1000000), some (.ref 1), some (.ref 126), some (.ref 149), some (.int (nI i)), none, none, none], [], (wK, wR s, I, L, x))) : JL l n f (1005, [some (.ref 1000000), some (.ref 1), some (.ref 126), some (.ref 149), some (.int (nI i)), none, none, none], [], (wK, wR s, I, L, x)) := by
  refine mo_J_runS lok_matchedAs [] 400 _ (show (1000000 = 1000000 ∧ vp_in (nI i + 1) n) ∧ JL l n f (1012, [some (.ref 1000000), some (.ref 1), some (.ref 126), some (.ref 149), some (.int (nI i)), none, none, none], [.int (f (nI i + 1).toNatClampNeg), .ref 1], (wK, wR s, I, L, x)) from ⟨⟨rfl, vin (k := 1) (by decide) hi hn⟩, ?_⟩)
  obtain ⟨Ψ1, hc1, h1⟩ := P_matchedAs l hI (f (nI i + 1).toNatClampNeg)
  refine mo_J_callV (q := 1) (rest := []) hc1 cd_Gate_matchedAs (mo_dec lok_matchedAs (show mo_at lc_matchedAs 1012 = some (.invokevirtual 127, 3, 0, 0, 0, .null) from rfl)) (show mo_kV mm_Law_law.1.cls 127 mm_Gate_matchedAs 1 0 = true by decide +kernel) w_kd0 rfl rfl (fitL (by decide) (by decide) (by omega) (by omega) (Nat.le_of_ble_eq_true rfl)) (fun r K2 R2 I2 L2 x2 z => ?_)
  obtain ⟨v, s1, rfl, ⟨b, rfl⟩, rfl, rfl, rfl, Ψ2, hc2, h2⟩ := h1 _ _ _ _ _ _ z
  refine mo_J_runS lok_matchedAs [] 400 _ (show (1000000 = 1000000 ∧ vp_in (nI i + 1) n) ∧ JL l n f (1022, [some (.ref 1000000), some (.ref 1), some (.ref 126), some (.ref 149), some (.int (nI i)), none, none, none], [.int (f (nI i + 1).toNatClampNeg), .ref 126, .int b], (wK, wR s1, I2, L2, x + 0)) from ⟨⟨rfl, vin (k := 1) (by decide) hi hn⟩, ?_⟩)
  refine mo_J_callV (q := 126) (rest := [.int b]) hc2 cd_Model_matchedAs (mo_dec lok_matchedAs (show mo_at lc_matchedAs 1022 = some (.invokevirtual 130, 3, 0, 0, 0, .null) from rfl)) (show mo_kV mm_Law_law.1.cls 130 mm_Model_matchedAs 1 11 = true by decide +kernel) w_kdm rfl rfl (fitL (by decide) (by decide) (by omega) (by omega) (Nat.le_of_ble_eq_true rfl)) (fun r K2 R2 I3 L3 x2 z => ?_)
  obtain ⟨rfl, rfl, rfl, rfl, T', xs', hI'⟩ := h2 _ _ _ _ _ _ z
  exact mo_J_runS lok_matchedAs [1756] 400 _ (show (b = b → JL l n f (1756, [some (.ref 1000000), some (.ref 1), some (.ref 126), some (.ref 149), some (.int (nI i)), none, none, none], [], (wK, wR s1, I3, L3, x + 0 + 0))) ∧ (¬ b = b → JL l n f (1029, [some (.ref 1000000), some (.ref 1), some (.ref 126), some (.ref 149), some (.int (nI i)), none, none, none], [.int 0], (wK, wR s1, I3, L3, x + 0 + 0))) from ⟨fun _ => kk _ _ _ _ _ hI', fun z => absurd rfl z⟩)
def lc_want : List (Nat × mo_I) := [(1030, .aload_n 1, 1, 0, 0, 0, .null),
  (1031, .aload_n 0, 1, 0, 0, 0, .null),
  (1032, .iload 4, 2, 0, 0, 0, .null),
  (1034, .iconst 1, 1, 0, 0, 0, .int 1),
  (1035, .iadd, 1, 0, 0, 0, .null),
  (1036, .iaload, 1, 0, 0, 2, .null),
  (1037, .aload_n 0, 1, 0, 0, 0, .null),
  (1038, .iload 4, 2, 0, 0, 0, .null),
  (1040, .iconst 2, 1, 0, 0, 0, .int 2),
  (1041, .iadd, 1, 0, 0, 0, .null),
  (1042, .iaload, 1, 0, 0, 2, .null),
  (1043, .aload_n 0, 1, 0, 0, 0, .null),
  (1044, .iload 4, 2, 0, 0, 0, .null),
  (1046, .iconst 3, 1, 0, 0, 0, .int 3),
  (1047, .iadd, 1, 0, 0, 0, .null),
  (1048, .iaload, 1, 0, 0, 2, .null),
  (1049, .aload_n 3, 1, 0, 0, 0, .null),
  (1050, .invokestatic 131, 3, 0, 0, 0, .null),
  (1053, .istore 5, 2, 0, 0, 0, .null),
  (1055, .aload_n 2, 1, 0, 0, 0, .null),
  (1056, .aload_n 0, 1, 0, 0, 0, .null),
  (1057, .iload 4, 2, 0, 0, 0, .null),
  (1059, .iconst 1, 1, 0, 0, 0, .int 1),
  (1060, .iadd, 1, 0, 0, 0, .null),
  (1061, .iaload, 1, 0, 0, 2, .null),
  (1062, .aload_n 0, 1, 0, 0, 0, .null),
  (1063, .iload 4, 2, 0, 0, 0, .null),
  (1065, .iconst 2, 1, 0, 0, 0, .int 2),
  (1066, .iadd, 1, 0, 0, 0, .null),
  (1067, .iaload, 1, 0, 0, 2, .null),
  (1068, .aload_n 0, 1, 0, 0, 0, .null),
  (1069, .iload 4, 2, 0, 0, 0, .null),
  (1071, .iconst 3, 1, 0, 0, 0, .int 3),
  (1072, .iadd, 1, 0, 0, 0, .null),
  (1073, .iaload, 1, 0, 0, 2, .null),
  (1074, .invokevirtual 133, 3, 0, 0, 0, .null),
  (1077, .lstore 6, 2, 0, 0, 0, .null),
  (1079, .aload_n 2, 1, 0, 0, 0, .null),
  (1080, .invokevirtual 64, 3, 0, 0, 0, .null),
  (1083, .iload 5, 2, 0, 0, 0, .null),
  (1085, .if_icmp .eq 5, 3, 1090, 0, 0, .null),
  (1088, .iconst 0, 1, 0, 0, 0, .int 0),
  (1089, .ireturn, 1, 0, 0, 0, .null),
  (1090, .iload 5, 2, 0, 0, 0, .null),
  (1092, .ifCond .ne 14, 3, 1106, 0, 0, .null),
  (1095, .aload_n 3, 1, 0, 0, 0, .null),
  (1096, .iconst 0, 1, 0, 0, 0, .int 0),
  (1097, .laload, 1, 0, 0, 0, .null),
  (1098, .lload 6, 2, 0, 0, 0, .null),
  (1100, .lcmp, 1, 0, 0, 0, .null),
  (1101, .ifCond .eq 5, 3, 1106, 0, 0, .null),
  (1104, .iconst 0, 1, 0, 0, 0, .int 0),
  (1105, .ireturn, 1, 0, 0, 0, .null),
  (1106, .goto 650, 3, 1756, 0, 0, .null)]
set_option maxRecDepth 100000 in
theorem lok_want : lc_want.all (mo_chk mm_Law_law.1.cls false mm_Law_law.2.1) = true := by decide +kernel
theorem K_want {l : Launch} {n : Nat} {f : Nat → Int32} {s : Bool} {I : Nat → Nat → Int32} {L : Nat → Nat → Int64} {T : mo_Tn} {xs : List Nat} {i x : Nat} (hfl : l.flags = pinnedFlags ++ [noTraceFlag]) (hI : wInv s I L T xs) (hx : x + 1 ≤ 512) (hi : i + 6 ≤ n) (hn : n ≤ 3072) (kk : ∀ s I L T xs, wInv s I L T xs → JL l n f (1756, [some (.ref 1000000), some (.ref 1), some (.ref 126), some (.ref 149), some (.int (nI i)), none, none, none], [], (wK, wR s, I, L, (x + 1)))) : JL l n f (1030, [some (.ref 1000000), some (.ref 1), some (.ref 126), some (.ref 149), some (.int (nI i)), none, none, none], [], (wK, wR s, I, L, x)) := by
  refine mo_J_runS lok_want [] 400 _ (show (1000000 = 1000000 ∧ vp_in (nI i + 1) n) ∧ (1000000 = 1000000 ∧ vp_in (nI i + 2) n) ∧ (1000000 = 1000000 ∧ vp_in (nI i + 3) n) ∧ JL l n f (1050, [some (.ref 1000000), some (.ref 1), some (.ref 126), some (.ref 149), some (.int (nI i)), none, none, none], [.ref 149, .int (f (nI i + 3).toNatClampNeg), .int (f (nI i + 2).toNatClampNeg), .int (f (nI i + 1).toNatClampNeg), .ref 1], (wK, wR s, I, L, x)) from ⟨⟨rfl, vin (k := 1) (by decide) hi hn⟩, ⟨rfl, vin (k := 2) (by decide) hi hn⟩, ⟨rfl, vin (k := 3) (by decide) hi hn⟩, ?_⟩)
  obtain ⟨Ψ1, hc1, h1⟩ := Q_want hfl hI (f (nI i + 1).toNatClampNeg) (f (nI i + 2).toNatClampNeg) (f (nI i + 3).toNatClampNeg)
  refine mo_J_callH (as2 := [.ref 1, .int (f (nI i + 1).toNatClampNeg), .int (f (nI i + 2).toNatClampNeg), .int (f (nI i + 3).toNatClampNeg), .ref 149]) (rest := []) hc1 cw_Law_want (mo_dec lok_want (show mo_at lc_want 1050 = some (.invokestatic 131, 3, 0, 0, 0, .null) from rfl)) (show mo_kH mm_Law_law.1.cls 131 mm_Law_want 5 = true by decide +kernel) rfl rfl (fitL (by decide) (by decide) (by omega) (by omega) (Nat.le_of_ble_eq_true rfl)) (fun r K2 R2 I2 L2 x2 z => ?_)
  obtain ⟨k, rfl, hk, rfl, rfl, rfl, Ψ2, hc2, h2⟩ := h1 _ _ _ _ _ _ z
  refine mo_J_runS lok_want [] 400 _ (show (1000000 = 1000000 ∧ vp_in (nI i + 1) n) ∧ (1000000 = 1000000 ∧ vp_in (nI i + 2) n) ∧ (1000000 = 1000000 ∧ vp_in (nI i + 3) n) ∧ JL l n f (1074, [some (.ref 1000000), some (.ref 1), some (.ref 126), some (.ref 149), some (.int (nI i)), some (.int k), none, none], [.int (f (nI i + 3).toNatClampNeg), .int (f (nI i + 2).toNatClampNeg), .int (f (nI i + 1).toNatClampNeg), .ref 126], (wK, wR s, I2, L2, x + 1)) from ⟨⟨rfl, vin (k := 1) (by decide) hi hn⟩, ⟨rfl, vin (k := 2) (by decide) hi hn⟩, ⟨rfl, vin (k := 3) (by decide) hi hn⟩, ?_⟩)
  refine mo_J_callV (q := 126) (rest := []) hc2 cd_Model_want (mo_dec lok_want (show mo_at lc_want 1074 = some (.invokevirtual 133, 3, 0, 0, 0, .null) from rfl)) (show mo_kV mm_Law_law.1.cls 133 mm_Model_want 3 11 = true by decide +kernel) w_kdm rfl rfl (fitL (by decide) (by decide) (by omega) (by omega) (Nat.le_of_ble_eq_true rfl)) (fun r K2 R2 I3 L3 x2 z => ?_)
  obtain ⟨b, rfl, rfl, rfl, rfl, h0, hb, T', xs', hI'⟩ := h2 _ _ _ _ _ _ z
  refine mo_J_runS lok_want [] 400 _ (show JL l n f (1080, [some (.ref 1000000), some (.ref 1), some (.ref 126), some (.ref 149), some (.int (nI i)), some (.int k), some (.long b), none], [.ref 126], (wK, wR s, I3, L3, x + 1 + 0)) from ?_)
  refine mo_J_callV (q := 126) (as2 := []) (rest := []) (C_Model_thrown l wK (wR s) I3 L3 126 (w_md s)) cd_Model_thrown (mo_dec lok_want (show mo_at lc_want 1080 = some (.invokevirtual 64, 3, 0, 0, 0, .null) from rfl)) (show mo_kV mm_Law_law.1.cls 64 mm_Model_thrown 0 11 = true by decide +kernel) w_kdm rfl rfl (fitL (by decide) (by decide) (by omega) (by omega) (Nat.le_of_ble_eq_true rfl)) (fun r K2 R2 I4 L4 x2 z => ?_)
  obtain ⟨z, rfl⟩ := z
  cases z
  have fin : JL l n f (1756, [some (.ref 1000000), some (.ref 1), some (.ref 126), some (.ref 149), some (.int (nI i)), some (.int k), some (.long b), none], [], (wK, wR s, I3, L3, x + 1 + 0 + 0)) := mo_J_fewer (ml' := [some (.ref 1000000), some (.ref 1), some (.ref 126), some (.ref 149), some (.int (nI i)), none, none, none]) rfl (fun j v hj => fewL hj rfl) (kk _ _ _ _ _ hI')
  exact mo_J_runS lok_want [1756] 400 _ (show ((I3 126 0) = k → (k = 0 → (mo_kd wK 149 = 101 ∧ vp_in 0 (mo_ln wK 149)) ∧ (lg_cmp (L3 149 (0 : Int32).toNatClampNeg) b = 0 → JL l n f (1756, [some (.ref 1000000), some (.ref 1), some (.ref 126), some (.ref 149), some (.int (nI i)), some (.int k), some (.long b), none], [], (wK, wR s, I3, L3, x + 1 + 0 + 0))) ∧ (¬ lg_cmp (L3 149 (0 : Int32).toNatClampNeg) b = 0 → JL l n f (1105, [some (.ref 1000000), some (.ref 1), some (.ref 126), some (.ref 149), some (.int (nI i)), some (.int k), some (.long b), none], [.int 0], (wK, wR s, I3, L3, x + 1 + 0 + 0)))) ∧ (¬ k = 0 → JL l n f (1756, [some (.ref 1000000), some (.ref 1), some (.ref 126), some (.ref 149), some (.int (nI i)), some (.int k), some (.long b), none], [], (wK, wR s, I3, L3, x + 1 + 0 + 0)))) ∧ (¬ (I3 126 0) = k → JL l n f (1089, [some (.ref 1000000), some (.ref 1), some (.ref 126), some (.ref 149), some (.int (nI i)), some (.int k), some (.long b), none], [.int 0], (wK, wR s, I3, L3, x + 1 + 0 + 0))) from ⟨fun _ => ⟨fun z => ⟨w_149, fun _ => fin, fun y => absurd (lc_eq0.mpr (hb z)) y⟩, fun _ => fin⟩, fun z => absurd h0 z⟩)
def lc_serial : List (Nat × mo_I) := [(1109, .aload_n 1, 1, 0, 0, 0, .null),
  (1110, .aload_n 0, 1, 0, 0, 0, .null),
  (1111, .iload 4, 2, 0, 0, 0, .null),
  (1113, .iconst 1, 1, 0, 0, 0, .int 1),
  (1114, .iadd, 1, 0, 0, 0, .null),
  (1115, .iaload, 1, 0, 0, 2, .null),
  (1116, .aload_n 0, 1, 0, 0, 0, .null),
  (1117, .iload 4, 2, 0, 0, 0, .null),
  (1119, .iconst 2, 1, 0, 0, 0, .int 2),
  (1120, .iadd, 1, 0, 0, 0, .null),
  (1121, .iaload, 1, 0, 0, 2, .null),
  (1122, .aload_n 3, 1, 0, 0, 0, .null),
  (1123, .invokestatic 134, 3, 0, 0, 0, .null),
  (1126, .istore 5, 2, 0, 0, 0, .null),
  (1128, .aload_n 2, 1, 0, 0, 0, .null),
  (1129, .aload_n 0, 1, 0, 0, 0, .null),
  (1130, .iload 4, 2, 0, 0, 0, .null),
  (1132, .iconst 1, 1, 0, 0, 0, .int 1),
  (1133, .iadd, 1, 0, 0, 0, .null),
  (1134, .iaload, 1, 0, 0, 2, .null),
  (1135, .aload_n 0, 1, 0, 0, 0, .null),
  (1136, .iload 4, 2, 0, 0, 0, .null),
  (1138, .iconst 2, 1, 0, 0, 0, .int 2),
  (1139, .iadd, 1, 0, 0, 0, .null),
  (1140, .iaload, 1, 0, 0, 2, .null),
  (1141, .invokevirtual 136, 3, 0, 0, 0, .null),
  (1144, .lstore 6, 2, 0, 0, 0, .null),
  (1146, .aload_n 2, 1, 0, 0, 0, .null),
  (1147, .invokevirtual 64, 3, 0, 0, 0, .null),
  (1150, .iload 5, 2, 0, 0, 0, .null),
  (1152, .if_icmp .eq 5, 3, 1157, 0, 0, .null),
  (1155, .iconst 0, 1, 0, 0, 0, .int 0),
  (1156, .ireturn, 1, 0, 0, 0, .null),
  (1157, .iload 5, 2, 0, 0, 0, .null),
  (1159, .ifCond .ne 14, 3, 1173, 0, 0, .null),
  (1162, .aload_n 3, 1, 0, 0, 0, .null),
  (1163, .iconst 0, 1, 0, 0, 0, .int 0),
  (1164, .laload, 1, 0, 0, 0, .null),
  (1165, .lload 6, 2, 0, 0, 0, .null),
  (1167, .lcmp, 1, 0, 0, 0, .null),
  (1168, .ifCond .eq 5, 3, 1173, 0, 0, .null),
  (1171, .iconst 0, 1, 0, 0, 0, .int 0),
  (1172, .ireturn, 1, 0, 0, 0, .null),
  (1173, .goto 583, 3, 1756, 0, 0, .null)]
set_option maxRecDepth 100000 in
theorem lok_serial : lc_serial.all (mo_chk mm_Law_law.1.cls false mm_Law_law.2.1) = true := by decide +kernel
theorem K_serial {l : Launch} {n : Nat} {f : Nat → Int32} {s : Bool} {I : Nat → Nat → Int32} {L : Nat → Nat → Int64} {T : mo_Tn} {xs : List Nat} {i x : Nat} (hfl : l.flags = pinnedFlags ++ [noTraceFlag]) (hI : wInv s I L T xs) (hx : x + 1 ≤ 512) (hi : i + 6 ≤ n) (hn : n ≤ 3072) (kk : ∀ s I L T xs, wInv s I L T xs → JL l n f (1756, [some (.ref 1000000), some (.ref 1), some (.ref 126), some (.ref 149), some (.int (nI i)), none, none, none], [], (wK, wR s, I, L, (x + 1)))) : JL l n f (1109, [some (.ref 1000000), some (.ref 1), some (.ref 126), some (.ref 149), some (.int (nI i)), none, none, none], [], (wK, wR s, I, L, x)) := by
  refine mo_J_runS lok_serial [] 400 _ (show (1000000 = 1000000 ∧ vp_in (nI i + 1) n) ∧ (1000000 = 1000000 ∧ vp_in (nI i + 2) n) ∧ JL l n f (1123, [some (.ref 1000000), some (.ref 1), some (.ref 126), some (.ref 149), some (.int (nI i)), none, none, none], [.ref 149, .int (f (nI i + 2).toNatClampNeg), .int (f (nI i + 1).toNatClampNeg), .ref 1], (wK, wR s, I, L, x)) from ⟨⟨rfl, vin (k := 1) (by decide) hi hn⟩, ⟨rfl, vin (k := 2) (by decide) hi hn⟩, ?_⟩)
  obtain ⟨Ψ1, hc1, h1⟩ := Q_serial hfl hI (f (nI i + 1).toNatClampNeg) (f (nI i + 2).toNatClampNeg)
  refine mo_J_callH (as2 := [.ref 1, .int (f (nI i + 1).toNatClampNeg), .int (f (nI i + 2).toNatClampNeg), .ref 149]) (rest := []) hc1 cw_Law_serial (mo_dec lok_serial (show mo_at lc_serial 1123 = some (.invokestatic 134, 3, 0, 0, 0, .null) from rfl)) (show mo_kH mm_Law_law.1.cls 134 mm_Law_serial 4 = true by decide +kernel) rfl rfl (fitL (by decide) (by decide) (by omega) (by omega) (Nat.le_of_ble_eq_true rfl)) (fun r K2 R2 I2 L2 x2 z => ?_)
  obtain ⟨k, rfl, hk, rfl, rfl, rfl, Ψ2, hc2, h2⟩ := h1 _ _ _ _ _ _ z
  refine mo_J_runS lok_serial [] 400 _ (show (1000000 = 1000000 ∧ vp_in (nI i + 1) n) ∧ (1000000 = 1000000 ∧ vp_in (nI i + 2) n) ∧ JL l n f (1141, [some (.ref 1000000), some (.ref 1), some (.ref 126), some (.ref 149), some (.int (nI i)), some (.int k), none, none], [.int (f (nI i + 2).toNatClampNeg), .int (f (nI i + 1).toNatClampNeg), .ref 126], (wK, wR s, I2, L2, x + 1)) from ⟨⟨rfl, vin (k := 1) (by decide) hi hn⟩, ⟨rfl, vin (k := 2) (by decide) hi hn⟩, ?_⟩)
  refine mo_J_callV (q := 126) (rest := []) hc2 cd_Model_serial (mo_dec lok_serial (show mo_at lc_serial 1141 = some (.invokevirtual 136, 3, 0, 0, 0, .null) from rfl)) (show mo_kV mm_Law_law.1.cls 136 mm_Model_serial 2 11 = true by decide +kernel) w_kdm rfl rfl (fitL (by decide) (by decide) (by omega) (by omega) (Nat.le_of_ble_eq_true rfl)) (fun r K2 R2 I3 L3 x2 z => ?_)
  obtain ⟨b, rfl, rfl, rfl, rfl, h0, hb, T', xs', hI'⟩ := h2 _ _ _ _ _ _ z
  refine mo_J_runS lok_serial [] 400 _ (show JL l n f (1147, [some (.ref 1000000), some (.ref 1), some (.ref 126), some (.ref 149), some (.int (nI i)), some (.int k), some (.long b), none], [.ref 126], (wK, wR s, I3, L3, x + 1 + 0)) from ?_)
  refine mo_J_callV (q := 126) (as2 := []) (rest := []) (C_Model_thrown l wK (wR s) I3 L3 126 (w_md s)) cd_Model_thrown (mo_dec lok_serial (show mo_at lc_serial 1147 = some (.invokevirtual 64, 3, 0, 0, 0, .null) from rfl)) (show mo_kV mm_Law_law.1.cls 64 mm_Model_thrown 0 11 = true by decide +kernel) w_kdm rfl rfl (fitL (by decide) (by decide) (by omega) (by omega) (Nat.le_of_ble_eq_true rfl)) (fun r K2 R2 I4 L4 x2 z => ?_)
  obtain ⟨z, rfl⟩ := z
  cases z
  have fin : JL l n f (1756, [some (.ref 1000000), some (.ref 1), some (.ref 126), some (.ref 149), some (.int (nI i)), some (.int k), some (.long b), none], [], (wK, wR s, I3, L3, x + 1 + 0 + 0)) := mo_J_fewer (ml' := [some (.ref 1000000), some (.ref 1), some (.ref 126), some (.ref 149), some (.int (nI i)), none, none, none]) rfl (fun j v hj => fewL hj rfl) (kk _ _ _ _ _ hI')
  exact mo_J_runS lok_serial [1756] 400 _ (show ((I3 126 0) = k → (k = 0 → (mo_kd wK 149 = 101 ∧ vp_in 0 (mo_ln wK 149)) ∧ (lg_cmp (L3 149 (0 : Int32).toNatClampNeg) b = 0 → JL l n f (1756, [some (.ref 1000000), some (.ref 1), some (.ref 126), some (.ref 149), some (.int (nI i)), some (.int k), some (.long b), none], [], (wK, wR s, I3, L3, x + 1 + 0 + 0))) ∧ (¬ lg_cmp (L3 149 (0 : Int32).toNatClampNeg) b = 0 → JL l n f (1172, [some (.ref 1000000), some (.ref 1), some (.ref 126), some (.ref 149), some (.int (nI i)), some (.int k), some (.long b), none], [.int 0], (wK, wR s, I3, L3, x + 1 + 0 + 0)))) ∧ (¬ k = 0 → JL l n f (1756, [some (.ref 1000000), some (.ref 1), some (.ref 126), some (.ref 149), some (.int (nI i)), some (.int k), some (.long b), none], [], (wK, wR s, I3, L3, x + 1 + 0 + 0)))) ∧ (¬ (I3 126 0) = k → JL l n f (1156, [some (.ref 1000000), some (.ref 1), some (.ref 126), some (.ref 149), some (.int (nI i)), some (.int k), some (.long b), none], [.int 0], (wK, wR s, I3, L3, x + 1 + 0 + 0))) from ⟨fun _ => ⟨fun z => ⟨w_149, fun _ => fin, fun y => absurd (lc_eq0.mpr (hb z)) y⟩, fun _ => fin⟩, fun z => absurd h0 z⟩)
def lc_serialAs : List (Nat × mo_I) := [(1176, .aload_n 1, 1, 0, 0, 0, .null),
  (1177, .aload_n 0, 1, 0, 0, 0, .null),
  (1178, .iload 4, 2, 0, 0, 0, .null),
  (1180, .iconst 1, 1, 0, 0, 0, .int 1),
  (1181, .iadd, 1, 0, 0, 0, .null),
  (1182, .iaload, 1, 0, 0, 2, .null),
  (1183, .invokevirtual 137, 3, 0, 0, 0, .null),
  (1186, .aload_n 2, 1, 0, 0, 0, .null),
  (1187, .aload_n 0, 1, 0, 0, 0, .null),
  (1188, .iload 4, 2, 0, 0, 0, .null),
  (1190, .iconst 1, 1, 0, 0, 0, .int 1),
  (1191, .iadd, 1, 0, 0, 0, .null),
  (1192, .iaload, 1, 0, 0, 2, .null),
  (1193, .invokevirtual 140, 3, 0, 0, 0, .null),
  (1196, .if_icmp .eq 560, 3, 1756, 0, 0, .null),
  (1199, .iconst 0, 1, 0, 0, 0, .int 0),
  (1200, .ireturn, 1, 0, 0, 0, .null)]
set_option maxRecDepth 100000 in
theorem lok_serialAs : lc_serialAs.all (mo_chk mm_Law_law.1.cls false mm_Law_law.2.1) = true := by decide +kernel
theorem K_serialAs {l : Launch} {n : Nat} {f : Nat → Int32} {s : Bool} {I : Nat → Nat → Int32} {L : Nat → Nat → Int64} {T : mo_Tn} {xs : List Nat} {i x : Nat} (hI : wInv s I L T xs) (hx : x ≤ 512) (hi : i + 6 ≤ n) (hn : n ≤ 3072) (kk : ∀ s I L T xs, wInv s I L T xs → JL l n f (1756, [some (.ref 1000000), some (.ref 1), some (.ref 126), some (.ref 149), some (.int (nI i)), none, none, none], [], (wK, wR s, I, L, x))) : JL l n f (1176, [some (.ref 1000000), some (.ref 1), some (.ref 126), some (.ref 149), some (.int (nI i)), none, none, none], [], (wK, wR s, I, L, x)) := by
  refine mo_J_runS lok_serialAs [] 400 _ (show (1000000 = 1000000 ∧ vp_in (nI i + 1) n) ∧ JL l n f (1183, [some (.ref 1000000), some (.ref 1), some (.ref 126), some (.ref 149), some (.int (nI i)), none, none, none], [.int (f (nI i + 1).toNatClampNeg), .ref 1], (wK, wR s, I, L, x)) from ⟨⟨rfl, vin (k := 1) (by decide) hi hn⟩, ?_⟩)
  obtain ⟨Ψ1, hc1, h1⟩ := P_serialAs l hI (f (nI i + 1).toNatClampNeg)
  refine mo_J_callV (q := 1) (rest := []) hc1 cd_Gate_serialAs (mo_dec lok_serialAs (show mo_at lc_serialAs 1183 = some (.invokevirtual 137, 3, 0, 0, 0, .null) from rfl)) (show mo_kV mm_Law_law.1.cls 137 mm_Gate_serialAs 1 0 = true by decide +kernel) w_kd0 rfl rfl (fitL (by decide) (by decide) (by omega) (by omega) (Nat.le_of_ble_eq_true rfl)) (fun r K2 R2 I2 L2 x2 z => ?_)
  obtain ⟨v, s1, rfl, ⟨b, rfl⟩, rfl, rfl, rfl, Ψ2, hc2, h2⟩ := h1 _ _ _ _ _ _ z
  refine mo_J_runS lok_serialAs [] 400 _ (show (1000000 = 1000000 ∧ vp_in (nI i + 1) n) ∧ JL l n f (1193, [some (.ref 1000000), some (.ref 1), some (.ref 126), some (.ref 149), some (.int (nI i)), none, none, none], [.int (f (nI i + 1).toNatClampNeg), .ref 126, .int b], (wK, wR s1, I2, L2, x + 0)) from ⟨⟨rfl, vin (k := 1) (by decide) hi hn⟩, ?_⟩)
  refine mo_J_callV (q := 126) (rest := [.int b]) hc2 cd_Model_serialAs (mo_dec lok_serialAs (show mo_at lc_serialAs 1193 = some (.invokevirtual 140, 3, 0, 0, 0, .null) from rfl)) (show mo_kV mm_Law_law.1.cls 140 mm_Model_serialAs 1 11 = true by decide +kernel) w_kdm rfl rfl (fitL (by decide) (by decide) (by omega) (by omega) (Nat.le_of_ble_eq_true rfl)) (fun r K2 R2 I3 L3 x2 z => ?_)
  obtain ⟨rfl, rfl, rfl, rfl, T', xs', hI'⟩ := h2 _ _ _ _ _ _ z
  exact mo_J_runS lok_serialAs [1756] 400 _ (show (b = b → JL l n f (1756, [some (.ref 1000000), some (.ref 1), some (.ref 126), some (.ref 149), some (.int (nI i)), none, none, none], [], (wK, wR s1, I3, L3, x + 0 + 0))) ∧ (¬ b = b → JL l n f (1200, [some (.ref 1000000), some (.ref 1), some (.ref 126), some (.ref 149), some (.int (nI i)), none, none, none], [.int 0], (wK, wR s1, I3, L3, x + 0 + 0))) from ⟨fun _ => kk _ _ _ _ _ hI', fun z => absurd rfl z⟩)
def lc_envies : List (Nat × mo_I) := [(1201, .aload_n 1, 1, 0, 0, 0, .null),
  (1202, .aload_n 0, 1, 0, 0, 0, .null),
  (1203, .iload 4, 2, 0, 0, 0, .null),
  (1205, .iconst 1, 1, 0, 0, 0, .int 1),
  (1206, .iadd, 1, 0, 0, 0, .null),
  (1207, .iaload, 1, 0, 0, 2, .null),
  (1208, .invokevirtual 141, 3, 0, 0, 0, .null),
  (1211, .aload_n 2, 1, 0, 0, 0, .null),
  (1212, .aload_n 0, 1, 0, 0, 0, .null),
  (1213, .iload 4, 2, 0, 0, 0, .null),
  (1215, .iconst 1, 1, 0, 0, 0, .int 1),
  (1216, .iadd, 1, 0, 0, 0, .null),
  (1217, .iaload, 1, 0, 0, 2, .null),
  (1218, .invokevirtual 144, 3, 0, 0, 0, .null),
  (1221, .if_icmp .eq 535, 3, 1756, 0, 0, .null),
  (1224, .iconst 0, 1, 0, 0, 0, .int 0),
  (1225, .ireturn, 1, 0, 0, 0, .null)]
set_option maxRecDepth 100000 in
theorem lok_envies : lc_envies.all (mo_chk mm_Law_law.1.cls false mm_Law_law.2.1) = true := by decide +kernel
theorem K_envies {l : Launch} {n : Nat} {f : Nat → Int32} {s : Bool} {I : Nat → Nat → Int32} {L : Nat → Nat → Int64} {T : mo_Tn} {xs : List Nat} {i x : Nat} (hI : wInv s I L T xs) (hx : x ≤ 512) (hi : i + 6 ≤ n) (hn : n ≤ 3072) (kk : ∀ s I L T xs, wInv s I L T xs → JL l n f (1756, [some (.ref 1000000), some (.ref 1), some (.ref 126), some (.ref 149), some (.int (nI i)), none, none, none], [], (wK, wR s, I, L, x))) : JL l n f (1201, [some (.ref 1000000), some (.ref 1), some (.ref 126), some (.ref 149), some (.int (nI i)), none, none, none], [], (wK, wR s, I, L, x)) := by
  refine mo_J_runS lok_envies [] 400 _ (show (1000000 = 1000000 ∧ vp_in (nI i + 1) n) ∧ JL l n f (1208, [some (.ref 1000000), some (.ref 1), some (.ref 126), some (.ref 149), some (.int (nI i)), none, none, none], [.int (f (nI i + 1).toNatClampNeg), .ref 1], (wK, wR s, I, L, x)) from ⟨⟨rfl, vin (k := 1) (by decide) hi hn⟩, ?_⟩)
  obtain ⟨Ψ1, hc1, h1⟩ := P_envies l hI (f (nI i + 1).toNatClampNeg)
  refine mo_J_callV (q := 1) (rest := []) hc1 cd_Gate_envies (mo_dec lok_envies (show mo_at lc_envies 1208 = some (.invokevirtual 141, 3, 0, 0, 0, .null) from rfl)) (show mo_kV mm_Law_law.1.cls 141 mm_Gate_envies 1 0 = true by decide +kernel) w_kd0 rfl rfl (fitL (by decide) (by decide) (by omega) (by omega) (Nat.le_of_ble_eq_true rfl)) (fun r K2 R2 I2 L2 x2 z => ?_)
  obtain ⟨v, s1, rfl, ⟨b, rfl⟩, rfl, rfl, rfl, Ψ2, hc2, h2⟩ := h1 _ _ _ _ _ _ z
  refine mo_J_runS lok_envies [] 400 _ (show (1000000 = 1000000 ∧ vp_in (nI i + 1) n) ∧ JL l n f (1218, [some (.ref 1000000), some (.ref 1), some (.ref 126), some (.ref 149), some (.int (nI i)), none, none, none], [.int (f (nI i + 1).toNatClampNeg), .ref 126, .int b], (wK, wR s1, I2, L2, x + 0)) from ⟨⟨rfl, vin (k := 1) (by decide) hi hn⟩, ?_⟩)
  refine mo_J_callV (q := 126) (rest := [.int b]) hc2 cd_Model_envies (mo_dec lok_envies (show mo_at lc_envies 1218 = some (.invokevirtual 144, 3, 0, 0, 0, .null) from rfl)) (show mo_kV mm_Law_law.1.cls 144 mm_Model_envies 1 11 = true by decide +kernel) w_kdm rfl rfl (fitL (by decide) (by decide) (by omega) (by omega) (Nat.le_of_ble_eq_true rfl)) (fun r K2 R2 I3 L3 x2 z => ?_)
  obtain ⟨rfl, rfl, rfl, rfl, T', xs', hI'⟩ := h2 _ _ _ _ _ _ z
  exact mo_J_runS lok_envies [1756] 400 _ (show (b = b → JL l n f (1756, [some (.ref 1000000), some (.ref 1), some (.ref 126), some (.ref 149), some (.int (nI i)), none, none, none], [], (wK, wR s1, I3, L3, x + 0 + 0))) ∧ (¬ b = b → JL l n f (1225, [some (.ref 1000000), some (.ref 1), some (.ref 126), some (.ref 149), some (.int (nI i)), none, none, none], [.int 0], (wK, wR s1, I3, L3, x + 0 + 0))) from ⟨fun _ => kk _ _ _ _ _ hI', fun z => absurd rfl z⟩)
def lc_inTown : List (Nat × mo_I) := [(1226, .aload_n 1, 1, 0, 0, 0, .null),
  (1227, .aload_n 0, 1, 0, 0, 0, .null),
  (1228, .iload 4, 2, 0, 0, 0, .null),
  (1230, .iconst 1, 1, 0, 0, 0, .int 1),
  (1231, .iadd, 1, 0, 0, 0, .null),
  (1232, .iaload, 1, 0, 0, 2, .null),
  (1233, .aload_n 0, 1, 0, 0, 0, .null),
  (1234, .iload 4, 2, 0, 0, 0, .null),
  (1236, .iconst 2, 1, 0, 0, 0, .int 2),
  (1237, .iadd, 1, 0, 0, 0, .null),
  (1238, .iaload, 1, 0, 0, 2, .null),
  (1239, .invokevirtual 145, 3, 0, 0, 0, .null),
  (1242, .aload_n 2, 1, 0, 0, 0, .null),
  (1243, .aload_n 0, 1, 0, 0, 0, .null),
  (1244, .iload 4, 2, 0, 0, 0, .null),
  (1246, .iconst 1, 1, 0, 0, 0, .int 1),
  (1247, .iadd, 1, 0, 0, 0, .null),
  (1248, .iaload, 1, 0, 0, 2, .null),
  (1249, .aload_n 0, 1, 0, 0, 0, .null),
  (1250, .iload 4, 2, 0, 0, 0, .null),
  (1252, .iconst 2, 1, 0, 0, 0, .int 2),
  (1253, .iadd, 1, 0, 0, 0, .null),
  (1254, .iaload, 1, 0, 0, 2, .null),
  (1255, .invokevirtual 148, 3, 0, 0, 0, .null),
  (1258, .if_icmp .eq 498, 3, 1756, 0, 0, .null),
  (1261, .iconst 0, 1, 0, 0, 0, .int 0),
  (1262, .ireturn, 1, 0, 0, 0, .null)]
set_option maxRecDepth 100000 in
theorem lok_inTown : lc_inTown.all (mo_chk mm_Law_law.1.cls false mm_Law_law.2.1) = true := by decide +kernel
theorem K_inTown {l : Launch} {n : Nat} {f : Nat → Int32} {s : Bool} {I : Nat → Nat → Int32} {L : Nat → Nat → Int64} {T : mo_Tn} {xs : List Nat} {i x : Nat} (hI : wInv s I L T xs) (hx : x ≤ 512) (hi : i + 6 ≤ n) (hn : n ≤ 3072) (kk : ∀ s I L T xs, wInv s I L T xs → JL l n f (1756, [some (.ref 1000000), some (.ref 1), some (.ref 126), some (.ref 149), some (.int (nI i)), none, none, none], [], (wK, wR s, I, L, x))) : JL l n f (1226, [some (.ref 1000000), some (.ref 1), some (.ref 126), some (.ref 149), some (.int (nI i)), none, none, none], [], (wK, wR s, I, L, x)) := by
  refine mo_J_runS lok_inTown [] 400 _ (show (1000000 = 1000000 ∧ vp_in (nI i + 1) n) ∧ (1000000 = 1000000 ∧ vp_in (nI i + 2) n) ∧ JL l n f (1239, [some (.ref 1000000), some (.ref 1), some (.ref 126), some (.ref 149), some (.int (nI i)), none, none, none], [.int (f (nI i + 2).toNatClampNeg), .int (f (nI i + 1).toNatClampNeg), .ref 1], (wK, wR s, I, L, x)) from ⟨⟨rfl, vin (k := 1) (by decide) hi hn⟩, ⟨rfl, vin (k := 2) (by decide) hi hn⟩, ?_⟩)
  obtain ⟨Ψ1, hc1, h1⟩ := P_inTown l hI (f (nI i + 1).toNatClampNeg) (f (nI i + 2).toNatClampNeg)
  refine mo_J_callV (q := 1) (rest := []) hc1 cd_Gate_inTown (mo_dec lok_inTown (show mo_at lc_inTown 1239 = some (.invokevirtual 145, 3, 0, 0, 0, .null) from rfl)) (show mo_kV mm_Law_law.1.cls 145 mm_Gate_inTown 2 0 = true by decide +kernel) w_kd0 rfl rfl (fitL (by decide) (by decide) (by omega) (by omega) (Nat.le_of_ble_eq_true rfl)) (fun r K2 R2 I2 L2 x2 z => ?_)
  obtain ⟨v, s1, rfl, ⟨b, rfl⟩, rfl, rfl, rfl, Ψ2, hc2, h2⟩ := h1 _ _ _ _ _ _ z
  refine mo_J_runS lok_inTown [] 400 _ (show (1000000 = 1000000 ∧ vp_in (nI i + 1) n) ∧ (1000000 = 1000000 ∧ vp_in (nI i + 2) n) ∧ JL l n f (1255, [some (.ref 1000000), some (.ref 1), some (.ref 126), some (.ref 149), some (.int (nI i)), none, none, none], [.int (f (nI i + 2).toNatClampNeg), .int (f (nI i + 1).toNatClampNeg), .ref 126, .int b], (wK, wR s1, I2, L2, x + 0)) from ⟨⟨rfl, vin (k := 1) (by decide) hi hn⟩, ⟨rfl, vin (k := 2) (by decide) hi hn⟩, ?_⟩)
  refine mo_J_callV (q := 126) (rest := [.int b]) hc2 cd_Model_inTown (mo_dec lok_inTown (show mo_at lc_inTown 1255 = some (.invokevirtual 148, 3, 0, 0, 0, .null) from rfl)) (show mo_kV mm_Law_law.1.cls 148 mm_Model_inTown 2 11 = true by decide +kernel) w_kdm rfl rfl (fitL (by decide) (by decide) (by omega) (by omega) (Nat.le_of_ble_eq_true rfl)) (fun r K2 R2 I3 L3 x2 z => ?_)
  obtain ⟨rfl, rfl, rfl, rfl, T', xs', hI'⟩ := h2 _ _ _ _ _ _ z
  exact mo_J_runS lok_inTown [1756] 400 _ (show (b = b → JL l n f (1756, [some (.ref 1000000), some (.ref 1), some (.ref 126), some (.ref 149), some (.int (nI i)), none, none, none], [], (wK, wR s1, I3, L3, x + 0 + 0))) ∧ (¬ b = b → JL l n f (1262, [some (.ref 1000000), some (.ref 1), some (.ref 126), some (.ref 149), some (.int (nI i)), none, none, none], [.int 0], (wK, wR s1, I3, L3, x + 0 + 0))) from ⟨fun _ => kk _ _ _ _ _ hI', fun z => absurd rfl z⟩)
def lc_crowd : List (Nat × mo_I) := [(1263, .aload_n 1, 1, 0, 0, 0, .null),
  (1264, .aload_n 0, 1, 0, 0, 0, .null),
  (1265, .iload 4, 2, 0, 0, 0, .null),
  (1267, .iconst 1, 1, 0, 0, 0, .int 1),
  (1268, .iadd, 1, 0, 0, 0, .null),
  (1269, .iaload, 1, 0, 0, 2, .null),
  (1270, .aload_n 0, 1, 0, 0, 0, .null),
  (1271, .iload 4, 2, 0, 0, 0, .null),
  (1273, .iconst 2, 1, 0, 0, 0, .int 2),
  (1274, .iadd, 1, 0, 0, 0, .null),
  (1275, .iaload, 1, 0, 0, 2, .null),
  (1276, .invokevirtual 149, 3, 0, 0, 0, .null),
  (1279, .aload_n 2, 1, 0, 0, 0, .null),
  (1280, .aload_n 0, 1, 0, 0, 0, .null),
  (1281, .iload 4, 2, 0, 0, 0, .null),
  (1283, .iconst 1, 1, 0, 0, 0, .int 1),
  (1284, .iadd, 1, 0, 0, 0, .null),
  (1285, .iaload, 1, 0, 0, 2, .null),
  (1286, .aload_n 0, 1, 0, 0, 0, .null),
  (1287, .iload 4, 2, 0, 0, 0, .null),
  (1289, .iconst 2, 1, 0, 0, 0, .int 2),
  (1290, .iadd, 1, 0, 0, 0, .null),
  (1291, .iaload, 1, 0, 0, 2, .null),
  (1292, .invokevirtual 152, 3, 0, 0, 0, .null),
  (1295, .if_icmp .eq 461, 3, 1756, 0, 0, .null),
  (1298, .iconst 0, 1, 0, 0, 0, .int 0),
  (1299, .ireturn, 1, 0, 0, 0, .null)]
set_option maxRecDepth 100000 in
theorem lok_crowd : lc_crowd.all (mo_chk mm_Law_law.1.cls false mm_Law_law.2.1) = true := by decide +kernel
theorem K_crowd {l : Launch} {n : Nat} {f : Nat → Int32} {s : Bool} {I : Nat → Nat → Int32} {L : Nat → Nat → Int64} {T : mo_Tn} {xs : List Nat} {i x : Nat} (hI : wInv s I L T xs) (hx : x ≤ 512) (hi : i + 6 ≤ n) (hn : n ≤ 3072) (kk : ∀ s I L T xs, wInv s I L T xs → JL l n f (1756, [some (.ref 1000000), some (.ref 1), some (.ref 126), some (.ref 149), some (.int (nI i)), none, none, none], [], (wK, wR s, I, L, x))) : JL l n f (1263, [some (.ref 1000000), some (.ref 1), some (.ref 126), some (.ref 149), some (.int (nI i)), none, none, none], [], (wK, wR s, I, L, x)) := by
  refine mo_J_runS lok_crowd [] 400 _ (show (1000000 = 1000000 ∧ vp_in (nI i + 1) n) ∧ (1000000 = 1000000 ∧ vp_in (nI i + 2) n) ∧ JL l n f (1276, [some (.ref 1000000), some (.ref 1), some (.ref 126), some (.ref 149), some (.int (nI i)), none, none, none], [.int (f (nI i + 2).toNatClampNeg), .int (f (nI i + 1).toNatClampNeg), .ref 1], (wK, wR s, I, L, x)) from ⟨⟨rfl, vin (k := 1) (by decide) hi hn⟩, ⟨rfl, vin (k := 2) (by decide) hi hn⟩, ?_⟩)
  obtain ⟨Ψ1, hc1, h1⟩ := P_crowd l hI (f (nI i + 1).toNatClampNeg) (f (nI i + 2).toNatClampNeg)
  refine mo_J_callV (q := 1) (rest := []) hc1 cd_Gate_crowd (mo_dec lok_crowd (show mo_at lc_crowd 1276 = some (.invokevirtual 149, 3, 0, 0, 0, .null) from rfl)) (show mo_kV mm_Law_law.1.cls 149 mm_Gate_crowd 2 0 = true by decide +kernel) w_kd0 rfl rfl (fitL (by decide) (by decide) (by omega) (by omega) (Nat.le_of_ble_eq_true rfl)) (fun r K2 R2 I2 L2 x2 z => ?_)
  obtain ⟨v, s1, rfl, ⟨b, rfl⟩, rfl, rfl, rfl, Ψ2, hc2, h2⟩ := h1 _ _ _ _ _ _ z
  refine mo_J_runS lok_crowd [] 400 _ (show (1000000 = 1000000 ∧ vp_in (nI i + 1) n) ∧ (1000000 = 1000000 ∧ vp_in (nI i + 2) n) ∧ JL l n f (1292, [some (.ref 1000000), some (.ref 1), some (.ref 126), some (.ref 149), some (.int (nI i)), none, none, none], [.int (f (nI i + 2).toNatClampNeg), .int (f (nI i + 1).toNatClampNeg), .ref 126, .int b], (wK, wR s1, I2, L2, x + 0)) from ⟨⟨rfl, vin (k := 1) (by decide) hi hn⟩, ⟨rfl, vin (k := 2) (by decide) hi hn⟩, ?_⟩)
  refine mo_J_callV (q := 126) (rest := [.int b]) hc2 cd_Model_crowd (mo_dec lok_crowd (show mo_at lc_crowd 1292 = some (.invokevirtual 152, 3, 0, 0, 0, .null) from rfl)) (show mo_kV mm_Law_law.1.cls 152 mm_Model_crowd 2 11 = true by decide +kernel) w_kdm rfl rfl (fitL (by decide) (by decide) (by omega) (by omega) (Nat.le_of_ble_eq_true rfl)) (fun r K2 R2 I3 L3 x2 z => ?_)
  obtain ⟨rfl, rfl, rfl, rfl, T', xs', hI'⟩ := h2 _ _ _ _ _ _ z
  exact mo_J_runS lok_crowd [1756] 400 _ (show (b = b → JL l n f (1756, [some (.ref 1000000), some (.ref 1), some (.ref 126), some (.ref 149), some (.int (nI i)), none, none, none], [], (wK, wR s1, I3, L3, x + 0 + 0))) ∧ (¬ b = b → JL l n f (1299, [some (.ref 1000000), some (.ref 1), some (.ref 126), some (.ref 149), some (.int (nI i)), none, none, none], [.int 0], (wK, wR s1, I3, L3, x + 0 + 0))) from ⟨fun _ => kk _ _ _ _ _ hI', fun z => absurd rfl z⟩)
def lc_rests : List (Nat × mo_I) := [(1300, .aload_n 1, 1, 0, 0, 0, .null),
  (1301, .invokevirtual 153, 3, 0, 0, 0, .null),
  (1304, .aload_n 2, 1, 0, 0, 0, .null),
  (1305, .invokevirtual 156, 3, 0, 0, 0, .null),
  (1308, .if_icmp .eq 448, 3, 1756, 0, 0, .null),
  (1311, .iconst 0, 1, 0, 0, 0, .int 0),
  (1312, .ireturn, 1, 0, 0, 0, .null)]
set_option maxRecDepth 100000 in
theorem lok_rests : lc_rests.all (mo_chk mm_Law_law.1.cls false mm_Law_law.2.1) = true := by decide +kernel
theorem K_rests {l : Launch} {n : Nat} {f : Nat → Int32} {s : Bool} {I : Nat → Nat → Int32} {L : Nat → Nat → Int64} {T : mo_Tn} {xs : List Nat} {i x : Nat} (hI : wInv s I L T xs) (hx : x ≤ 512) (hi : i + 6 ≤ n) (hn : n ≤ 3072) (kk : ∀ s I L T xs, wInv s I L T xs → JL l n f (1756, [some (.ref 1000000), some (.ref 1), some (.ref 126), some (.ref 149), some (.int (nI i)), none, none, none], [], (wK, wR s, I, L, x))) : JL l n f (1300, [some (.ref 1000000), some (.ref 1), some (.ref 126), some (.ref 149), some (.int (nI i)), none, none, none], [], (wK, wR s, I, L, x)) := by
  refine mo_J_runS lok_rests [] 400 _ (show JL l n f (1301, [some (.ref 1000000), some (.ref 1), some (.ref 126), some (.ref 149), some (.int (nI i)), none, none, none], [.ref 1], (wK, wR s, I, L, x)) from ?_)
  obtain ⟨Ψ1, hc1, h1⟩ := P_rests l hI 
  refine mo_J_callV (q := 1) (rest := []) hc1 cd_Gate_rests (mo_dec lok_rests (show mo_at lc_rests 1301 = some (.invokevirtual 153, 3, 0, 0, 0, .null) from rfl)) (show mo_kV mm_Law_law.1.cls 153 mm_Gate_rests 0 0 = true by decide +kernel) w_kd0 rfl rfl (fitL (by decide) (by decide) (by omega) (by omega) (Nat.le_of_ble_eq_true rfl)) (fun r K2 R2 I2 L2 x2 z => ?_)
  obtain ⟨v, s1, rfl, ⟨b, rfl⟩, rfl, rfl, rfl, Ψ2, hc2, h2⟩ := h1 _ _ _ _ _ _ z
  refine mo_J_runS lok_rests [] 400 _ (show JL l n f (1305, [some (.ref 1000000), some (.ref 1), some (.ref 126), some (.ref 149), some (.int (nI i)), none, none, none], [.ref 126, .int b], (wK, wR s1, I2, L2, x + 0)) from ?_)
  refine mo_J_callV (q := 126) (rest := [.int b]) hc2 cd_Model_rests (mo_dec lok_rests (show mo_at lc_rests 1305 = some (.invokevirtual 156, 3, 0, 0, 0, .null) from rfl)) (show mo_kV mm_Law_law.1.cls 156 mm_Model_rests 0 11 = true by decide +kernel) w_kdm rfl rfl (fitL (by decide) (by decide) (by omega) (by omega) (Nat.le_of_ble_eq_true rfl)) (fun r K2 R2 I3 L3 x2 z => ?_)
  obtain ⟨rfl, rfl, rfl, rfl, T', xs', hI'⟩ := h2 _ _ _ _ _ _ z
  exact mo_J_runS lok_rests [1756] 400 _ (show (b = b → JL l n f (1756, [some (.ref 1000000), some (.ref 1), some (.ref 126), some (.ref 149), some (.int (nI i)), none, none, none], [], (wK, wR s1, I3, L3, x + 0 + 0))) ∧ (¬ b = b → JL l n f (1312, [some (.ref 1000000), some (.ref 1), some (.ref 126), some (.ref 149), some (.int (nI i)), none, none, none], [.int 0], (wK, wR s1, I3, L3, x + 0 + 0))) from ⟨fun _ => kk _ _ _ _ _ hI', fun z => absurd rfl z⟩)
def lc_lots : List (Nat × mo_I) := [(1313, .aload_n 1, 1, 0, 0, 0, .null),
  (1314, .aload_n 0, 1, 0, 0, 0, .null),
  (1315, .iload 4, 2, 0, 0, 0, .null),
  (1317, .iconst 1, 1, 0, 0, 0, .int 1),
  (1318, .iadd, 1, 0, 0, 0, .null),
  (1319, .iaload, 1, 0, 0, 2, .null),
  (1320, .invokevirtual 157, 3, 0, 0, 0, .null),
  (1323, .aload_n 2, 1, 0, 0, 0, .null),
  (1324, .aload_n 0, 1, 0, 0, 0, .null),
  (1325, .iload 4, 2, 0, 0, 0, .null),
  (1327, .iconst 1, 1, 0, 0, 0, .int 1),
  (1328, .iadd, 1, 0, 0, 0, .null),
  (1329, .iaload, 1, 0, 0, 2, .null),
  (1330, .invokevirtual 161, 3, 0, 0, 0, .null),
  (1333, .lcmp, 1, 0, 0, 0, .null),
  (1334, .ifCond .eq 422, 3, 1756, 0, 0, .null),
  (1337, .iconst 0, 1, 0, 0, 0, .int 0),
  (1338, .ireturn, 1, 0, 0, 0, .null)]
set_option maxRecDepth 100000 in
theorem lok_lots : lc_lots.all (mo_chk mm_Law_law.1.cls false mm_Law_law.2.1) = true := by decide +kernel
theorem K_lots {l : Launch} {n : Nat} {f : Nat → Int32} {s : Bool} {I : Nat → Nat → Int32} {L : Nat → Nat → Int64} {T : mo_Tn} {xs : List Nat} {i x : Nat} (hI : wInv s I L T xs) (hx : x ≤ 512) (hi : i + 6 ≤ n) (hn : n ≤ 3072) (kk : ∀ s I L T xs, wInv s I L T xs → JL l n f (1756, [some (.ref 1000000), some (.ref 1), some (.ref 126), some (.ref 149), some (.int (nI i)), none, none, none], [], (wK, wR s, I, L, x))) : JL l n f (1313, [some (.ref 1000000), some (.ref 1), some (.ref 126), some (.ref 149), some (.int (nI i)), none, none, none], [], (wK, wR s, I, L, x)) := by
  refine mo_J_runS lok_lots [] 400 _ (show (1000000 = 1000000 ∧ vp_in (nI i + 1) n) ∧ JL l n f (1320, [some (.ref 1000000), some (.ref 1), some (.ref 126), some (.ref 149), some (.int (nI i)), none, none, none], [.int (f (nI i + 1).toNatClampNeg), .ref 1], (wK, wR s, I, L, x)) from ⟨⟨rfl, vin (k := 1) (by decide) hi hn⟩, ?_⟩)
  obtain ⟨Ψ1, hc1, h1⟩ := P_lots l hI (f (nI i + 1).toNatClampNeg)
  refine mo_J_callV (q := 1) (rest := []) hc1 cd_Gate_lots (mo_dec lok_lots (show mo_at lc_lots 1320 = some (.invokevirtual 157, 3, 0, 0, 0, .null) from rfl)) (show mo_kV mm_Law_law.1.cls 157 mm_Gate_lots 1 0 = true by decide +kernel) w_kd0 rfl rfl (fitL (by decide) (by decide) (by omega) (by omega) (Nat.le_of_ble_eq_true rfl)) (fun r K2 R2 I2 L2 x2 z => ?_)
  obtain ⟨v, s1, rfl, ⟨b, rfl⟩, rfl, rfl, rfl, Ψ2, hc2, h2⟩ := h1 _ _ _ _ _ _ z
  refine mo_J_runS lok_lots [] 400 _ (show (1000000 = 1000000 ∧ vp_in (nI i + 1) n) ∧ JL l n f (1330, [some (.ref 1000000), some (.ref 1), some (.ref 126), some (.ref 149), some (.int (nI i)), none, none, none], [.int (f (nI i + 1).toNatClampNeg), .ref 126, .long b], (wK, wR s1, I2, L2, x + 0)) from ⟨⟨rfl, vin (k := 1) (by decide) hi hn⟩, ?_⟩)
  refine mo_J_callV (q := 126) (rest := [.long b]) hc2 cd_Model_lots (mo_dec lok_lots (show mo_at lc_lots 1330 = some (.invokevirtual 161, 3, 0, 0, 0, .null) from rfl)) (show mo_kV mm_Law_law.1.cls 161 mm_Model_lots 1 11 = true by decide +kernel) w_kdm rfl rfl (fitL (by decide) (by decide) (by omega) (by omega) (Nat.le_of_ble_eq_true rfl)) (fun r K2 R2 I3 L3 x2 z => ?_)
  obtain ⟨rfl, rfl, rfl, rfl, T', xs', hI'⟩ := h2 _ _ _ _ _ _ z
  exact mo_J_runS lok_lots [1756] 400 _ (show (lg_cmp b b = 0 → JL l n f (1756, [some (.ref 1000000), some (.ref 1), some (.ref 126), some (.ref 149), some (.int (nI i)), none, none, none], [], (wK, wR s1, I3, L3, x + 0 + 0))) ∧ (¬ lg_cmp b b = 0 → JL l n f (1338, [some (.ref 1000000), some (.ref 1), some (.ref 126), some (.ref 149), some (.int (nI i)), none, none, none], [.int 0], (wK, wR s1, I3, L3, x + 0 + 0))) from ⟨fun _ => kk _ _ _ _ _ hI', fun z => absurd (lc_eq0.mpr rfl) z⟩)
