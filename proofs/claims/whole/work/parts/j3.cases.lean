/-! The law's cases, further. -/
def lc_lotsOf : List (Nat × mo_I) := [(1339, .aload_n 1, 1, 0, 0, 0, .null),
  (1340, .aload_n 0, 1, 0, 0, 0, .null),
  (1341, .iload 4, 2, 0, 0, 0, .null),
  (1343, .iconst 1, 1, 0, 0, 0, .int 1),
  (1344, .iadd, 1, 0, 0, 0, .null),
  (1345, .iaload, 1, 0, 0, 2, .null),
  (1346, .aload_n 0, 1, 0, 0, 0, .null),
  (1347, .iload 4, 2, 0, 0, 0, .null),
  (1349, .iconst 2, 1, 0, 0, 0, .int 2),
  (1350, .iadd, 1, 0, 0, 0, .null),
  (1351, .iaload, 1, 0, 0, 2, .null),
  (1352, .aload_n 0, 1, 0, 0, 0, .null),
  (1353, .iload 4, 2, 0, 0, 0, .null),
  (1355, .iconst 3, 1, 0, 0, 0, .int 3),
  (1356, .iadd, 1, 0, 0, 0, .null),
  (1357, .iaload, 1, 0, 0, 2, .null),
  (1358, .invokevirtual 162, 3, 0, 0, 0, .null),
  (1361, .aload_n 2, 1, 0, 0, 0, .null),
  (1362, .aload_n 0, 1, 0, 0, 0, .null),
  (1363, .iload 4, 2, 0, 0, 0, .null),
  (1365, .iconst 1, 1, 0, 0, 0, .int 1),
  (1366, .iadd, 1, 0, 0, 0, .null),
  (1367, .iaload, 1, 0, 0, 2, .null),
  (1368, .aload_n 0, 1, 0, 0, 0, .null),
  (1369, .iload 4, 2, 0, 0, 0, .null),
  (1371, .iconst 2, 1, 0, 0, 0, .int 2),
  (1372, .iadd, 1, 0, 0, 0, .null),
  (1373, .iaload, 1, 0, 0, 2, .null),
  (1374, .aload_n 0, 1, 0, 0, 0, .null),
  (1375, .iload 4, 2, 0, 0, 0, .null),
  (1377, .iconst 3, 1, 0, 0, 0, .int 3),
  (1378, .iadd, 1, 0, 0, 0, .null),
  (1379, .iaload, 1, 0, 0, 2, .null),
  (1380, .invokevirtual 165, 3, 0, 0, 0, .null),
  (1383, .lcmp, 1, 0, 0, 0, .null),
  (1384, .ifCond .eq 372, 3, 1756, 0, 0, .null),
  (1387, .iconst 0, 1, 0, 0, 0, .int 0),
  (1388, .ireturn, 1, 0, 0, 0, .null)]
set_option maxRecDepth 100000 in
theorem lok_lotsOf : lc_lotsOf.all (mo_chk mm_Law_law.1.cls false mm_Law_law.2.1) = true := by decide +kernel
theorem K_lotsOf {l : Launch} {n : Nat} {f : Nat → Int32} {s : Bool} {I : Nat → Nat → Int32} {L : Nat → Nat → Int64} {T : mo_Tn} {xs : List Nat} {i x : Nat} (hI : wInv s I L T xs) (hx : x ≤ 512) (hi : i + 6 ≤ n) (hn : n ≤ 3072) (kk : ∀ s I L T xs, wInv s I L T xs → JL l n f (1756, [some (.ref 1000000), some (.ref 1), some (.ref 126), some (.ref 149), some (.int (nI i)), none, none, none], [], (wK, wR s, I, L, x))) : JL l n f (1339, [some (.ref 1000000), some (.ref 1), some (.ref 126), some (.ref 149), some (.int (nI i)), none, none, none], [], (wK, wR s, I, L, x)) := by
  refine mo_J_runS lok_lotsOf [] 400 _ (show (1000000 = 1000000 ∧ vp_in (nI i + 1) n) ∧ (1000000 = 1000000 ∧ vp_in (nI i + 2) n) ∧ (1000000 = 1000000 ∧ vp_in (nI i + 3) n) ∧ JL l n f (1358, [some (.ref 1000000), some (.ref 1), some (.ref 126), some (.ref 149), some (.int (nI i)), none, none, none], [.int (f (nI i + 3).toNatClampNeg), .int (f (nI i + 2).toNatClampNeg), .int (f (nI i + 1).toNatClampNeg), .ref 1], (wK, wR s, I, L, x)) from ⟨⟨rfl, vin (k := 1) (by decide) hi hn⟩, ⟨rfl, vin (k := 2) (by decide) hi hn⟩, ⟨rfl, vin (k := 3) (by decide) hi hn⟩, ?_⟩)
  obtain ⟨Ψ1, hc1, h1⟩ := P_lotsOf l hI (f (nI i + 1).toNatClampNeg) (f (nI i + 2).toNatClampNeg) (f (nI i + 3).toNatClampNeg)
  refine mo_J_callV (q := 1) (rest := []) hc1 cd_Gate_lotsOf (mo_dec lok_lotsOf (show mo_at lc_lotsOf 1358 = some (.invokevirtual 162, 3, 0, 0, 0, .null) from rfl)) (show mo_kV mm_Law_law.1.cls 162 mm_Gate_lotsOf 3 0 = true by decide +kernel) w_kd0 rfl rfl (fitL (by decide) (by decide) (by omega) (by omega) (Nat.le_of_ble_eq_true rfl)) (fun r K2 R2 I2 L2 x2 z => ?_)
  obtain ⟨v, s1, rfl, ⟨b, rfl⟩, rfl, rfl, rfl, Ψ2, hc2, h2⟩ := h1 _ _ _ _ _ _ z
  refine mo_J_runS lok_lotsOf [] 400 _ (show (1000000 = 1000000 ∧ vp_in (nI i + 1) n) ∧ (1000000 = 1000000 ∧ vp_in (nI i + 2) n) ∧ (1000000 = 1000000 ∧ vp_in (nI i + 3) n) ∧ JL l n f (1380, [some (.ref 1000000), some (.ref 1), some (.ref 126), some (.ref 149), some (.int (nI i)), none, none, none], [.int (f (nI i + 3).toNatClampNeg), .int (f (nI i + 2).toNatClampNeg), .int (f (nI i + 1).toNatClampNeg), .ref 126, .long b], (wK, wR s1, I2, L2, x + 0)) from ⟨⟨rfl, vin (k := 1) (by decide) hi hn⟩, ⟨rfl, vin (k := 2) (by decide) hi hn⟩, ⟨rfl, vin (k := 3) (by decide) hi hn⟩, ?_⟩)
  refine mo_J_callV (q := 126) (rest := [.long b]) hc2 cd_Model_lotsOf (mo_dec lok_lotsOf (show mo_at lc_lotsOf 1380 = some (.invokevirtual 165, 3, 0, 0, 0, .null) from rfl)) (show mo_kV mm_Law_law.1.cls 165 mm_Model_lotsOf 3 11 = true by decide +kernel) w_kdm rfl rfl (fitL (by decide) (by decide) (by omega) (by omega) (Nat.le_of_ble_eq_true rfl)) (fun r K2 R2 I3 L3 x2 z => ?_)
  obtain ⟨rfl, rfl, rfl, rfl, T', xs', hI'⟩ := h2 _ _ _ _ _ _ z
  exact mo_J_runS lok_lotsOf [1756] 400 _ (show (lg_cmp b b = 0 → JL l n f (1756, [some (.ref 1000000), some (.ref 1), some (.ref 126), some (.ref 149), some (.int (nI i)), none, none, none], [], (wK, wR s1, I3, L3, x + 0 + 0))) ∧ (¬ lg_cmp b b = 0 → JL l n f (1388, [some (.ref 1000000), some (.ref 1), some (.ref 126), some (.ref 149), some (.int (nI i)), none, none, none], [.int 0], (wK, wR s1, I3, L3, x + 0 + 0))) from ⟨fun _ => kk _ _ _ _ _ hI', fun z => absurd (lc_eq0.mpr rfl) z⟩)
def lc_lotMean : List (Nat × mo_I) := [(1389, .aload_n 1, 1, 0, 0, 0, .null),
  (1390, .aload_n 0, 1, 0, 0, 0, .null),
  (1391, .iload 4, 2, 0, 0, 0, .null),
  (1393, .iconst 1, 1, 0, 0, 0, .int 1),
  (1394, .iadd, 1, 0, 0, 0, .null),
  (1395, .iaload, 1, 0, 0, 2, .null),
  (1396, .aload_n 0, 1, 0, 0, 0, .null),
  (1397, .iload 4, 2, 0, 0, 0, .null),
  (1399, .iconst 2, 1, 0, 0, 0, .int 2),
  (1400, .iadd, 1, 0, 0, 0, .null),
  (1401, .iaload, 1, 0, 0, 2, .null),
  (1402, .aload_n 0, 1, 0, 0, 0, .null),
  (1403, .iload 4, 2, 0, 0, 0, .null),
  (1405, .iconst 3, 1, 0, 0, 0, .int 3),
  (1406, .iadd, 1, 0, 0, 0, .null),
  (1407, .iaload, 1, 0, 0, 2, .null),
  (1408, .aload_n 3, 1, 0, 0, 0, .null),
  (1409, .invokestatic 166, 3, 0, 0, 0, .null),
  (1412, .istore 5, 2, 0, 0, 0, .null),
  (1414, .aload_n 2, 1, 0, 0, 0, .null),
  (1415, .aload_n 0, 1, 0, 0, 0, .null),
  (1416, .iload 4, 2, 0, 0, 0, .null),
  (1418, .iconst 1, 1, 0, 0, 0, .int 1),
  (1419, .iadd, 1, 0, 0, 0, .null),
  (1420, .iaload, 1, 0, 0, 2, .null),
  (1421, .aload_n 0, 1, 0, 0, 0, .null),
  (1422, .iload 4, 2, 0, 0, 0, .null),
  (1424, .iconst 2, 1, 0, 0, 0, .int 2),
  (1425, .iadd, 1, 0, 0, 0, .null),
  (1426, .iaload, 1, 0, 0, 2, .null),
  (1427, .aload_n 0, 1, 0, 0, 0, .null),
  (1428, .iload 4, 2, 0, 0, 0, .null),
  (1430, .iconst 3, 1, 0, 0, 0, .int 3),
  (1431, .iadd, 1, 0, 0, 0, .null),
  (1432, .iaload, 1, 0, 0, 2, .null),
  (1433, .invokevirtual 168, 3, 0, 0, 0, .null),
  (1436, .lstore 6, 2, 0, 0, 0, .null),
  (1438, .aload_n 2, 1, 0, 0, 0, .null),
  (1439, .invokevirtual 64, 3, 0, 0, 0, .null),
  (1442, .iload 5, 2, 0, 0, 0, .null),
  (1444, .if_icmp .eq 5, 3, 1449, 0, 0, .null),
  (1447, .iconst 0, 1, 0, 0, 0, .int 0),
  (1448, .ireturn, 1, 0, 0, 0, .null),
  (1449, .iload 5, 2, 0, 0, 0, .null),
  (1451, .ifCond .ne 14, 3, 1465, 0, 0, .null),
  (1454, .aload_n 3, 1, 0, 0, 0, .null),
  (1455, .iconst 0, 1, 0, 0, 0, .int 0),
  (1456, .laload, 1, 0, 0, 0, .null),
  (1457, .lload 6, 2, 0, 0, 0, .null),
  (1459, .lcmp, 1, 0, 0, 0, .null),
  (1460, .ifCond .eq 5, 3, 1465, 0, 0, .null),
  (1463, .iconst 0, 1, 0, 0, 0, .int 0),
  (1464, .ireturn, 1, 0, 0, 0, .null),
  (1465, .goto 291, 3, 1756, 0, 0, .null)]
set_option maxRecDepth 100000 in
theorem lok_lotMean : lc_lotMean.all (mo_chk mm_Law_law.1.cls false mm_Law_law.2.1) = true := by decide +kernel
theorem K_lotMean {l : Launch} {n : Nat} {f : Nat → Int32} {s : Bool} {I : Nat → Nat → Int32} {L : Nat → Nat → Int64} {T : mo_Tn} {xs : List Nat} {i x : Nat} (hfl : l.flags = pinnedFlags ++ [noTraceFlag]) (hI : wInv s I L T xs) (hx : x + 1 ≤ 512) (hi : i + 6 ≤ n) (hn : n ≤ 3072) (kk : ∀ s I L T xs, wInv s I L T xs → JL l n f (1756, [some (.ref 1000000), some (.ref 1), some (.ref 126), some (.ref 149), some (.int (nI i)), none, none, none], [], (wK, wR s, I, L, (x + 1)))) : JL l n f (1389, [some (.ref 1000000), some (.ref 1), some (.ref 126), some (.ref 149), some (.int (nI i)), none, none, none], [], (wK, wR s, I, L, x)) := by
  refine mo_J_runS lok_lotMean [] 400 _ (show (1000000 = 1000000 ∧ vp_in (nI i + 1) n) ∧ (1000000 = 1000000 ∧ vp_in (nI i + 2) n) ∧ (1000000 = 1000000 ∧ vp_in (nI i + 3) n) ∧ JL l n f (1409, [some (.ref 1000000), some (.ref 1), some (.ref 126), some (.ref 149), some (.int (nI i)), none, none, none], [.ref 149, .int (f (nI i + 3).toNatClampNeg), .int (f (nI i + 2).toNatClampNeg), .int (f (nI i + 1).toNatClampNeg), .ref 1], (wK, wR s, I, L, x)) from ⟨⟨rfl, vin (k := 1) (by decide) hi hn⟩, ⟨rfl, vin (k := 2) (by decide) hi hn⟩, ⟨rfl, vin (k := 3) (by decide) hi hn⟩, ?_⟩)
  obtain ⟨Ψ1, hc1, h1⟩ := Q_lotMean hfl hI (f (nI i + 1).toNatClampNeg) (f (nI i + 2).toNatClampNeg) (f (nI i + 3).toNatClampNeg)
  refine mo_J_callH (as2 := [.ref 1, .int (f (nI i + 1).toNatClampNeg), .int (f (nI i + 2).toNatClampNeg), .int (f (nI i + 3).toNatClampNeg), .ref 149]) (rest := []) hc1 cw_Law_lotMean (mo_dec lok_lotMean (show mo_at lc_lotMean 1409 = some (.invokestatic 166, 3, 0, 0, 0, .null) from rfl)) (show mo_kH mm_Law_law.1.cls 166 mm_Law_lotMean 5 = true by decide +kernel) rfl rfl (fitL (by decide) (by decide) (by omega) (by omega) (Nat.le_of_ble_eq_true rfl)) (fun r K2 R2 I2 L2 x2 z => ?_)
  obtain ⟨k, rfl, hk, rfl, rfl, rfl, Ψ2, hc2, h2⟩ := h1 _ _ _ _ _ _ z
  refine mo_J_runS lok_lotMean [] 400 _ (show (1000000 = 1000000 ∧ vp_in (nI i + 1) n) ∧ (1000000 = 1000000 ∧ vp_in (nI i + 2) n) ∧ (1000000 = 1000000 ∧ vp_in (nI i + 3) n) ∧ JL l n f (1433, [some (.ref 1000000), some (.ref 1), some (.ref 126), some (.ref 149), some (.int (nI i)), some (.int k), none, none], [.int (f (nI i + 3).toNatClampNeg), .int (f (nI i + 2).toNatClampNeg), .int (f (nI i + 1).toNatClampNeg), .ref 126], (wK, wR s, I2, L2, x + 1)) from ⟨⟨rfl, vin (k := 1) (by decide) hi hn⟩, ⟨rfl, vin (k := 2) (by decide) hi hn⟩, ⟨rfl, vin (k := 3) (by decide) hi hn⟩, ?_⟩)
  refine mo_J_callV (q := 126) (rest := []) hc2 cd_Model_lotMean (mo_dec lok_lotMean (show mo_at lc_lotMean 1433 = some (.invokevirtual 168, 3, 0, 0, 0, .null) from rfl)) (show mo_kV mm_Law_law.1.cls 168 mm_Model_lotMean 3 11 = true by decide +kernel) w_kdm rfl rfl (fitL (by decide) (by decide) (by omega) (by omega) (Nat.le_of_ble_eq_true rfl)) (fun r K2 R2 I3 L3 x2 z => ?_)
  obtain ⟨b, rfl, rfl, rfl, rfl, h0, hb, T', xs', hI'⟩ := h2 _ _ _ _ _ _ z
  refine mo_J_runS lok_lotMean [] 400 _ (show JL l n f (1439, [some (.ref 1000000), some (.ref 1), some (.ref 126), some (.ref 149), some (.int (nI i)), some (.int k), some (.long b), none], [.ref 126], (wK, wR s, I3, L3, x + 1 + 0)) from ?_)
  refine mo_J_callV (q := 126) (as2 := []) (rest := []) (C_Model_thrown l wK (wR s) I3 L3 126 (w_md s)) cd_Model_thrown (mo_dec lok_lotMean (show mo_at lc_lotMean 1439 = some (.invokevirtual 64, 3, 0, 0, 0, .null) from rfl)) (show mo_kV mm_Law_law.1.cls 64 mm_Model_thrown 0 11 = true by decide +kernel) w_kdm rfl rfl (fitL (by decide) (by decide) (by omega) (by omega) (Nat.le_of_ble_eq_true rfl)) (fun r K2 R2 I4 L4 x2 z => ?_)
  obtain ⟨z, rfl⟩ := z
  cases z
  have fin : JL l n f (1756, [some (.ref 1000000), some (.ref 1), some (.ref 126), some (.ref 149), some (.int (nI i)), some (.int k), some (.long b), none], [], (wK, wR s, I3, L3, x + 1 + 0 + 0)) := mo_J_fewer (ml' := [some (.ref 1000000), some (.ref 1), some (.ref 126), some (.ref 149), some (.int (nI i)), none, none, none]) rfl (fun j v hj => fewL hj rfl) (kk _ _ _ _ _ hI')
  exact mo_J_runS lok_lotMean [1756] 400 _ (show ((I3 126 0) = k → (k = 0 → (mo_kd wK 149 = 101 ∧ vp_in 0 (mo_ln wK 149)) ∧ (lg_cmp (L3 149 (0 : Int32).toNatClampNeg) b = 0 → JL l n f (1756, [some (.ref 1000000), some (.ref 1), some (.ref 126), some (.ref 149), some (.int (nI i)), some (.int k), some (.long b), none], [], (wK, wR s, I3, L3, x + 1 + 0 + 0))) ∧ (¬ lg_cmp (L3 149 (0 : Int32).toNatClampNeg) b = 0 → JL l n f (1464, [some (.ref 1000000), some (.ref 1), some (.ref 126), some (.ref 149), some (.int (nI i)), some (.int k), some (.long b), none], [.int 0], (wK, wR s, I3, L3, x + 1 + 0 + 0)))) ∧ (¬ k = 0 → JL l n f (1756, [some (.ref 1000000), some (.ref 1), some (.ref 126), some (.ref 149), some (.int (nI i)), some (.int k), some (.long b), none], [], (wK, wR s, I3, L3, x + 1 + 0 + 0)))) ∧ (¬ (I3 126 0) = k → JL l n f (1448, [some (.ref 1000000), some (.ref 1), some (.ref 126), some (.ref 149), some (.int (nI i)), some (.int k), some (.long b), none], [.int 0], (wK, wR s, I3, L3, x + 1 + 0 + 0))) from ⟨fun _ => ⟨fun z => ⟨w_149, fun _ => fin, fun y => absurd (lc_eq0.mpr (hb z)) y⟩, fun _ => fin⟩, fun z => absurd h0 z⟩)
def lc_meets : List (Nat × mo_I) := [(1468, .aload_n 1, 1, 0, 0, 0, .null),
  (1469, .aload_n 0, 1, 0, 0, 0, .null),
  (1470, .iload 4, 2, 0, 0, 0, .null),
  (1472, .iconst 1, 1, 0, 0, 0, .int 1),
  (1473, .iadd, 1, 0, 0, 0, .null),
  (1474, .iaload, 1, 0, 0, 2, .null),
  (1475, .aload_n 0, 1, 0, 0, 0, .null),
  (1476, .iload 4, 2, 0, 0, 0, .null),
  (1478, .iconst 2, 1, 0, 0, 0, .int 2),
  (1479, .iadd, 1, 0, 0, 0, .null),
  (1480, .iaload, 1, 0, 0, 2, .null),
  (1481, .invokevirtual 169, 3, 0, 0, 0, .null),
  (1484, .aload_n 2, 1, 0, 0, 0, .null),
  (1485, .aload_n 0, 1, 0, 0, 0, .null),
  (1486, .iload 4, 2, 0, 0, 0, .null),
  (1488, .iconst 1, 1, 0, 0, 0, .int 1),
  (1489, .iadd, 1, 0, 0, 0, .null),
  (1490, .iaload, 1, 0, 0, 2, .null),
  (1491, .aload_n 0, 1, 0, 0, 0, .null),
  (1492, .iload 4, 2, 0, 0, 0, .null),
  (1494, .iconst 2, 1, 0, 0, 0, .int 2),
  (1495, .iadd, 1, 0, 0, 0, .null),
  (1496, .iaload, 1, 0, 0, 2, .null),
  (1497, .invokevirtual 172, 3, 0, 0, 0, .null),
  (1500, .if_icmp .eq 256, 3, 1756, 0, 0, .null),
  (1503, .iconst 0, 1, 0, 0, 0, .int 0),
  (1504, .ireturn, 1, 0, 0, 0, .null)]
set_option maxRecDepth 100000 in
theorem lok_meets : lc_meets.all (mo_chk mm_Law_law.1.cls false mm_Law_law.2.1) = true := by decide +kernel
theorem K_meets {l : Launch} {n : Nat} {f : Nat → Int32} {s : Bool} {I : Nat → Nat → Int32} {L : Nat → Nat → Int64} {T : mo_Tn} {xs : List Nat} {i x : Nat} (hI : wInv s I L T xs) (hx : x ≤ 512) (hi : i + 6 ≤ n) (hn : n ≤ 3072) (kk : ∀ s I L T xs, wInv s I L T xs → JL l n f (1756, [some (.ref 1000000), some (.ref 1), some (.ref 126), some (.ref 149), some (.int (nI i)), none, none, none], [], (wK, wR s, I, L, x))) : JL l n f (1468, [some (.ref 1000000), some (.ref 1), some (.ref 126), some (.ref 149), some (.int (nI i)), none, none, none], [], (wK, wR s, I, L, x)) := by
  refine mo_J_runS lok_meets [] 400 _ (show (1000000 = 1000000 ∧ vp_in (nI i + 1) n) ∧ (1000000 = 1000000 ∧ vp_in (nI i + 2) n) ∧ JL l n f (1481, [some (.ref 1000000), some (.ref 1), some (.ref 126), some (.ref 149), some (.int (nI i)), none, none, none], [.int (f (nI i + 2).toNatClampNeg), .int (f (nI i + 1).toNatClampNeg), .ref 1], (wK, wR s, I, L, x)) from ⟨⟨rfl, vin (k := 1) (by decide) hi hn⟩, ⟨rfl, vin (k := 2) (by decide) hi hn⟩, ?_⟩)
  obtain ⟨Ψ1, hc1, h1⟩ := P_meets l hI (f (nI i + 1).toNatClampNeg) (f (nI i + 2).toNatClampNeg)
  refine mo_J_callV (q := 1) (rest := []) hc1 cd_Gate_meets (mo_dec lok_meets (show mo_at lc_meets 1481 = some (.invokevirtual 169, 3, 0, 0, 0, .null) from rfl)) (show mo_kV mm_Law_law.1.cls 169 mm_Gate_meets 2 0 = true by decide +kernel) w_kd0 rfl rfl (fitL (by decide) (by decide) (by omega) (by omega) (Nat.le_of_ble_eq_true rfl)) (fun r K2 R2 I2 L2 x2 z => ?_)
  obtain ⟨v, s1, rfl, ⟨b, rfl⟩, rfl, rfl, rfl, Ψ2, hc2, h2⟩ := h1 _ _ _ _ _ _ z
  refine mo_J_runS lok_meets [] 400 _ (show (1000000 = 1000000 ∧ vp_in (nI i + 1) n) ∧ (1000000 = 1000000 ∧ vp_in (nI i + 2) n) ∧ JL l n f (1497, [some (.ref 1000000), some (.ref 1), some (.ref 126), some (.ref 149), some (.int (nI i)), none, none, none], [.int (f (nI i + 2).toNatClampNeg), .int (f (nI i + 1).toNatClampNeg), .ref 126, .int b], (wK, wR s1, I2, L2, x + 0)) from ⟨⟨rfl, vin (k := 1) (by decide) hi hn⟩, ⟨rfl, vin (k := 2) (by decide) hi hn⟩, ?_⟩)
  refine mo_J_callV (q := 126) (rest := [.int b]) hc2 cd_Model_meets (mo_dec lok_meets (show mo_at lc_meets 1497 = some (.invokevirtual 172, 3, 0, 0, 0, .null) from rfl)) (show mo_kV mm_Law_law.1.cls 172 mm_Model_meets 2 11 = true by decide +kernel) w_kdm rfl rfl (fitL (by decide) (by decide) (by omega) (by omega) (Nat.le_of_ble_eq_true rfl)) (fun r K2 R2 I3 L3 x2 z => ?_)
  obtain ⟨rfl, rfl, rfl, rfl, T', xs', hI'⟩ := h2 _ _ _ _ _ _ z
  exact mo_J_runS lok_meets [1756] 400 _ (show (b = b → JL l n f (1756, [some (.ref 1000000), some (.ref 1), some (.ref 126), some (.ref 149), some (.int (nI i)), none, none, none], [], (wK, wR s1, I3, L3, x + 0 + 0))) ∧ (¬ b = b → JL l n f (1504, [some (.ref 1000000), some (.ref 1), some (.ref 126), some (.ref 149), some (.int (nI i)), none, none, none], [.int 0], (wK, wR s1, I3, L3, x + 0 + 0))) from ⟨fun _ => kk _ _ _ _ _ hI', fun z => absurd rfl z⟩)
def lc_later : List (Nat × mo_I) := [(1505, .aload_n 1, 1, 0, 0, 0, .null),
  (1506, .aload_n 0, 1, 0, 0, 0, .null),
  (1507, .iload 4, 2, 0, 0, 0, .null),
  (1509, .iconst 1, 1, 0, 0, 0, .int 1),
  (1510, .iadd, 1, 0, 0, 0, .null),
  (1511, .iaload, 1, 0, 0, 2, .null),
  (1512, .aload_n 0, 1, 0, 0, 0, .null),
  (1513, .iload 4, 2, 0, 0, 0, .null),
  (1515, .iconst 2, 1, 0, 0, 0, .int 2),
  (1516, .iadd, 1, 0, 0, 0, .null),
  (1517, .iaload, 1, 0, 0, 2, .null),
  (1518, .invokevirtual 173, 3, 0, 0, 0, .null),
  (1521, .aload_n 2, 1, 0, 0, 0, .null),
  (1522, .aload_n 0, 1, 0, 0, 0, .null),
  (1523, .iload 4, 2, 0, 0, 0, .null),
  (1525, .iconst 1, 1, 0, 0, 0, .int 1),
  (1526, .iadd, 1, 0, 0, 0, .null),
  (1527, .iaload, 1, 0, 0, 2, .null),
  (1528, .aload_n 0, 1, 0, 0, 0, .null),
  (1529, .iload 4, 2, 0, 0, 0, .null),
  (1531, .iconst 2, 1, 0, 0, 0, .int 2),
  (1532, .iadd, 1, 0, 0, 0, .null),
  (1533, .iaload, 1, 0, 0, 2, .null),
  (1534, .invokevirtual 176, 3, 0, 0, 0, .null),
  (1537, .if_icmp .eq 219, 3, 1756, 0, 0, .null),
  (1540, .iconst 0, 1, 0, 0, 0, .int 0),
  (1541, .ireturn, 1, 0, 0, 0, .null)]
set_option maxRecDepth 100000 in
theorem lok_later : lc_later.all (mo_chk mm_Law_law.1.cls false mm_Law_law.2.1) = true := by decide +kernel
theorem K_later {l : Launch} {n : Nat} {f : Nat → Int32} {s : Bool} {I : Nat → Nat → Int32} {L : Nat → Nat → Int64} {T : mo_Tn} {xs : List Nat} {i x : Nat} (hI : wInv s I L T xs) (hx : x ≤ 512) (hi : i + 6 ≤ n) (hn : n ≤ 3072) (kk : ∀ s I L T xs, wInv s I L T xs → JL l n f (1756, [some (.ref 1000000), some (.ref 1), some (.ref 126), some (.ref 149), some (.int (nI i)), none, none, none], [], (wK, wR s, I, L, x))) : JL l n f (1505, [some (.ref 1000000), some (.ref 1), some (.ref 126), some (.ref 149), some (.int (nI i)), none, none, none], [], (wK, wR s, I, L, x)) := by
  refine mo_J_runS lok_later [] 400 _ (show (1000000 = 1000000 ∧ vp_in (nI i + 1) n) ∧ (1000000 = 1000000 ∧ vp_in (nI i + 2) n) ∧ JL l n f (1518, [some (.ref 1000000), some (.ref 1), some (.ref 126), some (.ref 149), some (.int (nI i)), none, none, none], [.int (f (nI i + 2).toNatClampNeg), .int (f (nI i + 1).toNatClampNeg), .ref 1], (wK, wR s, I, L, x)) from ⟨⟨rfl, vin (k := 1) (by decide) hi hn⟩, ⟨rfl, vin (k := 2) (by decide) hi hn⟩, ?_⟩)
  obtain ⟨Ψ1, hc1, h1⟩ := P_later l hI (f (nI i + 1).toNatClampNeg) (f (nI i + 2).toNatClampNeg)
  refine mo_J_callV (q := 1) (rest := []) hc1 cd_Gate_later (mo_dec lok_later (show mo_at lc_later 1518 = some (.invokevirtual 173, 3, 0, 0, 0, .null) from rfl)) (show mo_kV mm_Law_law.1.cls 173 mm_Gate_later 2 0 = true by decide +kernel) w_kd0 rfl rfl (fitL (by decide) (by decide) (by omega) (by omega) (Nat.le_of_ble_eq_true rfl)) (fun r K2 R2 I2 L2 x2 z => ?_)
  obtain ⟨v, s1, rfl, ⟨b, rfl⟩, rfl, rfl, rfl, Ψ2, hc2, h2⟩ := h1 _ _ _ _ _ _ z
  refine mo_J_runS lok_later [] 400 _ (show (1000000 = 1000000 ∧ vp_in (nI i + 1) n) ∧ (1000000 = 1000000 ∧ vp_in (nI i + 2) n) ∧ JL l n f (1534, [some (.ref 1000000), some (.ref 1), some (.ref 126), some (.ref 149), some (.int (nI i)), none, none, none], [.int (f (nI i + 2).toNatClampNeg), .int (f (nI i + 1).toNatClampNeg), .ref 126, .int b], (wK, wR s1, I2, L2, x + 0)) from ⟨⟨rfl, vin (k := 1) (by decide) hi hn⟩, ⟨rfl, vin (k := 2) (by decide) hi hn⟩, ?_⟩)
  refine mo_J_callV (q := 126) (rest := [.int b]) hc2 cd_Model_later (mo_dec lok_later (show mo_at lc_later 1534 = some (.invokevirtual 176, 3, 0, 0, 0, .null) from rfl)) (show mo_kV mm_Law_law.1.cls 176 mm_Model_later 2 11 = true by decide +kernel) w_kdm rfl rfl (fitL (by decide) (by decide) (by omega) (by omega) (Nat.le_of_ble_eq_true rfl)) (fun r K2 R2 I3 L3 x2 z => ?_)
  obtain ⟨rfl, rfl, rfl, rfl, T', xs', hI'⟩ := h2 _ _ _ _ _ _ z
  exact mo_J_runS lok_later [1756] 400 _ (show (b = b → JL l n f (1756, [some (.ref 1000000), some (.ref 1), some (.ref 126), some (.ref 149), some (.int (nI i)), none, none, none], [], (wK, wR s1, I3, L3, x + 0 + 0))) ∧ (¬ b = b → JL l n f (1541, [some (.ref 1000000), some (.ref 1), some (.ref 126), some (.ref 149), some (.int (nI i)), none, none, none], [.int 0], (wK, wR s1, I3, L3, x + 0 + 0))) from ⟨fun _ => kk _ _ _ _ _ hI', fun z => absurd rfl z⟩)
def lc_sights : List (Nat × mo_I) := [(1542, .aload_n 1, 1, 0, 0, 0, .null),
  (1543, .invokevirtual 177, 3, 0, 0, 0, .null),
  (1546, .aload_n 2, 1, 0, 0, 0, .null),
  (1547, .invokevirtual 180, 3, 0, 0, 0, .null),
  (1550, .if_icmp .eq 206, 3, 1756, 0, 0, .null),
  (1553, .iconst 0, 1, 0, 0, 0, .int 0),
  (1554, .ireturn, 1, 0, 0, 0, .null)]
set_option maxRecDepth 100000 in
theorem lok_sights : lc_sights.all (mo_chk mm_Law_law.1.cls false mm_Law_law.2.1) = true := by decide +kernel
theorem K_sights {l : Launch} {n : Nat} {f : Nat → Int32} {s : Bool} {I : Nat → Nat → Int32} {L : Nat → Nat → Int64} {T : mo_Tn} {xs : List Nat} {i x : Nat} (hI : wInv s I L T xs) (hP : wPair l mm_Gate_sights 6 [.ref 1] mm_Model_sights 5 [.ref 126] s I L) (hx : x ≤ 512) (hi : i + 6 ≤ n) (hn : n ≤ 3072) (kk : ∀ s I L T xs, wInv s I L T xs → JL l n f (1756, [some (.ref 1000000), some (.ref 1), some (.ref 126), some (.ref 149), some (.int (nI i)), none, none, none], [], (wK, wR s, I, L, x))) : JL l n f (1542, [some (.ref 1000000), some (.ref 1), some (.ref 126), some (.ref 149), some (.int (nI i)), none, none, none], [], (wK, wR s, I, L, x)) := by
  refine mo_J_runS lok_sights [] 400 _ (show JL l n f (1543, [some (.ref 1000000), some (.ref 1), some (.ref 126), some (.ref 149), some (.int (nI i)), none, none, none], [.ref 1], (wK, wR s, I, L, x)) from ?_)
  obtain ⟨Ψ1, hc1, h1⟩ := hP
  refine mo_J_callV (q := 1) (rest := []) hc1 cd_Gate_sights (mo_dec lok_sights (show mo_at lc_sights 1543 = some (.invokevirtual 177, 3, 0, 0, 0, .null) from rfl)) (show mo_kV mm_Law_law.1.cls 177 mm_Gate_sights 0 0 = true by decide +kernel) w_kd0 rfl rfl (fitL (by decide) (by decide) (by omega) (by omega) (Nat.le_of_ble_eq_true rfl)) (fun r K2 R2 I2 L2 x2 z => ?_)
  obtain ⟨v, s1, rfl, ⟨b, rfl⟩, rfl, rfl, rfl, Ψ2, hc2, h2⟩ := h1 _ _ _ _ _ _ z
  refine mo_J_runS lok_sights [] 400 _ (show JL l n f (1547, [some (.ref 1000000), some (.ref 1), some (.ref 126), some (.ref 149), some (.int (nI i)), none, none, none], [.ref 126, .int b], (wK, wR s1, I2, L2, x + 0)) from ?_)
  refine mo_J_callV (q := 126) (rest := [.int b]) hc2 cd_Model_sights (mo_dec lok_sights (show mo_at lc_sights 1547 = some (.invokevirtual 180, 3, 0, 0, 0, .null) from rfl)) (show mo_kV mm_Law_law.1.cls 180 mm_Model_sights 0 11 = true by decide +kernel) w_kdm rfl rfl (fitL (by decide) (by decide) (by omega) (by omega) (Nat.le_of_ble_eq_true rfl)) (fun r K2 R2 I3 L3 x2 z => ?_)
  obtain ⟨rfl, rfl, rfl, rfl, T', xs', hI'⟩ := h2 _ _ _ _ _ _ z
  exact mo_J_runS lok_sights [1756] 400 _ (show (b = b → JL l n f (1756, [some (.ref 1000000), some (.ref 1), some (.ref 126), some (.ref 149), some (.int (nI i)), none, none, none], [], (wK, wR s1, I3, L3, x + 0 + 0))) ∧ (¬ b = b → JL l n f (1554, [some (.ref 1000000), some (.ref 1), some (.ref 126), some (.ref 149), some (.int (nI i)), none, none, none], [.int 0], (wK, wR s1, I3, L3, x + 0 + 0))) from ⟨fun _ => kk _ _ _ _ _ hI', fun z => absurd rfl z⟩)
def lc_holds : List (Nat × mo_I) := [(1555, .aload_n 1, 1, 0, 0, 0, .null),
  (1556, .invokevirtual 181, 3, 0, 0, 0, .null),
  (1559, .aload_n 2, 1, 0, 0, 0, .null),
  (1560, .invokevirtual 184, 3, 0, 0, 0, .null),
  (1563, .if_icmp .eq 193, 3, 1756, 0, 0, .null),
  (1566, .iconst 0, 1, 0, 0, 0, .int 0),
  (1567, .ireturn, 1, 0, 0, 0, .null)]
set_option maxRecDepth 100000 in
theorem lok_holds : lc_holds.all (mo_chk mm_Law_law.1.cls false mm_Law_law.2.1) = true := by decide +kernel
theorem K_holds {l : Launch} {n : Nat} {f : Nat → Int32} {s : Bool} {I : Nat → Nat → Int32} {L : Nat → Nat → Int64} {T : mo_Tn} {xs : List Nat} {i x : Nat} (hI : wInv s I L T xs) (hx : x ≤ 512) (hi : i + 6 ≤ n) (hn : n ≤ 3072) (kk : ∀ s I L T xs, wInv s I L T xs → JL l n f (1756, [some (.ref 1000000), some (.ref 1), some (.ref 126), some (.ref 149), some (.int (nI i)), none, none, none], [], (wK, wR s, I, L, x))) : JL l n f (1555, [some (.ref 1000000), some (.ref 1), some (.ref 126), some (.ref 149), some (.int (nI i)), none, none, none], [], (wK, wR s, I, L, x)) := by
  refine mo_J_runS lok_holds [] 400 _ (show JL l n f (1556, [some (.ref 1000000), some (.ref 1), some (.ref 126), some (.ref 149), some (.int (nI i)), none, none, none], [.ref 1], (wK, wR s, I, L, x)) from ?_)
  obtain ⟨Ψ1, hc1, h1⟩ := P_holds l hI 
  refine mo_J_callV (q := 1) (rest := []) hc1 cd_Gate_holds (mo_dec lok_holds (show mo_at lc_holds 1556 = some (.invokevirtual 181, 3, 0, 0, 0, .null) from rfl)) (show mo_kV mm_Law_law.1.cls 181 mm_Gate_holds 0 0 = true by decide +kernel) w_kd0 rfl rfl (fitL (by decide) (by decide) (by omega) (by omega) (Nat.le_of_ble_eq_true rfl)) (fun r K2 R2 I2 L2 x2 z => ?_)
  obtain ⟨v, s1, rfl, ⟨b, rfl⟩, rfl, rfl, rfl, Ψ2, hc2, h2⟩ := h1 _ _ _ _ _ _ z
  refine mo_J_runS lok_holds [] 400 _ (show JL l n f (1560, [some (.ref 1000000), some (.ref 1), some (.ref 126), some (.ref 149), some (.int (nI i)), none, none, none], [.ref 126, .int b], (wK, wR s1, I2, L2, x + 0)) from ?_)
  refine mo_J_callV (q := 126) (rest := [.int b]) hc2 cd_Model_holds (mo_dec lok_holds (show mo_at lc_holds 1560 = some (.invokevirtual 184, 3, 0, 0, 0, .null) from rfl)) (show mo_kV mm_Law_law.1.cls 184 mm_Model_holds 0 11 = true by decide +kernel) w_kdm rfl rfl (fitL (by decide) (by decide) (by omega) (by omega) (Nat.le_of_ble_eq_true rfl)) (fun r K2 R2 I3 L3 x2 z => ?_)
  obtain ⟨rfl, rfl, rfl, rfl, T', xs', hI'⟩ := h2 _ _ _ _ _ _ z
  exact mo_J_runS lok_holds [1756] 400 _ (show (b = b → JL l n f (1756, [some (.ref 1000000), some (.ref 1), some (.ref 126), some (.ref 149), some (.int (nI i)), none, none, none], [], (wK, wR s1, I3, L3, x + 0 + 0))) ∧ (¬ b = b → JL l n f (1567, [some (.ref 1000000), some (.ref 1), some (.ref 126), some (.ref 149), some (.int (nI i)), none, none, none], [.int 0], (wK, wR s1, I3, L3, x + 0 + 0))) from ⟨fun _ => kk _ _ _ _ _ hI', fun z => absurd rfl z⟩)
def lc_could : List (Nat × mo_I) := [(1568, .aload_n 1, 1, 0, 0, 0, .null),
  (1569, .aload_n 0, 1, 0, 0, 0, .null),
  (1570, .iload 4, 2, 0, 0, 0, .null),
  (1572, .iconst 1, 1, 0, 0, 0, .int 1),
  (1573, .iadd, 1, 0, 0, 0, .null),
  (1574, .iaload, 1, 0, 0, 2, .null),
  (1575, .invokevirtual 185, 3, 0, 0, 0, .null),
  (1578, .aload_n 2, 1, 0, 0, 0, .null),
  (1579, .aload_n 0, 1, 0, 0, 0, .null),
  (1580, .iload 4, 2, 0, 0, 0, .null),
  (1582, .iconst 1, 1, 0, 0, 0, .int 1),
  (1583, .iadd, 1, 0, 0, 0, .null),
  (1584, .iaload, 1, 0, 0, 2, .null),
  (1585, .invokevirtual 188, 3, 0, 0, 0, .null),
  (1588, .if_icmp .eq 168, 3, 1756, 0, 0, .null),
  (1591, .iconst 0, 1, 0, 0, 0, .int 0),
  (1592, .ireturn, 1, 0, 0, 0, .null)]
set_option maxRecDepth 100000 in
theorem lok_could : lc_could.all (mo_chk mm_Law_law.1.cls false mm_Law_law.2.1) = true := by decide +kernel
theorem K_could {l : Launch} {n : Nat} {f : Nat → Int32} {s : Bool} {I : Nat → Nat → Int32} {L : Nat → Nat → Int64} {T : mo_Tn} {xs : List Nat} {i x : Nat} (hI : wInv s I L T xs) (hx : x ≤ 512) (hi : i + 6 ≤ n) (hn : n ≤ 3072) (kk : ∀ s I L T xs, wInv s I L T xs → JL l n f (1756, [some (.ref 1000000), some (.ref 1), some (.ref 126), some (.ref 149), some (.int (nI i)), none, none, none], [], (wK, wR s, I, L, x))) : JL l n f (1568, [some (.ref 1000000), some (.ref 1), some (.ref 126), some (.ref 149), some (.int (nI i)), none, none, none], [], (wK, wR s, I, L, x)) := by
  refine mo_J_runS lok_could [] 400 _ (show (1000000 = 1000000 ∧ vp_in (nI i + 1) n) ∧ JL l n f (1575, [some (.ref 1000000), some (.ref 1), some (.ref 126), some (.ref 149), some (.int (nI i)), none, none, none], [.int (f (nI i + 1).toNatClampNeg), .ref 1], (wK, wR s, I, L, x)) from ⟨⟨rfl, vin (k := 1) (by decide) hi hn⟩, ?_⟩)
  obtain ⟨Ψ1, hc1, h1⟩ := P_could l hI (f (nI i + 1).toNatClampNeg)
  refine mo_J_callV (q := 1) (rest := []) hc1 cd_Gate_could (mo_dec lok_could (show mo_at lc_could 1575 = some (.invokevirtual 185, 3, 0, 0, 0, .null) from rfl)) (show mo_kV mm_Law_law.1.cls 185 mm_Gate_could 1 0 = true by decide +kernel) w_kd0 rfl rfl (fitL (by decide) (by decide) (by omega) (by omega) (Nat.le_of_ble_eq_true rfl)) (fun r K2 R2 I2 L2 x2 z => ?_)
  obtain ⟨v, s1, rfl, ⟨b, rfl⟩, rfl, rfl, rfl, Ψ2, hc2, h2⟩ := h1 _ _ _ _ _ _ z
  refine mo_J_runS lok_could [] 400 _ (show (1000000 = 1000000 ∧ vp_in (nI i + 1) n) ∧ JL l n f (1585, [some (.ref 1000000), some (.ref 1), some (.ref 126), some (.ref 149), some (.int (nI i)), none, none, none], [.int (f (nI i + 1).toNatClampNeg), .ref 126, .int b], (wK, wR s1, I2, L2, x + 0)) from ⟨⟨rfl, vin (k := 1) (by decide) hi hn⟩, ?_⟩)
  refine mo_J_callV (q := 126) (rest := [.int b]) hc2 cd_Model_could (mo_dec lok_could (show mo_at lc_could 1585 = some (.invokevirtual 188, 3, 0, 0, 0, .null) from rfl)) (show mo_kV mm_Law_law.1.cls 188 mm_Model_could 1 11 = true by decide +kernel) w_kdm rfl rfl (fitL (by decide) (by decide) (by omega) (by omega) (Nat.le_of_ble_eq_true rfl)) (fun r K2 R2 I3 L3 x2 z => ?_)
  obtain ⟨rfl, rfl, rfl, rfl, T', xs', hI'⟩ := h2 _ _ _ _ _ _ z
  exact mo_J_runS lok_could [1756] 400 _ (show (b = b → JL l n f (1756, [some (.ref 1000000), some (.ref 1), some (.ref 126), some (.ref 149), some (.int (nI i)), none, none, none], [], (wK, wR s1, I3, L3, x + 0 + 0))) ∧ (¬ b = b → JL l n f (1592, [some (.ref 1000000), some (.ref 1), some (.ref 126), some (.ref 149), some (.int (nI i)), none, none, none], [.int 0], (wK, wR s1, I3, L3, x + 0 + 0))) from ⟨fun _ => kk _ _ _ _ _ hI', fun z => absurd rfl z⟩)
def lc_look : List (Nat × mo_I) := [(1593, .aload_n 1, 1, 0, 0, 0, .null),
  (1594, .aload_n 0, 1, 0, 0, 0, .null),
  (1595, .iload 4, 2, 0, 0, 0, .null),
  (1597, .iconst 1, 1, 0, 0, 0, .int 1),
  (1598, .iadd, 1, 0, 0, 0, .null),
  (1599, .iaload, 1, 0, 0, 2, .null),
  (1600, .invokevirtual 189, 3, 0, 0, 0, .null),
  (1603, .aload_n 2, 1, 0, 0, 0, .null),
  (1604, .aload_n 0, 1, 0, 0, 0, .null),
  (1605, .iload 4, 2, 0, 0, 0, .null),
  (1607, .iconst 1, 1, 0, 0, 0, .int 1),
  (1608, .iadd, 1, 0, 0, 0, .null),
  (1609, .iaload, 1, 0, 0, 2, .null),
  (1610, .invokevirtual 192, 3, 0, 0, 0, .null),
  (1613, .if_icmp .eq 143, 3, 1756, 0, 0, .null),
  (1616, .iconst 0, 1, 0, 0, 0, .int 0),
  (1617, .ireturn, 1, 0, 0, 0, .null)]
set_option maxRecDepth 100000 in
theorem lok_look : lc_look.all (mo_chk mm_Law_law.1.cls false mm_Law_law.2.1) = true := by decide +kernel
theorem K_look {l : Launch} {n : Nat} {f : Nat → Int32} {s : Bool} {I : Nat → Nat → Int32} {L : Nat → Nat → Int64} {T : mo_Tn} {xs : List Nat} {i x : Nat} (hI : wInv s I L T xs) (hx : x ≤ 512) (hi : i + 6 ≤ n) (hn : n ≤ 3072) (kk : ∀ s I L T xs, wInv s I L T xs → JL l n f (1756, [some (.ref 1000000), some (.ref 1), some (.ref 126), some (.ref 149), some (.int (nI i)), none, none, none], [], (wK, wR s, I, L, x))) : JL l n f (1593, [some (.ref 1000000), some (.ref 1), some (.ref 126), some (.ref 149), some (.int (nI i)), none, none, none], [], (wK, wR s, I, L, x)) := by
  refine mo_J_runS lok_look [] 400 _ (show (1000000 = 1000000 ∧ vp_in (nI i + 1) n) ∧ JL l n f (1600, [some (.ref 1000000), some (.ref 1), some (.ref 126), some (.ref 149), some (.int (nI i)), none, none, none], [.int (f (nI i + 1).toNatClampNeg), .ref 1], (wK, wR s, I, L, x)) from ⟨⟨rfl, vin (k := 1) (by decide) hi hn⟩, ?_⟩)
  obtain ⟨Ψ1, hc1, h1⟩ := P_look l hI (f (nI i + 1).toNatClampNeg)
  refine mo_J_callV (q := 1) (rest := []) hc1 cd_Gate_look (mo_dec lok_look (show mo_at lc_look 1600 = some (.invokevirtual 189, 3, 0, 0, 0, .null) from rfl)) (show mo_kV mm_Law_law.1.cls 189 mm_Gate_look 1 0 = true by decide +kernel) w_kd0 rfl rfl (fitL (by decide) (by decide) (by omega) (by omega) (Nat.le_of_ble_eq_true rfl)) (fun r K2 R2 I2 L2 x2 z => ?_)
  obtain ⟨v, s1, rfl, ⟨b, rfl⟩, rfl, rfl, rfl, Ψ2, hc2, h2⟩ := h1 _ _ _ _ _ _ z
  refine mo_J_runS lok_look [] 400 _ (show (1000000 = 1000000 ∧ vp_in (nI i + 1) n) ∧ JL l n f (1610, [some (.ref 1000000), some (.ref 1), some (.ref 126), some (.ref 149), some (.int (nI i)), none, none, none], [.int (f (nI i + 1).toNatClampNeg), .ref 126, .int b], (wK, wR s1, I2, L2, x + 0)) from ⟨⟨rfl, vin (k := 1) (by decide) hi hn⟩, ?_⟩)
  refine mo_J_callV (q := 126) (rest := [.int b]) hc2 cd_Model_look (mo_dec lok_look (show mo_at lc_look 1610 = some (.invokevirtual 192, 3, 0, 0, 0, .null) from rfl)) (show mo_kV mm_Law_law.1.cls 192 mm_Model_look 1 11 = true by decide +kernel) w_kdm rfl rfl (fitL (by decide) (by decide) (by omega) (by omega) (Nat.le_of_ble_eq_true rfl)) (fun r K2 R2 I3 L3 x2 z => ?_)
  obtain ⟨rfl, rfl, rfl, rfl, T', xs', hI'⟩ := h2 _ _ _ _ _ _ z
  exact mo_J_runS lok_look [1756] 400 _ (show (b = b → JL l n f (1756, [some (.ref 1000000), some (.ref 1), some (.ref 126), some (.ref 149), some (.int (nI i)), none, none, none], [], (wK, wR s1, I3, L3, x + 0 + 0))) ∧ (¬ b = b → JL l n f (1617, [some (.ref 1000000), some (.ref 1), some (.ref 126), some (.ref 149), some (.int (nI i)), none, none, none], [.int 0], (wK, wR s1, I3, L3, x + 0 + 0))) from ⟨fun _ => kk _ _ _ _ _ hI', fun z => absurd rfl z⟩)
def lc_best : List (Nat × mo_I) := [(1618, .aload_n 1, 1, 0, 0, 0, .null),
  (1619, .invokevirtual 193, 3, 0, 0, 0, .null),
  (1622, .aload_n 2, 1, 0, 0, 0, .null),
  (1623, .invokevirtual 196, 3, 0, 0, 0, .null),
  (1626, .if_icmp .eq 130, 3, 1756, 0, 0, .null),
  (1629, .iconst 0, 1, 0, 0, 0, .int 0),
  (1630, .ireturn, 1, 0, 0, 0, .null)]
set_option maxRecDepth 100000 in
theorem lok_best : lc_best.all (mo_chk mm_Law_law.1.cls false mm_Law_law.2.1) = true := by decide +kernel
theorem K_best {l : Launch} {n : Nat} {f : Nat → Int32} {s : Bool} {I : Nat → Nat → Int32} {L : Nat → Nat → Int64} {T : mo_Tn} {xs : List Nat} {i x : Nat} (hI : wInv s I L T xs) (hx : x ≤ 512) (hi : i + 6 ≤ n) (hn : n ≤ 3072) (kk : ∀ s I L T xs, wInv s I L T xs → JL l n f (1756, [some (.ref 1000000), some (.ref 1), some (.ref 126), some (.ref 149), some (.int (nI i)), none, none, none], [], (wK, wR s, I, L, x))) : JL l n f (1618, [some (.ref 1000000), some (.ref 1), some (.ref 126), some (.ref 149), some (.int (nI i)), none, none, none], [], (wK, wR s, I, L, x)) := by
  refine mo_J_runS lok_best [] 400 _ (show JL l n f (1619, [some (.ref 1000000), some (.ref 1), some (.ref 126), some (.ref 149), some (.int (nI i)), none, none, none], [.ref 1], (wK, wR s, I, L, x)) from ?_)
  obtain ⟨Ψ1, hc1, h1⟩ := P_best l hI 
  refine mo_J_callV (q := 1) (rest := []) hc1 cd_Gate_best (mo_dec lok_best (show mo_at lc_best 1619 = some (.invokevirtual 193, 3, 0, 0, 0, .null) from rfl)) (show mo_kV mm_Law_law.1.cls 193 mm_Gate_best 0 0 = true by decide +kernel) w_kd0 rfl rfl (fitL (by decide) (by decide) (by omega) (by omega) (Nat.le_of_ble_eq_true rfl)) (fun r K2 R2 I2 L2 x2 z => ?_)
  obtain ⟨v, s1, rfl, ⟨b, rfl⟩, rfl, rfl, rfl, Ψ2, hc2, h2⟩ := h1 _ _ _ _ _ _ z
  refine mo_J_runS lok_best [] 400 _ (show JL l n f (1623, [some (.ref 1000000), some (.ref 1), some (.ref 126), some (.ref 149), some (.int (nI i)), none, none, none], [.ref 126, .int b], (wK, wR s1, I2, L2, x + 0)) from ?_)
  refine mo_J_callV (q := 126) (rest := [.int b]) hc2 cd_Model_best (mo_dec lok_best (show mo_at lc_best 1623 = some (.invokevirtual 196, 3, 0, 0, 0, .null) from rfl)) (show mo_kV mm_Law_law.1.cls 196 mm_Model_best 0 11 = true by decide +kernel) w_kdm rfl rfl (fitL (by decide) (by decide) (by omega) (by omega) (Nat.le_of_ble_eq_true rfl)) (fun r K2 R2 I3 L3 x2 z => ?_)
  obtain ⟨rfl, rfl, rfl, rfl, T', xs', hI'⟩ := h2 _ _ _ _ _ _ z
  exact mo_J_runS lok_best [1756] 400 _ (show (b = b → JL l n f (1756, [some (.ref 1000000), some (.ref 1), some (.ref 126), some (.ref 149), some (.int (nI i)), none, none, none], [], (wK, wR s1, I3, L3, x + 0 + 0))) ∧ (¬ b = b → JL l n f (1630, [some (.ref 1000000), some (.ref 1), some (.ref 126), some (.ref 149), some (.int (nI i)), none, none, none], [.int 0], (wK, wR s1, I3, L3, x + 0 + 0))) from ⟨fun _ => kk _ _ _ _ _ hI', fun z => absurd rfl z⟩)
def lc_questions : List (Nat × mo_I) := [(1631, .aload_n 1, 1, 0, 0, 0, .null),
  (1632, .aload_n 0, 1, 0, 0, 0, .null),
  (1633, .iload 4, 2, 0, 0, 0, .null),
  (1635, .iconst 1, 1, 0, 0, 0, .int 1),
  (1636, .iadd, 1, 0, 0, 0, .null),
  (1637, .iaload, 1, 0, 0, 2, .null),
  (1638, .invokevirtual 197, 3, 0, 0, 0, .null),
  (1641, .aload_n 2, 1, 0, 0, 0, .null),
  (1642, .aload_n 0, 1, 0, 0, 0, .null),
  (1643, .iload 4, 2, 0, 0, 0, .null),
  (1645, .iconst 1, 1, 0, 0, 0, .int 1),
  (1646, .iadd, 1, 0, 0, 0, .null),
  (1647, .iaload, 1, 0, 0, 2, .null),
  (1648, .invokevirtual 200, 3, 0, 0, 0, .null),
  (1651, .if_icmp .eq 105, 3, 1756, 0, 0, .null),
  (1654, .iconst 0, 1, 0, 0, 0, .int 0),
  (1655, .ireturn, 1, 0, 0, 0, .null)]
set_option maxRecDepth 100000 in
theorem lok_questions : lc_questions.all (mo_chk mm_Law_law.1.cls false mm_Law_law.2.1) = true := by decide +kernel
theorem K_questions {l : Launch} {n : Nat} {f : Nat → Int32} {s : Bool} {I : Nat → Nat → Int32} {L : Nat → Nat → Int64} {T : mo_Tn} {xs : List Nat} {i x : Nat} (hI : wInv s I L T xs) (hx : x ≤ 512) (hi : i + 6 ≤ n) (hn : n ≤ 3072) (kk : ∀ s I L T xs, wInv s I L T xs → JL l n f (1756, [some (.ref 1000000), some (.ref 1), some (.ref 126), some (.ref 149), some (.int (nI i)), none, none, none], [], (wK, wR s, I, L, x))) : JL l n f (1631, [some (.ref 1000000), some (.ref 1), some (.ref 126), some (.ref 149), some (.int (nI i)), none, none, none], [], (wK, wR s, I, L, x)) := by
  refine mo_J_runS lok_questions [] 400 _ (show (1000000 = 1000000 ∧ vp_in (nI i + 1) n) ∧ JL l n f (1638, [some (.ref 1000000), some (.ref 1), some (.ref 126), some (.ref 149), some (.int (nI i)), none, none, none], [.int (f (nI i + 1).toNatClampNeg), .ref 1], (wK, wR s, I, L, x)) from ⟨⟨rfl, vin (k := 1) (by decide) hi hn⟩, ?_⟩)
  obtain ⟨Ψ1, hc1, h1⟩ := P_questions l hI (f (nI i + 1).toNatClampNeg)
  refine mo_J_callV (q := 1) (rest := []) hc1 cd_Gate_questions (mo_dec lok_questions (show mo_at lc_questions 1638 = some (.invokevirtual 197, 3, 0, 0, 0, .null) from rfl)) (show mo_kV mm_Law_law.1.cls 197 mm_Gate_questions 1 0 = true by decide +kernel) w_kd0 rfl rfl (fitL (by decide) (by decide) (by omega) (by omega) (Nat.le_of_ble_eq_true rfl)) (fun r K2 R2 I2 L2 x2 z => ?_)
  obtain ⟨v, s1, rfl, ⟨b, rfl⟩, rfl, rfl, rfl, Ψ2, hc2, h2⟩ := h1 _ _ _ _ _ _ z
  refine mo_J_runS lok_questions [] 400 _ (show (1000000 = 1000000 ∧ vp_in (nI i + 1) n) ∧ JL l n f (1648, [some (.ref 1000000), some (.ref 1), some (.ref 126), some (.ref 149), some (.int (nI i)), none, none, none], [.int (f (nI i + 1).toNatClampNeg), .ref 126, .int b], (wK, wR s1, I2, L2, x + 0)) from ⟨⟨rfl, vin (k := 1) (by decide) hi hn⟩, ?_⟩)
  refine mo_J_callV (q := 126) (rest := [.int b]) hc2 cd_Model_questions (mo_dec lok_questions (show mo_at lc_questions 1648 = some (.invokevirtual 200, 3, 0, 0, 0, .null) from rfl)) (show mo_kV mm_Law_law.1.cls 200 mm_Model_questions 1 11 = true by decide +kernel) w_kdm rfl rfl (fitL (by decide) (by decide) (by omega) (by omega) (Nat.le_of_ble_eq_true rfl)) (fun r K2 R2 I3 L3 x2 z => ?_)
  obtain ⟨rfl, rfl, rfl, rfl, T', xs', hI'⟩ := h2 _ _ _ _ _ _ z
  exact mo_J_runS lok_questions [1756] 400 _ (show (b = b → JL l n f (1756, [some (.ref 1000000), some (.ref 1), some (.ref 126), some (.ref 149), some (.int (nI i)), none, none, none], [], (wK, wR s1, I3, L3, x + 0 + 0))) ∧ (¬ b = b → JL l n f (1655, [some (.ref 1000000), some (.ref 1), some (.ref 126), some (.ref 149), some (.int (nI i)), none, none, none], [.int 0], (wK, wR s1, I3, L3, x + 0 + 0))) from ⟨fun _ => kk _ _ _ _ _ hI', fun z => absurd rfl z⟩)
def lc_drawn : List (Nat × mo_I) := [(1656, .aload_n 1, 1, 0, 0, 0, .null),
  (1657, .aload_n 0, 1, 0, 0, 0, .null),
  (1658, .iload 4, 2, 0, 0, 0, .null),
  (1660, .iconst 1, 1, 0, 0, 0, .int 1),
  (1661, .iadd, 1, 0, 0, 0, .null),
  (1662, .iaload, 1, 0, 0, 2, .null),
  (1663, .invokevirtual 201, 3, 0, 0, 0, .null),
  (1666, .aload_n 2, 1, 0, 0, 0, .null),
  (1667, .aload_n 0, 1, 0, 0, 0, .null),
  (1668, .iload 4, 2, 0, 0, 0, .null),
  (1670, .iconst 1, 1, 0, 0, 0, .int 1),
  (1671, .iadd, 1, 0, 0, 0, .null),
  (1672, .iaload, 1, 0, 0, 2, .null),
  (1673, .invokevirtual 204, 3, 0, 0, 0, .null),
  (1676, .if_icmp .eq 80, 3, 1756, 0, 0, .null),
  (1679, .iconst 0, 1, 0, 0, 0, .int 0),
  (1680, .ireturn, 1, 0, 0, 0, .null)]
set_option maxRecDepth 100000 in
theorem lok_drawn : lc_drawn.all (mo_chk mm_Law_law.1.cls false mm_Law_law.2.1) = true := by decide +kernel
theorem K_drawn {l : Launch} {n : Nat} {f : Nat → Int32} {s : Bool} {I : Nat → Nat → Int32} {L : Nat → Nat → Int64} {T : mo_Tn} {xs : List Nat} {i x : Nat} (hI : wInv s I L T xs) (hx : x ≤ 512) (hi : i + 6 ≤ n) (hn : n ≤ 3072) (kk : ∀ s I L T xs, wInv s I L T xs → JL l n f (1756, [some (.ref 1000000), some (.ref 1), some (.ref 126), some (.ref 149), some (.int (nI i)), none, none, none], [], (wK, wR s, I, L, x))) : JL l n f (1656, [some (.ref 1000000), some (.ref 1), some (.ref 126), some (.ref 149), some (.int (nI i)), none, none, none], [], (wK, wR s, I, L, x)) := by
  refine mo_J_runS lok_drawn [] 400 _ (show (1000000 = 1000000 ∧ vp_in (nI i + 1) n) ∧ JL l n f (1663, [some (.ref 1000000), some (.ref 1), some (.ref 126), some (.ref 149), some (.int (nI i)), none, none, none], [.int (f (nI i + 1).toNatClampNeg), .ref 1], (wK, wR s, I, L, x)) from ⟨⟨rfl, vin (k := 1) (by decide) hi hn⟩, ?_⟩)
  obtain ⟨Ψ1, hc1, h1⟩ := P_drawn l hI (f (nI i + 1).toNatClampNeg)
  refine mo_J_callV (q := 1) (rest := []) hc1 cd_Gate_drawn (mo_dec lok_drawn (show mo_at lc_drawn 1663 = some (.invokevirtual 201, 3, 0, 0, 0, .null) from rfl)) (show mo_kV mm_Law_law.1.cls 201 mm_Gate_drawn 1 0 = true by decide +kernel) w_kd0 rfl rfl (fitL (by decide) (by decide) (by omega) (by omega) (Nat.le_of_ble_eq_true rfl)) (fun r K2 R2 I2 L2 x2 z => ?_)
  obtain ⟨v, s1, rfl, ⟨b, rfl⟩, rfl, rfl, rfl, Ψ2, hc2, h2⟩ := h1 _ _ _ _ _ _ z
  refine mo_J_runS lok_drawn [] 400 _ (show (1000000 = 1000000 ∧ vp_in (nI i + 1) n) ∧ JL l n f (1673, [some (.ref 1000000), some (.ref 1), some (.ref 126), some (.ref 149), some (.int (nI i)), none, none, none], [.int (f (nI i + 1).toNatClampNeg), .ref 126, .int b], (wK, wR s1, I2, L2, x + 0)) from ⟨⟨rfl, vin (k := 1) (by decide) hi hn⟩, ?_⟩)
  refine mo_J_callV (q := 126) (rest := [.int b]) hc2 cd_Model_drawn (mo_dec lok_drawn (show mo_at lc_drawn 1673 = some (.invokevirtual 204, 3, 0, 0, 0, .null) from rfl)) (show mo_kV mm_Law_law.1.cls 204 mm_Model_drawn 1 11 = true by decide +kernel) w_kdm rfl rfl (fitL (by decide) (by decide) (by omega) (by omega) (Nat.le_of_ble_eq_true rfl)) (fun r K2 R2 I3 L3 x2 z => ?_)
  obtain ⟨rfl, rfl, rfl, rfl, T', xs', hI'⟩ := h2 _ _ _ _ _ _ z
  exact mo_J_runS lok_drawn [1756] 400 _ (show (b = b → JL l n f (1756, [some (.ref 1000000), some (.ref 1), some (.ref 126), some (.ref 149), some (.int (nI i)), none, none, none], [], (wK, wR s1, I3, L3, x + 0 + 0))) ∧ (¬ b = b → JL l n f (1680, [some (.ref 1000000), some (.ref 1), some (.ref 126), some (.ref 149), some (.int (nI i)), none, none, none], [.int 0], (wK, wR s1, I3, L3, x + 0 + 0))) from ⟨fun _ => kk _ _ _ _ _ hI', fun z => absurd rfl z⟩)
def lc_image : List (Nat × mo_I) := [(1681, .aload_n 1, 1, 0, 0, 0, .null),
  (1682, .aload_n 0, 1, 0, 0, 0, .null),
  (1683, .iload 4, 2, 0, 0, 0, .null),
  (1685, .iconst 1, 1, 0, 0, 0, .int 1),
  (1686, .iadd, 1, 0, 0, 0, .null),
  (1687, .iaload, 1, 0, 0, 2, .null),
  (1688, .invokevirtual 205, 3, 0, 0, 0, .null),
  (1691, .aload_n 2, 1, 0, 0, 0, .null),
  (1692, .aload_n 0, 1, 0, 0, 0, .null),
  (1693, .iload 4, 2, 0, 0, 0, .null),
  (1695, .iconst 1, 1, 0, 0, 0, .int 1),
  (1696, .iadd, 1, 0, 0, 0, .null),
  (1697, .iaload, 1, 0, 0, 2, .null),
  (1698, .invokevirtual 208, 3, 0, 0, 0, .null),
  (1701, .if_icmp .eq 55, 3, 1756, 0, 0, .null),
  (1704, .iconst 0, 1, 0, 0, 0, .int 0),
  (1705, .ireturn, 1, 0, 0, 0, .null)]
set_option maxRecDepth 100000 in
theorem lok_image : lc_image.all (mo_chk mm_Law_law.1.cls false mm_Law_law.2.1) = true := by decide +kernel
theorem K_image {l : Launch} {n : Nat} {f : Nat → Int32} {s : Bool} {I : Nat → Nat → Int32} {L : Nat → Nat → Int64} {T : mo_Tn} {xs : List Nat} {i x : Nat} (hI : wInv s I L T xs) (hx : x ≤ 512) (hi : i + 6 ≤ n) (hn : n ≤ 3072) (kk : ∀ s I L T xs, wInv s I L T xs → JL l n f (1756, [some (.ref 1000000), some (.ref 1), some (.ref 126), some (.ref 149), some (.int (nI i)), none, none, none], [], (wK, wR s, I, L, x))) : JL l n f (1681, [some (.ref 1000000), some (.ref 1), some (.ref 126), some (.ref 149), some (.int (nI i)), none, none, none], [], (wK, wR s, I, L, x)) := by
  refine mo_J_runS lok_image [] 400 _ (show (1000000 = 1000000 ∧ vp_in (nI i + 1) n) ∧ JL l n f (1688, [some (.ref 1000000), some (.ref 1), some (.ref 126), some (.ref 149), some (.int (nI i)), none, none, none], [.int (f (nI i + 1).toNatClampNeg), .ref 1], (wK, wR s, I, L, x)) from ⟨⟨rfl, vin (k := 1) (by decide) hi hn⟩, ?_⟩)
  obtain ⟨Ψ1, hc1, h1⟩ := P_image l hI (f (nI i + 1).toNatClampNeg)
  refine mo_J_callV (q := 1) (rest := []) hc1 cd_Gate_image (mo_dec lok_image (show mo_at lc_image 1688 = some (.invokevirtual 205, 3, 0, 0, 0, .null) from rfl)) (show mo_kV mm_Law_law.1.cls 205 mm_Gate_image 1 0 = true by decide +kernel) w_kd0 rfl rfl (fitL (by decide) (by decide) (by omega) (by omega) (Nat.le_of_ble_eq_true rfl)) (fun r K2 R2 I2 L2 x2 z => ?_)
  obtain ⟨v, s1, rfl, ⟨b, rfl⟩, rfl, rfl, rfl, Ψ2, hc2, h2⟩ := h1 _ _ _ _ _ _ z
  refine mo_J_runS lok_image [] 400 _ (show (1000000 = 1000000 ∧ vp_in (nI i + 1) n) ∧ JL l n f (1698, [some (.ref 1000000), some (.ref 1), some (.ref 126), some (.ref 149), some (.int (nI i)), none, none, none], [.int (f (nI i + 1).toNatClampNeg), .ref 126, .int b], (wK, wR s1, I2, L2, x + 0)) from ⟨⟨rfl, vin (k := 1) (by decide) hi hn⟩, ?_⟩)
  refine mo_J_callV (q := 126) (rest := [.int b]) hc2 cd_Model_image (mo_dec lok_image (show mo_at lc_image 1698 = some (.invokevirtual 208, 3, 0, 0, 0, .null) from rfl)) (show mo_kV mm_Law_law.1.cls 208 mm_Model_image 1 11 = true by decide +kernel) w_kdm rfl rfl (fitL (by decide) (by decide) (by omega) (by omega) (Nat.le_of_ble_eq_true rfl)) (fun r K2 R2 I3 L3 x2 z => ?_)
  obtain ⟨rfl, rfl, rfl, rfl, T', xs', hI'⟩ := h2 _ _ _ _ _ _ z
  exact mo_J_runS lok_image [1756] 400 _ (show (b = b → JL l n f (1756, [some (.ref 1000000), some (.ref 1), some (.ref 126), some (.ref 149), some (.int (nI i)), none, none, none], [], (wK, wR s1, I3, L3, x + 0 + 0))) ∧ (¬ b = b → JL l n f (1705, [some (.ref 1000000), some (.ref 1), some (.ref 126), some (.ref 149), some (.int (nI i)), none, none, none], [.int 0], (wK, wR s1, I3, L3, x + 0 + 0))) from ⟨fun _ => kk _ _ _ _ _ hI', fun z => absurd rfl z⟩)
def lc_restore : List (Nat × mo_I) := [(1706, .aload_n 1, 1, 0, 0, 0, .null),
  (1707, .aload_n 0, 1, 0, 0, 0, .null),
  (1708, .iload 4, 2, 0, 0, 0, .null),
  (1710, .iconst 1, 1, 0, 0, 0, .int 1),
  (1711, .iadd, 1, 0, 0, 0, .null),
  (1712, .iaload, 1, 0, 0, 2, .null),
  (1713, .invokevirtual 209, 3, 0, 0, 0, .null),
  (1716, .aload_n 2, 1, 0, 0, 0, .null),
  (1717, .aload_n 0, 1, 0, 0, 0, .null),
  (1718, .iload 4, 2, 0, 0, 0, .null),
  (1720, .iconst 1, 1, 0, 0, 0, .int 1),
  (1721, .iadd, 1, 0, 0, 0, .null),
  (1722, .iaload, 1, 0, 0, 2, .null),
  (1723, .invokevirtual 212, 3, 0, 0, 0, .null),
  (1726, .if_icmp .eq 30, 3, 1756, 0, 0, .null),
  (1729, .iconst 0, 1, 0, 0, 0, .int 0),
  (1730, .ireturn, 1, 0, 0, 0, .null)]
set_option maxRecDepth 100000 in
theorem lok_restore : lc_restore.all (mo_chk mm_Law_law.1.cls false mm_Law_law.2.1) = true := by decide +kernel
theorem K_restore {l : Launch} {n : Nat} {f : Nat → Int32} {s : Bool} {I : Nat → Nat → Int32} {L : Nat → Nat → Int64} {T : mo_Tn} {xs : List Nat} {i x : Nat} (hI : wInv s I L T xs) (hx : x ≤ 512) (hi : i + 6 ≤ n) (hn : n ≤ 3072) (kk : ∀ s I L T xs, wInv s I L T xs → JL l n f (1756, [some (.ref 1000000), some (.ref 1), some (.ref 126), some (.ref 149), some (.int (nI i)), none, none, none], [], (wK, wR s, I, L, x))) : JL l n f (1706, [some (.ref 1000000), some (.ref 1), some (.ref 126), some (.ref 149), some (.int (nI i)), none, none, none], [], (wK, wR s, I, L, x)) := by
  refine mo_J_runS lok_restore [] 400 _ (show (1000000 = 1000000 ∧ vp_in (nI i + 1) n) ∧ JL l n f (1713, [some (.ref 1000000), some (.ref 1), some (.ref 126), some (.ref 149), some (.int (nI i)), none, none, none], [.int (f (nI i + 1).toNatClampNeg), .ref 1], (wK, wR s, I, L, x)) from ⟨⟨rfl, vin (k := 1) (by decide) hi hn⟩, ?_⟩)
  obtain ⟨Ψ1, hc1, h1⟩ := P_restore l hI (f (nI i + 1).toNatClampNeg)
  refine mo_J_callV (q := 1) (rest := []) hc1 cd_Gate_restore (mo_dec lok_restore (show mo_at lc_restore 1713 = some (.invokevirtual 209, 3, 0, 0, 0, .null) from rfl)) (show mo_kV mm_Law_law.1.cls 209 mm_Gate_restore 1 0 = true by decide +kernel) w_kd0 rfl rfl (fitL (by decide) (by decide) (by omega) (by omega) (Nat.le_of_ble_eq_true rfl)) (fun r K2 R2 I2 L2 x2 z => ?_)
  obtain ⟨v, s1, rfl, ⟨b, rfl⟩, rfl, rfl, rfl, Ψ2, hc2, h2⟩ := h1 _ _ _ _ _ _ z
  refine mo_J_runS lok_restore [] 400 _ (show (1000000 = 1000000 ∧ vp_in (nI i + 1) n) ∧ JL l n f (1723, [some (.ref 1000000), some (.ref 1), some (.ref 126), some (.ref 149), some (.int (nI i)), none, none, none], [.int (f (nI i + 1).toNatClampNeg), .ref 126, .int b], (wK, wR s1, I2, L2, x + 0)) from ⟨⟨rfl, vin (k := 1) (by decide) hi hn⟩, ?_⟩)
  refine mo_J_callV (q := 126) (rest := [.int b]) hc2 cd_Model_restore (mo_dec lok_restore (show mo_at lc_restore 1723 = some (.invokevirtual 212, 3, 0, 0, 0, .null) from rfl)) (show mo_kV mm_Law_law.1.cls 212 mm_Model_restore 1 11 = true by decide +kernel) w_kdm rfl rfl (fitL (by decide) (by decide) (by omega) (by omega) (Nat.le_of_ble_eq_true rfl)) (fun r K2 R2 I3 L3 x2 z => ?_)
  obtain ⟨rfl, rfl, rfl, rfl, T', xs', hI'⟩ := h2 _ _ _ _ _ _ z
  exact mo_J_runS lok_restore [1756] 400 _ (show (b = b → JL l n f (1756, [some (.ref 1000000), some (.ref 1), some (.ref 126), some (.ref 149), some (.int (nI i)), none, none, none], [], (wK, wR s1, I3, L3, x + 0 + 0))) ∧ (¬ b = b → JL l n f (1730, [some (.ref 1000000), some (.ref 1), some (.ref 126), some (.ref 149), some (.int (nI i)), none, none, none], [.int 0], (wK, wR s1, I3, L3, x + 0 + 0))) from ⟨fun _ => kk _ _ _ _ _ hI', fun z => absurd rfl z⟩)
def lc_count : List (Nat × mo_I) := [(1731, .aload_n 1, 1, 0, 0, 0, .null),
  (1732, .aload_n 0, 1, 0, 0, 0, .null),
  (1733, .iload 4, 2, 0, 0, 0, .null),
  (1735, .iconst 1, 1, 0, 0, 0, .int 1),
  (1736, .iadd, 1, 0, 0, 0, .null),
  (1737, .iaload, 1, 0, 0, 2, .null),
  (1738, .invokevirtual 213, 3, 0, 0, 0, .null),
  (1741, .aload_n 2, 1, 0, 0, 0, .null),
  (1742, .aload_n 0, 1, 0, 0, 0, .null),
  (1743, .iload 4, 2, 0, 0, 0, .null),
  (1745, .iconst 1, 1, 0, 0, 0, .int 1),
  (1746, .iadd, 1, 0, 0, 0, .null),
  (1747, .iaload, 1, 0, 0, 2, .null),
  (1748, .invokevirtual 216, 3, 0, 0, 0, .null),
  (1751, .if_icmp .eq 5, 3, 1756, 0, 0, .null),
  (1754, .iconst 0, 1, 0, 0, 0, .int 0),
  (1755, .ireturn, 1, 0, 0, 0, .null)]
set_option maxRecDepth 100000 in
theorem lok_count : lc_count.all (mo_chk mm_Law_law.1.cls false mm_Law_law.2.1) = true := by decide +kernel
theorem K_count {l : Launch} {n : Nat} {f : Nat → Int32} {s : Bool} {I : Nat → Nat → Int32} {L : Nat → Nat → Int64} {T : mo_Tn} {xs : List Nat} {i x : Nat} (hI : wInv s I L T xs) (hx : x ≤ 512) (hi : i + 6 ≤ n) (hn : n ≤ 3072) (kk : ∀ s I L T xs, wInv s I L T xs → JL l n f (1756, [some (.ref 1000000), some (.ref 1), some (.ref 126), some (.ref 149), some (.int (nI i)), none, none, none], [], (wK, wR s, I, L, x))) : JL l n f (1731, [some (.ref 1000000), some (.ref 1), some (.ref 126), some (.ref 149), some (.int (nI i)), none, none, none], [], (wK, wR s, I, L, x)) := by
  refine mo_J_runS lok_count [] 400 _ (show (1000000 = 1000000 ∧ vp_in (nI i + 1) n) ∧ JL l n f (1738, [some (.ref 1000000), some (.ref 1), some (.ref 126), some (.ref 149), some (.int (nI i)), none, none, none], [.int (f (nI i + 1).toNatClampNeg), .ref 1], (wK, wR s, I, L, x)) from ⟨⟨rfl, vin (k := 1) (by decide) hi hn⟩, ?_⟩)
  obtain ⟨Ψ1, hc1, h1⟩ := P_count l hI (f (nI i + 1).toNatClampNeg)
  refine mo_J_callV (q := 1) (rest := []) hc1 cd_Gate_count (mo_dec lok_count (show mo_at lc_count 1738 = some (.invokevirtual 213, 3, 0, 0, 0, .null) from rfl)) (show mo_kV mm_Law_law.1.cls 213 mm_Gate_count 1 0 = true by decide +kernel) w_kd0 rfl rfl (fitL (by decide) (by decide) (by omega) (by omega) (Nat.le_of_ble_eq_true rfl)) (fun r K2 R2 I2 L2 x2 z => ?_)
  obtain ⟨v, s1, rfl, ⟨b, rfl⟩, rfl, rfl, rfl, Ψ2, hc2, h2⟩ := h1 _ _ _ _ _ _ z
  refine mo_J_runS lok_count [] 400 _ (show (1000000 = 1000000 ∧ vp_in (nI i + 1) n) ∧ JL l n f (1748, [some (.ref 1000000), some (.ref 1), some (.ref 126), some (.ref 149), some (.int (nI i)), none, none, none], [.int (f (nI i + 1).toNatClampNeg), .ref 126, .int b], (wK, wR s1, I2, L2, x + 0)) from ⟨⟨rfl, vin (k := 1) (by decide) hi hn⟩, ?_⟩)
  refine mo_J_callV (q := 126) (rest := [.int b]) hc2 cd_Model_count (mo_dec lok_count (show mo_at lc_count 1748 = some (.invokevirtual 216, 3, 0, 0, 0, .null) from rfl)) (show mo_kV mm_Law_law.1.cls 216 mm_Model_count 1 11 = true by decide +kernel) w_kdm rfl rfl (fitL (by decide) (by decide) (by omega) (by omega) (Nat.le_of_ble_eq_true rfl)) (fun r K2 R2 I3 L3 x2 z => ?_)
  obtain ⟨rfl, rfl, rfl, rfl, T', xs', hI'⟩ := h2 _ _ _ _ _ _ z
  exact mo_J_runS lok_count [1756] 400 _ (show (b = b → JL l n f (1756, [some (.ref 1000000), some (.ref 1), some (.ref 126), some (.ref 149), some (.int (nI i)), none, none, none], [], (wK, wR s1, I3, L3, x + 0 + 0))) ∧ (¬ b = b → JL l n f (1755, [some (.ref 1000000), some (.ref 1), some (.ref 126), some (.ref 149), some (.int (nI i)), none, none, none], [.int 0], (wK, wR s1, I3, L3, x + 0 + 0))) from ⟨fun _ => kk _ _ _ _ _ hI', fun z => absurd rfl z⟩)
