/-! The law's loop. -/
def lc_head : List (Nat × mo_I) := [(23, .iload 4, 2, 0, 0, 0, .null),
  (25, .aload_n 0, 1, 0, 0, 0, .null),
  (26, .arraylength, 1, 0, 0, 3, .null),
  (27, .bipush 6, 2, 0, 0, 0, .int 6),
  (29, .isub, 1, 0, 0, 0, .null),
  (30, .if_icmp .gt 1732, 3, 1762, 0, 0, .null),
  (33, .aload_n 0, 1, 0, 0, 0, .null),
  (34, .iload 4, 2, 0, 0, 0, .null),
  (36, .iaload, 1, 0, 0, 2, .null),
  (37, .bipush 63, 2, 0, 0, 0, .int 63),
  (39, .iand, 1, 0, 0, 0, .null),
  (1762, .iconst 1, 1, 0, 0, 0, .int 1)]
set_option maxRecDepth 100000 in
theorem lok_head : lc_head.all (mo_chk mm_Law_law.1.cls false mm_Law_law.2.1) = true := by decide +kernel
def lc_tail : List (Nat × mo_I) := [(1756, .iinc 4 6, 3, 0, 0, 0, .null),
  (1759, .goto (-1736), 3, 23, 0, 0, .null),
  (1762, .iconst 1, 1, 0, 0, 0, .int 1),
  (1763, .ireturn, 1, 0, 0, 0, .null)]
set_option maxRecDepth 100000 in
theorem lok_tail : lc_tail.all (mo_chk mm_Law_law.1.cls false mm_Law_law.2.1) = true := by decide +kernel
theorem nI_toI {a : Nat} (h : a < 2 ^ 31) : (nI a).toInt = a := Int32.toInt_ofNat_of_lt h
theorem len6 {n i : Nat} (hn : n ≤ 3072) (hi : i ≤ 4000) : (Int32.ofNat n - 6 < nI i) ↔ n < i + 6 := by
  have e1 : (nI n - 6).toInt = (n : Int) - 6 := by
    rw [Int32.toInt_sub, nI_toI (by omega), show (6 : Int32).toInt = 6 from rfl]
    exact Int.bmod_eq_of_le (by omega) (by omega)
  show (nI n - 6 < nI i) ↔ _
  rw [Int32.lt_iff_toInt_lt, e1, nI_toI (by omega)]
  omega
def lc_sw : List (Nat × mo_I) := [(40, .tableswitch 1716 0 42 #[188, 261, 286, 299, 312, 380, 405, 442, 491, 570, 607, 644, 681, 706, 719, 732, 799, 836, 873, 886, 965, 990, 1069, 1136, 1161, 1186, 1223, 1260, 1273, 1299, 1349, 1428, 1465, 1502, 1515, 1528, 1553, 1578, 1591, 1616, 1641, 1666, 1691], 188, 0, 0, 0, .null)]
set_option maxRecDepth 100000 in
theorem lok_sw : lc_sw.all (mo_chk mm_Law_law.1.cls false mm_Law_law.2.1) = true := by decide +kernel
section L
variable {l : Launch} {n : Nat} {f : Nat → Int32}
theorem law_next {i : Nat} {σ : mo_S} (k : JL l n f (23, [some (.ref 1000000), some (.ref 1), some (.ref 126), some (.ref 149), some (.int (nI (i + 6))), none, none, none], [], σ)) : JL l n f (1756, [some (.ref 1000000), some (.ref 1), some (.ref 126), some (.ref 149), some (.int (nI i)), none, none, none], [], σ) := by
  obtain ⟨K, R, I, L, x⟩ := σ
  refine mo_J_runS lok_tail [23] 400 _ (show JL l n f (23, [some (.ref 1000000), some (.ref 1), some (.ref 126), some (.ref 149), some (.int (nI i + 6)), none, none, none], [], (K, R, I, L, x)) from ?_)
  rw [show nI i + 6 = nI (i + 6) from nI_add i 6]
  exact k
theorem law_end {i x : Nat} {s : Bool} {I : Nat → Nat → Int32} {L : Nat → Nat → Int64} (hx : x ≤ 512) : JL l n f (1763, [some (.ref 1000000), some (.ref 1), some (.ref 126), some (.ref 149), some (.int (nI i)), none, none, none], [.int 1], (wK, wR s, I, L, x)) :=
  mo_J_wide (x' := 512) hx (mo_J_zret (mo_dec lok_tail (show mo_at lc_tail 1763 = some (.ireturn, 1, 0, 0, 0, .null) from rfl)) rfl (Or.inr rfl) rfl (by rw [w_len]; rfl) (by rw [w_sz]; rfl) (fun _ _ _ _ _ _ _ h _ => h))
theorem law_case (hfl : l.flags = pinnedFlags ++ [noTraceFlag]) (hn : n ≤ 3072) (hPt : ∀ s I L T xs, wInv s I L T xs → wPair l mm_Gate_town 6 [.ref 1] mm_Model_town 7 [.ref 126] s I L) (hPs : ∀ s I L T xs, wInv s I L T xs → wPair l mm_Gate_sights 6 [.ref 1] mm_Model_sights 5 [.ref 126] s I L) {i x : Nat} {s : Bool} {I : Nat → Nat → Int32} {L : Nat → Nat → Int64} {T : mo_Tn} {xs : List Nat} {v : Int32} (h2 : 6 * x ≤ i) (hi : i + 6 ≤ n) (hI : wInv s I L T xs) (ih : i + 6 ≤ n → ∀ x s I L T xs, 6 * x ≤ i + 6 → wInv s I L T xs → JL l n f (23, [some (.ref 1000000), some (.ref 1), some (.ref 126), some (.ref 149), some (.int (nI (i + 6))), none, none, none], [], (wK, wR s, I, L, x))) : JL l n f (40, [some (.ref 1000000), some (.ref 1), some (.ref 126), some (.ref 149), some (.int (nI i)), none, none, none], [.int v], (wK, wR s, I, L, x)) := by
  refine mo_J_tsw (dflt := 1716) (lo := 0) (hi := 42) (offs := #[188, 261, 286, 299, 312, 380, 405, 442, 491, 570, 607, 644, 681, 706, 719, 732, 799, 836, 873, 886, 965, 990, 1069, 1136, 1161, 1186, 1223, 1260, 1273, 1299, 1349, 1428, 1465, 1502, 1515, 1528, 1553, 1578, 1591, 1616, 1641, 1666, 1691]) (len := 188) (mo_dec (pc := 40) lok_sw rfl) (by decide) (by decide) (by decide) (fun j off h hv => ?_) (fun _ => show JL l n f (1756, [some (.ref 1000000), some (.ref 1), some (.ref 126), some (.ref 149), some (.int (nI i)), none, none, none], [], (wK, wR s, I, L, x)) from law_next (ih hi x s I L T xs (by omega) hI))
  exact (match j, off, h, hv with
    | 0, off, h, _ => by
      obtain rfl : (188 : Int) = off := Option.some.inj h
      exact (show JL l n f (228, [some (.ref 1000000), some (.ref 1), some (.ref 126), some (.ref 149), some (.int (nI i)), none, none, none], [], (wK, wR s, I, L, x)) from K_feed hI (by omega) hi hn (fun s I L T xs hJ => law_next (ih hi x s I L T xs (by omega) hJ)))
    | 1, off, h, _ => by
      obtain rfl : (261 : Int) = off := Option.some.inj h
      exact (show JL l n f (301, [some (.ref 1000000), some (.ref 1), some (.ref 126), some (.ref 149), some (.int (nI i)), none, none, none], [], (wK, wR s, I, L, x)) from K_end hI (by omega) hi hn (fun s I L T xs hJ => law_next (ih hi x s I L T xs (by omega) hJ)))
    | 2, off, h, _ => by
      obtain rfl : (286 : Int) = off := Option.some.inj h
      exact (show JL l n f (326, [some (.ref 1000000), some (.ref 1), some (.ref 126), some (.ref 149), some (.int (nI i)), none, none, none], [], (wK, wR s, I, L, x)) from K_town hI (hPt _ _ _ _ _ hI) (by omega) hi hn (fun s I L T xs hJ => law_next (ih hi x s I L T xs (by omega) hJ)))
    | 3, off, h, _ => by
      obtain rfl : (299 : Int) = off := Option.some.inj h
      exact (show JL l n f (339, [some (.ref 1000000), some (.ref 1), some (.ref 126), some (.ref 149), some (.int (nI i)), none, none, none], [], (wK, wR s, I, L, x)) from K_fault hI (by omega) hi hn (fun s I L T xs hJ => law_next (ih hi x s I L T xs (by omega) hJ)))
    | 4, off, h, _ => by
      obtain rfl : (312 : Int) = off := Option.some.inj h
      exact (show JL l n f (352, [some (.ref 1000000), some (.ref 1), some (.ref 126), some (.ref 149), some (.int (nI i)), none, none, none], [], (wK, wR s, I, L, x)) from K_man hfl hI (by omega) hi hn (fun s I L T xs hJ => law_next (ih hi (x + 1) s I L T xs (by omega) hJ)))
    | 5, off, h, _ => by
      obtain rfl : (380 : Int) = off := Option.some.inj h
      exact (show JL l n f (420, [some (.ref 1000000), some (.ref 1), some (.ref 126), some (.ref 149), some (.int (nI i)), none, none, none], [], (wK, wR s, I, L, x)) from K_owner hI (by omega) hi hn (fun s I L T xs hJ => law_next (ih hi x s I L T xs (by omega) hJ)))
    | 6, off, h, _ => by
      obtain rfl : (405 : Int) = off := Option.some.inj h
      exact (show JL l n f (445, [some (.ref 1000000), some (.ref 1), some (.ref 126), some (.ref 149), some (.int (nI i)), none, none, none], [], (wK, wR s, I, L, x)) from K_comer hI (by omega) hi hn (fun s I L T xs hJ => law_next (ih hi x s I L T xs (by omega) hJ)))
    | 7, off, h, _ => by
      obtain rfl : (442 : Int) = off := Option.some.inj h
      exact (show JL l n f (482, [some (.ref 1000000), some (.ref 1), some (.ref 126), some (.ref 149), some (.int (nI i)), none, none, none], [], (wK, wR s, I, L, x)) from K_when hI (by omega) hi hn (fun s I L T xs hJ => law_next (ih hi x s I L T xs (by omega) hJ)))
    | 8, off, h, _ => by
      obtain rfl : (491 : Int) = off := Option.some.inj h
      exact (show JL l n f (531, [some (.ref 1000000), some (.ref 1), some (.ref 126), some (.ref 149), some (.int (nI i)), none, none, none], [], (wK, wR s, I, L, x)) from K_mean hfl hI (by omega) hi hn (fun s I L T xs hJ => law_next (ih hi (x + 1) s I L T xs (by omega) hJ)))
    | 9, off, h, _ => by
      obtain rfl : (570 : Int) = off := Option.some.inj h
      exact (show JL l n f (610, [some (.ref 1000000), some (.ref 1), some (.ref 126), some (.ref 149), some (.int (nI i)), none, none, none], [], (wK, wR s, I, L, x)) from K_give hI (by omega) hi hn (fun s I L T xs hJ => law_next (ih hi x s I L T xs (by omega) hJ)))
    | 10, off, h, _ => by
      obtain rfl : (607 : Int) = off := Option.some.inj h
      exact (show JL l n f (647, [some (.ref 1000000), some (.ref 1), some (.ref 126), some (.ref 149), some (.int (nI i)), none, none, none], [], (wK, wR s, I, L, x)) from K_gave hI (by omega) hi hn (fun s I L T xs hJ => law_next (ih hi x s I L T xs (by omega) hJ)))
    | 11, off, h, _ => by
      obtain rfl : (644 : Int) = off := Option.some.inj h
      exact (show JL l n f (684, [some (.ref 1000000), some (.ref 1), some (.ref 126), some (.ref 149), some (.int (nI i)), none, none, none], [], (wK, wR s, I, L, x)) from K_bearer hI (by omega) hi hn (fun s I L T xs hJ => law_next (ih hi x s I L T xs (by omega) hJ)))
    | 12, off, h, _ => by
      obtain rfl : (681 : Int) = off := Option.some.inj h
      exact (show JL l n f (721, [some (.ref 1000000), some (.ref 1), some (.ref 126), some (.ref 149), some (.int (nI i)), none, none, none], [], (wK, wR s, I, L, x)) from K_idle hI (by omega) hi hn (fun s I L T xs hJ => law_next (ih hi x s I L T xs (by omega) hJ)))
    | 13, off, h, _ => by
      obtain rfl : (706 : Int) = off := Option.some.inj h
      exact (show JL l n f (746, [some (.ref 1000000), some (.ref 1), some (.ref 126), some (.ref 149), some (.int (nI i)), none, none, none], [], (wK, wR s, I, L, x)) from K_dawn hI (by omega) hi hn (fun s I L T xs hJ => law_next (ih hi x s I L T xs (by omega) hJ)))
    | 14, off, h, _ => by
      obtain rfl : (719 : Int) = off := Option.some.inj h
      exact (show JL l n f (759, [some (.ref 1000000), some (.ref 1), some (.ref 126), some (.ref 149), some (.int (nI i)), none, none, none], [], (wK, wR s, I, L, x)) from K_back hI (by omega) hi hn (fun s I L T xs hJ => law_next (ih hi x s I L T xs (by omega) hJ)))
    | 15, off, h, _ => by
      obtain rfl : (732 : Int) = off := Option.some.inj h
      exact (show JL l n f (772, [some (.ref 1000000), some (.ref 1), some (.ref 126), some (.ref 149), some (.int (nI i)), none, none, none], [], (wK, wR s, I, L, x)) from K_out hfl hI (by omega) hi hn (fun s I L T xs hJ => law_next (ih hi (x + 1) s I L T xs (by omega) hJ)))
    | 16, off, h, _ => by
      obtain rfl : (799 : Int) = off := Option.some.inj h
      exact (show JL l n f (839, [some (.ref 1000000), some (.ref 1), some (.ref 126), some (.ref 149), some (.int (nI i)), none, none, none], [], (wK, wR s, I, L, x)) from K_debt hI (by omega) hi hn (fun s I L T xs hJ => law_next (ih hi x s I L T xs (by omega) hJ)))
    | 17, off, h, _ => by
      obtain rfl : (836 : Int) = off := Option.some.inj h
      exact (show JL l n f (876, [some (.ref 1000000), some (.ref 1), some (.ref 126), some (.ref 149), some (.int (nI i)), none, none, none], [], (wK, wR s, I, L, x)) from K_net hI (by omega) hi hn (fun s I L T xs hJ => law_next (ih hi x s I L T xs (by omega) hJ)))
    | 18, off, h, _ => by
      obtain rfl : (873 : Int) = off := Option.some.inj h
      exact (show JL l n f (913, [some (.ref 1000000), some (.ref 1), some (.ref 126), some (.ref 149), some (.int (nI i)), none, none, none], [], (wK, wR s, I, L, x)) from K_rings hI (by omega) hi hn (fun s I L T xs hJ => law_next (ih hi x s I L T xs (by omega) hJ)))
    | 19, off, h, _ => by
      obtain rfl : (886 : Int) = off := Option.some.inj h
      exact (show JL l n f (926, [some (.ref 1000000), some (.ref 1), some (.ref 126), some (.ref 149), some (.int (nI i)), none, none, none], [], (wK, wR s, I, L, x)) from K_matched hfl hI (by omega) hi hn (fun s I L T xs hJ => law_next (ih hi (x + 1) s I L T xs (by omega) hJ)))
    | 20, off, h, _ => by
      obtain rfl : (965 : Int) = off := Option.some.inj h
      exact (show JL l n f (1005, [some (.ref 1000000), some (.ref 1), some (.ref 126), some (.ref 149), some (.int (nI i)), none, none, none], [], (wK, wR s, I, L, x)) from K_matchedAs hI (by omega) hi hn (fun s I L T xs hJ => law_next (ih hi x s I L T xs (by omega) hJ)))
    | 21, off, h, _ => by
      obtain rfl : (990 : Int) = off := Option.some.inj h
      exact (show JL l n f (1030, [some (.ref 1000000), some (.ref 1), some (.ref 126), some (.ref 149), some (.int (nI i)), none, none, none], [], (wK, wR s, I, L, x)) from K_want hfl hI (by omega) hi hn (fun s I L T xs hJ => law_next (ih hi (x + 1) s I L T xs (by omega) hJ)))
    | 22, off, h, _ => by
      obtain rfl : (1069 : Int) = off := Option.some.inj h
      exact (show JL l n f (1109, [some (.ref 1000000), some (.ref 1), some (.ref 126), some (.ref 149), some (.int (nI i)), none, none, none], [], (wK, wR s, I, L, x)) from K_serial hfl hI (by omega) hi hn (fun s I L T xs hJ => law_next (ih hi (x + 1) s I L T xs (by omega) hJ)))
    | 23, off, h, _ => by
      obtain rfl : (1136 : Int) = off := Option.some.inj h
      exact (show JL l n f (1176, [some (.ref 1000000), some (.ref 1), some (.ref 126), some (.ref 149), some (.int (nI i)), none, none, none], [], (wK, wR s, I, L, x)) from K_serialAs hI (by omega) hi hn (fun s I L T xs hJ => law_next (ih hi x s I L T xs (by omega) hJ)))
    | 24, off, h, _ => by
      obtain rfl : (1161 : Int) = off := Option.some.inj h
      exact (show JL l n f (1201, [some (.ref 1000000), some (.ref 1), some (.ref 126), some (.ref 149), some (.int (nI i)), none, none, none], [], (wK, wR s, I, L, x)) from K_envies hI (by omega) hi hn (fun s I L T xs hJ => law_next (ih hi x s I L T xs (by omega) hJ)))
    | 25, off, h, _ => by
      obtain rfl : (1186 : Int) = off := Option.some.inj h
      exact (show JL l n f (1226, [some (.ref 1000000), some (.ref 1), some (.ref 126), some (.ref 149), some (.int (nI i)), none, none, none], [], (wK, wR s, I, L, x)) from K_inTown hI (by omega) hi hn (fun s I L T xs hJ => law_next (ih hi x s I L T xs (by omega) hJ)))
    | 26, off, h, _ => by
      obtain rfl : (1223 : Int) = off := Option.some.inj h
      exact (show JL l n f (1263, [some (.ref 1000000), some (.ref 1), some (.ref 126), some (.ref 149), some (.int (nI i)), none, none, none], [], (wK, wR s, I, L, x)) from K_crowd hI (by omega) hi hn (fun s I L T xs hJ => law_next (ih hi x s I L T xs (by omega) hJ)))
    | 27, off, h, _ => by
      obtain rfl : (1260 : Int) = off := Option.some.inj h
      exact (show JL l n f (1300, [some (.ref 1000000), some (.ref 1), some (.ref 126), some (.ref 149), some (.int (nI i)), none, none, none], [], (wK, wR s, I, L, x)) from K_rests hI (by omega) hi hn (fun s I L T xs hJ => law_next (ih hi x s I L T xs (by omega) hJ)))
    | 28, off, h, _ => by
      obtain rfl : (1273 : Int) = off := Option.some.inj h
      exact (show JL l n f (1313, [some (.ref 1000000), some (.ref 1), some (.ref 126), some (.ref 149), some (.int (nI i)), none, none, none], [], (wK, wR s, I, L, x)) from K_lots hI (by omega) hi hn (fun s I L T xs hJ => law_next (ih hi x s I L T xs (by omega) hJ)))
    | 29, off, h, _ => by
      obtain rfl : (1299 : Int) = off := Option.some.inj h
      exact (show JL l n f (1339, [some (.ref 1000000), some (.ref 1), some (.ref 126), some (.ref 149), some (.int (nI i)), none, none, none], [], (wK, wR s, I, L, x)) from K_lotsOf hI (by omega) hi hn (fun s I L T xs hJ => law_next (ih hi x s I L T xs (by omega) hJ)))
    | 30, off, h, _ => by
      obtain rfl : (1349 : Int) = off := Option.some.inj h
      exact (show JL l n f (1389, [some (.ref 1000000), some (.ref 1), some (.ref 126), some (.ref 149), some (.int (nI i)), none, none, none], [], (wK, wR s, I, L, x)) from K_lotMean hfl hI (by omega) hi hn (fun s I L T xs hJ => law_next (ih hi (x + 1) s I L T xs (by omega) hJ)))
    | 31, off, h, _ => by
      obtain rfl : (1428 : Int) = off := Option.some.inj h
      exact (show JL l n f (1468, [some (.ref 1000000), some (.ref 1), some (.ref 126), some (.ref 149), some (.int (nI i)), none, none, none], [], (wK, wR s, I, L, x)) from K_meets hI (by omega) hi hn (fun s I L T xs hJ => law_next (ih hi x s I L T xs (by omega) hJ)))
    | 32, off, h, _ => by
      obtain rfl : (1465 : Int) = off := Option.some.inj h
      exact (show JL l n f (1505, [some (.ref 1000000), some (.ref 1), some (.ref 126), some (.ref 149), some (.int (nI i)), none, none, none], [], (wK, wR s, I, L, x)) from K_later hI (by omega) hi hn (fun s I L T xs hJ => law_next (ih hi x s I L T xs (by omega) hJ)))
    | 33, off, h, _ => by
      obtain rfl : (1502 : Int) = off := Option.some.inj h
      exact (show JL l n f (1542, [some (.ref 1000000), some (.ref 1), some (.ref 126), some (.ref 149), some (.int (nI i)), none, none, none], [], (wK, wR s, I, L, x)) from K_sights hI (hPs _ _ _ _ _ hI) (by omega) hi hn (fun s I L T xs hJ => law_next (ih hi x s I L T xs (by omega) hJ)))
    | 34, off, h, _ => by
      obtain rfl : (1515 : Int) = off := Option.some.inj h
      exact (show JL l n f (1555, [some (.ref 1000000), some (.ref 1), some (.ref 126), some (.ref 149), some (.int (nI i)), none, none, none], [], (wK, wR s, I, L, x)) from K_holds hI (by omega) hi hn (fun s I L T xs hJ => law_next (ih hi x s I L T xs (by omega) hJ)))
    | 35, off, h, _ => by
      obtain rfl : (1528 : Int) = off := Option.some.inj h
      exact (show JL l n f (1568, [some (.ref 1000000), some (.ref 1), some (.ref 126), some (.ref 149), some (.int (nI i)), none, none, none], [], (wK, wR s, I, L, x)) from K_could hI (by omega) hi hn (fun s I L T xs hJ => law_next (ih hi x s I L T xs (by omega) hJ)))
    | 36, off, h, _ => by
      obtain rfl : (1553 : Int) = off := Option.some.inj h
      exact (show JL l n f (1593, [some (.ref 1000000), some (.ref 1), some (.ref 126), some (.ref 149), some (.int (nI i)), none, none, none], [], (wK, wR s, I, L, x)) from K_look hI (by omega) hi hn (fun s I L T xs hJ => law_next (ih hi x s I L T xs (by omega) hJ)))
    | 37, off, h, _ => by
      obtain rfl : (1578 : Int) = off := Option.some.inj h
      exact (show JL l n f (1618, [some (.ref 1000000), some (.ref 1), some (.ref 126), some (.ref 149), some (.int (nI i)), none, none, none], [], (wK, wR s, I, L, x)) from K_best hI (by omega) hi hn (fun s I L T xs hJ => law_next (ih hi x s I L T xs (by omega) hJ)))
    | 38, off, h, _ => by
      obtain rfl : (1591 : Int) = off := Option.some.inj h
      exact (show JL l n f (1631, [some (.ref 1000000), some (.ref 1), some (.ref 126), some (.ref 149), some (.int (nI i)), none, none, none], [], (wK, wR s, I, L, x)) from K_questions hI (by omega) hi hn (fun s I L T xs hJ => law_next (ih hi x s I L T xs (by omega) hJ)))
    | 39, off, h, _ => by
      obtain rfl : (1616 : Int) = off := Option.some.inj h
      exact (show JL l n f (1656, [some (.ref 1000000), some (.ref 1), some (.ref 126), some (.ref 149), some (.int (nI i)), none, none, none], [], (wK, wR s, I, L, x)) from K_drawn hI (by omega) hi hn (fun s I L T xs hJ => law_next (ih hi x s I L T xs (by omega) hJ)))
    | 40, off, h, _ => by
      obtain rfl : (1641 : Int) = off := Option.some.inj h
      exact (show JL l n f (1681, [some (.ref 1000000), some (.ref 1), some (.ref 126), some (.ref 149), some (.int (nI i)), none, none, none], [], (wK, wR s, I, L, x)) from K_image hI (by omega) hi hn (fun s I L T xs hJ => law_next (ih hi x s I L T xs (by omega) hJ)))
    | 41, off, h, _ => by
      obtain rfl : (1666 : Int) = off := Option.some.inj h
      exact (show JL l n f (1706, [some (.ref 1000000), some (.ref 1), some (.ref 126), some (.ref 149), some (.int (nI i)), none, none, none], [], (wK, wR s, I, L, x)) from K_restore hI (by omega) hi hn (fun s I L T xs hJ => law_next (ih hi x s I L T xs (by omega) hJ)))
    | 42, off, h, _ => by
      obtain rfl : (1691 : Int) = off := Option.some.inj h
      exact (show JL l n f (1731, [some (.ref 1000000), some (.ref 1), some (.ref 126), some (.ref 149), some (.int (nI i)), none, none, none], [], (wK, wR s, I, L, x)) from K_count hI (by omega) hi hn (fun s I L T xs hJ => law_next (ih hi x s I L T xs (by omega) hJ)))
    | k + 43, off, h, _ => by
      rw [Array.getElem?_eq_none (show 43 ≤ k + 43 by omega)] at h
      cases h)
theorem law_at (hfl : l.flags = pinnedFlags ++ [noTraceFlag]) (hn : n ≤ 3072) (hPt : ∀ s I L T xs, wInv s I L T xs → wPair l mm_Gate_town 6 [.ref 1] mm_Model_town 7 [.ref 126] s I L) (hPs : ∀ s I L T xs, wInv s I L T xs → wPair l mm_Gate_sights 6 [.ref 1] mm_Model_sights 5 [.ref 126] s I L) {i x : Nat} {s : Bool} {I : Nat → Nat → Int32} {L : Nat → Nat → Int64} {T : mo_Tn} {xs : List Nat} (h2 : 6 * x ≤ i) (h3 : i ≤ 3077) (hI : wInv s I L T xs) (ih : i + 6 ≤ n → ∀ x s I L T xs, 6 * x ≤ i + 6 → wInv s I L T xs → JL l n f (23, [some (.ref 1000000), some (.ref 1), some (.ref 126), some (.ref 149), some (.int (nI (i + 6))), none, none, none], [], (wK, wR s, I, L, x))) : JL l n f (23, [some (.ref 1000000), some (.ref 1), some (.ref 126), some (.ref 149), some (.int (nI i)), none, none, none], [], (wK, wR s, I, L, x)) := by
  refine mo_J_runS lok_head [26] 400 _ (show JL l n f (26, [some (.ref 1000000), some (.ref 1), some (.ref 126), some (.ref 149), some (.int (nI i)), none, none, none], [.ref 1000000, .int (nI i)], (wK, wR s, I, L, x)) from ?_)
  refine mo_J_len (mo_dec lok_head (show mo_at lc_head 26 = some (.arraylength, 1, 0, 0, 3, .null) from rfl)) ?_
  refine mo_J_runS lok_head [] 400 _ (show ((Int32.ofNat n - 6 < nI i) → JL l n f (1763, [some (.ref 1000000), some (.ref 1), some (.ref 126), some (.ref 149), some (.int (nI i)), none, none, none], [.int 1], (wK, wR s, I, L, x))) ∧ (¬ (Int32.ofNat n - 6 < nI i) → (1000000 = 1000000 ∧ vp_in (nI i) n) ∧ JL l n f (40, [some (.ref 1000000), some (.ref 1), some (.ref 126), some (.ref 149), some (.int (nI i)), none, none, none], [.int (f (nI i).toNatClampNeg &&& 63)], (wK, wR s, I, L, x))) from ⟨fun _ => law_end (by omega), fun c => ?_⟩)
  have hi : i + 6 ≤ n := by
    have h : ¬ (n < i + 6) := fun z => c ((len6 hn (by omega)).mpr z)
    omega
  exact ⟨⟨rfl, mo_vpn (Eq.refl (nI i)) (by omega) (by omega)⟩, law_case hfl hn hPt hPs h2 hi hI ih⟩
theorem law_loop (hfl : l.flags = pinnedFlags ++ [noTraceFlag]) (hn : n ≤ 3072) (hPt : ∀ s I L T xs, wInv s I L T xs → wPair l mm_Gate_town 6 [.ref 1] mm_Model_town 7 [.ref 126] s I L) (hPs : ∀ s I L T xs, wInv s I L T xs → wPair l mm_Gate_sights 6 [.ref 1] mm_Model_sights 5 [.ref 126] s I L) : ∀ r i x s I L T xs, n ≤ i + 6 * r + 5 → 6 * x ≤ i → i ≤ 3077 → wInv s I L T xs → JL l n f (23, [some (.ref 1000000), some (.ref 1), some (.ref 126), some (.ref 149), some (.int (nI i)), none, none, none], [], (wK, wR s, I, L, x)) := by
  intro r
  induction r with
  | zero =>
    intro i x s I L T xs h1 h2 h3 hI
    exact law_at hfl hn hPt hPs h2 h3 hI (fun h => absurd h (by omega))
  | succ r ih =>
    intro i x s I L T xs h1 h2 h3 hI
    exact law_at hfl hn hPt hPs h2 h3 hI (fun h x s I L T xs h4 hJ => ih (i + 6) x s I L T xs (by omega) h4 (by omega) hJ)
end L
