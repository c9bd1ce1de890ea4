/-! Facts of small numbers, looked through. -/
set_option maxRecDepth 100000 in
theorem mo_or_all : (List.range 12).all (fun k => (List.range (2 ^ k)).all (fun x => decide (nI x ||| ((1 : Int32) <<< (nI k &&& 31)) = nI (x + 2 ^ k)))) = true := by decide +kernel
set_option maxRecDepth 100000 in
theorem mo_bit_all : (List.range 12).all (fun k => (List.range 4096).all (fun x => decide (((nI x >>> (nI k &&& 31)) &&& 1 = 1) ↔ x.testBit k = true) && decide ((((nI x).toUInt32 >>> ((nI k).toUInt32 &&& Int32.toUInt32 31)).toInt32 &&& 1 = 0) ↔ ¬ x.testBit k = true))) = true := by decide +kernel
