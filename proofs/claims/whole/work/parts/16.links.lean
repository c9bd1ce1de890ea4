/-! The links of calls, each checked once. -/
set_option maxRecDepth 100000 in
theorem hk_Gate_69 : mo_kS "GateNames" 69 mm_Arrays_fill_aIIV 2 = true := by decide +kernel
set_option maxRecDepth 100000 in
theorem hk_Gate_81 : mo_kV "GateNames" 81 mm_Tape_put 1 2 = true := by decide +kernel
set_option maxRecDepth 100000 in
theorem hk_Gate_85 : mo_kV "GateNames" 85 mm_Reader_readTown 1 1 = true := by decide +kernel
set_option maxRecDepth 100000 in
theorem hk_Reader_18 : mo_kV "GateNames$Reader" 18 mm_Town_clear 0 3 = true := by decide +kernel
set_option maxRecDepth 100000 in
theorem hk_Reader_27 : mo_kV "GateNames$Reader" 27 mm_Tape_begin 1 2 = true := by decide +kernel
set_option maxRecDepth 100000 in
theorem hk_Reader_31 : mo_kV "GateNames$Reader" 31 mm_Tape_advance 0 2 = true := by decide +kernel
set_option maxRecDepth 100000 in
theorem hk_Reader_37 : mo_kV "GateNames$Reader" 37 mm_Reader_readLine 1 1 = true := by decide +kernel
set_option maxRecDepth 100000 in
theorem hk_Town_46 : mo_kV "GateNames$Town" 46 mm_Roll_clear 0 4 = true := by decide +kernel
set_option maxRecDepth 100000 in
theorem hk_Tape_34 : mo_kV "GateNames$Tape" 34 mm_Tape_takeRun 0 2 = true := by decide +kernel
set_option maxRecDepth 100000 in
theorem hk_Tape_37 : mo_kV "GateNames$Tape" 37 mm_Tape_takeSign 0 2 = true := by decide +kernel
set_option maxRecDepth 100000 in
theorem hk_Tape_40 : mo_kS "GateNames$Tape" 40 mm_Tape_isOwn 1 = true := by decide +kernel
set_option maxRecDepth 100000 in
theorem hk_Reader_44 : mo_kV "GateNames$Reader" 44 mm_Reader_fail 1 1 = true := by decide +kernel
set_option maxRecDepth 100000 in
theorem hk_Reader_55 : mo_kV "GateNames$Reader" 55 mm_Reader_readMan 1 1 = true := by decide +kernel
set_option maxRecDepth 100000 in
theorem hk_Reader_59 : mo_kV "GateNames$Reader" 59 mm_Reader_readName 1 1 = true := by decide +kernel
set_option maxRecDepth 100000 in
theorem hk_Reader_66 : mo_kV "GateNames$Reader" 66 mm_Reader_readComes 2 1 = true := by decide +kernel
set_option maxRecDepth 100000 in
theorem hk_Reader_74 : mo_kV "GateNames$Reader" 74 mm_Reader_readBrings 2 1 = true := by decide +kernel
set_option maxRecDepth 100000 in
theorem hk_Reader_82 : mo_kV "GateNames$Reader" 82 mm_Reader_readOwes 2 1 = true := by decide +kernel
set_option maxRecDepth 100000 in
theorem hk_Reader_86 : mo_kV "GateNames$Reader" 86 mm_Reader_readFoes 1 1 = true := by decide +kernel
set_option maxRecDepth 100000 in
theorem hk_Reader_97 : mo_kV "GateNames$Reader" 97 mm_Reader_takeNewName 1 1 = true := by decide +kernel
set_option maxRecDepth 100000 in
theorem hk_Reader_101 : mo_kV "GateNames$Reader" 101 mm_Tape_isWord 1 2 = true := by decide +kernel
set_option maxRecDepth 100000 in
theorem hk_Reader_104 : mo_kV "GateNames$Reader" 104 mm_Reader_takeNumber 2 1 = true := by decide +kernel
set_option maxRecDepth 100000 in
theorem hk_Reader_108 : mo_kV "GateNames$Reader" 108 mm_Roll_addMan 2 4 = true := by decide +kernel
set_option maxRecDepth 100000 in
theorem hk_Reader_112 : mo_kV "GateNames$Reader" 112 mm_Reader_closes 0 1 = true := by decide +kernel
set_option maxRecDepth 100000 in
theorem hk_Reader_193 : mo_kV "GateNames$Reader" 193 mm_Roll_find 1 4 = true := by decide +kernel
set_option maxRecDepth 100000 in
theorem hk_Reader_148 : mo_kV "GateNames$Reader" 148 mm_Reader_numberHere 2 1 = true := by decide +kernel
set_option maxRecDepth 100000 in
theorem hk_Roll_34 : mo_kV "GateNames$Roll" 34 mm_Roll_addName 2 4 = true := by decide +kernel
set_option maxRecDepth 100000 in
theorem hk_Reader_144 : mo_kV "GateNames$Reader" 144 mm_Tape_isSign 1 2 = true := by decide +kernel
set_option maxRecDepth 100000 in
theorem hk_Reader_116 : mo_kV "GateNames$Reader" 116 mm_Roll_addName 2 4 = true := by decide +kernel
set_option maxRecDepth 100000 in
theorem hk_Reader_119 : mo_kV "GateNames$Reader" 119 mm_Reader_takeClose 0 1 = true := by decide +kernel
set_option maxRecDepth 100000 in
theorem hk_Reader_127 : mo_kV "GateNames$Reader" 127 mm_Reader_manHere 1 1 = true := by decide +kernel
set_option maxRecDepth 100000 in
theorem hk_Reader_131 : mo_kV "GateNames$Reader" 131 mm_Comings_find 2 5 = true := by decide +kernel
set_option maxRecDepth 100000 in
theorem hk_Reader_134 : mo_kV "GateNames$Reader" 134 mm_Comings_add 4 5 = true := by decide +kernel
set_option maxRecDepth 100000 in
theorem hk_Reader_185 : mo_kV "GateNames$Reader" 185 mm_Reader_nameHere 1 1 = true := by decide +kernel
set_option maxRecDepth 100000 in
theorem hk_Reader_141 : mo_kV "GateNames$Reader" 141 mm_Reader_takeName 1 1 = true := by decide +kernel
set_option maxRecDepth 100000 in
theorem hk_Reader_151 : mo_kV "GateNames$Reader" 151 mm_Reader_takeOdds 0 1 = true := by decide +kernel
set_option maxRecDepth 100000 in
theorem hk_Reader_155 : mo_kV "GateNames$Reader" 155 mm_Gains_add 3 6 = true := by decide +kernel
set_option maxRecDepth 100000 in
theorem hk_Reader_158 : mo_kS "GateNames$Reader" 158 mm_Math_max_III 2 = true := by decide +kernel
set_option maxRecDepth 100000 in
theorem hk_Reader_166 : mo_kV "GateNames$Reader" 166 mm_Owings_add 4 7 = true := by decide +kernel
set_option maxRecDepth 100000 in
theorem hk_Reader_171 : mo_kSN "GateNames$Reader" 171 mm_Gate_isIn 2 = true := by decide +kernel
set_option maxRecDepth 100000 in
theorem hk_Reader_175 : mo_kV "GateNames$Reader" 175 mm_Roll_addFoes 2 4 = true := by decide +kernel
set_option maxRecDepth 100000 in
theorem hk_Roll_38 : mo_kV "GateNames$Roll" 38 mm_Roll_hasMan 1 4 = true := by decide +kernel
set_option maxRecDepth 100000 in
theorem hk_Gate_97 : mo_kV "GateNames" 97 mm_Reader_readSights 2 1 = true := by decide +kernel
set_option maxRecDepth 100000 in
theorem hk_Gate_101 : mo_kV "GateNames" 101 mm_Sights_copyFrom 1 8 = true := by decide +kernel
set_option maxRecDepth 100000 in
theorem hk_Reader_181 : mo_kV "GateNames$Reader" 181 mm_Reader_readSight 2 1 = true := by decide +kernel
set_option maxRecDepth 100000 in
theorem hk_Reader_188 : mo_kV "GateNames$Reader" 188 mm_Reader_takeMen 1 1 = true := by decide +kernel
set_option maxRecDepth 100000 in
theorem hk_Reader_191 : mo_kV "GateNames$Reader" 191 mm_Sights_add 2 8 = true := by decide +kernel
set_option maxRecDepth 100000 in
theorem hk_Gate_128 : mo_kV "GateNames" 128 mm_Roll_hasName 1 4 = true := by decide +kernel
set_option maxRecDepth 100000 in
theorem hk_Gate_134 : mo_kS "GateNames" 134 mm_Gate_isDay 1 = true := by decide +kernel
set_option maxRecDepth 100000 in
theorem hk_Gate_141 : mo_kV "GateNames" 141 mm_Comings_lineUp 2 5 = true := by decide +kernel
set_option maxRecDepth 100000 in
theorem hk_Comings_31 : mo_kV "GateNames$Comings" 31 mm_Comings_isAhead 2 5 = true := by decide +kernel
set_option maxRecDepth 100000 in
theorem hk_Gate_150 : mo_kV "GateNames" 150 mm_Comings_find 2 5 = true := by decide +kernel
set_option maxRecDepth 100000 in
theorem hk_Gate_154 : mo_kS "GateNames" 154 mm_Gate_isPart 1 = true := by decide +kernel
set_option maxRecDepth 100000 in
theorem hk_Gate_110 : mo_kV "GateNames" 110 mm_Roll_hasMan 1 4 = true := by decide +kernel
set_option maxRecDepth 100000 in
theorem hk_Gate_179 : mo_kV "GateNames" 179 mm_Comings_giver 2 5 = true := by decide +kernel
set_option maxRecDepth 100000 in
theorem hk_Gate_182 : mo_kV "GateNames" 182 mm_Comings_isWaitedFor 1 5 = true := by decide +kernel
set_option maxRecDepth 100000 in
theorem hk_Gate_185 : mo_kV "GateNames" 185 mm_Comings_givenBy 2 5 = true := by decide +kernel
set_option maxRecDepth 100000 in
theorem hk_Comings_35 : mo_kV "GateNames$Comings" 35 mm_Comings_find 2 5 = true := by decide +kernel
set_option maxRecDepth 100000 in
theorem hk_Gate_188 : mo_kV "GateNames" 188 mm_Roll_allNames 0 4 = true := by decide +kernel
set_option maxRecDepth 100000 in
theorem hk_Gate_192 : mo_kV "GateNames" 192 mm_Comings_givenNames 1 5 = true := by decide +kernel
set_option maxRecDepth 100000 in
theorem hk_Gate_200 : mo_kV "GateNames" 200 mm_Town_debtOf 2 3 = true := by decide +kernel
set_option maxRecDepth 100000 in
theorem hk_Town_103 : mo_kV "GateNames$Town" 103 mm_Comings_giver 2 5 = true := by decide +kernel
set_option maxRecDepth 100000 in
theorem hk_Gate_203 : mo_kS "GateNames" 203 mm_Math_max_III 2 = true := by decide +kernel
set_option maxRecDepth 100000 in
theorem hk_Gate_208 : mo_kV "GateNames" 208 mm_Town_sumBalances 1 3 = true := by decide +kernel
set_option maxRecDepth 100000 in
theorem hk_Town_107 : mo_kS "GateNames$Town" 107 mm_Arrays_fill_aIIV 2 = true := by decide +kernel
set_option maxRecDepth 100000 in
theorem hk_Gate_163 : mo_kV "GateNames" 163 mm_Town_sumMeans 2 3 = true := by decide +kernel
set_option maxRecDepth 100000 in
theorem hk_Town_75 : mo_kS "GateNames$Town" 75 mm_Arrays_fill_aJJV 2 = true := by decide +kernel
set_option maxRecDepth 100000 in
theorem hk_Gate_249 : mo_kV "GateNames" 249 mm_Tape_byteAt 1 2 = true := by decide +kernel
set_option maxRecDepth 100000 in
theorem hk_Gate_252 : mo_kV "GateNames" 252 mm_Gate_isContent 2 0 = true := by decide +kernel
set_option maxRecDepth 100000 in
theorem hk_Gate_255 : mo_kV "GateNames" 255 mm_Comings_present 2 5 = true := by decide +kernel
set_option maxRecDepth 100000 in
theorem hk_Gate_258 : mo_kS "GateNames" 258 mm_Integer_bitCount 1 = true := by decide +kernel
set_option maxRecDepth 100000 in
theorem hk_Gate_239 : mo_kS "GateNames" 239 mm_Gate_isIn 2 = true := by decide +kernel
set_option maxRecDepth 100000 in
theorem hk_Gate_263 : mo_kV "GateNames" 263 mm_Comings_overlap 3 5 = true := by decide +kernel
set_option maxRecDepth 100000 in
theorem hk_Gate_269 : mo_kS "GateNames" 269 mm_Lot_ways 3 = true := by decide +kernel
set_option maxRecDepth 100000 in
theorem hk_Lot_7 : mo_kS "GateNames$Lot" 7 mm_Lot_inOrder 2 = true := by decide +kernel
set_option maxRecDepth 100000 in
theorem hk_Lot_13 : mo_kS "GateNames$Lot" 13 mm_Math_max_III 2 = true := by decide +kernel
set_option maxRecDepth 100000 in
theorem hk_Gate_275 : mo_kV "GateNames" 275 mm_Gate_waysWith 3 0 = true := by decide +kernel
set_option maxRecDepth 100000 in
theorem hk_Gate_278 : mo_kV "GateNames" 278 mm_Guess_open 1 10 = true := by decide +kernel
set_option maxRecDepth 100000 in
theorem hk_Gate_281 : mo_kV "GateNames" 281 mm_Guess_all 0 10 = true := by decide +kernel
set_option maxRecDepth 100000 in
theorem hk_Guess_57 : mo_kV "GateNames$Guess" 57 mm_Comings_giver 2 5 = true := by decide +kernel
set_option maxRecDepth 100000 in
theorem hk_Guess_66 : mo_kV "GateNames$Guess" 66 mm_Comings_givenBy 2 5 = true := by decide +kernel
set_option maxRecDepth 100000 in
theorem hk_Guess_69 : mo_kS "GateNames$Guess" 69 mm_Math_min 2 = true := by decide +kernel
set_option maxRecDepth 100000 in
theorem hk_Guess_84 : mo_kV "GateNames$Guess" 84 mm_Sights_allow 2 8 = true := by decide +kernel
set_option maxRecDepth 100000 in
theorem hk_Guess_93 : mo_kV "GateNames$Guess" 93 mm_Guess_countAhead 0 10 = true := by decide +kernel
set_option maxRecDepth 100000 in
theorem hk_Sights_22 : mo_kSN "GateNames$Sights" 22 mm_Gate_isIn 2 = true := by decide +kernel
set_option maxRecDepth 100000 in
theorem hk_Guess_103 : mo_kS "GateNames$Guess" 103 mm_Integer_bitCount 1 = true := by decide +kernel
set_option maxRecDepth 100000 in
theorem hk_Gate_284 : mo_kV "GateNames" 284 mm_Guess_openWhole 1 10 = true := by decide +kernel
set_option maxRecDepth 100000 in
theorem hk_Gate_287 : mo_kV "GateNames" 287 mm_Guess_indexOfName 1 10 = true := by decide +kernel
set_option maxRecDepth 100000 in
theorem hk_Gate_290 : mo_kV "GateNames" 290 mm_Guess_holders 1 10 = true := by decide +kernel
set_option maxRecDepth 100000 in
theorem hk_Guess_96 : mo_kV "GateNames$Guess" 96 mm_Guess_open 1 10 = true := by decide +kernel
set_option maxRecDepth 100000 in
theorem hk_Guess_100 : mo_kV "GateNames$Guess" 100 mm_Guess_countBehind 0 10 = true := by decide +kernel
set_option maxRecDepth 100000 in
theorem hk_Guess_118 : mo_kV "GateNames$Guess" 118 mm_Guess_countHolders 1 10 = true := by decide +kernel
set_option maxRecDepth 100000 in
theorem hk_Guess_109 : mo_kS "GateNames$Guess" 109 mm_Arrays_fill_aIIV 2 = true := by decide +kernel
set_option maxRecDepth 100000 in
theorem hk_Guess_115 : mo_kSN "GateNames$Guess" 115 mm_Gate_isIn 2 = true := by decide +kernel
set_option maxRecDepth 100000 in
theorem hk_Gate_293 : mo_kV "GateNames" 293 mm_Guess_mostLeft 1 10 = true := by decide +kernel
set_option maxRecDepth 100000 in
theorem hk_Guess_122 : mo_kS "GateNames$Guess" 122 mm_Math_max_III 2 = true := by decide +kernel
set_option maxRecDepth 100000 in
theorem hk_Gate_300 : mo_kV "GateNames" 300 mm_Guess_indexOfMan 1 10 = true := by decide +kernel
set_option maxRecDepth 100000 in
theorem hk_Gate_303 : mo_kV "GateNames" 303 mm_Guess_fewestAbout 1 10 = true := by decide +kernel
set_option maxRecDepth 100000 in
theorem hk_Guess_125 : mo_kV "GateNames$Guess" 125 mm_Guess_fillFits 0 10 = true := by decide +kernel
set_option maxRecDepth 100000 in
theorem hk_Guess_128 : mo_kV "GateNames$Guess" 128 mm_Guess_isPartOfVague 1 10 = true := by decide +kernel
set_option maxRecDepth 100000 in
theorem hk_Guess_132 : mo_kV "GateNames$Guess" 132 mm_Guess_leavesUnknown 2 10 = true := by decide +kernel
set_option maxRecDepth 100000 in
theorem hk_Guess_135 : mo_kS "GateNames$Guess" 135 mm_Arrays_fill_aJJV 2 = true := by decide +kernel
set_option maxRecDepth 100000 in
theorem hk_Guess_138 : mo_kS "GateNames$Guess" 138 mm_Integer_numberOfTrailingZeros 1 = true := by decide +kernel
set_option maxRecDepth 100000 in
theorem hk_Guess_141 : mo_kV "GateNames$Guess" 141 mm_Guess_addHolder 3 10 = true := by decide +kernel
set_option maxRecDepth 100000 in
theorem hk_Guess_148 : mo_kS "GateNames$Guess" 148 mm_Long_numberOfTrailingZeros 1 = true := by decide +kernel
set_option maxRecDepth 100000 in
theorem hk_Guess_153 : mo_kV "GateNames$Guess" 153 mm_Guess_hasChoice 3 10 = true := by decide +kernel
set_option maxRecDepth 100000 in
theorem hk_Long_311 : mo_kS "java/lang/Long" 311 mm_Integer_numberOfTrailingZeros 1 = true := by decide +kernel
set_option maxRecDepth 100000 in
theorem hk_Guess_157 : mo_kV "GateNames$Guess" 157 mm_Guess_isFit 2 10 = true := by decide +kernel
set_option maxRecDepth 100000 in
theorem hk_Gate_307 : mo_kS "GateNames" 307 mm_Gate_bitAt 2 = true := by decide +kernel
set_option maxRecDepth 100000 in
theorem hk_Gate_310 : mo_kV "GateNames" 310 mm_Town_copyFrom 1 3 = true := by decide +kernel
set_option maxRecDepth 100000 in
theorem hk_Town_59 : mo_kV "GateNames$Town" 59 mm_Roll_copyFrom 1 4 = true := by decide +kernel
set_option maxRecDepth 100000 in
theorem hk_Town_63 : mo_kV "GateNames$Town" 63 mm_Comings_copyFrom 1 5 = true := by decide +kernel
set_option maxRecDepth 100000 in
theorem hk_Town_66 : mo_kV "GateNames$Town" 66 mm_Gains_copyFrom 1 6 = true := by decide +kernel
set_option maxRecDepth 100000 in
theorem hk_Town_69 : mo_kV "GateNames$Town" 69 mm_Owings_copyFrom 1 7 = true := by decide +kernel
set_option maxRecDepth 100000 in
theorem hk_Town_72 : mo_kV "GateNames$Town" 72 mm_Sights_copyFrom 1 8 = true := by decide +kernel
set_option maxRecDepth 100000 in
theorem hk_Law_7 : mo_kV "GateNamesLaw" 7 mm_Gate_man 2 0 = true := by decide +kernel
set_option maxRecDepth 100000 in
theorem hk_Law_15 : mo_kV "GateNamesLaw" 15 mm_Gate_mean 3 0 = true := by decide +kernel
set_option maxRecDepth 100000 in
theorem hk_Gate_169 : mo_kS "GateNames" 169 mm_Gate_fraction 3 = true := by decide +kernel
set_option maxRecDepth 100000 in
theorem hk_Gate_333 : mo_kS "GateNames" 333 mm_Math_abs 1 = true := by decide +kernel
set_option maxRecDepth 100000 in
theorem hk_Gate_337 : mo_kS "GateNames" 337 mm_Gate_commonDivisor 2 = true := by decide +kernel
set_option maxRecDepth 100000 in
theorem hk_Gate_341 : mo_kS "GateNames" 341 mm_Math_max_JJJ 2 = true := by decide +kernel
set_option maxRecDepth 100000 in
theorem hk_Law_19 : mo_kV "GateNamesLaw" 19 mm_Gate_out 2 0 = true := by decide +kernel
set_option maxRecDepth 100000 in
theorem hk_Law_23 : mo_kV "GateNamesLaw" 23 mm_Gate_matched 3 0 = true := by decide +kernel
set_option maxRecDepth 100000 in
theorem hk_Gate_212 : mo_kV "GateNames" 212 mm_Market_open 3 9 = true := by decide +kernel
set_option maxRecDepth 100000 in
theorem hk_Gate_216 : mo_kV "GateNames" 216 mm_Market_most 2 9 = true := by decide +kernel
set_option maxRecDepth 100000 in
theorem hk_Gate_222 : mo_kV "GateNames" 222 mm_Market_choose 2 9 = true := by decide +kernel
set_option maxRecDepth 100000 in
theorem hk_Market_25 : mo_kV "GateNames$Market" 25 mm_Town_sumMeans 2 3 = true := by decide +kernel
set_option maxRecDepth 100000 in
theorem hk_Market_41 : mo_kV "GateNames$Market" 41 mm_Market_rank 1 9 = true := by decide +kernel
set_option maxRecDepth 100000 in
theorem hk_Market_58 : mo_kV "GateNames$Market" 58 mm_Comings_find 2 5 = true := by decide +kernel
set_option maxRecDepth 100000 in
theorem hk_Market_65 : mo_kS "GateNames$Market" 65 mm_Arrays_fill_aIIV 2 = true := by decide +kernel
set_option maxRecDepth 100000 in
theorem hk_Market_71 : mo_kSN "GateNames$Market" 71 mm_Gate_isIn 2 = true := by decide +kernel
set_option maxRecDepth 100000 in
theorem hk_Market_77 : mo_kV "GateNames$Market" 77 mm_Market_leastThatKeeps 2 9 = true := by decide +kernel
set_option maxRecDepth 100000 in
theorem hk_Market_80 : mo_kV "GateNames$Market" 80 mm_Market_most 2 9 = true := by decide +kernel
set_option maxRecDepth 100000 in
theorem hk_Law_26 : mo_kV "GateNamesLaw" 26 mm_Gate_want 3 0 = true := by decide +kernel
set_option maxRecDepth 100000 in
theorem hk_Law_29 : mo_kV "GateNamesLaw" 29 mm_Gate_serial 2 0 = true := by decide +kernel
set_option maxRecDepth 100000 in
theorem hk_Gate_226 : mo_kV "GateNames" 226 mm_Gate_takeInTurn 1 0 = true := by decide +kernel
set_option maxRecDepth 100000 in
theorem hk_Gate_236 : mo_kV "GateNames" 236 mm_Gate_greatest 1 0 = true := by decide +kernel
set_option maxRecDepth 100000 in
theorem hk_Law_32 : mo_kV "GateNamesLaw" 32 mm_Gate_lotMean 3 0 = true := by decide +kernel
set_option maxRecDepth 100000 in
theorem hk_Model_86 : mo_kV "GateNamesModel" 86 mm_Model_come 1 11 = true := by decide +kernel
set_option maxRecDepth 100000 in
theorem hk_Model_218 : mo_kV "GateNamesModel" 218 mm_Model_begin 1 11 = true := by decide +kernel
set_option maxRecDepth 100000 in
theorem hk_Model_221 : mo_kV "GateNamesModel" 221 mm_Model_readLine 0 11 = true := by decide +kernel
set_option maxRecDepth 100000 in
theorem hk_Model_164 : mo_kV "GateNamesModel" 164 mm_Model_take 0 11 = true := by decide +kernel
set_option maxRecDepth 100000 in
theorem hk_Model_158 : mo_kV "GateNamesModel" 158 mm_Model_go 0 11 = true := by decide +kernel
set_option maxRecDepth 100000 in
theorem hk_Model_105 : mo_kS "GateNamesModel" 105 mm_Model_isLetter 1 = true := by decide +kernel
set_option maxRecDepth 100000 in
theorem hk_Model_109 : mo_kS "GateNamesModel" 109 mm_Model_isDigit 1 = true := by decide +kernel
set_option maxRecDepth 100000 in
theorem hk_Model_122 : mo_kV "GateNamesModel" 122 mm_Model_byteAt 1 11 = true := by decide +kernel
set_option maxRecDepth 100000 in
theorem hk_Model_186 : mo_kV "GateNamesModel" 186 mm_Model_isWord 1 11 = true := by decide +kernel
set_option maxRecDepth 100000 in
theorem hk_Model_198 : mo_kV "GateNamesModel" 198 mm_Model_readMan 0 11 = true := by decide +kernel
set_option maxRecDepth 100000 in
theorem hk_Model_201 : mo_kV "GateNamesModel" 201 mm_Model_readName 0 11 = true := by decide +kernel
set_option maxRecDepth 100000 in
theorem hk_Model_203 : mo_kV "GateNamesModel" 203 mm_Model_readComes 0 11 = true := by decide +kernel
set_option maxRecDepth 100000 in
theorem hk_Model_206 : mo_kV "GateNamesModel" 206 mm_Model_readBrings 0 11 = true := by decide +kernel
set_option maxRecDepth 100000 in
theorem hk_Model_209 : mo_kV "GateNamesModel" 209 mm_Model_readOwes 0 11 = true := by decide +kernel
set_option maxRecDepth 100000 in
theorem hk_Model_212 : mo_kV "GateNamesModel" 212 mm_Model_readFoes 0 11 = true := by decide +kernel
set_option maxRecDepth 100000 in
theorem hk_Model_144 : mo_kV "GateNamesModel" 144 mm_Model_bad 1 11 = true := by decide +kernel
set_option maxRecDepth 100000 in
theorem hk_Model_215 : mo_kV "GateNamesModel" 215 mm_Model_readEnd 0 11 = true := by decide +kernel
set_option maxRecDepth 100000 in
theorem hk_Model_134 : mo_kS "GateNamesModel" 134 mm_Model_wordOf 1 = true := by decide +kernel
set_option maxRecDepth 100000 in
theorem hk_Model_130 : mo_kS "GateNamesModel" 130 mm_Model_spelt 6 = true := by decide +kernel
set_option maxRecDepth 100000 in
theorem hk_Model_183 : mo_kV "GateNamesModel" 183 mm_Model_readNew 0 11 = true := by decide +kernel
set_option maxRecDepth 100000 in
theorem hk_Model_189 : mo_kV "GateNamesModel" 189 mm_Model_readNumber 2 11 = true := by decide +kernel
set_option maxRecDepth 100000 in
theorem hk_Model_168 : mo_kV "GateNamesModel" 168 mm_Model_isName 0 11 = true := by decide +kernel
set_option maxRecDepth 100000 in
theorem hk_Model_172 : mo_kV "GateNamesModel" 172 mm_Model_findIn 2 11 = true := by decide +kernel
set_option maxRecDepth 100000 in
theorem hk_Model_154 : mo_kV "GateNamesModel" 154 mm_Model_isNumber 2 11 = true := by decide +kernel
set_option maxRecDepth 100000 in
theorem hk_Model_147 : mo_kS "GateNamesModel" 147 mm_Model_isIn 3 = true := by decide +kernel
set_option maxRecDepth 100000 in
theorem hk_Model_192 : mo_kV "GateNamesModel" 192 mm_Model_isToldMan 0 11 = true := by decide +kernel
set_option maxRecDepth 100000 in
theorem hk_Model_176 : mo_kV "GateNamesModel" 176 mm_Model_isToldName 0 11 = true := by decide +kernel
set_option maxRecDepth 100000 in
theorem hk_Model_179 : mo_kV "GateNamesModel" 179 mm_Model_manOf 2 11 = true := by decide +kernel
set_option maxRecDepth 100000 in
theorem hk_Model_161 : mo_kV "GateNamesModel" 161 mm_Model_isSign 1 11 = true := by decide +kernel
set_option maxRecDepth 100000 in
theorem hk_Model_195 : mo_kS "GateNamesModel" 195 mm_Model_has 2 = true := by decide +kernel
set_option maxRecDepth 100000 in
theorem hk_Model_230 : mo_kV "GateNamesModel" 230 mm_Model_isMan 1 11 = true := by decide +kernel
set_option maxRecDepth 100000 in
theorem hk_Model_233 : mo_kV "GateNamesModel" 233 mm_Model_refuse 0 11 = true := by decide +kernel
set_option maxRecDepth 100000 in
theorem hk_Model_224 : mo_kV "GateNamesModel" 224 mm_Model_men 0 11 = true := by decide +kernel
set_option maxRecDepth 100000 in
theorem hk_Model_236 : mo_kV "GateNamesModel" 236 mm_Model_isANameOf 1 11 = true := by decide +kernel
set_option maxRecDepth 100000 in
theorem hk_Model_227 : mo_kV "GateNamesModel" 227 mm_Model_names 0 11 = true := by decide +kernel
set_option maxRecDepth 100000 in
theorem hk_Model_246 : mo_kS "GateNamesModel" 246 mm_Model_isDay 1 = true := by decide +kernel
set_option maxRecDepth 100000 in
theorem hk_Model_249 : mo_kV "GateNamesModel" 249 mm_Model_layComers 1 11 = true := by decide +kernel
set_option maxRecDepth 100000 in
theorem hk_Model_242 : mo_kV "GateNamesModel" 242 mm_Model_comeOf 2 11 = true := by decide +kernel
set_option maxRecDepth 100000 in
theorem hk_Model_254 : mo_kV "GateNamesModel" 254 mm_Model_refuseLong 0 11 = true := by decide +kernel
set_option maxRecDepth 100000 in
theorem hk_Model_258 : mo_kV "GateNamesModel" 258 mm_Model_meanOf 2 11 = true := by decide +kernel
set_option maxRecDepth 100000 in
theorem hk_Model_262 : mo_kS "GateNamesModel" 262 mm_Model_part 3 = true := by decide +kernel
set_option maxRecDepth 100000 in
theorem hk_Model_269 : mo_kV "GateNamesModel" 269 mm_Model_today 0 11 = true := by decide +kernel
set_option maxRecDepth 100000 in
theorem hk_Model_266 : mo_kV "GateNamesModel" 266 mm_Model_givenOn 2 11 = true := by decide +kernel
set_option maxRecDepth 100000 in
theorem hk_Model_272 : mo_kV "GateNamesModel" 272 mm_Model_ownOf 1 11 = true := by decide +kernel
set_option maxRecDepth 100000 in
theorem hk_Model_275 : mo_kV "GateNamesModel" 275 mm_Model_bearerOn 2 11 = true := by decide +kernel
set_option maxRecDepth 100000 in
theorem hk_Model_278 : mo_kV "GateNamesModel" 278 mm_Model_isPast 1 11 = true := by decide +kernel
set_option maxRecDepth 100000 in
theorem hk_Model_281 : mo_kV "GateNamesModel" 281 mm_Model_debtOf 2 11 = true := by decide +kernel
set_option maxRecDepth 100000 in
theorem hk_Model_292 : mo_kV "GateNamesModel" 292 mm_Model_layRow 2 11 = true := by decide +kernel
set_option maxRecDepth 100000 in
theorem hk_Model_296 : mo_kV "GateNamesModel" 296 mm_Model_layMost 1 11 = true := by decide +kernel
set_option maxRecDepth 100000 in
theorem hk_Model_289 : mo_kV "GateNamesModel" 289 mm_Model_layWorths 1 11 = true := by decide +kernel
set_option maxRecDepth 100000 in
theorem hk_Model_309 : mo_kV "GateNamesModel" 309 mm_Model_thoseIn 2 11 = true := by decide +kernel
set_option maxRecDepth 100000 in
theorem hk_Model_306 : mo_kV "GateNamesModel" 306 mm_Model_isThere 3 11 = true := by decide +kernel
set_option maxRecDepth 100000 in
theorem hk_Model_312 : mo_kS "GateNamesModel" 312 mm_Model_bits 1 = true := by decide +kernel
set_option maxRecDepth 100000 in
theorem hk_Model_315 : mo_kV "GateNamesModel" 315 mm_Model_areFoes 2 11 = true := by decide +kernel
set_option maxRecDepth 100000 in
theorem hk_Model_318 : mo_kV "GateNamesModel" 318 mm_Model_meet 4 11 = true := by decide +kernel
set_option maxRecDepth 100000 in
theorem hk_Model_322 : mo_kV "GateNamesModel" 322 mm_Model_lotsBy 3 11 = true := by decide +kernel
set_option maxRecDepth 100000 in
theorem hk_Model_331 : mo_kV "GateNamesModel" 331 mm_Model_readSight 0 11 = true := by decide +kernel
set_option maxRecDepth 100000 in
theorem hk_Model_340 : mo_kV "GateNamesModel" 340 mm_Model_layGiven 0 11 = true := by decide +kernel
set_option maxRecDepth 100000 in
theorem hk_Model_343 : mo_kV "GateNamesModel" 343 mm_Model_holdsBy 2 11 = true := by decide +kernel
set_option maxRecDepth 100000 in
theorem hk_Model_337 : mo_kV "GateNamesModel" 337 mm_Model_canOf 1 11 = true := by decide +kernel
set_option maxRecDepth 100000 in
theorem hk_Model_346 : mo_kV "GateNamesModel" 346 mm_Model_placeOf 1 11 = true := by decide +kernel
set_option maxRecDepth 100000 in
theorem hk_Model_349 : mo_kV "GateNamesModel" 349 mm_Model_lookAt 1 11 = true := by decide +kernel
set_option maxRecDepth 100000 in
theorem hk_Model_355 : mo_kV "GateNamesModel" 355 mm_Model_openAll 3 11 = true := by decide +kernel
set_option maxRecDepth 100000 in
theorem hk_Model_352 : mo_kV "GateNamesModel" 352 mm_Model_goesRound 2 11 = true := by decide +kernel
set_option maxRecDepth 100000 in
theorem hk_Model_363 : mo_kV "GateNamesModel" 363 mm_Model_draw 1 11 = true := by decide +kernel
set_option maxRecDepth 100000 in
theorem hk_Law_39 : mo_kV "GateNamesLaw" 39 mm_Gate_feed 5 0 = true := by decide +kernel
set_option maxRecDepth 100000 in
theorem hk_Law_43 : mo_kV "GateNamesLaw" 43 mm_Model_feed 5 11 = true := by decide +kernel
set_option maxRecDepth 100000 in
theorem hk_Law_44 : mo_kV "GateNamesLaw" 44 mm_Gate_end 1 0 = true := by decide +kernel
set_option maxRecDepth 100000 in
theorem hk_Law_48 : mo_kV "GateNamesLaw" 48 mm_Model_end 1 11 = true := by decide +kernel
set_option maxRecDepth 100000 in
theorem hk_Law_49 : mo_kV "GateNamesLaw" 49 mm_Gate_town 0 0 = true := by decide +kernel
set_option maxRecDepth 100000 in
theorem hk_Law_53 : mo_kV "GateNamesLaw" 53 mm_Model_town 0 11 = true := by decide +kernel
set_option maxRecDepth 100000 in
theorem hk_Law_54 : mo_kV "GateNamesLaw" 54 mm_Gate_fault 0 0 = true := by decide +kernel
set_option maxRecDepth 100000 in
theorem hk_Law_57 : mo_kV "GateNamesLaw" 57 mm_Model_fault 0 11 = true := by decide +kernel
set_option maxRecDepth 100000 in
theorem hk_Law_63 : mo_kV "GateNamesLaw" 63 mm_Model_man 2 11 = true := by decide +kernel
set_option maxRecDepth 100000 in
theorem hk_Law_64 : mo_kV "GateNamesLaw" 64 mm_Model_thrown 0 11 = true := by decide +kernel
set_option maxRecDepth 100000 in
theorem hk_Law_67 : mo_kV "GateNamesLaw" 67 mm_Gate_owner 1 0 = true := by decide +kernel
set_option maxRecDepth 100000 in
theorem hk_Law_71 : mo_kV "GateNamesLaw" 71 mm_Model_owner 1 11 = true := by decide +kernel
set_option maxRecDepth 100000 in
theorem hk_Law_72 : mo_kV "GateNamesLaw" 72 mm_Gate_comer 2 0 = true := by decide +kernel
set_option maxRecDepth 100000 in
theorem hk_Law_75 : mo_kV "GateNamesLaw" 75 mm_Model_comer 2 11 = true := by decide +kernel
set_option maxRecDepth 100000 in
theorem hk_Law_76 : mo_kV "GateNamesLaw" 76 mm_Gate_when 3 0 = true := by decide +kernel
set_option maxRecDepth 100000 in
theorem hk_Law_80 : mo_kV "GateNamesLaw" 80 mm_Model_when 3 11 = true := by decide +kernel
set_option maxRecDepth 100000 in
theorem hk_Law_84 : mo_kV "GateNamesLaw" 84 mm_Model_mean 3 11 = true := by decide +kernel
set_option maxRecDepth 100000 in
theorem hk_Law_85 : mo_kV "GateNamesLaw" 85 mm_Gate_give 2 0 = true := by decide +kernel
set_option maxRecDepth 100000 in
theorem hk_Law_88 : mo_kV "GateNamesLaw" 88 mm_Model_give 2 11 = true := by decide +kernel
set_option maxRecDepth 100000 in
theorem hk_Law_89 : mo_kV "GateNamesLaw" 89 mm_Gate_gave 2 0 = true := by decide +kernel
set_option maxRecDepth 100000 in
theorem hk_Law_92 : mo_kV "GateNamesLaw" 92 mm_Model_gave 2 11 = true := by decide +kernel
set_option maxRecDepth 100000 in
theorem hk_Law_93 : mo_kV "GateNamesLaw" 93 mm_Gate_bearer 2 0 = true := by decide +kernel
set_option maxRecDepth 100000 in
theorem hk_Law_96 : mo_kV "GateNamesLaw" 96 mm_Model_bearer 2 11 = true := by decide +kernel
set_option maxRecDepth 100000 in
theorem hk_Law_97 : mo_kV "GateNamesLaw" 97 mm_Gate_idle 1 0 = true := by decide +kernel
set_option maxRecDepth 100000 in
theorem hk_Law_100 : mo_kV "GateNamesLaw" 100 mm_Model_idle 1 11 = true := by decide +kernel
set_option maxRecDepth 100000 in
theorem hk_Law_101 : mo_kV "GateNamesLaw" 101 mm_Gate_dawn 0 0 = true := by decide +kernel
set_option maxRecDepth 100000 in
theorem hk_Law_104 : mo_kV "GateNamesLaw" 104 mm_Model_dawn 0 11 = true := by decide +kernel
set_option maxRecDepth 100000 in
theorem hk_Law_105 : mo_kV "GateNamesLaw" 105 mm_Gate_back 0 0 = true := by decide +kernel
set_option maxRecDepth 100000 in
theorem hk_Law_108 : mo_kV "GateNamesLaw" 108 mm_Model_back 0 11 = true := by decide +kernel
set_option maxRecDepth 100000 in
theorem hk_Law_111 : mo_kV "GateNamesLaw" 111 mm_Model_out 2 11 = true := by decide +kernel
set_option maxRecDepth 100000 in
theorem hk_Law_112 : mo_kV "GateNamesLaw" 112 mm_Gate_debt 2 0 = true := by decide +kernel
set_option maxRecDepth 100000 in
theorem hk_Law_115 : mo_kV "GateNamesLaw" 115 mm_Model_debt 2 11 = true := by decide +kernel
set_option maxRecDepth 100000 in
theorem hk_Law_116 : mo_kV "GateNamesLaw" 116 mm_Gate_net 2 0 = true := by decide +kernel
set_option maxRecDepth 100000 in
theorem hk_Law_119 : mo_kV "GateNamesLaw" 119 mm_Model_net 2 11 = true := by decide +kernel
set_option maxRecDepth 100000 in
theorem hk_Law_120 : mo_kV "GateNamesLaw" 120 mm_Gate_rings 0 0 = true := by decide +kernel
set_option maxRecDepth 100000 in
theorem hk_Law_123 : mo_kV "GateNamesLaw" 123 mm_Model_rings 0 11 = true := by decide +kernel
set_option maxRecDepth 100000 in
theorem hk_Law_126 : mo_kV "GateNamesLaw" 126 mm_Model_matched 3 11 = true := by decide +kernel
set_option maxRecDepth 100000 in
theorem hk_Law_127 : mo_kV "GateNamesLaw" 127 mm_Gate_matchedAs 1 0 = true := by decide +kernel
set_option maxRecDepth 100000 in
theorem hk_Law_130 : mo_kV "GateNamesLaw" 130 mm_Model_matchedAs 1 11 = true := by decide +kernel
set_option maxRecDepth 100000 in
theorem hk_Law_133 : mo_kV "GateNamesLaw" 133 mm_Model_want 3 11 = true := by decide +kernel
set_option maxRecDepth 100000 in
theorem hk_Law_136 : mo_kV "GateNamesLaw" 136 mm_Model_serial 2 11 = true := by decide +kernel
set_option maxRecDepth 100000 in
theorem hk_Law_137 : mo_kV "GateNamesLaw" 137 mm_Gate_serialAs 1 0 = true := by decide +kernel
set_option maxRecDepth 100000 in
theorem hk_Law_140 : mo_kV "GateNamesLaw" 140 mm_Model_serialAs 1 11 = true := by decide +kernel
set_option maxRecDepth 100000 in
theorem hk_Law_141 : mo_kV "GateNamesLaw" 141 mm_Gate_envies 1 0 = true := by decide +kernel
set_option maxRecDepth 100000 in
theorem hk_Law_144 : mo_kV "GateNamesLaw" 144 mm_Model_envies 1 11 = true := by decide +kernel
set_option maxRecDepth 100000 in
theorem hk_Law_145 : mo_kV "GateNamesLaw" 145 mm_Gate_inTown 2 0 = true := by decide +kernel
set_option maxRecDepth 100000 in
theorem hk_Law_148 : mo_kV "GateNamesLaw" 148 mm_Model_inTown 2 11 = true := by decide +kernel
set_option maxRecDepth 100000 in
theorem hk_Law_149 : mo_kV "GateNamesLaw" 149 mm_Gate_crowd 2 0 = true := by decide +kernel
set_option maxRecDepth 100000 in
theorem hk_Law_152 : mo_kV "GateNamesLaw" 152 mm_Model_crowd 2 11 = true := by decide +kernel
set_option maxRecDepth 100000 in
theorem hk_Law_153 : mo_kV "GateNamesLaw" 153 mm_Gate_rests 0 0 = true := by decide +kernel
set_option maxRecDepth 100000 in
theorem hk_Law_156 : mo_kV "GateNamesLaw" 156 mm_Model_rests 0 11 = true := by decide +kernel
set_option maxRecDepth 100000 in
theorem hk_Law_157 : mo_kV "GateNamesLaw" 157 mm_Gate_lots 1 0 = true := by decide +kernel
set_option maxRecDepth 100000 in
theorem hk_Law_161 : mo_kV "GateNamesLaw" 161 mm_Model_lots 1 11 = true := by decide +kernel
set_option maxRecDepth 100000 in
theorem hk_Law_162 : mo_kV "GateNamesLaw" 162 mm_Gate_lotsOf 3 0 = true := by decide +kernel
set_option maxRecDepth 100000 in
theorem hk_Law_165 : mo_kV "GateNamesLaw" 165 mm_Model_lotsOf 3 11 = true := by decide +kernel
set_option maxRecDepth 100000 in
theorem hk_Law_168 : mo_kV "GateNamesLaw" 168 mm_Model_lotMean 3 11 = true := by decide +kernel
set_option maxRecDepth 100000 in
theorem hk_Law_169 : mo_kV "GateNamesLaw" 169 mm_Gate_meets 2 0 = true := by decide +kernel
set_option maxRecDepth 100000 in
theorem hk_Law_172 : mo_kV "GateNamesLaw" 172 mm_Model_meets 2 11 = true := by decide +kernel
set_option maxRecDepth 100000 in
theorem hk_Law_173 : mo_kV "GateNamesLaw" 173 mm_Gate_later 2 0 = true := by decide +kernel
set_option maxRecDepth 100000 in
theorem hk_Law_176 : mo_kV "GateNamesLaw" 176 mm_Model_later 2 11 = true := by decide +kernel
set_option maxRecDepth 100000 in
theorem hk_Law_177 : mo_kV "GateNamesLaw" 177 mm_Gate_sights 0 0 = true := by decide +kernel
set_option maxRecDepth 100000 in
theorem hk_Law_180 : mo_kV "GateNamesLaw" 180 mm_Model_sights 0 11 = true := by decide +kernel
set_option maxRecDepth 100000 in
theorem hk_Law_181 : mo_kV "GateNamesLaw" 181 mm_Gate_holds 0 0 = true := by decide +kernel
set_option maxRecDepth 100000 in
theorem hk_Law_184 : mo_kV "GateNamesLaw" 184 mm_Model_holds 0 11 = true := by decide +kernel
set_option maxRecDepth 100000 in
theorem hk_Law_185 : mo_kV "GateNamesLaw" 185 mm_Gate_could 1 0 = true := by decide +kernel
set_option maxRecDepth 100000 in
theorem hk_Law_188 : mo_kV "GateNamesLaw" 188 mm_Model_could 1 11 = true := by decide +kernel
set_option maxRecDepth 100000 in
theorem hk_Law_189 : mo_kV "GateNamesLaw" 189 mm_Gate_look 1 0 = true := by decide +kernel
set_option maxRecDepth 100000 in
theorem hk_Law_192 : mo_kV "GateNamesLaw" 192 mm_Model_look 1 11 = true := by decide +kernel
set_option maxRecDepth 100000 in
theorem hk_Law_193 : mo_kV "GateNamesLaw" 193 mm_Gate_best 0 0 = true := by decide +kernel
set_option maxRecDepth 100000 in
theorem hk_Law_196 : mo_kV "GateNamesLaw" 196 mm_Model_best 0 11 = true := by decide +kernel
set_option maxRecDepth 100000 in
theorem hk_Law_197 : mo_kV "GateNamesLaw" 197 mm_Gate_questions 1 0 = true := by decide +kernel
set_option maxRecDepth 100000 in
theorem hk_Law_200 : mo_kV "GateNamesLaw" 200 mm_Model_questions 1 11 = true := by decide +kernel
set_option maxRecDepth 100000 in
theorem hk_Law_201 : mo_kV "GateNamesLaw" 201 mm_Gate_drawn 1 0 = true := by decide +kernel
set_option maxRecDepth 100000 in
theorem hk_Law_204 : mo_kV "GateNamesLaw" 204 mm_Model_drawn 1 11 = true := by decide +kernel
set_option maxRecDepth 100000 in
theorem hk_Law_205 : mo_kV "GateNamesLaw" 205 mm_Gate_image 1 0 = true := by decide +kernel
set_option maxRecDepth 100000 in
theorem hk_Law_208 : mo_kV "GateNamesLaw" 208 mm_Model_image 1 11 = true := by decide +kernel
set_option maxRecDepth 100000 in
theorem hk_Law_209 : mo_kV "GateNamesLaw" 209 mm_Gate_restore 1 0 = true := by decide +kernel
set_option maxRecDepth 100000 in
theorem hk_Law_212 : mo_kV "GateNamesLaw" 212 mm_Model_restore 1 11 = true := by decide +kernel
set_option maxRecDepth 100000 in
theorem hk_Law_213 : mo_kV "GateNamesLaw" 213 mm_Gate_count 1 0 = true := by decide +kernel
set_option maxRecDepth 100000 in
theorem hk_Law_216 : mo_kV "GateNamesLaw" 216 mm_Model_count 1 11 = true := by decide +kernel
