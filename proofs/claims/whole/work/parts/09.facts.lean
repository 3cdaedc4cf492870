/-! Facts of the methods for their calls; small rules that the walks use. -/
theorem if_X6_init : IF yX6_init cX6_init 1 0 := ⟨by decide +kernel, rfl, mw_8, mw_2, mw_9⟩
theorem if_X1_init : IF yX1_init cX1_init 1 0 := ⟨by decide +kernel, rfl, mw_38, mw_15, mw_39⟩
theorem if_X4_init : IF yX4_init cX4_init 1 0 := ⟨by decide +kernel, rfl, mw_43, mw_21, mw_44⟩
theorem if_X5_init : IF yX5_init cX5_init 1 0 := ⟨by decide +kernel, rfl, mw_51, mw_33, mw_52⟩
theorem if_X0_init : IF yX0_init cX0_init 1 0 := ⟨by decide +kernel, rfl, mw_56, mw_25, mw_57⟩
theorem if_X3_init : IF yX3_init cX3_init 1 0 := ⟨by decide +kernel, rfl, mw_62, mw_29, mw_63⟩
theorem if_X7_init : IF yX7_init cX7_init 1 0 := ⟨by decide +kernel, rfl, mw_70, mw_5, mw_71⟩
theorem vf_X6_write : VF yX6_write cX6_write 2 (some .int) 1 RX6 := ⟨by decide +kernel, mw_84, mw_85, mw_2, mw_86⟩
theorem vf_X4_add : VF yX4_add cX4_add 2 (some .boolean) 1 RX4 := ⟨by decide +kernel, mw_88, mw_89, mw_21, mw_90⟩
theorem vf_X4_size : VF yX4_size cX4_size 1 (some .int) 0 RX4 := ⟨by decide +kernel, mw_92, mw_93, mw_21, mw_94⟩
theorem vf_X7_write : VF yX7_write cX7_write 2 (some .int) 1 RX7 := ⟨by decide +kernel, mw_96, mw_97, mw_5, mw_98⟩
theorem sf_X7_in : SF yX7_in cX7_in 6 (some .boolean) 3 := ⟨by decide +kernel, mw_102, mw_5, mw_103⟩
theorem vf_X6_wipe : VF yX6_wipe cX6_wipe 2 (some .int) 0 RX6 := ⟨by decide +kernel, mw_105, mw_106, mw_2, mw_107⟩
theorem vf_X4_clear : VF yX4_clear cX4_clear 1 none 0 RX4 := ⟨by decide +kernel, mw_109, mw_110, mw_21, mw_111⟩
theorem vf_X7_wipe : VF yX7_wipe cX7_wipe 2 (some .int) 0 RX7 := ⟨by decide +kernel, mw_113, mw_114, mw_5, mw_115⟩
theorem vf_X6_fault : VF yX6_fault cX6_fault 1 (some .int) 0 RX6 := ⟨by decide +kernel, mw_117, mw_118, mw_2, mw_119⟩
theorem vf_X4_firstFault : VF yX4_firstFault cX4_firstFault 2 (some .int) 0 RX4 := ⟨by decide +kernel, mw_121, mw_122, mw_21, mw_123⟩
theorem vf_X5_start : VF yX5_start cX5_start 1 none 0 RX5 := ⟨by decide +kernel, mw_125, mw_126, mw_33, mw_127⟩
theorem vf_X4_reads : VF yX4_reads cX4_reads 2 (some .boolean) 1 RX4 := ⟨by decide +kernel, mw_129, mw_130, mw_21, mw_131⟩
theorem vf_X5_hasEnded : VF yX5_hasEnded cX5_hasEnded 1 (some .boolean) 0 RX5 := ⟨by decide +kernel, mw_133, mw_134, mw_33, mw_135⟩
theorem vf_X5_cut : VF yX5_cut cX5_cut 1 (some .boolean) 0 RX5 := ⟨by decide +kernel, mw_137, mw_138, mw_33, mw_139⟩
theorem sf_X2_isLeaf : SF yX2_isLeaf cX2_isLeaf 1 (some .boolean) 1 := ⟨by decide +kernel, mw_141, mw_142, mw_143⟩
theorem vf_X5_square : VF yX5_square cX5_square 1 (some .long) 0 RX5 := ⟨by decide +kernel, mw_145, mw_146, mw_33, mw_147⟩
theorem vf_X5_cell : VF yX5_cell cX5_cell 3 (some .int) 0 RX5 := ⟨by decide +kernel, mw_149, mw_150, mw_33, mw_151⟩
theorem sf_X2_squareOf : SF yX2_squareOf cX2_squareOf 4 (some .long) 2 := ⟨by decide +kernel, mw_153, mw_142, mw_154⟩
theorem sf_X2_pattern : SF yX2_pattern cX2_pattern 1 (some .long) 1 := ⟨by decide +kernel, mw_157, mw_142, mw_158⟩
theorem vf_X5_pass : VF yX5_pass cX5_pass 1 none 0 RX5 := ⟨by decide +kernel, mw_163, mw_164, mw_33, mw_165⟩
theorem sf_X5_sizeAt : SF yX5_sizeAt cX5_sizeAt 1 (some .int) 1 := ⟨by decide +kernel, mw_167, mw_33, mw_168⟩
theorem vf_X7_fault : VF yX7_fault cX7_fault 1 (some .int) 0 RX7 := ⟨by decide +kernel, mw_170, mw_171, mw_5, mw_172⟩
theorem vf_X7_readText : VF yX7_readText cX7_readText 3 (some .int) 0 RX7 := ⟨by decide +kernel, mw_174, mw_175, mw_5, mw_176⟩
theorem sf_X7_isLeaf : SF yX7_isLeaf cX7_isLeaf 1 (some .boolean) 1 := ⟨by decide +kernel, mw_182, mw_5, mw_183⟩
theorem sf_X7_paintOf : SF yX7_paintOf cX7_paintOf 9 (some .long) 3 := ⟨by decide +kernel, mw_185, mw_5, mw_186⟩
theorem sf_X7_leftOf : SF yX7_leftOf cX7_leftOf 5 (some .int) 2 := ⟨by decide +kernel, mw_188, mw_5, mw_189⟩
theorem sf_X7_widthAt : SF yX7_widthAt cX7_widthAt 1 (some .int) 1 := ⟨by decide +kernel, mw_191, mw_5, mw_192⟩
theorem sf_X7_lowOf : SF yX7_lowOf cX7_lowOf 5 (some .int) 2 := ⟨by decide +kernel, mw_194, mw_5, mw_195⟩
theorem sf_X7_tells : SF yX7_tells cX7_tells 3 (some .boolean) 3 := ⟨by decide +kernel, mw_197, mw_5, mw_198⟩
theorem vf_X7_goOn : VF yX7_goOn cX7_goOn 1 none 0 RX7 := ⟨by decide +kernel, mw_200, mw_201, mw_5, mw_202⟩
theorem vf_X6_put : VF yX6_put cX6_put 2 (some .int) 1 RX6 := ⟨by decide +kernel, mw_204, mw_205, mw_2, mw_206⟩
theorem sf_X6_isPicture : SF yX6_isPicture cX6_isPicture 1 (some .boolean) 1 := ⟨by decide +kernel, mw_208, mw_2, mw_209⟩
theorem vf_X4_drawn : VF yX4_drawn cX4_drawn 1 (some .long) 0 RX4 := ⟨by decide +kernel, mw_211, mw_212, mw_21, mw_213⟩
theorem vf_X6_change : VF yX6_change cX6_change 4 (some .long) 2 RX6 := ⟨by decide +kernel, mw_215, mw_216, mw_2, mw_217⟩
theorem vf_X1_cells : VF yX1_cells cX1_cells 2 (some .long) 1 RX1 := ⟨by decide +kernel, mw_219, mw_220, mw_15, mw_221⟩
theorem vf_X0_add : VF yX0_add cX0_add 4 none 2 RX0 := ⟨by decide +kernel, mw_223, mw_224, mw_25, mw_225⟩
theorem vf_X0_forgetFirst : VF yX0_forgetFirst cX0_forgetFirst 2 none 0 RX0 := ⟨by decide +kernel, mw_227, mw_228, mw_25, mw_229⟩
theorem vf_X1_set : VF yX1_set cX1_set 4 none 2 RX1 := ⟨by decide +kernel, mw_231, mw_232, mw_15, mw_233⟩
theorem sf_J13_bitCount_95d88 : SF yJ13_bitCount_95d88 cJ13_bitCount_95d88 2 (some .int) 1 := ⟨by decide +kernel, mw_235, mw_236, mw_237⟩
theorem vf_X7_put : VF yX7_put cX7_put 2 (some .int) 1 RX7 := ⟨by decide +kernel, mw_242, mw_243, mw_5, mw_244⟩
theorem sf_X7_isPicture : SF yX7_isPicture cX7_isPicture 1 (some .boolean) 1 := ⟨by decide +kernel, mw_246, mw_5, mw_247⟩
theorem vf_X7_keepAct : VF yX7_keepAct cX7_keepAct 2 none 0 RX7 := ⟨by decide +kernel, mw_249, mw_250, mw_5, mw_251⟩
theorem sf_X7_ones : SF yX7_ones cX7_ones 4 (some .int) 1 := ⟨by decide +kernel, mw_255, mw_5, mw_256⟩
theorem vf_X6_join : VF yX6_join cX6_join 3 (some .int) 2 RX6 := ⟨by decide +kernel, mw_258, mw_259, mw_2, mw_260⟩
theorem vf_X6_combine : VF yX6_combine cX6_combine 4 (some .int) 3 RX6 := ⟨by decide +kernel, mw_262, mw_263, mw_2, mw_264⟩
theorem sf_X2_combined : SF yX2_combined cX2_combined 5 (some .long) 3 := ⟨by decide +kernel, mw_266, mw_142, mw_267⟩
theorem vf_X7_join : VF yX7_join cX7_join 3 (some .int) 2 RX7 := ⟨by decide +kernel, mw_269, mw_270, mw_5, mw_271⟩
theorem vf_X7_mix : VF yX7_mix cX7_mix 4 (some .int) 3 RX7 := ⟨by decide +kernel, mw_273, mw_274, mw_5, mw_275⟩
theorem vf_X7_mixOn : VF yX7_mixOn cX7_mixOn 9 none 4 RX7 := ⟨by decide +kernel, mw_277, mw_278, mw_5, mw_279⟩
theorem vf_X6_meet : VF yX6_meet cX6_meet 3 (some .int) 2 RX6 := ⟨by decide +kernel, mw_282, mw_283, mw_2, mw_284⟩
theorem vf_X7_meet : VF yX7_meet cX7_meet 3 (some .int) 2 RX7 := ⟨by decide +kernel, mw_286, mw_287, mw_5, mw_288⟩
theorem vf_X6_less : VF yX6_less cX6_less 3 (some .int) 2 RX6 := ⟨by decide +kernel, mw_290, mw_291, mw_2, mw_292⟩
theorem vf_X7_less : VF yX7_less cX7_less 3 (some .int) 2 RX7 := ⟨by decide +kernel, mw_294, mw_295, mw_5, mw_296⟩
theorem vf_X6_turn : VF yX6_turn cX6_turn 2 (some .int) 1 RX6 := ⟨by decide +kernel, mw_298, mw_299, mw_2, mw_300⟩
theorem sf_X2_turned : SF yX2_turned cX2_turned 5 (some .long) 1 := ⟨by decide +kernel, mw_302, mw_142, mw_303⟩
theorem sf_X2_isBlack : SF yX2_isBlack cX2_isBlack 3 (some .boolean) 2 := ⟨by decide +kernel, mw_305, mw_142, mw_306⟩
theorem sf_X2_bit : SF yX2_bit cX2_bit 2 (some .long) 2 := ⟨by decide +kernel, mw_308, mw_142, mw_309⟩
theorem sf_X2_lowestRow : SF yX2_lowestRow cX2_lowestRow 2 (some .int) 1 := ⟨by decide +kernel, mw_311, mw_142, mw_312⟩
theorem vf_X7_turn : VF yX7_turn cX7_turn 2 (some .int) 1 RX7 := ⟨by decide +kernel, mw_315, mw_316, mw_5, mw_317⟩
theorem sf_X7_turned : SF yX7_turned cX7_turned 7 (some .long) 1 := ⟨by decide +kernel, mw_319, mw_5, mw_320⟩
theorem sf_X7_is : SF yX7_is cX7_is 4 (some .boolean) 3 := ⟨by decide +kernel, mw_322, mw_5, mw_323⟩
theorem vf_X6_flip : VF yX6_flip cX6_flip 2 (some .int) 1 RX6 := ⟨by decide +kernel, mw_326, mw_327, mw_2, mw_328⟩
theorem sf_X2_flipped : SF yX2_flipped cX2_flipped 5 (some .long) 1 := ⟨by decide +kernel, mw_330, mw_142, mw_331⟩
theorem vf_X7_flip : VF yX7_flip cX7_flip 2 (some .int) 1 RX7 := ⟨by decide +kernel, mw_333, mw_334, mw_5, mw_335⟩
theorem sf_X7_flipped : SF yX7_flipped cX7_flipped 5 (some .long) 1 := ⟨by decide +kernel, mw_337, mw_5, mw_338⟩
theorem vf_X6_halve : VF yX6_halve cX6_halve 3 (some .int) 2 RX6 := ⟨by decide +kernel, mw_340, mw_341, mw_2, mw_342⟩
theorem sf_X6_isQuarter : SF yX6_isQuarter cX6_isQuarter 1 (some .boolean) 1 := ⟨by decide +kernel, mw_344, mw_2, mw_345⟩
theorem sf_X2_halved : SF yX2_halved cX2_halved 7 (some .long) 2 := ⟨by decide +kernel, mw_347, mw_142, mw_348⟩
theorem sf_X2_fourCells : SF yX2_fourCells cX2_fourCells 2 (some .long) 2 := ⟨by decide +kernel, mw_350, mw_142, mw_351⟩
theorem sf_X2_quarterCorner : SF yX2_quarterCorner cX2_quarterCorner 1 (some .int) 1 := ⟨by decide +kernel, mw_355, mw_142, mw_356⟩
theorem vf_X7_halve : VF yX7_halve cX7_halve 3 (some .int) 2 RX7 := ⟨by decide +kernel, mw_358, mw_359, mw_5, mw_360⟩
theorem sf_X7_halved : SF yX7_halved cX7_halved 10 (some .long) 2 := ⟨by decide +kernel, mw_363, mw_5, mw_364⟩
theorem vf_X6_grow : VF yX6_grow cX6_grow 3 (some .int) 2 RX6 := ⟨by decide +kernel, mw_366, mw_367, mw_2, mw_368⟩
theorem sf_X2_grown : SF yX2_grown cX2_grown 7 (some .long) 2 := ⟨by decide +kernel, mw_370, mw_142, mw_371⟩
theorem vf_X7_grow : VF yX7_grow cX7_grow 3 (some .int) 2 RX7 := ⟨by decide +kernel, mw_373, mw_374, mw_5, mw_375⟩
theorem sf_X7_grown : SF yX7_grown cX7_grown 8 (some .long) 2 := ⟨by decide +kernel, mw_377, mw_5, mw_378⟩
theorem vf_X6_undo : VF yX6_undo cX6_undo 1 (some .int) 0 RX6 := ⟨by decide +kernel, mw_380, mw_381, mw_2, mw_382⟩
theorem vf_X0_size : VF yX0_size cX0_size 1 (some .int) 0 RX0 := ⟨by decide +kernel, mw_384, mw_385, mw_25, mw_386⟩
theorem vf_X0_lastPicture : VF yX0_lastPicture cX0_lastPicture 1 (some .int) 0 RX0 := ⟨by decide +kernel, mw_388, mw_389, mw_25, mw_390⟩
theorem vf_X0_lastBefore : VF yX0_lastBefore cX0_lastBefore 1 (some .long) 0 RX0 := ⟨by decide +kernel, mw_392, mw_393, mw_25, mw_394⟩
theorem vf_X0_dropLast : VF yX0_dropLast cX0_dropLast 1 none 0 RX0 := ⟨by decide +kernel, mw_396, mw_397, mw_25, mw_398⟩
theorem vf_X7_undo : VF yX7_undo cX7_undo 2 (some .int) 0 RX7 := ⟨by decide +kernel, mw_400, mw_401, mw_5, mw_402⟩
theorem vf_X6_black : VF yX6_black cX6_black 2 (some .long) 1 RX6 := ⟨by decide +kernel, mw_404, mw_405, mw_2, mw_406⟩
theorem vf_X7_black : VF yX7_black cX7_black 2 (some .long) 1 RX7 := ⟨by decide +kernel, mw_408, mw_409, mw_5, mw_410⟩
theorem vf_X6_look : VF yX6_look cX6_look 5 (some .int) 2 RX6 := ⟨by decide +kernel, mw_412, mw_413, mw_2, mw_414⟩
theorem vf_X5_leastLength : VF yX5_leastLength cX5_leastLength 4 (some .int) 1 RX5 := ⟨by decide +kernel, mw_416, mw_417, mw_33, mw_418⟩
theorem vf_X5_step : VF yX5_step cX5_step 3 none 1 RX5 := ⟨by decide +kernel, mw_422, mw_423, mw_33, mw_424⟩
theorem sf_X2_sign : SF yX2_sign cX2_sign 6 (some .int) 2 := ⟨by decide +kernel, mw_427, mw_142, mw_428⟩
theorem sf_X2_parts : SF yX2_parts cX2_parts 5 (some .int) 1 := ⟨by decide +kernel, mw_432, mw_142, mw_433⟩
theorem sf_X2_partOf : SF yX2_partOf cX2_partOf 9 (some .long) 2 := ⟨by decide +kernel, mw_435, mw_142, mw_436⟩
theorem sf_X2_leftOf : SF yX2_leftOf cX2_leftOf 2 (some .long) 1 := ⟨by decide +kernel, mw_438, mw_142, mw_439⟩
theorem sf_X2_rightOf : SF yX2_rightOf cX2_rightOf 2 (some .long) 1 := ⟨by decide +kernel, mw_442, mw_142, mw_443⟩
theorem sf_X2_rim : SF yX2_rim cX2_rim 2 (some .int) 1 := ⟨by decide +kernel, mw_446, mw_142, mw_447⟩
theorem sf_X2_blocks : SF yX2_blocks cX2_blocks 9 (some .int) 1 := ⟨by decide +kernel, mw_449, mw_142, mw_450⟩
theorem vf_X7_look : VF yX7_look cX7_look 3 (some .int) 2 RX7 := ⟨by decide +kernel, mw_453, mw_454, mw_5, mw_455⟩
theorem vf_X7_findWord : VF yX7_findWord cX7_findWord 4 none 1 RX7 := ⟨by decide +kernel, mw_458, mw_459, mw_5, mw_460⟩
theorem vf_X7_leafOf : VF yX7_leafOf cX7_leafOf 5 (some .int) 1 RX7 := ⟨by decide +kernel, mw_462, mw_463, mw_5, mw_464⟩
theorem sf_X7_maskOf : SF yX7_maskOf cX7_maskOf 2 (some .long) 2 := ⟨by decide +kernel, mw_466, mw_5, mw_467⟩
theorem vf_X7_tellCells : VF yX7_tellCells cX7_tellCells 5 none 1 RX7 := ⟨by decide +kernel, mw_469, mw_470, mw_5, mw_471⟩
theorem sf_X7_partsOf : SF yX7_partsOf cX7_partsOf 9 (some .int) 1 := ⟨by decide +kernel, mw_473, mw_5, mw_474⟩
theorem sf_X7_rimOf : SF yX7_rimOf cX7_rimOf 6 (some .int) 1 := ⟨by decide +kernel, mw_478, mw_5, mw_479⟩
theorem sf_X7_blocksOf : SF yX7_blocksOf cX7_blocksOf 10 (some .int) 1 := ⟨by decide +kernel, mw_481, mw_5, mw_482⟩
theorem vf_X6_letter : VF yX6_letter cX6_letter 3 (some .int) 2 RX6 := ⟨by decide +kernel, mw_484, mw_485, mw_2, mw_486⟩
theorem vf_X5_leastLetter : VF yX5_leastLetter cX5_leastLetter 5 (some .int) 2 RX5 := ⟨by decide +kernel, mw_488, mw_489, mw_33, mw_490⟩
theorem vf_X7_letter : VF yX7_letter cX7_letter 3 (some .int) 2 RX7 := ⟨by decide +kernel, mw_492, mw_493, mw_5, mw_494⟩
theorem vf_X6_at : VF yX6_at cX6_at 6 (some .int) 3 RX6 := ⟨by decide +kernel, mw_496, mw_497, mw_2, mw_498⟩
theorem sf_X6_isCell : SF yX6_isCell cX6_isCell 1 (some .boolean) 1 := ⟨by decide +kernel, mw_500, mw_2, mw_501⟩
theorem sf_X2_depthAt : SF yX2_depthAt cX2_depthAt 4 (some .int) 2 := ⟨by decide +kernel, mw_504, mw_142, mw_505⟩
theorem vf_X7_at : VF yX7_at cX7_at 4 (some .int) 3 RX7 := ⟨by decide +kernel, mw_510, mw_511, mw_5, mw_512⟩
theorem vf_X6_alike : VF yX6_alike cX6_alike 3 (some .int) 2 RX6 := ⟨by decide +kernel, mw_515, mw_516, mw_2, mw_517⟩
theorem sf_X2_waysAlike : SF yX2_waysAlike cX2_waysAlike 6 (some .int) 2 := ⟨by decide +kernel, mw_519, mw_142, mw_520⟩
theorem sf_X2_unlike : SF yX2_unlike cX2_unlike 5 (some .int) 3 := ⟨by decide +kernel, mw_522, mw_142, mw_523⟩
theorem sf_X2_byWay : SF yX2_byWay cX2_byWay 6 (some .long) 2 := ⟨by decide +kernel, mw_525, mw_142, mw_526⟩
theorem vf_X7_alike : VF yX7_alike cX7_alike 3 (some .int) 2 RX7 := ⟨by decide +kernel, mw_530, mw_531, mw_5, mw_532⟩
theorem sf_X7_waysOf : SF yX7_waysOf cX7_waysOf 6 (some .int) 2 := ⟨by decide +kernel, mw_534, mw_5, mw_535⟩
theorem sf_X7_byWay : SF yX7_byWay cX7_byWay 6 (some .long) 2 := ⟨by decide +kernel, mw_537, mw_5, mw_538⟩
theorem vf_X6_near : VF yX6_near cX6_near 5 (some .int) 3 RX6 := ⟨by decide +kernel, mw_540, mw_541, mw_2, mw_542⟩
theorem sf_X2_nearestWay : SF yX2_nearestWay cX2_nearestWay 8 (some .int) 2 := ⟨by decide +kernel, mw_544, mw_142, mw_545⟩
theorem vf_X7_near : VF yX7_near cX7_near 8 (some .int) 3 RX7 := ⟨by decide +kernel, mw_548, mw_549, mw_5, mw_550⟩
theorem vf_X6_judge : VF yX6_judge cX6_judge 6 (some .int) 2 RX6 := ⟨by decide +kernel, mw_552, mw_553, mw_2, mw_554⟩
theorem vf_X6_readsDoings : VF yX6_readsDoings cX6_readsDoings 7 (some .boolean) 2 RX6 := ⟨by decide +kernel, mw_556, mw_557, mw_2, mw_558⟩
theorem vf_X1_copyFrom : VF yX1_copyFrom cX1_copyFrom 3 none 1 RX1 := ⟨by decide +kernel, mw_565, mw_566, mw_15, mw_567⟩
theorem vf_X1_does : VF yX1_does cX1_does 4 (some .boolean) 3 RX1 := ⟨by decide +kernel, mw_571, mw_572, mw_15, mw_573⟩
theorem vf_X1_combines : VF yX1_combines cX1_combines 4 (some .boolean) 3 RX1 := ⟨by decide +kernel, mw_575, mw_576, mw_15, mw_577⟩
theorem vf_X1_moves : VF yX1_moves cX1_moves 5 (some .boolean) 2 RX1 := ⟨by decide +kernel, mw_580, mw_581, mw_15, mw_582⟩
theorem vf_X1_scales : VF yX1_scales cX1_scales 6 (some .boolean) 3 RX1 := ⟨by decide +kernel, mw_586, mw_587, mw_15, mw_588⟩
theorem vf_X7_judge : VF yX7_judge cX7_judge 6 (some .int) 2 RX7 := ⟨by decide +kernel, mw_594, mw_595, mw_5, mw_596⟩
theorem sf_X7_thousandTo : SF yX7_thousandTo cX7_thousandTo 4 (some .long) 1 := ⟨by decide +kernel, mw_600, mw_5, mw_601⟩
theorem vf_X7_layTrial : VF yX7_layTrial cX7_layTrial 2 none 0 RX7 := ⟨by decide +kernel, mw_603, mw_604, mw_5, mw_605⟩
theorem vf_X7_tryThing : VF yX7_tryThing cX7_tryThing 7 (some .boolean) 3 RX7 := ⟨by decide +kernel, mw_607, mw_608, mw_5, mw_609⟩
theorem vf_X6_see : VF yX6_see cX6_see 3 (some .int) 2 RX6 := ⟨by decide +kernel, mw_611, mw_612, mw_2, mw_613⟩
theorem vf_X3_add : VF yX3_add cX3_add 3 (some .boolean) 2 RX3 := ⟨by decide +kernel, mw_615, mw_616, mw_29, mw_617⟩
theorem vf_X3_size : VF yX3_size cX3_size 1 (some .int) 0 RX3 := ⟨by decide +kernel, mw_619, mw_620, mw_29, mw_621⟩
theorem vf_X7_see : VF yX7_see cX7_see 3 (some .int) 2 RX7 := ⟨by decide +kernel, mw_623, mw_624, mw_5, mw_625⟩
theorem vf_X6_unsee : VF yX6_unsee cX6_unsee 2 (some .int) 0 RX6 := ⟨by decide +kernel, mw_628, mw_629, mw_2, mw_630⟩
theorem vf_X3_clear : VF yX3_clear cX3_clear 1 none 0 RX3 := ⟨by decide +kernel, mw_632, mw_633, mw_29, mw_634⟩
theorem vf_X7_unsee : VF yX7_unsee cX7_unsee 2 (some .int) 0 RX7 := ⟨by decide +kernel, mw_636, mw_637, mw_5, mw_638⟩
theorem vf_X6_leaves : VF yX6_leaves cX6_leaves 2 (some .int) 1 RX6 := ⟨by decide +kernel, mw_640, mw_641, mw_2, mw_642⟩
theorem vf_X3_fits : VF yX3_fits cX3_fits 5 (some .int) 0 RX3 := ⟨by decide +kernel, mw_644, mw_645, mw_29, mw_646⟩
theorem vf_X3_isSo : VF yX3_isSo cX3_isSo 5 (some .boolean) 2 RX3 := ⟨by decide +kernel, mw_649, mw_650, mw_29, mw_651⟩
theorem sf_X2_quarterCells : SF yX2_quarterCells cX2_quarterCells 1 (some .long) 1 := ⟨by decide +kernel, mw_653, mw_142, mw_654⟩
theorem vf_X3_firstFit : VF yX3_firstFit cX3_firstFit 4 (some .int) 0 RX3 := ⟨by decide +kernel, mw_658, mw_659, mw_29, mw_660⟩
theorem vf_X3_firstFigure : VF yX3_firstFigure cX3_firstFigure 3 (some .int) 1 RX3 := ⟨by decide +kernel, mw_662, mw_663, mw_29, mw_664⟩
theorem vf_X7_leaves : VF yX7_leaves cX7_leaves 5 (some .int) 1 RX7 := ⟨by decide +kernel, mw_666, mw_667, mw_5, mw_668⟩
theorem vf_X7_mayBe : VF yX7_mayBe cX7_mayBe 8 (some .boolean) 1 RX7 := ⟨by decide +kernel, mw_670, mw_671, mw_5, mw_672⟩
theorem sf_X7_leafLetter : SF yX7_leafLetter cX7_leafLetter 1 (some .int) 1 := ⟨by decide +kernel, mw_674, mw_5, mw_675⟩
theorem sf_X7_figuresOf : SF yX7_figuresOf cX7_figuresOf 1 (some .int) 1 := ⟨by decide +kernel, mw_677, mw_5, mw_678⟩
theorem vf_X6_share : VF yX6_share cX6_share 5 (some .int) 2 RX6 := ⟨by decide +kernel, mw_680, mw_681, mw_2, mw_682⟩
theorem vf_X1_blackIn : VF yX1_blackIn cX1_blackIn 4 (some .int) 1 RX1 := ⟨by decide +kernel, mw_684, mw_685, mw_15, mw_686⟩
theorem sf_X6_sixthsOfCell : SF yX6_sixthsOfCell cX6_sixthsOfCell 1 (some .int) 1 := ⟨by decide +kernel, mw_689, mw_2, mw_690⟩
theorem sf_X6_told : SF yX6_told cX6_told 5 (some .int) 3 := ⟨by decide +kernel, mw_692, mw_2, mw_693⟩
theorem sf_X6_commonDivisor : SF yX6_commonDivisor cX6_commonDivisor 6 (some .int) 2 := ⟨by decide +kernel, mw_695, mw_2, mw_696⟩
theorem vf_X7_share : VF yX7_share cX7_share 6 (some .int) 2 RX7 := ⟨by decide +kernel, mw_698, mw_699, mw_5, mw_700⟩
theorem vf_X7_areaBy : VF yX7_areaBy cX7_areaBy 5 (some .int) 1 RX7 := ⟨by decide +kernel, mw_702, mw_703, mw_5, mw_704⟩
theorem sf_X7_common : SF yX7_common cX7_common 5 (some .int) 2 := ⟨by decide +kernel, mw_706, mw_5, mw_707⟩
theorem vf_X6_rests : VF yX6_rests cX6_rests 7 (some .int) 3 RX6 := ⟨by decide +kernel, mw_709, mw_710, mw_2, mw_711⟩
theorem vf_X6_isRest : VF yX6_isRest cX6_isRest 15 (some .boolean) 4 RX6 := ⟨by decide +kernel, mw_713, mw_714, mw_2, mw_715⟩
theorem sf_X6_gain : SF yX6_gain cX6_gain 6 (some .int) 3 := ⟨by decide +kernel, mw_718, mw_2, mw_719⟩
theorem vf_X7_rests : VF yX7_rests cX7_rests 7 (some .int) 3 RX7 := ⟨by decide +kernel, mw_721, mw_722, mw_5, mw_723⟩
theorem vf_X7_isRest : VF yX7_isRest cX7_isRest 5 (some .boolean) 4 RX7 := ⟨by decide +kernel, mw_725, mw_726, mw_5, mw_727⟩
theorem vf_X7_gain : VF yX7_gain cX7_gain 9 (some .int) 4 RX7 := ⟨by decide +kernel, mw_729, mw_730, mw_5, mw_731⟩
theorem vf_X6_fades : VF yX6_fades cX6_fades 7 (some .int) 4 RX6 := ⟨by decide +kernel, mw_733, mw_734, mw_2, mw_735⟩
theorem sf_X6_areaLeft : SF yX6_areaLeft cX6_areaLeft 5 (some .int) 2 := ⟨by decide +kernel, mw_737, mw_2, mw_738⟩
theorem sf_X6_chanceOf : SF yX6_chanceOf cX6_chanceOf 4 (some .int) 2 := ⟨by decide +kernel, mw_741, mw_2, mw_742⟩
theorem vf_X7_fades : VF yX7_fades cX7_fades 12 (some .int) 4 RX7 := ⟨by decide +kernel, mw_744, mw_745, mw_5, mw_746⟩
theorem vf_X6_seed : VF yX6_seed cX6_seed 5 (some .long) 1 RX6 := ⟨by decide +kernel, mw_750, mw_751, mw_2, mw_752⟩
theorem vf_X7_seed : VF yX7_seed cX7_seed 5 (some .long) 1 RX7 := ⟨by decide +kernel, mw_754, mw_755, mw_5, mw_756⟩
theorem vf_X6_years : VF yX6_years cX6_years 4 (some .int) 1 RX6 := ⟨by decide +kernel, mw_759, mw_760, mw_2, mw_761⟩
theorem vf_X6_passYear : VF yX6_passYear cX6_passYear 2 none 1 RX6 := ⟨by decide +kernel, mw_766, mw_767, mw_2, mw_768⟩
theorem vf_X1_area : VF yX1_area cX1_area 3 (some .int) 0 RX1 := ⟨by decide +kernel, mw_770, mw_771, mw_15, mw_772⟩
theorem vf_X7_years : VF yX7_years cX7_years 5 (some .int) 1 RX7 := ⟨by decide +kernel, mw_775, mw_776, mw_5, mw_777⟩
theorem vf_X7_areaOf : VF yX7_areaOf cX7_areaOf 3 (some .int) 1 RX7 := ⟨by decide +kernel, mw_783, mw_784, mw_5, mw_785⟩
theorem vf_X6_keep : VF yX6_keep cX6_keep 3 (some .int) 1 RX6 := ⟨by decide +kernel, mw_787, mw_788, mw_2, mw_789⟩
theorem vf_X7_keep : VF yX7_keep cX7_keep 3 (some .int) 1 RX7 := ⟨by decide +kernel, mw_791, mw_792, mw_5, mw_793⟩
theorem vf_X6_again : VF yX6_again cX6_again 3 (some .int) 1 RX6 := ⟨by decide +kernel, mw_795, mw_796, mw_2, mw_797⟩
theorem vf_X0_clear : VF yX0_clear cX0_clear 1 none 0 RX0 := ⟨by decide +kernel, mw_799, mw_800, mw_25, mw_801⟩
theorem vf_X7_again : VF yX7_again cX7_again 3 (some .int) 1 RX7 := ⟨by decide +kernel, mw_803, mw_804, mw_5, mw_805⟩
theorem vf_X6_count : VF yX6_count cX6_count 2 (some .int) 1 RX6 := ⟨by decide +kernel, mw_807, mw_808, mw_2, mw_809⟩
theorem vf_X7_count : VF yX7_count cX7_count 2 (some .int) 1 RX7 := ⟨by decide +kernel, mw_811, mw_812, mw_5, mw_813⟩
theorem nt_of {b : Bool} (h : b = false) : ¬ b = true := by rw [h]; decide
theorem sw_out {x : Int32} {lo hi : Int} (h : ∀ k : Int, lo ≤ k → k ≤ hi → ¬ x = Int32.ofInt k) : x.toInt < lo ∨ hi < x.toInt := by
  by_cases h1 : x.toInt < lo
  · exact Or.inl h1
  · by_cases h2 : hi < x.toInt
    · exact Or.inr h2
    · exact absurd (Int32.ofInt_toInt x).symm (h x.toInt (by omega) (by omega))
theorem ne_toInt {x : Int32} {k : Nat} (h : ¬ x = OfNat.ofNat k) (hk : (OfNat.ofNat k : Int32).toInt = (k : Int) := by decide) : ¬ x.toInt = (k : Int) := fun q => h (by
  have h2 := congrArg Int32.ofInt (q.trans hk.symm)
  rw [Int32.ofInt_toInt, Int32.ofInt_toInt] at h2
  exact h2)
theorem ne_toInt2 {x : Int32} {k : Nat} (h : ¬ x = OfNat.ofNat k) (hk : (OfNat.ofNat k : Int32).toInt = (k : Int) := by decide) : ¬ (k : Int) = x.toInt := fun q => ne_toInt h hk q.symm
theorem nI_dec {n : Nat} (h : 0 < n) : nI n + (-1) = nI (n - 1) := by
  obtain ⟨k, rfl⟩ : ∃ k, n = k + 1 := ⟨n - 1, by omega⟩
  exact pk_m1 k
theorem vp_nar_b2i (b : Bool) : vp_nar .boolean (b2i b) = b2i b := by cases b <;> rfl
def jushr (x : Int64) (k : Nat) : Int64 := (x.toUInt64 >>> ((nI k).toInt64.toUInt64 &&& Int64.toUInt64 63)).toInt64
def jshl (x : Int64) (k : Nat) : Int64 := x <<< ((nI k).toInt64 &&& 63)
section NewG
variable {p : Program} {l : Launch} {e : Env} {R : Room} {s : State} {m : MethodId} {args : Array Value} {below : List Frame} {meth : Method} {c : Code} {H : Heap} {locs : List Loc} {cells slots : Nat} {Q : State → Prop}
variable {cc : ByteArray} {pc : Nat} {ls : Array Slot} {rest : List Value} {D : va_G} {cl : List vw_C} {A : Nat → Prop} {tys : List (ClassId × FieldType)} {ws : va_W} {H0 : Heap}
theorem va_newG {t0 : Nat} (hexec : p.tables.exec = Jvm.exec) (hb : c.code = cc) {atype : ArrayType} (harr : (Cond.arrayClass (newarray.typeOf atype)).before args s = true) {ty : FieldType} (hty : newarray.typeOf atype = ty) (hK : va_K D cl tys s) {cA' : ClassId} (ht : tys[t0]? = some (cA', ty)) (hP : va_P D cl ws H) (hD : va_D A ws) (hS : va_S A H0 H locs) (hA : ∀ q, H0.size ≤ q → A q)
    {n : Int32} {N' : Nat} {a0 : vp_A} (ha : ∀ cA : ClassId, vp_cell cA a0 = arrV cA N' (fun _ => defaultValue ty)) (hn : ¬ n < 0) (hN : n.toNatClampNeg = N') (hbytes : N' * componentBytes ty ≤ 536870912) (hcells : cells + 1 ≤ R.cells) (hslots : slots + N' ≤ R.slots) (hdg : decode cc pc = .ok (.newarray atype, 2))
    (kk : ∀ (q : Nat) (H1 : Heap), va_P D cl (ws ++ [(q, .inl (cA', a0))]) H1 → va_D A (ws ++ [(q, .inl (cA', a0))]) → va_S A H0 H1 locs → W p l e R s m args below meth c H1 locs (cells + 1) (slots + N') Q (F0 m (pc + 2) ls (.ref q :: rest))) : W p l e R s m args below meth c H locs cells slots Q (F0 m pc ls (.int n :: rest)) := by
  refine va_newa hexec hb harr hty hK hP hD hS hA ha hn hN hbytes hcells hslots hdg (fun q cA H1 hK1 hP1 hD1 hS1 => ?_)
  have e : cA = cA' := by
    have h1 := (hK1.2 tys.length (cA, ty) (by simp)).2
    have h2 := (hK.2 t0 _ ht).2
    subst hty
    cases atype <;> exact Option.some.inj (h1.symm.trans h2)
  subst e
  exact kk q H1 hP1 hD1 hS1
theorem va_newQ {t0 : Nat} (hexec : p.tables.exec = Jvm.exec) (hb : c.code = cc) {own C : String} {index : Nat} (hown : s.vm.findClass own = some m.cls) (hclink : (Cond.classLink own index C).before args s = true) (hover : va_AO C s) (hK : va_K D cl tys s) {cA' : ClassId} (ht : tys[t0]? = some (cA', .object C)) (hP : va_P D cl ws H) (hD : va_D A ws) (hS : va_S A H0 H locs) (hA : ∀ q, H0.size ≤ q → A q)
    {n : Int32} {N' : Nat} (hn : ¬ n < 0) (hN : n.toNatClampNeg = N') (hbytes : N' * 4 ≤ 536870912) (hcells : cells + 1 ≤ R.cells) (hslots : slots + N' ≤ R.slots) (hdg : decode cc pc = .ok (.anewarray index, 3))
    (kk : ∀ (q : Nat) (H1 : Heap), va_P D cl (ws ++ [(q, .inl (cA', N', .inr (.inr (.inr (.inr (fun _ => none))))))]) H1 → va_D A (ws ++ [(q, .inl (cA', N', .inr (.inr (.inr (.inr (fun _ => none))))))]) → va_S A H0 H1 locs → W p l e R s m args below meth c H1 locs (cells + 1) (slots + N') Q (F0 m (pc + 3) ls (.ref q :: rest))) : W p l e R s m args below meth c H locs cells slots Q (F0 m pc ls (.int n :: rest)) := by
  refine va_newq hexec hb hown hclink hover hK hP hD hS hA hn hN hbytes hcells hslots hdg (fun q cA H1 hK1 hP1 hD1 hS1 => ?_)
  have e : cA = cA' := by
    obtain ⟨_, _, _, _, _, h1⟩ := (hK1.2 tys.length (cA, .object C) (by simp)).2
    obtain ⟨_, _, _, _, _, h2⟩ := (hK.2 t0 _ ht).2
    exact Option.some.inj (h1.symm.trans h2)
  subst e
  exact kk q H1 hP1 hD1 hS1
end NewG
