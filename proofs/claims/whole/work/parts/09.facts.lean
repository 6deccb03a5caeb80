theorem fg_X10_10_0 : FG RX10 10 0 0 3 := ⟨10, [3, 5, 7, 9, 11, 13, 15, 17, 22, 36, 0, 0, 0], RX10, TX10, 13, rfl, rfl, rfl, by decide, rfl, wm_234, in_X10⟩
theorem kb_20 : (Int8.ofInt 20).toInt32 = 20 := by decide
theorem fg_X7_13_1 : FG RX7 13 1 1 0 := ⟨7, [4, 0], RX7, TX7, 2, rfl, rfl, rfl, by decide, rfl, wm_34, in_X7⟩
theorem ks_400 : (Int16.ofInt 400).toInt32 = 400 := by decide
theorem ki_0 : Int32.ofInt 0 = 0 := by decide
theorem ki_1 : Int32.ofInt 1 = 1 := by decide
theorem cv_X10_85 : CV RX10 85 yX7_hasRoomFor cX7_hasRoomFor 2 (some .boolean) 1 := ⟨wm_278, wm_279, wm_280, wm_2, wm_281, ⟨by decide, by decide⟩, by decide +kernel⟩
theorem rc_1 : RC 1 RX7 := ⟨7, [4, 0], TX7, 2, rfl, rfl⟩
theorem kb_24 : (Int8.ofInt 24).toInt32 = 24 := by decide
theorem fg_X7_9_1 : FG RX7 9 1 0 4 := ⟨7, [4, 0], RX7, TX7, 2, rfl, rfl, rfl, by decide, rfl, wm_33, in_X7⟩
theorem ar_2 : shL[2]? = some (.inl (0, 400)) := rfl
theorem fp_X7_13_1 : FP RX7 13 1 1 0 .int := ⟨7, [4, 0], RX7, TX7, 2, tyX7, rfl, rfl, rfl, by decide, rfl, wm_34, in_X7, tyX7_ok, nmX7, rfl, by decide +kernel⟩
theorem cv_X10_89 : CV RX10 89 yX7_addNumber cX7_addNumber 3 none 1 := ⟨wm_282, wm_283, wm_284, wm_2, wm_285, ⟨by decide, by decide⟩, by decide +kernel⟩
theorem cv_X10_93 : CV RX10 93 yX7_length cX7_length 1 (some .int) 0 := ⟨wm_286, wm_287, wm_288, wm_2, wm_289, ⟨by decide, by decide⟩, by decide +kernel⟩
theorem ki_m1 : Int32.ofInt (-1) = (-1) := by decide
theorem cv_X10_97 : CV RX10 97 yX7_cutTo cX7_cutTo 2 (some .boolean) 1 := ⟨wm_294, wm_295, wm_296, wm_2, wm_297, ⟨by decide, by decide⟩, by decide +kernel⟩
theorem fg_X10_79_0 : FG RX10 79 0 11 0 := ⟨10, [3, 5, 7, 9, 11, 13, 15, 17, 22, 36, 0, 0, 0], RX10, TX10, 13, rfl, rfl, rfl, by decide, rfl, wm_245, in_X10⟩
theorem fg_X10_23_0 : FG RX10 23 0 2 7 := ⟨10, [3, 5, 7, 9, 11, 13, 15, 17, 22, 36, 0, 0, 0], RX10, TX10, 13, rfl, rfl, rfl, by decide, rfl, wm_236, in_X10⟩
theorem kb_8 : (Int8.ofInt 8).toInt32 = 8 := by decide
theorem ki_3 : Int32.ofInt 3 = 3 := by decide
theorem kb_7 : (Int8.ofInt 7).toInt32 = 7 := by decide
theorem cv_X10_100 : CV RX10 100 yX7_levelAt cX7_levelAt 3 (some .int) 1 := ⟨wm_302, wm_303, wm_304, wm_2, wm_305, ⟨by decide, by decide⟩, by decide +kernel⟩
theorem fg_X1_15_5 : FG RX1 15 5 1 0 := ⟨1, [8, 0, 0, 0, 0, 0], RX1, TX1, 6, rfl, rfl, rfl, by decide, rfl, wm_48, in_X1⟩
theorem fp_X1_15_5 : FP RX1 15 5 1 0 .int := ⟨1, [8, 0, 0, 0, 0, 0], RX1, TX1, 6, tyX1, rfl, rfl, rfl, by decide, rfl, wm_48, in_X1, tyX1_ok, nmX1, rfl, by decide +kernel⟩
theorem fg_X1_19_5 : FG RX1 19 5 2 0 := ⟨1, [8, 0, 0, 0, 0, 0], RX1, TX1, 6, rfl, rfl, rfl, by decide, rfl, wm_49, in_X1⟩
theorem fp_X1_19_5 : FP RX1 19 5 2 0 .int := ⟨1, [8, 0, 0, 0, 0, 0], RX1, TX1, 6, tyX1, rfl, rfl, rfl, by decide, rfl, wm_49, in_X1, tyX1_ok, nmX1, rfl, by decide +kernel⟩
theorem kb_6 : (Int8.ofInt 6).toInt32 = 6 := by decide
theorem ki_5 : Int32.ofInt 5 = 5 := by decide
theorem fg_X1_22_5 : FG RX1 22 5 3 0 := ⟨1, [8, 0, 0, 0, 0, 0], RX1, TX1, 6, rfl, rfl, rfl, by decide, rfl, wm_50, in_X1⟩
theorem ks_300 : (Int16.ofInt 300).toInt32 = 300 := by decide
theorem fg_X1_11_5 : FG RX1 11 5 0 8 := ⟨1, [8, 0, 0, 0, 0, 0], RX1, TX1, 6, rfl, rfl, rfl, by decide, rfl, wm_47, in_X1⟩
theorem ar_6 : shL[6]? = some (.inl (0, 300)) := rfl
theorem fp_X1_22_5 : FP RX1 22 5 3 0 .int := ⟨1, [8, 0, 0, 0, 0, 0], RX1, TX1, 6, tyX1, rfl, rfl, rfl, by decide, rfl, wm_50, in_X1, tyX1_ok, nmX1, rfl, by decide +kernel⟩
theorem kb_30 : (Int8.ofInt 30).toInt32 = 30 := by decide
theorem fg_X1_25_5 : FG RX1 25 5 4 0 := ⟨1, [8, 0, 0, 0, 0, 0], RX1, TX1, 6, rfl, rfl, rfl, by decide, rfl, wm_51, in_X1⟩
theorem fp_X1_25_5 : FP RX1 25 5 4 0 .int := ⟨1, [8, 0, 0, 0, 0, 0], RX1, TX1, 6, tyX1, rfl, rfl, rfl, by decide, rfl, wm_51, in_X1, tyX1_ok, nmX1, rfl, by decide +kernel⟩
theorem cv_X1_46 : CV RX1 46 yX1_lose cX1_lose 1 none 0 := ⟨wm_318, wm_320, wl_2, wm_3, wm_321, ⟨by decide, by decide⟩, by decide +kernel⟩
theorem rc_5 : RC 5 RX1 := ⟨1, [8, 0, 0, 0, 0, 0], TX1, 6, rfl, rfl⟩
theorem cv_X1_38 : CV RX1 38 yX1_putBit cX1_putBit 2 none 1 := ⟨wm_314, wm_316, wl_1, wm_3, wm_317, ⟨by decide, by decide⟩, by decide +kernel⟩
theorem kb_16 : (Int8.ofInt 16).toInt32 = 16 := by decide
theorem fp_X1_28_5 : FP RX1 28 5 5 0 .int := ⟨1, [8, 0, 0, 0, 0, 0], RX1, TX1, 6, tyX1, rfl, rfl, rfl, by decide, rfl, wm_52, in_X1, tyX1_ok, nmX1, rfl, by decide +kernel⟩
theorem fg_X1_28_5 : FG RX1 28 5 5 0 := ⟨1, [8, 0, 0, 0, 0, 0], RX1, TX1, 6, rfl, rfl, rfl, by decide, rfl, wm_52, in_X1⟩
theorem cv_X1_42 : CV RX1 42 yX1_bitAt cX1_bitAt 2 (some .int) 1 := ⟨wm_331, wm_333, wl_5, wm_3, wm_334, ⟨by decide, by decide⟩, by decide +kernel⟩
theorem cv_X1_57 : CV RX1 57 yX1_number cX1_number 5 (some .int) 2 := ⟨wm_339, wm_340, wm_341, wm_3, wm_342, ⟨by decide, by decide⟩, by decide +kernel⟩
theorem kb_15 : (Int8.ofInt 15).toInt32 = 15 := by decide
theorem ks_4129 : (Int16.ofInt 4129).toInt32 = 4129 := by decide
theorem cn_X1_53 : CN RX1 53 yX10_checkAfter "ShipVoices" cX10_checkAfter 3 (some .int) 2 := ⟨List.mem_of_getElem? (i := 0) rfl, wm_336, wm_1, wm_337, ⟨by decide, by decide⟩, by decide +kernel⟩
theorem cv_X1_49 : CV RX1 49 yX1_isChecked cX1_isChecked 3 (some .boolean) 0 := ⟨wm_326, wm_328, wl_4, wm_3, wm_329, ⟨by decide, by decide⟩, by decide +kernel⟩
theorem cv_X1_34 : CV RX1 34 yX1_endPiece cX1_endPiece 2 (some .boolean) 0 := ⟨wm_322, wm_324, wl_3, wm_3, wm_325, ⟨by decide, by decide⟩, by decide +kernel⟩
theorem cv_X1_31 : CV RX1 31 yX1_takeOne cX1_takeOne 1 none 0 := ⟨wm_310, wm_312, wl_0, wm_3, wm_313, ⟨by decide, by decide⟩, by decide +kernel⟩
theorem cv_X10_104 : CV RX10 104 yX1_takeLevel cX1_takeLevel 4 (some .boolean) 1 := ⟨wm_306, wm_307, wm_308, wm_3, wm_309, ⟨by decide, by decide⟩, by decide +kernel⟩
theorem fg_X10_29_0 : FG RX10 29 0 3 9 := ⟨10, [3, 5, 7, 9, 11, 13, 15, 17, 22, 36, 0, 0, 0], RX10, TX10, 13, rfl, rfl, rfl, by decide, rfl, wm_237, in_X10⟩
theorem cv_X8_33 : CV RX8 33 yX1_frameBits cX1_frameBits 1 (some .int) 0 := ⟨wm_355, wm_356, wm_357, wm_3, wm_358, ⟨by decide, by decide⟩, by decide +kernel⟩
theorem ki_4 : Int32.ofInt 4 = 4 := by decide
theorem cv_X8_39 : CV RX8 39 yX1_number cX1_number 5 (some .int) 2 := ⟨wm_359, wm_340, wm_341, wm_3, wm_342, ⟨by decide, by decide⟩, by decide +kernel⟩
theorem fp_X8_15_7 : FP RX8 15 7 1 0 .int := ⟨8, [10, 0, 0], RX8, TX8, 3, tyX8, rfl, rfl, rfl, by decide, rfl, wm_73, in_X8, tyX8_ok, nmX8, rfl, by decide +kernel⟩
theorem fp_X8_19_7 : FP RX8 19 7 2 0 .int := ⟨8, [10, 0, 0], RX8, TX8, 3, tyX8, rfl, rfl, rfl, by decide, rfl, wm_74, in_X8, tyX8_ok, nmX8, rfl, by decide +kernel⟩
theorem fg_X8_15_7 : FG RX8 15 7 1 0 := ⟨8, [10, 0, 0], RX8, TX8, 3, rfl, rfl, rfl, by decide, rfl, wm_73, in_X8⟩
theorem cs_X8_43 : CS RX8 43 yX8_isKind cX8_isKind 1 (some .boolean) 1 := ⟨wm_360, wm_361, wm_4, wm_362, ⟨by decide, by decide⟩, by decide +kernel⟩
theorem cv_X8_50 : CV RX8 50 yX8_width cX8_width 3 (some .int) 1 := ⟨wm_367, wm_368, wm_369, wm_4, wm_370, ⟨by decide, by decide⟩, by decide +kernel⟩
theorem rc_7 : RC 7 RX8 := ⟨8, [10, 0, 0], TX8, 3, rfl, rfl⟩
theorem cv_X8_47 : CV RX8 47 yX8_bodyBits cX8_bodyBits 3 (some .int) 0 := ⟨wm_363, wm_365, wl_8, wm_4, wm_366, ⟨by decide, by decide⟩, by decide +kernel⟩
theorem fg_X8_11_7 : FG RX8 11 7 0 10 := ⟨8, [10, 0, 0], RX8, TX8, 3, rfl, rfl, rfl, by decide, rfl, wm_72, in_X8⟩
theorem ar_8 : shL[8]? = some (.inl (1, 4)) := rfl
theorem kb_31 : (Int8.ofInt 31).toInt32 = 31 := by decide
theorem kb_26 : (Int8.ofInt 26).toInt32 = 26 := by decide
theorem cs_X8_69 : CS RX8 69 yX8_areLetters cX8_areLetters 3 (some .boolean) 2 := ⟨wm_381, wm_382, wm_4, wm_383, ⟨by decide, by decide⟩, by decide +kernel⟩
theorem ki_2 : Int32.ofInt 2 = 2 := by decide
theorem ks_2250 : (Int16.ofInt 2250).toInt32 = 2250 := by decide
theorem cv_X8_57 : CV RX8 57 yX8_isAsTold cX8_isAsTold 1 (some .boolean) 0 := ⟨wm_377, wm_379, wl_10, wm_4, wm_380, ⟨by decide, by decide⟩, by decide +kernel⟩
theorem cv_X8_54 : CV RX8 54 yX8_signed cX8_signed 4 (some .int) 2 := ⟨wm_373, wm_375, wl_9, wm_4, wm_376, ⟨by decide, by decide⟩, by decide +kernel⟩
theorem cv_X8_25 : CV RX8 25 yX8_readAll cX8_readAll 5 (some .boolean) 1 := ⟨wm_351, wm_353, wl_7, wm_4, wm_354, ⟨by decide, by decide⟩, by decide +kernel⟩
theorem cv_X8_29 : CV RX8 29 yX8_setNumbers cX8_setNumbers 5 none 4 := ⟨wm_384, wm_386, wl_11, wm_4, wm_387, ⟨by decide, by decide⟩, by decide +kernel⟩
theorem cv_X10_203 : CV RX10 203 yX8_readFrom cX8_readFrom 2 none 1 := ⟨wm_347, wm_348, wm_349, wm_4, wm_350, ⟨by decide, by decide⟩, by decide +kernel⟩
theorem fp_X10_79_0 : FP RX10 79 0 11 0 .int := ⟨10, [3, 5, 7, 9, 11, 13, 15, 17, 22, 36, 0, 0, 0], RX10, TX10, 13, tyX10, rfl, rfl, rfl, by decide, rfl, wm_245, in_X10, tyX10_ok, nmX10, rfl, by decide +kernel⟩
theorem cv_X10_207 : CV RX10 207 yX8_kind cX8_kind 1 (some .int) 0 := ⟨wm_388, wm_389, wm_390, wm_4, wm_391, ⟨by decide, by decide⟩, by decide +kernel⟩
theorem fg_X10_43_0 : FG RX10 43 0 5 13 := ⟨10, [3, 5, 7, 9, 11, 13, 15, 17, 22, 36, 0, 0, 0], RX10, TX10, 13, rfl, rfl, rfl, by decide, rfl, wm_239, in_X10⟩
theorem fg_X10_75_0 : FG RX10 75 0 10 0 := ⟨10, [3, 5, 7, 9, 11, 13, 15, 17, 22, 36, 0, 0, 0], RX10, TX10, 13, rfl, rfl, rfl, by decide, rfl, wm_244, in_X10⟩
theorem fg_X2_15_11 : FG RX2 15 11 1 0 := ⟨2, [14, 0], RX2, TX2, 2, rfl, rfl, rfl, by decide, rfl, wm_113, in_X2⟩
theorem ks_200 : (Int16.ofInt 200).toInt32 = 200 := by decide
theorem fg_X2_11_11 : FG RX2 11 11 0 14 := ⟨2, [14, 0], RX2, TX2, 2, rfl, rfl, rfl, by decide, rfl, wm_112, in_X2⟩
theorem cv_X2_23 : CV RX2 23 yX8_kind cX8_kind 1 (some .int) 0 := ⟨wm_396, wm_389, wm_390, wm_4, wm_391, ⟨by decide, by decide⟩, by decide +kernel⟩
theorem ar_12 : shL[12]? = some (.inl (1, 1600)) := rfl
theorem fg_X8_19_7 : FG RX8 19 7 2 0 := ⟨8, [10, 0, 0], RX8, TX8, 3, rfl, rfl, rfl, by decide, rfl, wm_74, in_X8⟩
theorem cv_X2_29 : CV RX2 29 yX8_ship cX8_ship 1 (some .int) 0 := ⟨wm_397, wm_398, wm_399, wm_4, wm_400, ⟨by decide, by decide⟩, by decide +kernel⟩
theorem fp_X2_15_11 : FP RX2 15 11 1 0 .int := ⟨2, [14, 0], RX2, TX2, 2, tyX2, rfl, rfl, rfl, by decide, rfl, wm_113, in_X2, tyX2_ok, nmX2, rfl, by decide +kernel⟩
theorem cv_X2_32 : CV RX2 32 yX8_number cX8_number 2 (some .int) 1 := ⟨wm_401, wm_402, wm_403, wm_4, wm_404, ⟨by decide, by decide⟩, by decide +kernel⟩
theorem cv_X10_210 : CV RX10 210 yX2_add cX2_add 6 (some .int) 3 := ⟨wm_392, wm_393, wm_394, wm_6, wm_395, ⟨by decide, by decide⟩, by decide +kernel⟩
theorem rc_11 : RC 11 RX2 := ⟨2, [14, 0], TX2, 2, rfl, rfl⟩
theorem fg_X10_57_0 : FG RX10 57 0 7 17 := ⟨10, [3, 5, 7, 9, 11, 13, 15, 17, 22, 36, 0, 0, 0], RX10, TX10, 13, rfl, rfl, rfl, by decide, rfl, wm_241, in_X10⟩
theorem cv_X2_19 : CV RX2 19 yX2_has cX2_has 2 (some .boolean) 1 := ⟨wm_416, wm_417, wm_418, wm_6, wm_419, ⟨by decide, by decide⟩, by decide +kernel⟩
theorem cv_X9_37 : CV RX9 37 yX2_cell cX2_cell 3 (some .int) 2 := ⟨wm_424, wm_413, wm_414, wm_6, wm_415, ⟨by decide, by decide⟩, by decide +kernel⟩
theorem fg_X9_29_15 : FG RX9 29 15 4 0 := ⟨9, [18, 19, 20, 21, 0], RX9, TX9, 5, rfl, rfl, rfl, by decide, rfl, wm_142, in_X9⟩
theorem kb_100 : (Int8.ofInt 100).toInt32 = 100 := by decide
theorem fg_X9_13_15 : FG RX9 13 15 0 18 := ⟨9, [18, 19, 20, 21, 0], RX9, TX9, 5, rfl, rfl, rfl, by decide, rfl, wm_138, in_X9⟩
theorem ar_16 : shL[16]? = some (.inl (3, 200)) := rfl
theorem cv_X2_36 : CV RX2 36 yX2_cell cX2_cell 3 (some .int) 2 := ⟨wm_436, wm_413, wm_414, wm_6, wm_415, ⟨by decide, by decide⟩, by decide +kernel⟩
theorem cv_X9_52 : CV RX9 52 yX2_isOf cX2_isOf 4 (some .boolean) 3 := ⟨wm_432, wm_433, wm_434, wm_6, wm_435, ⟨by decide, by decide⟩, by decide +kernel⟩
theorem cs_X9_49 : CS RX9 49 yX9_areOfOneText cX9_areOfOneText 3 (some .boolean) 3 := ⟨wm_429, wm_430, wm_8, wm_431, ⟨by decide, by decide⟩, by decide +kernel⟩
theorem fg_X9_26_15 : FG RX9 26 15 3 21 := ⟨9, [18, 19, 20, 21, 0], RX9, TX9, 5, rfl, rfl, rfl, by decide, rfl, wm_141, in_X9⟩
theorem ar_19 : shL[19]? = some (.inl (1, 5)) := rfl
theorem cv_X9_41 : CV RX9 41 yX9_findNewest cX9_findNewest 7 (some .boolean) 3 := ⟨wm_425, wm_427, wl_12, wm_8, wm_428, ⟨by decide, by decide⟩, by decide +kernel⟩
theorem rc_15 : RC 15 RX9 := ⟨9, [18, 19, 20, 21, 0], TX9, 5, rfl, rfl⟩
theorem fg_X9_23_15 : FG RX9 23 15 2 20 := ⟨9, [18, 19, 20, 21, 0], RX9, TX9, 5, rfl, rfl, rfl, by decide, rfl, wm_140, in_X9⟩
theorem ar_18 : shL[18]? = some (.inl (1, 100)) := rfl
theorem fp_X9_29_15 : FP RX9 29 15 4 0 .int := ⟨9, [18, 19, 20, 21, 0], RX9, TX9, 5, tyX9, rfl, rfl, rfl, by decide, rfl, wm_142, in_X9, tyX9_ok, nmX9, rfl, by decide +kernel⟩
theorem fg_X9_19_15 : FG RX9 19 15 1 19 := ⟨9, [18, 19, 20, 21, 0], RX9, TX9, 5, rfl, rfl, rfl, by decide, rfl, wm_139, in_X9⟩
theorem ar_17 : shL[17]? = some (.inl (1, 500)) := rfl
theorem cv_X9_45 : CV RX9 45 yX9_join cX9_join 5 none 3 := ⟨wm_437, wm_439, wl_13, wm_8, wm_440, ⟨by decide, by decide⟩, by decide +kernel⟩
theorem cv_X10_218 : CV RX10 218 yX9_note cX9_note 4 none 2 := ⟨wm_420, wm_421, wm_422, wm_8, wm_423, ⟨by decide, by decide⟩, by decide +kernel⟩
theorem fg_X10_50_0 : FG RX10 50 0 6 15 := ⟨10, [3, 5, 7, 9, 11, 13, 15, 17, 22, 36, 0, 0, 0], RX10, TX10, 13, rfl, rfl, rfl, by decide, rfl, wm_240, in_X10⟩
theorem fg_X0_11_13 : FG RX0 11 13 0 16 := ⟨0, [16, 0], RX0, TX0, 2, rfl, rfl, rfl, by decide, rfl, wm_125, in_X0⟩
theorem ar_14 : shL[14]? = some (.inl (1, 200)) := rfl
theorem fg_X0_17_13 : FG RX0 17 13 1 0 := ⟨0, [16, 0], RX0, TX0, 2, rfl, rfl, rfl, by decide, rfl, wm_126, in_X0⟩
theorem fp_X0_17_13 : FP RX0 17 13 1 0 .int := ⟨0, [16, 0], RX0, TX0, 2, tyX0, rfl, rfl, rfl, by decide, rfl, wm_126, in_X0, tyX0_ok, nmX0, rfl, by decide +kernel⟩
theorem cv_X0_25 : CV RX0 25 yX2_cell cX2_cell 3 (some .int) 2 := ⟨wm_412, wm_413, wm_414, wm_6, wm_415, ⟨by decide, by decide⟩, by decide +kernel⟩
theorem kb_60 : (Int8.ofInt 60).toInt32 = 60 := by decide
theorem cs_X0_21 : CS RX0 21 yX0_doClash cX0_doClash 4 (some .boolean) 3 := ⟨wm_409, wm_410, wm_7, wm_411, ⟨by decide, by decide⟩, by decide +kernel⟩
theorem cv_X10_214 : CV RX10 214 yX0_note cX0_note 5 none 2 := ⟨wm_405, wm_406, wm_407, wm_7, wm_408, ⟨by decide, by decide⟩, by decide +kernel⟩
theorem rc_13 : RC 13 RX0 := ⟨0, [16, 0], TX0, 2, rfl, rfl⟩
theorem fg_X10_82_0 : FG RX10 82 0 12 0 := ⟨10, [3, 5, 7, 9, 11, 13, 15, 17, 22, 36, 0, 0, 0], RX10, TX10, 13, rfl, rfl, rfl, by decide, rfl, wm_246, in_X10⟩
theorem fp_X10_82_0 : FP RX10 82 0 12 0 .int := ⟨10, [3, 5, 7, 9, 11, 13, 15, 17, 22, 36, 0, 0, 0], RX10, TX10, 13, tyX10, rfl, rfl, rfl, by decide, rfl, wm_246, in_X10, tyX10_ok, nmX10, rfl, by decide +kernel⟩
theorem cv_X10_107 : CV RX10 107 yX10_readFrame cX10_readFrame 4 none 2 := ⟨wm_343, wm_345, wl_6, wm_1, wm_346, ⟨by decide, by decide⟩, by decide +kernel⟩
theorem rc_0 : RC 0 RX10 := ⟨10, [3, 5, 7, 9, 11, 13, 15, 17, 22, 36, 0, 0, 0], TX10, 13, rfl, rfl⟩
theorem fg_X10_19_0 : FG RX10 19 0 1 5 := ⟨10, [3, 5, 7, 9, 11, 13, 15, 17, 22, 36, 0, 0, 0], RX10, TX10, 13, rfl, rfl, rfl, by decide, rfl, wm_235, in_X10⟩
theorem fg_X1_15_3 : FG RX1 15 3 1 0 := ⟨1, [6, 0, 0, 0, 0, 0], RX1, TX1, 6, rfl, rfl, rfl, by decide, rfl, wm_48, in_X1⟩
theorem fp_X1_15_3 : FP RX1 15 3 1 0 .int := ⟨1, [6, 0, 0, 0, 0, 0], RX1, TX1, 6, tyX1, rfl, rfl, rfl, by decide, rfl, wm_48, in_X1, tyX1_ok, nmX1, rfl, by decide +kernel⟩
theorem fg_X1_19_3 : FG RX1 19 3 2 0 := ⟨1, [6, 0, 0, 0, 0, 0], RX1, TX1, 6, rfl, rfl, rfl, by decide, rfl, wm_49, in_X1⟩
theorem fp_X1_19_3 : FP RX1 19 3 2 0 .int := ⟨1, [6, 0, 0, 0, 0, 0], RX1, TX1, 6, tyX1, rfl, rfl, rfl, by decide, rfl, wm_49, in_X1, tyX1_ok, nmX1, rfl, by decide +kernel⟩
theorem fg_X1_22_3 : FG RX1 22 3 3 0 := ⟨1, [6, 0, 0, 0, 0, 0], RX1, TX1, 6, rfl, rfl, rfl, by decide, rfl, wm_50, in_X1⟩
theorem fg_X1_11_3 : FG RX1 11 3 0 6 := ⟨1, [6, 0, 0, 0, 0, 0], RX1, TX1, 6, rfl, rfl, rfl, by decide, rfl, wm_47, in_X1⟩
theorem ar_4 : shL[4]? = some (.inl (0, 300)) := rfl
theorem fp_X1_22_3 : FP RX1 22 3 3 0 .int := ⟨1, [6, 0, 0, 0, 0, 0], RX1, TX1, 6, tyX1, rfl, rfl, rfl, by decide, rfl, wm_50, in_X1, tyX1_ok, nmX1, rfl, by decide +kernel⟩
theorem fg_X1_25_3 : FG RX1 25 3 4 0 := ⟨1, [6, 0, 0, 0, 0, 0], RX1, TX1, 6, rfl, rfl, rfl, by decide, rfl, wm_51, in_X1⟩
theorem fp_X1_25_3 : FP RX1 25 3 4 0 .int := ⟨1, [6, 0, 0, 0, 0, 0], RX1, TX1, 6, tyX1, rfl, rfl, rfl, by decide, rfl, wm_51, in_X1, tyX1_ok, nmX1, rfl, by decide +kernel⟩
theorem rc_3 : RC 3 RX1 := ⟨1, [6, 0, 0, 0, 0, 0], TX1, 6, rfl, rfl⟩
theorem fp_X1_28_3 : FP RX1 28 3 5 0 .int := ⟨1, [6, 0, 0, 0, 0, 0], RX1, TX1, 6, tyX1, rfl, rfl, rfl, by decide, rfl, wm_52, in_X1, tyX1_ok, nmX1, rfl, by decide +kernel⟩
theorem fg_X1_28_3 : FG RX1 28 3 5 0 := ⟨1, [6, 0, 0, 0, 0, 0], RX1, TX1, 6, rfl, rfl, rfl, by decide, rfl, wm_52, in_X1⟩
theorem fp_X10_75_0 : FP RX10 75 0 10 0 .int := ⟨10, [3, 5, 7, 9, 11, 13, 15, 17, 22, 36, 0, 0, 0], RX10, TX10, 13, tyX10, rfl, rfl, rfl, by decide, rfl, wm_244, in_X10, tyX10_ok, nmX10, rfl, by decide +kernel⟩
theorem cv_X8_65 : CV RX8 65 yX8_fits cX8_fits 4 (some .boolean) 2 := ⟨wm_460, wm_462, wl_15, wm_4, wm_463, ⟨by decide, by decide⟩, by decide +kernel⟩
theorem cv_X8_62 : CV RX8 62 yX8_areInFields cX8_areInFields 3 (some .boolean) 0 := ⟨wm_456, wm_458, wl_14, wm_4, wm_459, ⟨by decide, by decide⟩, by decide +kernel⟩
theorem kb_9 : (Int8.ofInt 9).toInt32 = 9 := by decide
theorem kb_10 : (Int8.ofInt 10).toInt32 = 10 := by decide
theorem cv_X10_113 : CV RX10 113 yX8_compose cX8_compose 7 (some .boolean) 6 := ⟨wm_451, wm_452, wm_453, wm_4, wm_454, ⟨by decide, by decide⟩, by decide +kernel⟩
theorem fg_X10_36_0 : FG RX10 36 0 4 11 := ⟨10, [3, 5, 7, 9, 11, 13, 15, 17, 22, 36, 0, 0, 0], RX10, TX10, 13, rfl, rfl, rfl, by decide, rfl, wm_238, in_X10⟩
theorem fp_X6_15_9 : FP RX6 15 9 1 0 .int := ⟨6, [12, 0, 0, 0, 0], RX6, TX6, 5, tyX6, rfl, rfl, rfl, by decide, rfl, wm_91, in_X6, tyX6_ok, nmX6, rfl, by decide +kernel⟩
theorem fp_X6_19_9 : FP RX6 19 9 2 0 .int := ⟨6, [12, 0, 0, 0, 0], RX6, TX6, 5, tyX6, rfl, rfl, rfl, by decide, rfl, wm_92, in_X6, tyX6_ok, nmX6, rfl, by decide +kernel⟩
theorem fg_X6_15_9 : FG RX6 15 9 1 0 := ⟨6, [12, 0, 0, 0, 0], RX6, TX6, 5, rfl, rfl, rfl, by decide, rfl, wm_91, in_X6⟩
theorem fg_X6_19_9 : FG RX6 19 9 2 0 := ⟨6, [12, 0, 0, 0, 0], RX6, TX6, 5, rfl, rfl, rfl, by decide, rfl, wm_92, in_X6⟩
theorem fg_X6_11_9 : FG RX6 11 9 0 12 := ⟨6, [12, 0, 0, 0, 0], RX6, TX6, 5, rfl, rfl, rfl, by decide, rfl, wm_90, in_X6⟩
theorem ar_10 : shL[10]? = some (.inl (0, 16)) := rfl
theorem cv_X6_33 : CV RX6 33 yX6_addBit cX6_addBit 4 none 1 := ⟨wm_468, wm_470, wl_16, wm_5, wm_471, ⟨by decide, by decide⟩, by decide +kernel⟩
theorem rc_9 : RC 9 RX6 := ⟨6, [12, 0, 0, 0, 0], TX6, 5, rfl, rfl⟩
theorem cv_X6_37 : CV RX6 37 yX6_addMark cX6_addMark 2 none 0 := ⟨wm_472, wm_474, wl_17, wm_5, wm_475, ⟨by decide, by decide⟩, by decide +kernel⟩
theorem fp_X6_22_9 : FP RX6 22 9 3 0 .int := ⟨6, [12, 0, 0, 0, 0], RX6, TX6, 5, tyX6, rfl, rfl, rfl, by decide, rfl, wm_93, in_X6, tyX6_ok, nmX6, rfl, by decide +kernel⟩
theorem fp_X6_26_9 : FP RX6 26 9 4 0 .int := ⟨6, [12, 0, 0, 0, 0], RX6, TX6, 5, tyX6, rfl, rfl, rfl, by decide, rfl, wm_94, in_X6, tyX6_ok, nmX6, rfl, by decide +kernel⟩
theorem cv_X6_40 : CV RX6 40 yX8_kind cX8_kind 1 (some .int) 0 := ⟨wm_476, wm_389, wm_390, wm_4, wm_391, ⟨by decide, by decide⟩, by decide +kernel⟩
theorem fg_X6_26_9 : FG RX6 26 9 4 0 := ⟨6, [12, 0, 0, 0, 0], RX6, TX6, 5, rfl, rfl, rfl, by decide, rfl, wm_94, in_X6⟩
theorem cn_X6_64 : CN RX6 64 yX10_checkAfter "ShipVoices" cX10_checkAfter 3 (some .int) 2 := ⟨List.mem_of_getElem? (i := 1) rfl, wm_336, wm_1, wm_337, ⟨by decide, by decide⟩, by decide +kernel⟩
theorem fg_X6_22_9 : FG RX6 22 9 3 0 := ⟨6, [12, 0, 0, 0, 0], RX6, TX6, 5, rfl, rfl, rfl, by decide, rfl, wm_93, in_X6⟩
theorem cv_X6_61 : CV RX6 61 yX6_addStuffed cX6_addStuffed 2 none 1 := ⟨wm_481, wm_483, wl_19, wm_5, wm_484, ⟨by decide, by decide⟩, by decide +kernel⟩
theorem cv_X6_45 : CV RX6 45 yX6_addNumber cX6_addNumber 4 none 2 := ⟨wm_477, wm_479, wl_18, wm_5, wm_480, ⟨by decide, by decide⟩, by decide +kernel⟩
theorem cv_X6_49 : CV RX6 49 yX8_ship cX8_ship 1 (some .int) 0 := ⟨wm_486, wm_398, wm_399, wm_4, wm_400, ⟨by decide, by decide⟩, by decide +kernel⟩
theorem cv_X6_52 : CV RX6 52 yX8_number cX8_number 2 (some .int) 1 := ⟨wm_487, wm_402, wm_403, wm_4, wm_404, ⟨by decide, by decide⟩, by decide +kernel⟩
theorem cv_X6_56 : CV RX6 56 yX8_width cX8_width 3 (some .int) 1 := ⟨wm_488, wm_368, wm_369, wm_4, wm_370, ⟨by decide, by decide⟩, by decide +kernel⟩
theorem cv_X10_117 : CV RX10 117 yX6_tell cX6_tell 3 none 1 := ⟨wm_464, wm_465, wm_466, wm_5, wm_467, ⟨by decide, by decide⟩, by decide +kernel⟩
theorem cv_X10_121 : CV RX10 121 yX6_bytes cX6_bytes 1 (some .int) 0 := ⟨wm_489, wm_490, wm_491, wm_5, wm_492, ⟨by decide, by decide⟩, by decide +kernel⟩
theorem ks_1000 : (Int16.ofInt 1000).toInt32 = 1000 := by decide
theorem fg_X10_64_0 : FG RX10 64 0 8 22 := ⟨10, [3, 5, 7, 9, 11, 13, 15, 17, 22, 36, 0, 0, 0], RX10, TX10, 13, rfl, rfl, rfl, by decide, rfl, wm_242, in_X10⟩
theorem cv_X2_40 : CV RX2 40 yX2_isOf cX2_isOf 4 (some .boolean) 3 := ⟨wm_505, wm_433, wm_434, wm_6, wm_435, ⟨by decide, by decide⟩, by decide +kernel⟩
theorem cv_X5_39 : CV RX5 39 yX2_howMany cX2_howMany 5 (some .int) 2 := ⟨wm_501, wm_502, wm_503, wm_6, wm_504, ⟨by decide, by decide⟩, by decide +kernel⟩
theorem fp_X5_28_20 : FP RX5 28 20 4 0 .int := ⟨5, [23, 33, 34, 35, 0, 0, 1], RX5, TX5, 7, tyX5, rfl, rfl, rfl, by decide, rfl, wm_206, in_X5, tyX5_ok, nmX5, rfl, by decide +kernel⟩
theorem cv_X5_63 : CV RX5 63 yX2_entries cX2_entries 1 (some .int) 0 := ⟨wm_510, wm_511, wm_512, wm_6, wm_513, ⟨by decide, by decide⟩, by decide +kernel⟩
theorem fg_X5_28_20 : FG RX5 28 20 4 0 := ⟨5, [23, 33, 34, 35, 0, 0, 1], RX5, TX5, 7, rfl, rfl, rfl, by decide, rfl, wm_206, in_X5⟩
theorem cv_X5_67 : CV RX5 67 yX2_isOf cX2_isOf 4 (some .boolean) 3 := ⟨wm_514, wm_433, wm_434, wm_6, wm_435, ⟨by decide, by decide⟩, by decide +kernel⟩
theorem fg_X5_18_20 : FG RX5 18 20 1 33 := ⟨5, [23, 33, 34, 35, 0, 0, 1], RX5, TX5, 7, rfl, rfl, rfl, by decide, rfl, wm_203, in_X5⟩
theorem ar_31 : shL[31]? = some (.inl (1, 16)) := rfl
theorem cv_X5_78 : CV RX5 78 yX2_cell cX2_cell 3 (some .int) 2 := ⟨wm_522, wm_413, wm_414, wm_6, wm_415, ⟨by decide, by decide⟩, by decide +kernel⟩
theorem cs_X5_81 : CS RX5 81 yJ6_compare_7cf53 cJ6_compare_7cf53 2 (some .int) 2 := ⟨wm_523, wm_524, wm_17, wm_525, ⟨by decide, by decide⟩, by decide +kernel⟩
theorem cs_X5_74 : CS RX5 74 yX5_isAhead cX5_isAhead 5 (some .boolean) 3 := ⟨wm_519, wm_520, wm_9, wm_521, ⟨by decide, by decide⟩, by decide +kernel⟩
theorem cv_X5_71 : CV RX5 71 yX5_insert cX5_insert 4 none 2 := ⟨wm_515, wm_517, wl_21, wm_9, wm_518, ⟨by decide, by decide⟩, by decide +kernel⟩
theorem rc_20 : RC 20 RX5 := ⟨5, [23, 33, 34, 35, 0, 0, 1], TX5, 7, rfl, rfl⟩
theorem cv_X5_45 : CV RX5 45 yX5_gather cX5_gather 5 none 2 := ⟨wm_506, wm_508, wl_20, wm_9, wm_509, ⟨by decide, by decide⟩, by decide +kernel⟩
theorem fg_X5_12_20 : FG RX5 12 20 0 23 := ⟨5, [23, 33, 34, 35, 0, 0, 1], RX5, TX5, 7, rfl, rfl, rfl, by decide, rfl, wm_202, in_X5⟩
theorem cs_X3_50 : CS RX3 50 yJ9_min_7cf53 cJ9_min_7cf53 2 (some .int) 2 := ⟨wm_530, wm_531, wm_18, wm_532, ⟨by decide, by decide⟩, by decide +kernel⟩
theorem cs_X3_56 : CS RX3 56 yJ9_max_7cf53 cJ9_max_7cf53 2 (some .int) 2 := ⟨wm_533, wm_534, wm_18, wm_535, ⟨by decide, by decide⟩, by decide +kernel⟩
theorem fp_X3_43_21 : FP RX3 43 21 9 0 .int := ⟨3, [24, 25, 26, 27, 28, 29, 30, 31, 32, 0, 0], RX3, TX3, 11, tyX3, rfl, rfl, rfl, by decide, rfl, wm_176, in_X3, tyX3_ok, nmX3, rfl, by decide +kernel⟩
theorem fg_X3_43_21 : FG RX3 43 21 9 0 := ⟨3, [24, 25, 26, 27, 28, 29, 30, 31, 32, 0, 0], RX3, TX3, 11, rfl, rfl, rfl, by decide, rfl, wm_176, in_X3⟩
theorem fp_X3_47_21 : FP RX3 47 21 10 0 .int := ⟨3, [24, 25, 26, 27, 28, 29, 30, 31, 32, 0, 0], RX3, TX3, 11, tyX3, rfl, rfl, rfl, by decide, rfl, wm_177, in_X3, tyX3_ok, nmX3, rfl, by decide +kernel⟩
theorem ks_256 : (Int16.ofInt 256).toInt32 = 256 := by decide
theorem fg_X3_47_21 : FG RX3 47 21 10 0 := ⟨3, [24, 25, 26, 27, 28, 29, 30, 31, 32, 0, 0], RX3, TX3, 11, rfl, rfl, rfl, by decide, rfl, wm_177, in_X3⟩
theorem fg_X3_17_21 : FG RX3 17 21 1 25 := ⟨3, [24, 25, 26, 27, 28, 29, 30, 31, 32, 0, 0], RX3, TX3, 11, rfl, rfl, rfl, by decide, rfl, wm_168, in_X3⟩
theorem kl_0 : Int64.ofNat ((0 : Fin 2) : Nat) = 0 := by decide
theorem ar_23 : shL[23]? = some (.inl (2, 32)) := rfl
theorem fg_X3_20_21 : FG RX3 20 21 2 26 := ⟨3, [24, 25, 26, 27, 28, 29, 30, 31, 32, 0, 0], RX3, TX3, 11, rfl, rfl, rfl, by decide, rfl, wm_169, in_X3⟩
theorem ar_24 : shL[24]? = some (.inl (2, 32)) := rfl
theorem fg_X3_26_21 : FG RX3 26 21 4 28 := ⟨3, [24, 25, 26, 27, 28, 29, 30, 31, 32, 0, 0], RX3, TX3, 11, rfl, rfl, rfl, by decide, rfl, wm_171, in_X3⟩
theorem ar_26 : shL[26]? = some (.inl (1, 32)) := rfl
theorem fg_X3_30_21 : FG RX3 30 21 5 29 := ⟨3, [24, 25, 26, 27, 28, 29, 30, 31, 32, 0, 0], RX3, TX3, 11, rfl, rfl, rfl, by decide, rfl, wm_172, in_X3⟩
theorem ar_27 : shL[27]? = some (.inl (1, 32)) := rfl
theorem fg_X3_13_21 : FG RX3 13 21 0 24 := ⟨3, [24, 25, 26, 27, 28, 29, 30, 31, 32, 0, 0], RX3, TX3, 11, rfl, rfl, rfl, by decide, rfl, wm_167, in_X3⟩
theorem ar_22 : shL[22]? = some (.inl (2, 256)) := rfl
theorem cv_X5_49 : CV RX5 49 yX3_begin cX3_begin 3 none 1 := ⟨wm_526, wm_527, wm_528, wm_10, wm_529, ⟨by decide, by decide⟩, by decide +kernel⟩
theorem rc_21 : RC 21 RX3 := ⟨3, [24, 25, 26, 27, 28, 29, 30, 31, 32, 0, 0], TX3, 11, rfl, rfl⟩
theorem cv_X3_86 : CV RX3 86 yX3_isColumn cX3_isColumn 2 (some .boolean) 1 := ⟨wm_567, wm_569, wl_27, wm_10, wm_570, ⟨by decide, by decide⟩, by decide +kernel⟩
theorem cv_X3_97 : CV RX3 97 yX3_place cX3_place 3 none 2 := ⟨wm_579, wm_581, wl_30, wm_10, wm_582, ⟨by decide, by decide⟩, by decide +kernel⟩
theorem cv_X3_69 : CV RX3 69 yX3_fillSpareRows cX3_fillSpareRows 3 none 0 := ⟨wm_583, wm_585, wl_31, wm_10, wm_586, ⟨by decide, by decide⟩, by decide +kernel⟩
theorem cv_X3_77 : CV RX3 77 yX3_price cX3_price 3 (some .long) 2 := ⟨wm_562, wm_564, wl_26, wm_10, wm_565, ⟨by decide, by decide⟩, by decide +kernel⟩
theorem cv_X3_100 : CV RX3 100 yX3_isTight cX3_isTight 5 (some .boolean) 2 := ⟨wm_591, wm_593, wl_33, wm_10, wm_594, ⟨by decide, by decide⟩, by decide +kernel⟩
theorem fg_X3_39_21 : FG RX3 39 21 8 32 := ⟨3, [24, 25, 26, 27, 28, 29, 30, 31, 32, 0, 0], RX3, TX3, 11, rfl, rfl, rfl, by decide, rfl, wm_175, in_X3⟩
theorem ar_30 : shL[30]? = some (.inl (3, 32)) := rfl
theorem fg_X3_36_21 : FG RX3 36 21 7 31 := ⟨3, [24, 25, 26, 27, 28, 29, 30, 31, 32, 0, 0], RX3, TX3, 11, rfl, rfl, rfl, by decide, rfl, wm_174, in_X3⟩
theorem ar_29 : shL[29]? = some (.inl (1, 32)) := rfl
theorem kb_32 : (Int8.ofInt 32).toInt32 = 32 := by decide
theorem fg_X3_33_21 : FG RX3 33 21 6 30 := ⟨3, [24, 25, 26, 27, 28, 29, 30, 31, 32, 0, 0], RX3, TX3, 11, rfl, rfl, rfl, by decide, rfl, wm_173, in_X3⟩
theorem ar_28 : shL[28]? = some (.inl (1, 32)) := rfl
theorem cv_X3_107 : CV RX3 107 yX3_lookOnFrom cX3_lookOnFrom 7 (some .int) 3 := ⟨wm_599, wm_601, wl_35, wm_10, wm_602, ⟨by decide, by decide⟩, by decide +kernel⟩
theorem cv_X3_93 : CV RX3 93 yX3_moveAlong cX3_moveAlong 5 none 2 := ⟨wm_575, wm_577, wl_29, wm_10, wm_578, ⟨by decide, by decide⟩, by decide +kernel⟩
theorem cv_X3_104 : CV RX3 104 yX3_giveColumn cX3_giveColumn 6 (some .boolean) 2 := ⟨wm_595, wm_597, wl_34, wm_10, wm_598, ⟨by decide, by decide⟩, by decide +kernel⟩
theorem cv_X3_72 : CV RX3 72 yX3_settle cX3_settle 3 none 1 := ⟨wm_587, wm_589, wl_32, wm_10, wm_590, ⟨by decide, by decide⟩, by decide +kernel⟩
theorem fg_X3_23_21 : FG RX3 23 21 3 27 := ⟨3, [24, 25, 26, 27, 28, 29, 30, 31, 32, 0, 0], RX3, TX3, 11, rfl, rfl, rfl, by decide, rfl, wm_170, in_X3⟩
theorem ar_25 : shL[25]? = some (.inl (2, 32)) := rfl
theorem cv_X3_83 : CV RX3 83 yX3_lookFrom cX3_lookFrom 7 (some .int) 2 := ⟨wm_558, wm_560, wl_25, wm_10, wm_561, ⟨by decide, by decide⟩, by decide +kernel⟩
theorem cv_X3_61 : CV RX3 61 yX3_isPosition cX3_isPosition 2 (some .boolean) 1 := ⟨wm_545, wm_547, wl_23, wm_10, wm_548, ⟨by decide, by decide⟩, by decide +kernel⟩
theorem cv_X3_89 : CV RX3 89 yX3_shiftDuals cX3_shiftDuals 5 none 2 := ⟨wm_571, wm_573, wl_28, wm_10, wm_574, ⟨by decide, by decide⟩, by decide +kernel⟩
theorem cv_X3_65 : CV RX3 65 yX3_admit cX3_admit 6 none 1 := ⟨wm_553, wm_555, wl_24, wm_10, wm_556, ⟨by decide, by decide⟩, by decide +kernel⟩
theorem cv_X5_57 : CV RX5 57 yX3_solve cX3_solve 2 none 0 := ⟨wm_549, wm_550, wm_551, wm_10, wm_552, ⟨by decide, by decide⟩, by decide +kernel⟩
theorem fp_X5_32_20 : FP RX5 32 20 5 0 .int := ⟨5, [23, 33, 34, 35, 0, 0, 1], RX5, TX5, 7, tyX5, rfl, rfl, rfl, by decide, rfl, wm_207, in_X5, tyX5_ok, nmX5, rfl, by decide +kernel⟩
theorem fp_X5_35_20 : FP RX5 35 20 6 1 .long := ⟨5, [23, 33, 34, 35, 0, 0, 1], RX5, TX5, 7, tyX5, rfl, rfl, rfl, by decide, rfl, wm_208, in_X5, tyX5_ok, nmX5, rfl, by decide +kernel⟩
theorem cv_X5_90 : CV RX5 90 yX3_followedBy cX3_followedBy 2 (some .int) 1 := ⟨wm_607, wm_608, wm_609, wm_10, wm_610, ⟨by decide, by decide⟩, by decide +kernel⟩
theorem fg_X5_22_20 : FG RX5 22 20 2 34 := ⟨5, [23, 33, 34, 35, 0, 0, 1], RX5, TX5, 7, rfl, rfl, rfl, by decide, rfl, wm_204, in_X5⟩
theorem ar_32 : shL[32]? = some (.inl (1, 16)) := rfl
theorem fg_X5_25_20 : FG RX5 25 20 3 35 := ⟨5, [23, 33, 34, 35, 0, 0, 1], RX5, TX5, 7, rfl, rfl, rfl, by decide, rfl, wm_205, in_X5⟩
theorem fg_X5_32_20 : FG RX5 32 20 5 0 := ⟨5, [23, 33, 34, 35, 0, 0, 1], RX5, TX5, 7, rfl, rfl, rfl, by decide, rfl, wm_207, in_X5⟩
theorem ar_33 : shL[33]? = some (.inl (1, 16)) := rfl
theorem fg_X5_35_20 : FG RX5 35 20 6 1 := ⟨5, [23, 33, 34, 35, 0, 0, 1], RX5, TX5, 7, rfl, rfl, rfl, by decide, rfl, wm_208, in_X5⟩
theorem cv_X5_94 : CV RX5 94 yX3_squareOf cX3_squareOf 3 (some .long) 2 := ⟨wm_611, wm_612, wm_613, wm_10, wm_614, ⟨by decide, by decide⟩, by decide +kernel⟩
theorem cv_X5_60 : CV RX5 60 yX5_drawTracks cX5_drawTracks 3 none 0 := ⟨wm_603, wm_605, wl_36, wm_9, wm_606, ⟨by decide, by decide⟩, by decide +kernel⟩
theorem cv_X5_86 : CV RX5 86 yX3_allow cX3_allow 5 none 3 := ⟨wm_541, wm_542, wm_543, wm_10, wm_544, ⟨by decide, by decide⟩, by decide +kernel⟩
theorem cv_X5_53 : CV RX5 53 yX5_allowIfNear cX5_allowIfNear 17 none 4 := ⟨wm_537, wm_539, wl_22, wm_9, wm_540, ⟨by decide, by decide⟩, by decide +kernel⟩
theorem cv_X10_143 : CV RX10 143 yX5_make cX5_make 7 (some .int) 3 := ⟨wm_497, wm_498, wm_499, wm_9, wm_500, ⟨by decide, by decide⟩, by decide +kernel⟩
theorem cv_X10_147 : CV RX10 147 yX5_together cX5_together 1 (some .long) 0 := ⟨wm_619, wm_620, wm_621, wm_9, wm_622, ⟨by decide, by decide⟩, by decide +kernel⟩
theorem cv_X10_151 : CV RX10 151 yX5_tellOf cX5_tellOf 3 (some .int) 2 := ⟨wm_627, wm_628, wm_629, wm_9, wm_630, ⟨by decide, by decide⟩, by decide +kernel⟩
theorem cv_X10_154 : CV RX10 154 yX0_total cX0_total 1 (some .int) 0 := ⟨wm_635, wm_636, wm_637, wm_7, wm_638, ⟨by decide, by decide⟩, by decide +kernel⟩
theorem cv_X10_165 : CV RX10 165 yX9_joined cX9_joined 1 (some .int) 0 := ⟨wm_643, wm_644, wm_645, wm_8, wm_646, ⟨by decide, by decide⟩, by decide +kernel⟩
theorem cv_X10_184 : CV RX10 184 yX2_latest cX2_latest 4 (some .int) 2 := ⟨wm_652, wm_653, wm_654, wm_6, wm_655, ⟨by decide, by decide⟩, by decide +kernel⟩
theorem fg_X10_71_0 : FG RX10 71 0 9 36 := ⟨10, [3, 5, 7, 9, 11, 13, 15, 17, 22, 36, 0, 0, 0], RX10, TX10, 13, rfl, rfl, rfl, by decide, rfl, wm_243, in_X10⟩
theorem cv_X4_21 : CV RX4 21 yX2_cell cX2_cell 3 (some .int) 2 := ⟨wm_663, wm_413, wm_414, wm_6, wm_415, ⟨by decide, by decide⟩, by decide +kernel⟩
theorem cs_X4_17 : CS RX4 17 yX4_along cX4_along 7 (some .long) 5 := ⟨wm_660, wm_661, wm_11, wm_662, ⟨by decide, by decide⟩, by decide +kernel⟩
theorem cs_X4_29 : CS RX4 29 yX4_square cX4_square 4 (some .long) 2 := ⟨wm_667, wm_668, wm_11, wm_669, ⟨by decide, by decide⟩, by decide +kernel⟩
theorem kl_1 : Int64.ofNat ((1 : Fin 2) : Nat) = 1 := by decide
theorem cs_X4_35 : CS RX4 35 yJ9_floorDiv_f86c9 cJ9_floorDiv_f86c9 6 (some .long) 2 := ⟨wm_670, wm_671, wm_18, wm_672, ⟨by decide, by decide⟩, by decide +kernel⟩
theorem cs_X4_40 : CS RX4 40 yJ9_min_f86c9 cJ9_min_f86c9 4 (some .long) 2 := ⟨wm_674, wm_675, wm_18, wm_676, ⟨by decide, by decide⟩, by decide +kernel⟩
theorem cs_X4_43 : CS RX4 43 yJ9_max_f86c9 cJ9_max_f86c9 4 (some .long) 2 := ⟨wm_677, wm_678, wm_18, wm_679, ⟨by decide, by decide⟩, by decide +kernel⟩
theorem cs_X4_25 : CS RX4 25 yX4_nearestAfter cX4_nearestAfter 12 (some .long) 4 := ⟨wm_664, wm_665, wm_11, wm_666, ⟨by decide, by decide⟩, by decide +kernel⟩
theorem fp_X4_9_34 : FP RX4 9 34 0 0 .int := ⟨4, [0], RX4, TX4, 1, tyX4, rfl, rfl, rfl, by decide, rfl, wm_230, in_X4, tyX4_ok, nmX4, rfl, by decide +kernel⟩
theorem cv_X10_187 : CV RX10 187 yX4_find cX4_find 19 (some .long) 4 := ⟨wm_656, wm_657, wm_658, wm_11, wm_659, ⟨by decide, by decide⟩, by decide +kernel⟩
theorem rc_34 : RC 34 RX4 := ⟨4, [0], TX4, 1, rfl, rfl⟩
theorem fg_X4_9_34 : FG RX4 9 34 0 0 := ⟨4, [0], RX4, TX4, 1, rfl, rfl, rfl, by decide, rfl, wm_230, in_X4⟩
theorem cv_X10_191 : CV RX10 191 yX4_second cX4_second 1 (some .int) 0 := ⟨wm_684, wm_685, wm_686, wm_11, wm_687, ⟨by decide, by decide⟩, by decide +kernel⟩
theorem cv_X10_139 : CV RX10 139 yX2_cell cX2_cell 3 (some .int) 2 := ⟨wm_692, wm_413, wm_414, wm_6, wm_415, ⟨by decide, by decide⟩, by decide +kernel⟩
theorem cv_X10_194 : CV RX10 194 yX2_entries cX2_entries 1 (some .int) 0 := ⟨wm_697, wm_511, wm_512, wm_6, wm_513, ⟨by decide, by decide⟩, by decide +kernel⟩
theorem cv_X10_197 : CV RX10 197 yX1_torn cX1_torn 1 (some .int) 0 := ⟨wm_698, wm_699, wm_700, wm_3, wm_701, ⟨by decide, by decide⟩, by decide +kernel⟩
theorem cv_X10_200 : CV RX10 200 yX1_bitsPut cX1_bitsPut 1 (some .int) 0 := ⟨wm_702, wm_703, wm_704, wm_3, wm_705, ⟨by decide, by decide⟩, by decide +kernel⟩
theorem fg_X11_94_35 : FG RX11 94 35 0 0 := ⟨11, [0, 38, 0, 39, 40, 41, 42, 0, 0, 43, 44, 0, 0, 0, 45, 46, 47, 48, 49, 50, 0, 51, 52, 0, 0, 0, 0, 0, 53, 54, 55, 56, 57, 58, 59, 60, 61, 0, 1, 1, 0, 62, 63, 0], RX11, TX11, 44, rfl, rfl, rfl, by decide, rfl, wm_844, in_X11⟩
theorem fp_X11_94_35 : FP RX11 94 35 0 0 .int := ⟨11, [0, 38, 0, 39, 40, 41, 42, 0, 0, 43, 44, 0, 0, 0, 45, 46, 47, 48, 49, 50, 0, 51, 52, 0, 0, 0, 0, 0, 53, 54, 55, 56, 57, 58, 59, 60, 61, 0, 1, 1, 0, 62, 63, 0], RX11, TX11, 44, tyX11, rfl, rfl, rfl, by decide, rfl, wm_844, in_X11, tyX11_ok, nmX11, rfl, by decide +kernel⟩
theorem fg_X11_97_35 : FG RX11 97 35 2 0 := ⟨11, [0, 38, 0, 39, 40, 41, 42, 0, 0, 43, 44, 0, 0, 0, 45, 46, 47, 48, 49, 50, 0, 51, 52, 0, 0, 0, 0, 0, 53, 54, 55, 56, 57, 58, 59, 60, 61, 0, 1, 1, 0, 62, 63, 0], RX11, TX11, 44, rfl, rfl, rfl, by decide, rfl, wm_846, in_X11⟩
theorem fg_X11_7_35 : FG RX11 7 35 1 38 := ⟨11, [0, 38, 0, 39, 40, 41, 42, 0, 0, 43, 44, 0, 0, 0, 45, 46, 47, 48, 49, 50, 0, 51, 52, 0, 0, 0, 0, 0, 53, 54, 55, 56, 57, 58, 59, 60, 61, 0, 1, 1, 0, 62, 63, 0], RX11, TX11, 44, rfl, rfl, rfl, by decide, rfl, wm_845, in_X11⟩
theorem ks_255 : (Int16.ofInt 255).toInt32 = 255 := by decide
theorem ar_36 : shL[36]? = some (.inl (1, 400)) := rfl
theorem fp_X11_97_35 : FP RX11 97 35 2 0 .int := ⟨11, [0, 38, 0, 39, 40, 41, 42, 0, 0, 43, 44, 0, 0, 0, 45, 46, 47, 48, 49, 50, 0, 51, 52, 0, 0, 0, 0, 0, 53, 54, 55, 56, 57, 58, 59, 60, 61, 0, 1, 1, 0, 62, 63, 0], RX11, TX11, 44, tyX11, rfl, rfl, rfl, by decide, rfl, wm_846, in_X11, tyX11_ok, nmX11, rfl, by decide +kernel⟩
theorem cv_X11_100 : CV RX11 100 yX11_come cX11_come 3 none 1 := ⟨wm_984, wm_986, wl_38, wm_12, wm_987, ⟨by decide, by decide⟩, by decide +kernel⟩
theorem rc_35 : RC 35 RX11 := ⟨11, [0, 38, 0, 39, 40, 41, 42, 0, 0, 43, 44, 0, 0, 0, 45, 46, 47, 48, 49, 50, 0, 51, 52, 0, 0, 0, 0, 0, 53, 54, 55, 56, 57, 58, 59, 60, 61, 0, 1, 1, 0, 62, 63, 0], TX11, 44, rfl, rfl⟩
theorem fg_X11_13_35 : FG RX11 13 35 3 39 := ⟨11, [0, 38, 0, 39, 40, 41, 42, 0, 0, 43, 44, 0, 0, 0, 45, 46, 47, 48, 49, 50, 0, 51, 52, 0, 0, 0, 0, 0, 53, 54, 55, 56, 57, 58, 59, 60, 61, 0, 1, 1, 0, 62, 63, 0], RX11, TX11, 44, rfl, rfl, rfl, by decide, rfl, wm_847, in_X11⟩
theorem ar_37 : shL[37]? = some (.inl (1, 2)) := rfl
theorem fg_X11_16_35 : FG RX11 16 35 4 40 := ⟨11, [0, 38, 0, 39, 40, 41, 42, 0, 0, 43, 44, 0, 0, 0, 45, 46, 47, 48, 49, 50, 0, 51, 52, 0, 0, 0, 0, 0, 53, 54, 55, 56, 57, 58, 59, 60, 61, 0, 1, 1, 0, 62, 63, 0], RX11, TX11, 44, rfl, rfl, rfl, by decide, rfl, wm_848, in_X11⟩
theorem ar_38 : shL[38]? = some (.inl (1, 2)) := rfl
theorem fg_X11_19_35 : FG RX11 19 35 5 41 := ⟨11, [0, 38, 0, 39, 40, 41, 42, 0, 0, 43, 44, 0, 0, 0, 45, 46, 47, 48, 49, 50, 0, 51, 52, 0, 0, 0, 0, 0, 53, 54, 55, 56, 57, 58, 59, 60, 61, 0, 1, 1, 0, 62, 63, 0], RX11, TX11, 44, rfl, rfl, rfl, by decide, rfl, wm_849, in_X11⟩
theorem ar_39 : shL[39]? = some (.inl (1, 2)) := rfl
theorem fg_X11_22_35 : FG RX11 22 35 6 42 := ⟨11, [0, 38, 0, 39, 40, 41, 42, 0, 0, 43, 44, 0, 0, 0, 45, 46, 47, 48, 49, 50, 0, 51, 52, 0, 0, 0, 0, 0, 53, 54, 55, 56, 57, 58, 59, 60, 61, 0, 1, 1, 0, 62, 63, 0], RX11, TX11, 44, rfl, rfl, rfl, by decide, rfl, wm_850, in_X11⟩
theorem ar_40 : shL[40]? = some (.inl (1, 600)) := rfl
theorem cv_X11_123 : CV RX11 123 yX11_read cX11_read 5 (some .int) 2 := ⟨wm_1016, wm_1018, wl_43, wm_12, wm_1019, ⟨by decide, by decide⟩, by decide +kernel⟩
theorem fg_X11_143_35 : FG RX11 143 35 12 0 := ⟨11, [0, 38, 0, 39, 40, 41, 42, 0, 0, 43, 44, 0, 0, 0, 45, 46, 47, 48, 49, 50, 0, 51, 52, 0, 0, 0, 0, 0, 53, 54, 55, 56, 57, 58, 59, 60, 61, 0, 1, 1, 0, 62, 63, 0], RX11, TX11, 44, rfl, rfl, rfl, by decide, rfl, wm_856, in_X11⟩
theorem fp_X11_143_35 : FP RX11 143 35 12 0 .int := ⟨11, [0, 38, 0, 39, 40, 41, 42, 0, 0, 43, 44, 0, 0, 0, 45, 46, 47, 48, 49, 50, 0, 51, 52, 0, 0, 0, 0, 0, 53, 54, 55, 56, 57, 58, 59, 60, 61, 0, 1, 1, 0, 62, 63, 0], RX11, TX11, 44, tyX11, rfl, rfl, rfl, by decide, rfl, wm_856, in_X11, tyX11_ok, nmX11, rfl, by decide +kernel⟩
theorem fg_X11_153_35 : FG RX11 153 35 11 0 := ⟨11, [0, 38, 0, 39, 40, 41, 42, 0, 0, 43, 44, 0, 0, 0, 45, 46, 47, 48, 49, 50, 0, 51, 52, 0, 0, 0, 0, 0, 53, 54, 55, 56, 57, 58, 59, 60, 61, 0, 1, 1, 0, 62, 63, 0], RX11, TX11, 44, rfl, rfl, rfl, by decide, rfl, wm_855, in_X11⟩
theorem fg_X11_25_35 : FG RX11 25 35 9 43 := ⟨11, [0, 38, 0, 39, 40, 41, 42, 0, 0, 43, 44, 0, 0, 0, 45, 46, 47, 48, 49, 50, 0, 51, 52, 0, 0, 0, 0, 0, 53, 54, 55, 56, 57, 58, 59, 60, 61, 0, 1, 1, 0, 62, 63, 0], RX11, TX11, 44, rfl, rfl, rfl, by decide, rfl, wm_853, in_X11⟩
theorem ar_41 : shL[41]? = some (.inl (1, 1600)) := rfl
theorem fg_X11_133_35 : FG RX11 133 35 7 0 := ⟨11, [0, 38, 0, 39, 40, 41, 42, 0, 0, 43, 44, 0, 0, 0, 45, 46, 47, 48, 49, 50, 0, 51, 52, 0, 0, 0, 0, 0, 53, 54, 55, 56, 57, 58, 59, 60, 61, 0, 1, 1, 0, 62, 63, 0], RX11, TX11, 44, rfl, rfl, rfl, by decide, rfl, wm_851, in_X11⟩
theorem fg_X11_28_35 : FG RX11 28 35 10 44 := ⟨11, [0, 38, 0, 39, 40, 41, 42, 0, 0, 43, 44, 0, 0, 0, 45, 46, 47, 48, 49, 50, 0, 51, 52, 0, 0, 0, 0, 0, 53, 54, 55, 56, 57, 58, 59, 60, 61, 0, 1, 1, 0, 62, 63, 0], RX11, TX11, 44, rfl, rfl, rfl, by decide, rfl, wm_854, in_X11⟩
theorem ar_42 : shL[42]? = some (.inl (3, 200)) := rfl
theorem fp_X11_153_35 : FP RX11 153 35 11 0 .int := ⟨11, [0, 38, 0, 39, 40, 41, 42, 0, 0, 43, 44, 0, 0, 0, 45, 46, 47, 48, 49, 50, 0, 51, 52, 0, 0, 0, 0, 0, 53, 54, 55, 56, 57, 58, 59, 60, 61, 0, 1, 1, 0, 62, 63, 0], RX11, TX11, 44, tyX11, rfl, rfl, rfl, by decide, rfl, wm_855, in_X11, tyX11_ok, nmX11, rfl, by decide +kernel⟩
theorem fg_X11_35_35 : FG RX11 35 35 15 46 := ⟨11, [0, 38, 0, 39, 40, 41, 42, 0, 0, 43, 44, 0, 0, 0, 45, 46, 47, 48, 49, 50, 0, 51, 52, 0, 0, 0, 0, 0, 53, 54, 55, 56, 57, 58, 59, 60, 61, 0, 1, 1, 0, 62, 63, 0], RX11, TX11, 44, rfl, rfl, rfl, by decide, rfl, wm_859, in_X11⟩
theorem fg_X11_166_35 : FG RX11 166 35 20 0 := ⟨11, [0, 38, 0, 39, 40, 41, 42, 0, 0, 43, 44, 0, 0, 0, 45, 46, 47, 48, 49, 50, 0, 51, 52, 0, 0, 0, 0, 0, 53, 54, 55, 56, 57, 58, 59, 60, 61, 0, 1, 1, 0, 62, 63, 0], RX11, TX11, 44, rfl, rfl, rfl, by decide, rfl, wm_864, in_X11⟩
theorem ar_44 : shL[44]? = some (.inl (1, 100)) := rfl
theorem fg_X11_38_35 : FG RX11 38 35 16 47 := ⟨11, [0, 38, 0, 39, 40, 41, 42, 0, 0, 43, 44, 0, 0, 0, 45, 46, 47, 48, 49, 50, 0, 51, 52, 0, 0, 0, 0, 0, 53, 54, 55, 56, 57, 58, 59, 60, 61, 0, 1, 1, 0, 62, 63, 0], RX11, TX11, 44, rfl, rfl, rfl, by decide, rfl, wm_860, in_X11⟩
theorem ar_45 : shL[45]? = some (.inl (1, 100)) := rfl
theorem fg_X11_41_35 : FG RX11 41 35 17 48 := ⟨11, [0, 38, 0, 39, 40, 41, 42, 0, 0, 43, 44, 0, 0, 0, 45, 46, 47, 48, 49, 50, 0, 51, 52, 0, 0, 0, 0, 0, 53, 54, 55, 56, 57, 58, 59, 60, 61, 0, 1, 1, 0, 62, 63, 0], RX11, TX11, 44, rfl, rfl, rfl, by decide, rfl, wm_861, in_X11⟩
theorem ar_46 : shL[46]? = some (.inl (1, 100)) := rfl
theorem fg_X11_44_35 : FG RX11 44 35 18 49 := ⟨11, [0, 38, 0, 39, 40, 41, 42, 0, 0, 43, 44, 0, 0, 0, 45, 46, 47, 48, 49, 50, 0, 51, 52, 0, 0, 0, 0, 0, 53, 54, 55, 56, 57, 58, 59, 60, 61, 0, 1, 1, 0, 62, 63, 0], RX11, TX11, 44, rfl, rfl, rfl, by decide, rfl, wm_862, in_X11⟩
theorem ar_47 : shL[47]? = some (.inl (1, 100)) := rfl
theorem fp_X11_166_35 : FP RX11 166 35 20 0 .int := ⟨11, [0, 38, 0, 39, 40, 41, 42, 0, 0, 43, 44, 0, 0, 0, 45, 46, 47, 48, 49, 50, 0, 51, 52, 0, 0, 0, 0, 0, 53, 54, 55, 56, 57, 58, 59, 60, 61, 0, 1, 1, 0, 62, 63, 0], RX11, TX11, 44, tyX11, rfl, rfl, rfl, by decide, rfl, wm_864, in_X11, tyX11_ok, nmX11, rfl, by decide +kernel⟩
theorem cv_X11_163 : CV RX11 163 yX11_isOf cX11_isOf 3 (some .boolean) 2 := ⟨wm_1038, wm_1040, wl_47, wm_12, wm_1041, ⟨by decide, by decide⟩, by decide +kernel⟩
theorem fg_X11_47_35 : FG RX11 47 35 19 50 := ⟨11, [0, 38, 0, 39, 40, 41, 42, 0, 0, 43, 44, 0, 0, 0, 45, 46, 47, 48, 49, 50, 0, 51, 52, 0, 0, 0, 0, 0, 53, 54, 55, 56, 57, 58, 59, 60, 61, 0, 1, 1, 0, 62, 63, 0], RX11, TX11, 44, rfl, rfl, rfl, by decide, rfl, wm_863, in_X11⟩
theorem ar_48 : shL[48]? = some (.inl (1, 500)) := rfl
theorem cv_X11_156 : CV RX11 156 yX11_join cX11_join 6 none 1 := ⟨wm_1034, wm_1036, wl_46, wm_12, wm_1037, ⟨by decide, by decide⟩, by decide +kernel⟩
theorem fg_X11_32_35 : FG RX11 32 35 14 45 := ⟨11, [0, 38, 0, 39, 40, 41, 42, 0, 0, 43, 44, 0, 0, 0, 45, 46, 47, 48, 49, 50, 0, 51, 52, 0, 0, 0, 0, 0, 53, 54, 55, 56, 57, 58, 59, 60, 61, 0, 1, 1, 0, 62, 63, 0], RX11, TX11, 44, rfl, rfl, rfl, by decide, rfl, wm_858, in_X11⟩
theorem ar_43 : shL[43]? = some (.inl (1, 4)) := rfl
theorem fg_X11_150_35 : FG RX11 150 35 13 0 := ⟨11, [0, 38, 0, 39, 40, 41, 42, 0, 0, 43, 44, 0, 0, 0, 45, 46, 47, 48, 49, 50, 0, 51, 52, 0, 0, 0, 0, 0, 53, 54, 55, 56, 57, 58, 59, 60, 61, 0, 1, 1, 0, 62, 63, 0], RX11, TX11, 44, rfl, rfl, rfl, by decide, rfl, wm_857, in_X11⟩
theorem fp_X11_150_35 : FP RX11 150 35 13 0 .int := ⟨11, [0, 38, 0, 39, 40, 41, 42, 0, 0, 43, 44, 0, 0, 0, 45, 46, 47, 48, 49, 50, 0, 51, 52, 0, 0, 0, 0, 0, 53, 54, 55, 56, 57, 58, 59, 60, 61, 0, 1, 1, 0, 62, 63, 0], RX11, TX11, 44, tyX11, rfl, rfl, rfl, by decide, rfl, wm_857, in_X11, tyX11_ok, nmX11, rfl, by decide +kernel⟩
theorem kb_48 : (Int8.ofInt 48).toInt32 = 48 := by decide
theorem cs_X11_137 : CS RX11 137 yX11_signed cX11_signed 2 (some .int) 2 := ⟨wm_1028, wm_1029, wm_12, wm_1030, ⟨by decide, by decide⟩, by decide +kernel⟩
theorem kb_40 : (Int8.ofInt 40).toInt32 = 40 := by decide
theorem kb_38 : (Int8.ofInt 38).toInt32 = 38 := by decide
theorem cs_X11_140 : CS RX11 140 yX11_areLetters cX11_areLetters 3 (some .boolean) 2 := ⟨wm_1031, wm_1032, wm_12, wm_1033, ⟨by decide, by decide⟩, by decide +kernel⟩
theorem kb_29 : (Int8.ofInt 29).toInt32 = 29 := by decide
theorem kb_12 : (Int8.ofInt 12).toInt32 = 12 := by decide
theorem cv_X11_146 : CV RX11 146 yX11_fields cX11_fields 5 (some .boolean) 3 := ⟨wm_1024, wm_1026, wl_45, wm_12, wm_1027, ⟨by decide, by decide⟩, by decide +kernel⟩
theorem cv_X11_126 : CV RX11 126 yX11_note cX11_note 8 none 2 := ⟨wm_1020, wm_1022, wl_44, wm_12, wm_1023, ⟨by decide, by decide⟩, by decide +kernel⟩
theorem fg_X11_105_35 : FG RX11 105 35 8 0 := ⟨11, [0, 38, 0, 39, 40, 41, 42, 0, 0, 43, 44, 0, 0, 0, 45, 46, 47, 48, 49, 50, 0, 51, 52, 0, 0, 0, 0, 0, 53, 54, 55, 56, 57, 58, 59, 60, 61, 0, 1, 1, 0, 62, 63, 0], RX11, TX11, 44, rfl, rfl, rfl, by decide, rfl, wm_852, in_X11⟩
theorem fp_X11_105_35 : FP RX11 105 35 8 0 .int := ⟨11, [0, 38, 0, 39, 40, 41, 42, 0, 0, 43, 44, 0, 0, 0, 45, 46, 47, 48, 49, 50, 0, 51, 52, 0, 0, 0, 0, 0, 53, 54, 55, 56, 57, 58, 59, 60, 61, 0, 1, 1, 0, 62, 63, 0], RX11, TX11, 44, tyX11, rfl, rfl, rfl, by decide, rfl, wm_852, in_X11, tyX11_ok, nmX11, rfl, by decide +kernel⟩
theorem cs_X11_119 : CS RX11 119 yX11_doubled cX11_doubled 3 (some .int) 2 := ⟨wm_1013, wm_1014, wm_12, wm_1015, ⟨by decide, by decide⟩, by decide +kernel⟩
theorem cv_X11_115 : CV RX11 115 yX11_ends cX11_ends 5 (some .boolean) 2 := ⟨wm_1008, wm_1010, wl_42, wm_12, wm_1011, ⟨by decide, by decide⟩, by decide +kernel⟩
theorem cv_X11_108 : CV RX11 108 yX11_lose cX11_lose 2 none 1 := ⟨wm_1004, wm_1006, wl_41, wm_12, wm_1007, ⟨by decide, by decide⟩, by decide +kernel⟩
theorem cv_X11_111 : CV RX11 111 yX11_put cX11_put 3 none 2 := ⟨wm_1000, wm_1002, wl_40, wm_12, wm_1003, ⟨by decide, by decide⟩, by decide +kernel⟩
theorem cv_X11_129 : CV RX11 129 yX11_hears cX11_hears 5 (some .boolean) 2 := ⟨wm_996, wm_998, wl_39, wm_12, wm_999, ⟨by decide, by decide⟩, by decide +kernel⟩
theorem fp_X11_133_35 : FP RX11 133 35 7 0 .int := ⟨11, [0, 38, 0, 39, 40, 41, 42, 0, 0, 43, 44, 0, 0, 0, 45, 46, 47, 48, 49, 50, 0, 51, 52, 0, 0, 0, 0, 0, 53, 54, 55, 56, 57, 58, 59, 60, 61, 0, 1, 1, 0, 62, 63, 0], RX11, TX11, 44, tyX11, rfl, rfl, rfl, by decide, rfl, wm_851, in_X11, tyX11_ok, nmX11, rfl, by decide +kernel⟩
theorem cv_X11_159 : CV RX11 159 yX11_refuse cX11_refuse 1 (some .int) 0 := ⟨wm_1052, wm_1054, wl_48, wm_12, wm_1055, ⟨by decide, by decide⟩, by decide +kernel⟩
theorem cv_X11_169 : CV RX11 169 yX11_isClash cX11_isClash 3 (some .boolean) 2 := ⟨wm_1076, wm_1078, wl_49, wm_12, wm_1079, ⟨by decide, by decide⟩, by decide +kernel⟩
theorem cv_X11_172 : CV RX11 172 yX11_clashOf cX11_clashOf 5 (some .int) 1 := ⟨wm_1084, wm_1086, wl_50, wm_12, wm_1087, ⟨by decide, by decide⟩, by decide +kernel⟩
theorem cs_X11_188 : CS RX11 188 yX11_isIn cX11_isIn 3 (some .boolean) 3 := ⟨wm_1092, wm_1093, wm_12, wm_1094, ⟨by decide, by decide⟩, by decide +kernel⟩
theorem fp_X11_176_35 : FP RX11 176 35 24 0 .int := ⟨11, [0, 38, 0, 39, 40, 41, 42, 0, 0, 43, 44, 0, 0, 0, 45, 46, 47, 48, 49, 50, 0, 51, 52, 0, 0, 0, 0, 0, 53, 54, 55, 56, 57, 58, 59, 60, 61, 0, 1, 1, 0, 62, 63, 0], RX11, TX11, 44, tyX11, rfl, rfl, rfl, by decide, rfl, wm_868, in_X11, tyX11_ok, nmX11, rfl, by decide +kernel⟩
theorem fg_X11_53_35 : FG RX11 53 35 22 52 := ⟨11, [0, 38, 0, 39, 40, 41, 42, 0, 0, 43, 44, 0, 0, 0, 45, 46, 47, 48, 49, 50, 0, 51, 52, 0, 0, 0, 0, 0, 53, 54, 55, 56, 57, 58, 59, 60, 61, 0, 1, 1, 0, 62, 63, 0], RX11, TX11, 44, rfl, rfl, rfl, by decide, rfl, wm_866, in_X11⟩
theorem fg_X11_176_35 : FG RX11 176 35 24 0 := ⟨11, [0, 38, 0, 39, 40, 41, 42, 0, 0, 43, 44, 0, 0, 0, 45, 46, 47, 48, 49, 50, 0, 51, 52, 0, 0, 0, 0, 0, 53, 54, 55, 56, 57, 58, 59, 60, 61, 0, 1, 1, 0, 62, 63, 0], RX11, TX11, 44, rfl, rfl, rfl, by decide, rfl, wm_868, in_X11⟩
theorem ar_50 : shL[50]? = some (.inl (1, 120)) := rfl
theorem cv_X11_191 : CV RX11 191 yX11_say cX11_say 4 none 2 := ⟨wm_1096, wm_1098, wl_51, wm_12, wm_1099, ⟨by decide, by decide⟩, by decide +kernel⟩
theorem ks_m32768 : (Int16.ofInt (-32768)).toInt32 = (-32768) := by decide
theorem ks_32767 : (Int16.ofInt 32767).toInt32 = 32767 := by decide
theorem kb_m128 : (Int8.ofInt (-128)).toInt32 = (-128) := by decide
theorem kb_127 : (Int8.ofInt 127).toInt32 = 127 := by decide
theorem ks_511 : (Int16.ofInt 511).toInt32 = 511 := by decide
theorem ks_1023 : (Int16.ofInt 1023).toInt32 = 1023 := by decide
theorem ks_2249 : (Int16.ofInt 2249).toInt32 = 2249 := by decide
theorem cv_X11_195 : CV RX11 195 yX11_says cX11_says 6 (some .boolean) 5 := ⟨wm_1100, wm_1102, wl_52, wm_12, wm_1103, ⟨by decide, by decide⟩, by decide +kernel⟩
theorem fp_X11_182_35 : FP RX11 182 35 27 0 .int := ⟨11, [0, 38, 0, 39, 40, 41, 42, 0, 0, 43, 44, 0, 0, 0, 45, 46, 47, 48, 49, 50, 0, 51, 52, 0, 0, 0, 0, 0, 53, 54, 55, 56, 57, 58, 59, 60, 61, 0, 1, 1, 0, 62, 63, 0], RX11, TX11, 44, tyX11, rfl, rfl, rfl, by decide, rfl, wm_870, in_X11, tyX11_ok, nmX11, rfl, by decide +kernel⟩
theorem fp_X11_179_35 : FP RX11 179 35 25 0 .int := ⟨11, [0, 38, 0, 39, 40, 41, 42, 0, 0, 43, 44, 0, 0, 0, 45, 46, 47, 48, 49, 50, 0, 51, 52, 0, 0, 0, 0, 0, 53, 54, 55, 56, 57, 58, 59, 60, 61, 0, 1, 1, 0, 62, 63, 0], RX11, TX11, 44, tyX11, rfl, rfl, rfl, by decide, rfl, wm_869, in_X11, tyX11_ok, nmX11, rfl, by decide +kernel⟩
theorem fg_X11_182_35 : FG RX11 182 35 27 0 := ⟨11, [0, 38, 0, 39, 40, 41, 42, 0, 0, 43, 44, 0, 0, 0, 45, 46, 47, 48, 49, 50, 0, 51, 52, 0, 0, 0, 0, 0, 53, 54, 55, 56, 57, 58, 59, 60, 61, 0, 1, 1, 0, 62, 63, 0], RX11, TX11, 44, rfl, rfl, rfl, by decide, rfl, wm_870, in_X11⟩
theorem fg_X11_50_35 : FG RX11 50 35 21 51 := ⟨11, [0, 38, 0, 39, 40, 41, 42, 0, 0, 43, 44, 0, 0, 0, 45, 46, 47, 48, 49, 50, 0, 51, 52, 0, 0, 0, 0, 0, 53, 54, 55, 56, 57, 58, 59, 60, 61, 0, 1, 1, 0, 62, 63, 0], RX11, TX11, 44, rfl, rfl, rfl, by decide, rfl, wm_865, in_X11⟩
theorem ar_49 : shL[49]? = some (.inl (1, 60)) := rfl
theorem fg_X11_179_35 : FG RX11 179 35 25 0 := ⟨11, [0, 38, 0, 39, 40, 41, 42, 0, 0, 43, 44, 0, 0, 0, 45, 46, 47, 48, 49, 50, 0, 51, 52, 0, 0, 0, 0, 0, 53, 54, 55, 56, 57, 58, 59, 60, 61, 0, 1, 1, 0, 62, 63, 0], RX11, TX11, 44, rfl, rfl, rfl, by decide, rfl, wm_869, in_X11⟩
theorem cv_X11_185 : CV RX11 185 yX11_level cX11_level 2 none 1 := ⟨wm_1104, wm_1106, wl_53, wm_12, wm_1107, ⟨by decide, by decide⟩, by decide +kernel⟩
theorem cv_X11_199 : CV RX11 199 yX11_mark cX11_mark 2 none 0 := ⟨wm_1108, wm_1110, wl_54, wm_12, wm_1111, ⟨by decide, by decide⟩, by decide +kernel⟩
theorem fp_X11_202_35 : FP RX11 202 35 23 0 .int := ⟨11, [0, 38, 0, 39, 40, 41, 42, 0, 0, 43, 44, 0, 0, 0, 45, 46, 47, 48, 49, 50, 0, 51, 52, 0, 0, 0, 0, 0, 53, 54, 55, 56, 57, 58, 59, 60, 61, 0, 1, 1, 0, 62, 63, 0], RX11, TX11, 44, tyX11, rfl, rfl, rfl, by decide, rfl, wm_867, in_X11, tyX11_ok, nmX11, rfl, by decide +kernel⟩
theorem fg_X11_202_35 : FG RX11 202 35 23 0 := ⟨11, [0, 38, 0, 39, 40, 41, 42, 0, 0, 43, 44, 0, 0, 0, 45, 46, 47, 48, 49, 50, 0, 51, 52, 0, 0, 0, 0, 0, 53, 54, 55, 56, 57, 58, 59, 60, 61, 0, 1, 1, 0, 62, 63, 0], RX11, TX11, 44, rfl, rfl, rfl, by decide, rfl, wm_867, in_X11⟩
theorem fp_X11_225_35 : FP RX11 225 35 37 0 .int := ⟨11, [0, 38, 0, 39, 40, 41, 42, 0, 0, 43, 44, 0, 0, 0, 45, 46, 47, 48, 49, 50, 0, 51, 52, 0, 0, 0, 0, 0, 53, 54, 55, 56, 57, 58, 59, 60, 61, 0, 1, 1, 0, 62, 63, 0], RX11, TX11, 44, tyX11, rfl, rfl, rfl, by decide, rfl, wm_880, in_X11, tyX11_ok, nmX11, rfl, by decide +kernel⟩
theorem fp_X11_215_35 : FP RX11 215 35 40 0 .int := ⟨11, [0, 38, 0, 39, 40, 41, 42, 0, 0, 43, 44, 0, 0, 0, 45, 46, 47, 48, 49, 50, 0, 51, 52, 0, 0, 0, 0, 0, 53, 54, 55, 56, 57, 58, 59, 60, 61, 0, 1, 1, 0, 62, 63, 0], RX11, TX11, 44, tyX11, rfl, rfl, rfl, by decide, rfl, wm_883, in_X11, tyX11_ok, nmX11, rfl, by decide +kernel⟩
theorem fp_X11_211_35 : FP RX11 211 35 39 1 .long := ⟨11, [0, 38, 0, 39, 40, 41, 42, 0, 0, 43, 44, 0, 0, 0, 45, 46, 47, 48, 49, 50, 0, 51, 52, 0, 0, 0, 0, 0, 53, 54, 55, 56, 57, 58, 59, 60, 61, 0, 1, 1, 0, 62, 63, 0], RX11, TX11, 44, tyX11, rfl, rfl, rfl, by decide, rfl, wm_882, in_X11, tyX11_ok, nmX11, rfl, by decide +kernel⟩
theorem fg_X11_211_35 : FG RX11 211 35 39 1 := ⟨11, [0, 38, 0, 39, 40, 41, 42, 0, 0, 43, 44, 0, 0, 0, 45, 46, 47, 48, 49, 50, 0, 51, 52, 0, 0, 0, 0, 0, 53, 54, 55, 56, 57, 58, 59, 60, 61, 0, 1, 1, 0, 62, 63, 0], RX11, TX11, 44, rfl, rfl, rfl, by decide, rfl, wm_882, in_X11⟩
theorem fg_X11_84_35 : FG RX11 84 35 41 62 := ⟨11, [0, 38, 0, 39, 40, 41, 42, 0, 0, 43, 44, 0, 0, 0, 45, 46, 47, 48, 49, 50, 0, 51, 52, 0, 0, 0, 0, 0, 53, 54, 55, 56, 57, 58, 59, 60, 61, 0, 1, 1, 0, 62, 63, 0], RX11, TX11, 44, rfl, rfl, rfl, by decide, rfl, wm_884, in_X11⟩
theorem ar_60 : shL[60]? = some (.inl (2, 16)) := rfl
theorem fg_X11_215_35 : FG RX11 215 35 40 0 := ⟨11, [0, 38, 0, 39, 40, 41, 42, 0, 0, 43, 44, 0, 0, 0, 45, 46, 47, 48, 49, 50, 0, 51, 52, 0, 0, 0, 0, 0, 53, 54, 55, 56, 57, 58, 59, 60, 61, 0, 1, 1, 0, 62, 63, 0], RX11, TX11, 44, rfl, rfl, rfl, by decide, rfl, wm_883, in_X11⟩
theorem fg_X11_87_35 : FG RX11 87 35 42 63 := ⟨11, [0, 38, 0, 39, 40, 41, 42, 0, 0, 43, 44, 0, 0, 0, 45, 46, 47, 48, 49, 50, 0, 51, 52, 0, 0, 0, 0, 0, 53, 54, 55, 56, 57, 58, 59, 60, 61, 0, 1, 1, 0, 62, 63, 0], RX11, TX11, 44, rfl, rfl, rfl, by decide, rfl, wm_885, in_X11⟩
theorem ar_61 : shL[61]? = some (.inl (1, 16)) := rfl
theorem fg_X11_62_35 : FG RX11 62 35 30 55 := ⟨11, [0, 38, 0, 39, 40, 41, 42, 0, 0, 43, 44, 0, 0, 0, 45, 46, 47, 48, 49, 50, 0, 51, 52, 0, 0, 0, 0, 0, 53, 54, 55, 56, 57, 58, 59, 60, 61, 0, 1, 1, 0, 62, 63, 0], RX11, TX11, 44, rfl, rfl, rfl, by decide, rfl, wm_873, in_X11⟩
theorem ar_53 : shL[53]? = some (.inl (1, 16)) := rfl
theorem fg_X11_65_35 : FG RX11 65 35 31 56 := ⟨11, [0, 38, 0, 39, 40, 41, 42, 0, 0, 43, 44, 0, 0, 0, 45, 46, 47, 48, 49, 50, 0, 51, 52, 0, 0, 0, 0, 0, 53, 54, 55, 56, 57, 58, 59, 60, 61, 0, 1, 1, 0, 62, 63, 0], RX11, TX11, 44, rfl, rfl, rfl, by decide, rfl, wm_874, in_X11⟩
theorem ar_54 : shL[54]? = some (.inl (1, 16)) := rfl
theorem fg_X11_81_35 : FG RX11 81 35 36 61 := ⟨11, [0, 38, 0, 39, 40, 41, 42, 0, 0, 43, 44, 0, 0, 0, 45, 46, 47, 48, 49, 50, 0, 51, 52, 0, 0, 0, 0, 0, 53, 54, 55, 56, 57, 58, 59, 60, 61, 0, 1, 1, 0, 62, 63, 0], RX11, TX11, 44, rfl, rfl, rfl, by decide, rfl, wm_879, in_X11⟩
theorem ar_59 : shL[59]? = some (.inl (3, 16)) := rfl
theorem fg_X11_74_35 : FG RX11 74 35 34 59 := ⟨11, [0, 38, 0, 39, 40, 41, 42, 0, 0, 43, 44, 0, 0, 0, 45, 46, 47, 48, 49, 50, 0, 51, 52, 0, 0, 0, 0, 0, 53, 54, 55, 56, 57, 58, 59, 60, 61, 0, 1, 1, 0, 62, 63, 0], RX11, TX11, 44, rfl, rfl, rfl, by decide, rfl, wm_877, in_X11⟩
theorem ar_57 : shL[57]? = some (.inl (2, 256)) := rfl
theorem fg_X11_78_35 : FG RX11 78 35 35 60 := ⟨11, [0, 38, 0, 39, 40, 41, 42, 0, 0, 43, 44, 0, 0, 0, 45, 46, 47, 48, 49, 50, 0, 51, 52, 0, 0, 0, 0, 0, 53, 54, 55, 56, 57, 58, 59, 60, 61, 0, 1, 1, 0, 62, 63, 0], RX11, TX11, 44, rfl, rfl, rfl, by decide, rfl, wm_878, in_X11⟩
theorem ar_58 : shL[58]? = some (.inl (3, 256)) := rfl
theorem cv_X11_207 : CV RX11 207 yX11_lowers cX11_lowers 6 (some .boolean) 3 := ⟨wm_1133, wm_1135, wl_58, wm_12, wm_1136, ⟨by decide, by decide⟩, by decide +kernel⟩
theorem cv_X11_218 : CV RX11 218 yX11_raises cX11_raises 9 (some .boolean) 1 := ⟨wm_1128, wm_1130, wl_57, wm_12, wm_1131, ⟨by decide, by decide⟩, by decide +kernel⟩
theorem fg_X11_71_35 : FG RX11 71 35 33 58 := ⟨11, [0, 38, 0, 39, 40, 41, 42, 0, 0, 43, 44, 0, 0, 0, 45, 46, 47, 48, 49, 50, 0, 51, 52, 0, 0, 0, 0, 0, 53, 54, 55, 56, 57, 58, 59, 60, 61, 0, 1, 1, 0, 62, 63, 0], RX11, TX11, 44, rfl, rfl, rfl, by decide, rfl, wm_876, in_X11⟩
theorem ar_56 : shL[56]? = some (.inl (1, 16)) := rfl
theorem cv_X11_228 : CV RX11 228 yX11_solve cX11_solve 3 none 1 := ⟨wm_1124, wm_1126, wl_56, wm_12, wm_1127, ⟨by decide, by decide⟩, by decide +kernel⟩
theorem fp_X11_231_35 : FP RX11 231 35 38 1 .long := ⟨11, [0, 38, 0, 39, 40, 41, 42, 0, 0, 43, 44, 0, 0, 0, 45, 46, 47, 48, 49, 50, 0, 51, 52, 0, 0, 0, 0, 0, 53, 54, 55, 56, 57, 58, 59, 60, 61, 0, 1, 1, 0, 62, 63, 0], RX11, TX11, 44, tyX11, rfl, rfl, rfl, by decide, rfl, wm_881, in_X11, tyX11_ok, nmX11, rfl, by decide +kernel⟩
theorem fg_X11_68_35 : FG RX11 68 35 32 57 := ⟨11, [0, 38, 0, 39, 40, 41, 42, 0, 0, 43, 44, 0, 0, 0, 45, 46, 47, 48, 49, 50, 0, 51, 52, 0, 0, 0, 0, 0, 53, 54, 55, 56, 57, 58, 59, 60, 61, 0, 1, 1, 0, 62, 63, 0], RX11, TX11, 44, rfl, rfl, rfl, by decide, rfl, wm_875, in_X11⟩
theorem ar_55 : shL[55]? = some (.inl (1, 16)) := rfl
theorem cv_X11_234 : CV RX11 234 yX11_isFree cX11_isFree 4 (some .boolean) 2 := ⟨wm_1137, wm_1139, wl_59, wm_12, wm_1140, ⟨by decide, by decide⟩, by decide +kernel⟩
theorem fg_X11_231_35 : FG RX11 231 35 38 1 := ⟨11, [0, 38, 0, 39, 40, 41, 42, 0, 0, 43, 44, 0, 0, 0, 45, 46, 47, 48, 49, 50, 0, 51, 52, 0, 0, 0, 0, 0, 53, 54, 55, 56, 57, 58, 59, 60, 61, 0, 1, 1, 0, 62, 63, 0], RX11, TX11, 44, rfl, rfl, rfl, by decide, rfl, wm_881, in_X11⟩
theorem cv_X11_237 : CV RX11 237 yX11_goesOn cX11_goesOn 3 (some .boolean) 2 := ⟨wm_1141, wm_1143, wl_60, wm_12, wm_1144, ⟨by decide, by decide⟩, by decide +kernel⟩
theorem fg_X11_56_35 : FG RX11 56 35 28 53 := ⟨11, [0, 38, 0, 39, 40, 41, 42, 0, 0, 43, 44, 0, 0, 0, 45, 46, 47, 48, 49, 50, 0, 51, 52, 0, 0, 0, 0, 0, 53, 54, 55, 56, 57, 58, 59, 60, 61, 0, 1, 1, 0, 62, 63, 0], RX11, TX11, 44, rfl, rfl, rfl, by decide, rfl, wm_871, in_X11⟩
theorem fg_X11_59_35 : FG RX11 59 35 29 54 := ⟨11, [0, 38, 0, 39, 40, 41, 42, 0, 0, 43, 44, 0, 0, 0, 45, 46, 47, 48, 49, 50, 0, 51, 52, 0, 0, 0, 0, 0, 53, 54, 55, 56, 57, 58, 59, 60, 61, 0, 1, 1, 0, 62, 63, 0], RX11, TX11, 44, rfl, rfl, rfl, by decide, rfl, wm_872, in_X11⟩
theorem ar_52 : shL[52]? = some (.inl (1, 16)) := rfl
theorem ar_51 : shL[51]? = some (.inl (1, 16)) := rfl
theorem cv_X11_222 : CV RX11 222 yX11_isAhead cX11_isAhead 3 (some .boolean) 2 := ⟨wm_1120, wm_1122, wl_55, wm_12, wm_1123, ⟨by decide, by decide⟩, by decide +kernel⟩
theorem fg_X11_225_35 : FG RX11 225 35 37 0 := ⟨11, [0, 38, 0, 39, 40, 41, 42, 0, 0, 43, 44, 0, 0, 0, 45, 46, 47, 48, 49, 50, 0, 51, 52, 0, 0, 0, 0, 0, 53, 54, 55, 56, 57, 58, 59, 60, 61, 0, 1, 1, 0, 62, 63, 0], RX11, TX11, 44, rfl, rfl, rfl, by decide, rfl, wm_880, in_X11⟩
theorem cv_X11_240 : CV RX11 240 yX11_latest cX11_latest 3 (some .int) 1 := ⟨wm_1157, wm_1159, wl_61, wm_12, wm_1160, ⟨by decide, by decide⟩, by decide +kernel⟩
theorem cv_X11_245 : CV RX11 245 yX11_gap cX11_gap 8 (some .long) 3 := ⟨wm_1162, wm_1164, wl_62, wm_12, wm_1165, ⟨by decide, by decide⟩, by decide +kernel⟩
theorem fp_X11_90_35 : FP RX11 90 35 43 0 .int := ⟨11, [0, 38, 0, 39, 40, 41, 42, 0, 0, 43, 44, 0, 0, 0, 45, 46, 47, 48, 49, 50, 0, 51, 52, 0, 0, 0, 0, 0, 53, 54, 55, 56, 57, 58, 59, 60, 61, 0, 1, 1, 0, 62, 63, 0], RX11, TX11, 44, tyX11, rfl, rfl, rfl, by decide, rfl, wm_886, in_X11, tyX11_ok, nmX11, rfl, by decide +kernel⟩
theorem ks_3600 : (Int16.ofInt 3600).toInt32 = 3600 := by decide
theorem fg_X11_90_35 : FG RX11 90 35 43 0 := ⟨11, [0, 38, 0, 39, 40, 41, 42, 0, 0, 43, 44, 0, 0, 0, 45, 46, 47, 48, 49, 50, 0, 51, 52, 0, 0, 0, 0, 0, 53, 54, 55, 56, 57, 58, 59, 60, 61, 0, 1, 1, 0, 62, 63, 0], RX11, TX11, 44, rfl, rfl, rfl, by decide, rfl, wm_886, in_X11⟩
theorem cv_X10_159 : CV RX10 159 yX0_laterOf cX0_laterOf 4 (some .int) 1 := ⟨wm_801, wm_802, wm_803, wm_7, wm_804, ⟨by decide, by decide⟩, by decide +kernel⟩
theorem cv_X10_162 : CV RX10 162 yX0_earlierOf cX0_earlierOf 6 (some .int) 3 := ⟨wm_805, wm_806, wm_807, wm_7, wm_808, ⟨by decide, by decide⟩, by decide +kernel⟩
theorem cv_X9_33 : CV RX9 33 yX9_wholeWith cX9_wholeWith 2 (some .int) 1 := ⟨wm_825, wm_818, wm_819, wm_8, wm_820, ⟨by decide, by decide⟩, by decide +kernel⟩
theorem cv_X10_173 : CV RX10 173 yX9_lettersIn cX9_lettersIn 3 (some .int) 2 := ⟨wm_821, wm_822, wm_823, wm_8, wm_824, ⟨by decide, by decide⟩, by decide +kernel⟩
theorem cv_X10_179 : CV RX10 179 yX9_letterOf cX9_letterOf 6 (some .int) 3 := ⟨wm_834, wm_835, wm_836, wm_8, wm_837, ⟨by decide, by decide⟩, by decide +kernel⟩
theorem cv_X10_134 : CV RX10 134 yX2_has cX2_has 2 (some .boolean) 1 := ⟨wm_791, wm_417, wm_418, wm_6, wm_419, ⟨by decide, by decide⟩, by decide +kernel⟩
theorem cv_X6_29 : CV RX6 29 yX6_bytes cX6_bytes 1 (some .int) 0 := ⟨wm_783, wm_490, wm_491, wm_5, wm_492, ⟨by decide, by decide⟩, by decide +kernel⟩
theorem cv_X10_131 : CV RX10 131 yX6_byteAt cX6_byteAt 2 (some .int) 1 := ⟨wm_779, wm_780, wm_781, wm_5, wm_782, ⟨by decide, by decide⟩, by decide +kernel⟩
theorem cv_X10_170 : CV RX10 170 yX9_wholeWith cX9_wholeWith 2 (some .int) 1 := ⟨wm_817, wm_818, wm_819, wm_8, wm_820, ⟨by decide, by decide⟩, by decide +kernel⟩
theorem cv_L_7 : CV RL 7 yX10_octet cX10_octet 2 (some .int) 1 := ⟨wm_710, wm_711, wm_712, wm_1, wm_713, ⟨by decide, by decide⟩, by decide +kernel⟩
theorem ar_62 : shL[62]? = some (.inl (2, 1)) := rfl
theorem cv_L_15 : CV RL 15 yX10_message cX10_message 3 (some .int) 2 := ⟨wm_787, wm_788, wm_789, wm_1, wm_790, ⟨by decide, by decide⟩, by decide +kernel⟩
theorem cv_L_19 : CV RL 19 yX10_clash cX10_clash 4 (some .int) 2 := ⟨wm_796, wm_797, wm_798, wm_1, wm_799, ⟨by decide, by decide⟩, by decide +kernel⟩
theorem cv_L_22 : CV RL 22 yX10_text cX10_text 4 (some .int) 2 := ⟨wm_812, wm_813, wm_814, wm_1, wm_815, ⟨by decide, by decide⟩, by decide +kernel⟩
theorem cv_L_25 : CV RL 25 yX10_letter cX10_letter 3 (some .int) 2 := ⟨wm_829, wm_830, wm_831, wm_1, wm_832, ⟨by decide, by decide⟩, by decide +kernel⟩
abbrev rmX0_total : Room := { frames := 0, cells := 0, slots := 0, locals := 0 }
abbrev mX0_total : MD := (RX0, cX0_total, 1, (some .int), rmX0_total)
abbrev rmX0_note : Room := { frames := 3, cells := 0, slots := 0, locals := 66 }
abbrev mX0_note : MD := (RX0, cX0_note, 5, none, rmX0_note)
abbrev rmX0_laterOf : Room := { frames := 0, cells := 0, slots := 0, locals := 0 }
abbrev mX0_laterOf : MD := (RX0, cX0_laterOf, 4, (some .int), rmX0_laterOf)
abbrev rmX0_earlierOf : Room := { frames := 3, cells := 0, slots := 0, locals := 66 }
abbrev mX0_earlierOf : MD := (RX0, cX0_earlierOf, 6, (some .int), rmX0_earlierOf)
abbrev rmX0_doClash : Room := { frames := 2, cells := 0, slots := 0, locals := 43 }
abbrev mX0_doClash : MD := (RX0, cX0_doClash, 4, (some .boolean), rmX0_doClash)
abbrev rmX1_torn : Room := { frames := 0, cells := 0, slots := 0, locals := 0 }
abbrev mX1_torn : MD := (RX1, cX1_torn, 1, (some .int), rmX1_torn)
abbrev rmX1_bitsPut : Room := { frames := 0, cells := 0, slots := 0, locals := 0 }
abbrev mX1_bitsPut : MD := (RX1, cX1_bitsPut, 1, (some .int), rmX1_bitsPut)
abbrev rmX1_frameBits : Room := { frames := 0, cells := 0, slots := 0, locals := 0 }
abbrev mX1_frameBits : MD := (RX1, cX1_frameBits, 1, (some .int), rmX1_frameBits)
abbrev rmX1_takeLevel : Room := { frames := 4, cells := 0, slots := 0, locals := 88 }
abbrev mX1_takeLevel : MD := (RX1, cX1_takeLevel, 4, (some .boolean), rmX1_takeLevel)
abbrev rmX1_number : Room := { frames := 1, cells := 0, slots := 0, locals := 21 }
abbrev mX1_number : MD := (RX1, cX1_number, 5, (some .int), rmX1_number)
abbrev rmX1_bitAt : Room := { frames := 0, cells := 0, slots := 0, locals := 0 }
abbrev mX1_bitAt : MD := (RX1, cX1_bitAt, 2, (some .int), rmX1_bitAt)
abbrev rmX1_takeOne : Room := { frames := 2, cells := 0, slots := 0, locals := 41 }
abbrev mX1_takeOne : MD := (RX1, cX1_takeOne, 1, none, rmX1_takeOne)
abbrev rmX1_putBit : Room := { frames := 1, cells := 0, slots := 0, locals := 20 }
abbrev mX1_putBit : MD := (RX1, cX1_putBit, 2, none, rmX1_putBit)
abbrev rmX1_lose : Room := { frames := 0, cells := 0, slots := 0, locals := 0 }
abbrev mX1_lose : MD := (RX1, cX1_lose, 1, none, rmX1_lose)
abbrev rmX1_endPiece : Room := { frames := 3, cells := 0, slots := 0, locals := 67 }
abbrev mX1_endPiece : MD := (RX1, cX1_endPiece, 2, (some .boolean), rmX1_endPiece)
abbrev rmX1_isChecked : Room := { frames := 2, cells := 0, slots := 0, locals := 45 }
abbrev mX1_isChecked : MD := (RX1, cX1_isChecked, 3, (some .boolean), rmX1_isChecked)
abbrev rmX2_entries : Room := { frames := 0, cells := 0, slots := 0, locals := 0 }
abbrev mX2_entries : MD := (RX2, cX2_entries, 1, (some .int), rmX2_entries)
abbrev rmX2_has : Room := { frames := 0, cells := 0, slots := 0, locals := 0 }
abbrev mX2_has : MD := (RX2, cX2_has, 2, (some .boolean), rmX2_has)
abbrev rmX2_cell : Room := { frames := 1, cells := 0, slots := 0, locals := 21 }
abbrev mX2_cell : MD := (RX2, cX2_cell, 3, (some .int), rmX2_cell)
abbrev rmX2_add : Room := { frames := 1, cells := 0, slots := 0, locals := 21 }
abbrev mX2_add : MD := (RX2, cX2_add, 6, (some .int), rmX2_add)
abbrev rmX2_isOf : Room := { frames := 2, cells := 0, slots := 0, locals := 43 }
abbrev mX2_isOf : MD := (RX2, cX2_isOf, 4, (some .boolean), rmX2_isOf)
abbrev rmX2_latest : Room := { frames := 3, cells := 0, slots := 0, locals := 66 }
abbrev mX2_latest : MD := (RX2, cX2_latest, 4, (some .int), rmX2_latest)
abbrev rmX2_howMany : Room := { frames := 3, cells := 0, slots := 0, locals := 66 }
abbrev mX2_howMany : MD := (RX2, cX2_howMany, 5, (some .int), rmX2_howMany)
abbrev rmX3_begin : Room := { frames := 1, cells := 0, slots := 0, locals := 21 }
abbrev mX3_begin : MD := (RX3, cX3_begin, 3, none, rmX3_begin)
abbrev rmX3_allow : Room := { frames := 1, cells := 0, slots := 0, locals := 21 }
abbrev mX3_allow : MD := (RX3, cX3_allow, 5, none, rmX3_allow)
abbrev rmX3_squareOf : Room := { frames := 1, cells := 0, slots := 0, locals := 21 }
abbrev mX3_squareOf : MD := (RX3, cX3_squareOf, 3, (some .long), rmX3_squareOf)
abbrev rmX3_followedBy : Room := { frames := 1, cells := 0, slots := 0, locals := 21 }
abbrev mX3_followedBy : MD := (RX3, cX3_followedBy, 2, (some .int), rmX3_followedBy)
abbrev rmX3_solve : Room := { frames := 5, cells := 0, slots := 0, locals := 119 }
abbrev mX3_solve : MD := (RX3, cX3_solve, 2, none, rmX3_solve)
abbrev rmX3_isPosition : Room := { frames := 0, cells := 0, slots := 0, locals := 0 }
abbrev mX3_isPosition : MD := (RX3, cX3_isPosition, 2, (some .boolean), rmX3_isPosition)
abbrev rmX3_isColumn : Room := { frames := 0, cells := 0, slots := 0, locals := 0 }
abbrev mX3_isColumn : MD := (RX3, cX3_isColumn, 2, (some .boolean), rmX3_isColumn)
abbrev rmX3_price : Room := { frames := 0, cells := 0, slots := 0, locals := 0 }
abbrev mX3_price : MD := (RX3, cX3_price, 3, (some .long), rmX3_price)
abbrev rmX3_isTight : Room := { frames := 1, cells := 0, slots := 0, locals := 22 }
abbrev mX3_isTight : MD := (RX3, cX3_isTight, 5, (some .boolean), rmX3_isTight)
abbrev rmX3_admit : Room := { frames := 3, cells := 0, slots := 0, locals := 67 }
abbrev mX3_admit : MD := (RX3, cX3_admit, 6, none, rmX3_admit)
abbrev rmX3_lookFrom : Room := { frames := 1, cells := 0, slots := 0, locals := 22 }
abbrev mX3_lookFrom : MD := (RX3, cX3_lookFrom, 7, (some .int), rmX3_lookFrom)
abbrev rmX3_shiftDuals : Room := { frames := 1, cells := 0, slots := 0, locals := 21 }
abbrev mX3_shiftDuals : MD := (RX3, cX3_shiftDuals, 5, none, rmX3_shiftDuals)
abbrev rmX3_moveAlong : Room := { frames := 2, cells := 0, slots := 0, locals := 43 }
abbrev mX3_moveAlong : MD := (RX3, cX3_moveAlong, 5, none, rmX3_moveAlong)
abbrev rmX3_place : Room := { frames := 1, cells := 0, slots := 0, locals := 21 }
abbrev mX3_place : MD := (RX3, cX3_place, 3, none, rmX3_place)
abbrev rmX3_fillSpareRows : Room := { frames := 2, cells := 0, slots := 0, locals := 43 }
abbrev mX3_fillSpareRows : MD := (RX3, cX3_fillSpareRows, 3, none, rmX3_fillSpareRows)
abbrev rmX3_settle : Room := { frames := 4, cells := 0, slots := 0, locals := 97 }
abbrev mX3_settle : MD := (RX3, cX3_settle, 3, none, rmX3_settle)
abbrev rmX3_giveColumn : Room := { frames := 3, cells := 0, slots := 0, locals := 72 }
abbrev mX3_giveColumn : MD := (RX3, cX3_giveColumn, 6, (some .boolean), rmX3_giveColumn)
abbrev rmX3_lookOnFrom : Room := { frames := 2, cells := 0, slots := 0, locals := 46 }
abbrev mX3_lookOnFrom : MD := (RX3, cX3_lookOnFrom, 7, (some .int), rmX3_lookOnFrom)
abbrev rmX4_second : Room := { frames := 0, cells := 0, slots := 0, locals := 0 }
abbrev mX4_second : MD := (RX4, cX4_second, 1, (some .int), rmX4_second)
abbrev rmX4_find : Room := { frames := 3, cells := 0, slots := 0, locals := 69 }
abbrev mX4_find : MD := (RX4, cX4_find, 19, (some .long), rmX4_find)
abbrev rmX4_nearestAfter : Room := { frames := 1, cells := 0, slots := 0, locals := 25 }
abbrev mX4_nearestAfter : MD := (RX4, cX4_nearestAfter, 12, (some .long), rmX4_nearestAfter)
abbrev rmX4_along : Room := { frames := 2, cells := 0, slots := 0, locals := 43 }
abbrev mX4_along : MD := (RX4, cX4_along, 7, (some .long), rmX4_along)
abbrev rmX4_square : Room := { frames := 0, cells := 0, slots := 0, locals := 0 }
abbrev mX4_square : MD := (RX4, cX4_square, 4, (some .long), rmX4_square)
abbrev rmX5_together : Room := { frames := 0, cells := 0, slots := 0, locals := 0 }
abbrev mX5_together : MD := (RX5, cX5_together, 1, (some .long), rmX5_together)
abbrev rmX5_tellOf : Room := { frames := 0, cells := 0, slots := 0, locals := 0 }
abbrev mX5_tellOf : MD := (RX5, cX5_tellOf, 3, (some .int), rmX5_tellOf)
abbrev rmX5_make : Room := { frames := 6, cells := 0, slots := 0, locals := 140 }
abbrev mX5_make : MD := (RX5, cX5_make, 7, (some .int), rmX5_make)
abbrev rmX5_gather : Room := { frames := 4, cells := 0, slots := 0, locals := 90 }
abbrev mX5_gather : MD := (RX5, cX5_gather, 5, none, rmX5_gather)
abbrev rmX5_insert : Room := { frames := 3, cells := 0, slots := 0, locals := 67 }
abbrev mX5_insert : MD := (RX5, cX5_insert, 4, none, rmX5_insert)
abbrev rmX5_isAhead : Room := { frames := 2, cells := 0, slots := 0, locals := 43 }
abbrev mX5_isAhead : MD := (RX5, cX5_isAhead, 5, (some .boolean), rmX5_isAhead)
abbrev rmX5_allowIfNear : Room := { frames := 2, cells := 0, slots := 0, locals := 45 }
abbrev mX5_allowIfNear : MD := (RX5, cX5_allowIfNear, 17, none, rmX5_allowIfNear)
abbrev rmX5_drawTracks : Room := { frames := 2, cells := 0, slots := 0, locals := 43 }
abbrev mX5_drawTracks : MD := (RX5, cX5_drawTracks, 3, none, rmX5_drawTracks)
abbrev rmX6_bytes : Room := { frames := 0, cells := 0, slots := 0, locals := 0 }
abbrev mX6_bytes : MD := (RX6, cX6_bytes, 1, (some .int), rmX6_bytes)
abbrev rmX6_byteAt : Room := { frames := 1, cells := 0, slots := 0, locals := 20 }
abbrev mX6_byteAt : MD := (RX6, cX6_byteAt, 2, (some .int), rmX6_byteAt)
abbrev rmX6_tell : Room := { frames := 3, cells := 0, slots := 0, locals := 67 }
abbrev mX6_tell : MD := (RX6, cX6_tell, 3, none, rmX6_tell)
abbrev rmX6_addMark : Room := { frames := 1, cells := 0, slots := 0, locals := 23 }
abbrev mX6_addMark : MD := (RX6, cX6_addMark, 2, none, rmX6_addMark)
abbrev rmX6_addNumber : Room := { frames := 2, cells := 0, slots := 0, locals := 44 }
abbrev mX6_addNumber : MD := (RX6, cX6_addNumber, 4, none, rmX6_addNumber)
abbrev rmX6_addStuffed : Room := { frames := 1, cells := 0, slots := 0, locals := 23 }
abbrev mX6_addStuffed : MD := (RX6, cX6_addStuffed, 2, none, rmX6_addStuffed)
abbrev rmX6_addBit : Room := { frames := 0, cells := 0, slots := 0, locals := 0 }
abbrev mX6_addBit : MD := (RX6, cX6_addBit, 4, none, rmX6_addBit)
abbrev rmX7_length : Room := { frames := 0, cells := 0, slots := 0, locals := 0 }
abbrev mX7_length : MD := (RX7, cX7_length, 1, (some .int), rmX7_length)
abbrev rmX7_hasRoomFor : Room := { frames := 0, cells := 0, slots := 0, locals := 0 }
abbrev mX7_hasRoomFor : MD := (RX7, cX7_hasRoomFor, 2, (some .boolean), rmX7_hasRoomFor)
abbrev rmX7_addNumber : Room := { frames := 0, cells := 0, slots := 0, locals := 0 }
abbrev mX7_addNumber : MD := (RX7, cX7_addNumber, 3, none, rmX7_addNumber)
abbrev rmX7_cutTo : Room := { frames := 0, cells := 0, slots := 0, locals := 0 }
abbrev mX7_cutTo : MD := (RX7, cX7_cutTo, 2, (some .boolean), rmX7_cutTo)
abbrev rmX7_levelAt : Room := { frames := 0, cells := 0, slots := 0, locals := 0 }
abbrev mX7_levelAt : MD := (RX7, cX7_levelAt, 3, (some .int), rmX7_levelAt)
abbrev rmX8_kind : Room := { frames := 0, cells := 0, slots := 0, locals := 0 }
abbrev mX8_kind : MD := (RX8, cX8_kind, 1, (some .int), rmX8_kind)
abbrev rmX8_ship : Room := { frames := 0, cells := 0, slots := 0, locals := 0 }
abbrev mX8_ship : MD := (RX8, cX8_ship, 1, (some .int), rmX8_ship)
abbrev rmX8_number : Room := { frames := 0, cells := 0, slots := 0, locals := 0 }
abbrev mX8_number : MD := (RX8, cX8_number, 2, (some .int), rmX8_number)
abbrev rmX8_width : Room := { frames := 0, cells := 0, slots := 0, locals := 0 }
abbrev mX8_width : MD := (RX8, cX8_width, 3, (some .int), rmX8_width)
abbrev rmX8_readFrom : Room := { frames := 3, cells := 0, slots := 0, locals := 69 }
abbrev mX8_readFrom : MD := (RX8, cX8_readFrom, 2, none, rmX8_readFrom)
abbrev rmX8_readAll : Room := { frames := 2, cells := 0, slots := 0, locals := 45 }
abbrev mX8_readAll : MD := (RX8, cX8_readAll, 5, (some .boolean), rmX8_readAll)
abbrev rmX8_compose : Room := { frames := 2, cells := 0, slots := 0, locals := 45 }
abbrev mX8_compose : MD := (RX8, cX8_compose, 7, (some .boolean), rmX8_compose)
abbrev rmX8_isKind : Room := { frames := 0, cells := 0, slots := 0, locals := 0 }
abbrev mX8_isKind : MD := (RX8, cX8_isKind, 1, (some .boolean), rmX8_isKind)
abbrev rmX8_bodyBits : Room := { frames := 1, cells := 0, slots := 0, locals := 22 }
abbrev mX8_bodyBits : MD := (RX8, cX8_bodyBits, 3, (some .int), rmX8_bodyBits)
abbrev rmX8_setNumbers : Room := { frames := 0, cells := 0, slots := 0, locals := 0 }
abbrev mX8_setNumbers : MD := (RX8, cX8_setNumbers, 5, none, rmX8_setNumbers)
abbrev rmX8_signed : Room := { frames := 0, cells := 0, slots := 0, locals := 0 }
abbrev mX8_signed : MD := (RX8, cX8_signed, 4, (some .int), rmX8_signed)
abbrev rmX8_areInFields : Room := { frames := 1, cells := 0, slots := 0, locals := 23 }
abbrev mX8_areInFields : MD := (RX8, cX8_areInFields, 3, (some .boolean), rmX8_areInFields)
abbrev rmX8_fits : Room := { frames := 0, cells := 0, slots := 0, locals := 0 }
abbrev mX8_fits : MD := (RX8, cX8_fits, 4, (some .boolean), rmX8_fits)
abbrev rmX8_isAsTold : Room := { frames := 1, cells := 0, slots := 0, locals := 22 }
abbrev mX8_isAsTold : MD := (RX8, cX8_isAsTold, 1, (some .boolean), rmX8_isAsTold)
abbrev rmX8_areLetters : Room := { frames := 0, cells := 0, slots := 0, locals := 0 }
abbrev mX8_areLetters : MD := (RX8, cX8_areLetters, 3, (some .boolean), rmX8_areLetters)
abbrev rmX9_joined : Room := { frames := 0, cells := 0, slots := 0, locals := 0 }
abbrev mX9_joined : MD := (RX9, cX9_joined, 1, (some .int), rmX9_joined)
abbrev rmX9_wholeWith : Room := { frames := 0, cells := 0, slots := 0, locals := 0 }
abbrev mX9_wholeWith : MD := (RX9, cX9_wholeWith, 2, (some .int), rmX9_wholeWith)
abbrev rmX9_lettersIn : Room := { frames := 2, cells := 0, slots := 0, locals := 43 }
abbrev mX9_lettersIn : MD := (RX9, cX9_lettersIn, 3, (some .int), rmX9_lettersIn)
abbrev rmX9_letterOf : Room := { frames := 2, cells := 0, slots := 0, locals := 43 }
abbrev mX9_letterOf : MD := (RX9, cX9_letterOf, 6, (some .int), rmX9_letterOf)
abbrev rmX9_note : Room := { frames := 5, cells := 0, slots := 0, locals := 114 }
abbrev mX9_note : MD := (RX9, cX9_note, 4, none, rmX9_note)
abbrev rmX9_findNewest : Room := { frames := 4, cells := 0, slots := 0, locals := 88 }
abbrev mX9_findNewest : MD := (RX9, cX9_findNewest, 7, (some .boolean), rmX9_findNewest)
abbrev rmX9_join : Room := { frames := 4, cells := 0, slots := 0, locals := 88 }
abbrev mX9_join : MD := (RX9, cX9_join, 5, none, rmX9_join)
abbrev rmX9_areOfOneText : Room := { frames := 3, cells := 0, slots := 0, locals := 66 }
abbrev mX9_areOfOneText : MD := (RX9, cX9_areOfOneText, 3, (some .boolean), rmX9_areOfOneText)
abbrev rmX10_feed : Room := { frames := 1, cells := 0, slots := 0, locals := 22 }
abbrev mX10_feed : MD := (RX10, cX10_feed, 6, (some .int), rmX10_feed)
abbrev rmX10_end : Room := { frames := 1, cells := 0, slots := 0, locals := 21 }
abbrev mX10_end : MD := (RX10, cX10_end, 2, (some .boolean), rmX10_end)
abbrev rmX10_hear : Room := { frames := 7, cells := 0, slots := 0, locals := 160 }
abbrev mX10_hear : MD := (RX10, cX10_hear, 6, (some .int), rmX10_hear)
abbrev rmX10_wait : Room := { frames := 0, cells := 0, slots := 0, locals := 0 }
abbrev mX10_wait : MD := (RX10, cX10_wait, 2, (some .boolean), rmX10_wait)
abbrev rmX10_build : Room := { frames := 4, cells := 0, slots := 0, locals := 89 }
abbrev mX10_build : MD := (RX10, cX10_build, 7, (some .int), rmX10_build)
abbrev rmX10_octet : Room := { frames := 6, cells := 1, slots := 6, locals := 82 }
abbrev mX10_octet : MD := (RX10, cX10_octet, 2, (some .int), rmX10_octet)
abbrev rmX10_message : Room := { frames := 6, cells := 1, slots := 6, locals := 82 }
abbrev mX10_message : MD := (RX10, cX10_message, 3, (some .int), rmX10_message)
abbrev rmX10_part : Room := { frames := 7, cells := 0, slots := 0, locals := 166 }
abbrev mX10_part : MD := (RX10, cX10_part, 3, (some .int), rmX10_part)
abbrev rmX10_cost : Room := { frames := 1, cells := 0, slots := 0, locals := 20 }
abbrev mX10_cost : MD := (RX10, cX10_cost, 1, (some .long), rmX10_cost)
abbrev rmX10_parted : Room := { frames := 1, cells := 0, slots := 0, locals := 22 }
abbrev mX10_parted : MD := (RX10, cX10_parted, 3, (some .int), rmX10_parted)
abbrev rmX10_clashes : Room := { frames := 1, cells := 0, slots := 0, locals := 20 }
abbrev mX10_clashes : MD := (RX10, cX10_clashes, 1, (some .int), rmX10_clashes)
abbrev rmX10_clash : Room := { frames := 6, cells := 1, slots := 6, locals := 91 }
abbrev mX10_clash : MD := (RX10, cX10_clash, 4, (some .int), rmX10_clash)
abbrev rmX10_texts : Room := { frames := 1, cells := 0, slots := 0, locals := 20 }
abbrev mX10_texts : MD := (RX10, cX10_texts, 1, (some .int), rmX10_texts)
abbrev rmX10_text : Room := { frames := 6, cells := 1, slots := 6, locals := 82 }
abbrev mX10_text : MD := (RX10, cX10_text, 4, (some .int), rmX10_text)
abbrev rmX10_letter : Room := { frames := 6, cells := 1, slots := 6, locals := 82 }
abbrev mX10_letter : MD := (RX10, cX10_letter, 3, (some .int), rmX10_letter)
abbrev rmX10_meet : Room := { frames := 4, cells := 0, slots := 0, locals := 107 }
abbrev mX10_meet : MD := (RX10, cX10_meet, 5, (some .long), rmX10_meet)
abbrev rmX10_when : Room := { frames := 1, cells := 0, slots := 0, locals := 20 }
abbrev mX10_when : MD := (RX10, cX10_when, 1, (some .int), rmX10_when)
abbrev rmX10_size : Room := { frames := 4, cells := 0, slots := 0, locals := 89 }
abbrev mX10_size : MD := (RX10, cX10_size, 3, (some .int), rmX10_size)
abbrev rmX10_count : Room := { frames := 1, cells := 0, slots := 0, locals := 20 }
abbrev mX10_count : MD := (RX10, cX10_count, 2, (some .int), rmX10_count)
abbrev rmX10_readFrame : Room := { frames := 6, cells := 0, slots := 0, locals := 137 }
abbrev mX10_readFrame : MD := (RX10, cX10_readFrame, 4, none, rmX10_readFrame)
abbrev rmX10_checkAfter : Room := { frames := 0, cells := 0, slots := 0, locals := 0 }
abbrev mX10_checkAfter : MD := (RX10, cX10_checkAfter, 3, (some .int), rmX10_checkAfter)
abbrev rmX11_thrown : Room := { frames := 0, cells := 0, slots := 0, locals := 0 }
abbrev mX11_thrown : MD := (RX11, cX11_thrown, 1, (some .int), rmX11_thrown)
abbrev rmX11_refuse : Room := { frames := 0, cells := 0, slots := 0, locals := 0 }
abbrev mX11_refuse : MD := (RX11, cX11_refuse, 1, (some .int), rmX11_refuse)
abbrev rmX11_come : Room := { frames := 0, cells := 0, slots := 0, locals := 0 }
abbrev mX11_come : MD := (RX11, cX11_come, 3, none, rmX11_come)
abbrev rmX11_feed : Room := { frames := 1, cells := 0, slots := 0, locals := 22 }
abbrev mX11_feed : MD := (RX11, cX11_feed, 6, (some .int), rmX11_feed)
abbrev rmX11_end : Room := { frames := 0, cells := 0, slots := 0, locals := 0 }
abbrev mX11_end : MD := (RX11, cX11_end, 2, (some .boolean), rmX11_end)
abbrev rmX11_doubled : Room := { frames := 0, cells := 0, slots := 0, locals := 0 }
abbrev mX11_doubled : MD := (RX11, cX11_doubled, 3, (some .int), rmX11_doubled)
abbrev rmX11_read : Room := { frames := 0, cells := 0, slots := 0, locals := 0 }
abbrev mX11_read : MD := (RX11, cX11_read, 5, (some .int), rmX11_read)
abbrev rmX11_lose : Room := { frames := 0, cells := 0, slots := 0, locals := 0 }
abbrev mX11_lose : MD := (RX11, cX11_lose, 2, none, rmX11_lose)
abbrev rmX11_put : Room := { frames := 1, cells := 0, slots := 0, locals := 21 }
abbrev mX11_put : MD := (RX11, cX11_put, 3, none, rmX11_put)
abbrev rmX11_hears : Room := { frames := 4, cells := 0, slots := 0, locals := 99 }
abbrev mX11_hears : MD := (RX11, cX11_hears, 5, (some .boolean), rmX11_hears)
abbrev rmX11_ends : Room := { frames := 3, cells := 0, slots := 0, locals := 75 }
abbrev mX11_ends : MD := (RX11, cX11_ends, 5, (some .boolean), rmX11_ends)
abbrev rmX11_hear : Room := { frames := 5, cells := 0, slots := 0, locals := 123 }
abbrev mX11_hear : MD := (RX11, cX11_hear, 7, (some .int), rmX11_hear)
abbrev rmX11_wait : Room := { frames := 0, cells := 0, slots := 0, locals := 0 }
abbrev mX11_wait : MD := (RX11, cX11_wait, 2, (some .boolean), rmX11_wait)
abbrev rmX11_signed : Room := { frames := 0, cells := 0, slots := 0, locals := 0 }
abbrev mX11_signed : MD := (RX11, cX11_signed, 2, (some .int), rmX11_signed)
abbrev rmX11_areLetters : Room := { frames := 0, cells := 0, slots := 0, locals := 0 }
abbrev mX11_areLetters : MD := (RX11, cX11_areLetters, 3, (some .boolean), rmX11_areLetters)
abbrev rmX11_fields : Room := { frames := 1, cells := 0, slots := 0, locals := 24 }
abbrev mX11_fields : MD := (RX11, cX11_fields, 5, (some .boolean), rmX11_fields)
abbrev rmX11_note : Room := { frames := 2, cells := 0, slots := 0, locals := 48 }
abbrev mX11_note : MD := (RX11, cX11_note, 8, none, rmX11_note)
abbrev rmX11_message : Room := { frames := 1, cells := 0, slots := 0, locals := 20 }
abbrev mX11_message : MD := (RX11, cX11_message, 3, (some .int), rmX11_message)
abbrev rmX11_size : Room := { frames := 0, cells := 0, slots := 0, locals := 0 }
abbrev mX11_size : MD := (RX11, cX11_size, 3, (some .int), rmX11_size)
abbrev rmX11_isOf : Room := { frames := 0, cells := 0, slots := 0, locals := 0 }
abbrev mX11_isOf : MD := (RX11, cX11_isOf, 3, (some .boolean), rmX11_isOf)
abbrev rmX11_join : Room := { frames := 1, cells := 0, slots := 0, locals := 22 }
abbrev mX11_join : MD := (RX11, cX11_join, 6, none, rmX11_join)
abbrev rmX11_texts : Room := { frames := 0, cells := 0, slots := 0, locals := 0 }
abbrev mX11_texts : MD := (RX11, cX11_texts, 1, (some .int), rmX11_texts)
abbrev rmX11_text : Room := { frames := 1, cells := 0, slots := 0, locals := 20 }
abbrev mX11_text : MD := (RX11, cX11_text, 3, (some .int), rmX11_text)
abbrev rmX11_letter : Room := { frames := 1, cells := 0, slots := 0, locals := 20 }
abbrev mX11_letter : MD := (RX11, cX11_letter, 3, (some .int), rmX11_letter)
abbrev rmX11_isClash : Room := { frames := 0, cells := 0, slots := 0, locals := 0 }
abbrev mX11_isClash : MD := (RX11, cX11_isClash, 3, (some .boolean), rmX11_isClash)
abbrev rmX11_clashOf : Room := { frames := 1, cells := 0, slots := 0, locals := 22 }
abbrev mX11_clashOf : MD := (RX11, cX11_clashOf, 5, (some .int), rmX11_clashOf)
abbrev rmX11_clashes : Room := { frames := 1, cells := 0, slots := 0, locals := 22 }
abbrev mX11_clashes : MD := (RX11, cX11_clashes, 4, (some .int), rmX11_clashes)
abbrev rmX11_clash : Room := { frames := 2, cells := 0, slots := 0, locals := 46 }
abbrev mX11_clash : MD := (RX11, cX11_clash, 4, (some .int), rmX11_clash)
abbrev rmX11_say : Room := { frames := 0, cells := 0, slots := 0, locals := 0 }
abbrev mX11_say : MD := (RX11, cX11_say, 4, none, rmX11_say)
abbrev rmX11_level : Room := { frames := 0, cells := 0, slots := 0, locals := 0 }
abbrev mX11_level : MD := (RX11, cX11_level, 2, none, rmX11_level)
abbrev rmX11_mark : Room := { frames := 1, cells := 0, slots := 0, locals := 21 }
abbrev mX11_mark : MD := (RX11, cX11_mark, 2, none, rmX11_mark)
abbrev rmX11_isIn : Room := { frames := 0, cells := 0, slots := 0, locals := 0 }
abbrev mX11_isIn : MD := (RX11, cX11_isIn, 3, (some .boolean), rmX11_isIn)
abbrev rmX11_says : Room := { frames := 1, cells := 0, slots := 0, locals := 23 }
abbrev mX11_says : MD := (RX11, cX11_says, 6, (some .boolean), rmX11_says)
abbrev rmX11_build : Room := { frames := 2, cells := 0, slots := 0, locals := 48 }
abbrev mX11_build : MD := (RX11, cX11_build, 10, (some .int), rmX11_build)
abbrev rmX11_octet : Room := { frames := 1, cells := 0, slots := 0, locals := 20 }
abbrev mX11_octet : MD := (RX11, cX11_octet, 2, (some .int), rmX11_octet)
abbrev rmX11_isAhead : Room := { frames := 0, cells := 0, slots := 0, locals := 0 }
abbrev mX11_isAhead : MD := (RX11, cX11_isAhead, 3, (some .boolean), rmX11_isAhead)
abbrev rmX11_raises : Room := { frames := 1, cells := 0, slots := 0, locals := 25 }
abbrev mX11_raises : MD := (RX11, cX11_raises, 9, (some .boolean), rmX11_raises)
abbrev rmX11_lowers : Room := { frames := 0, cells := 0, slots := 0, locals := 0 }
abbrev mX11_lowers : MD := (RX11, cX11_lowers, 6, (some .boolean), rmX11_lowers)
abbrev rmX11_solve : Room := { frames := 2, cells := 0, slots := 0, locals := 53 }
abbrev mX11_solve : MD := (RX11, cX11_solve, 3, none, rmX11_solve)
abbrev rmX11_part : Room := { frames := 4, cells := 0, slots := 0, locals := 97 }
abbrev mX11_part : MD := (RX11, cX11_part, 12, (some .int), rmX11_part)
abbrev rmX11_isFree : Room := { frames := 0, cells := 0, slots := 0, locals := 0 }
abbrev mX11_isFree : MD := (RX11, cX11_isFree, 4, (some .boolean), rmX11_isFree)
abbrev rmX11_goesOn : Room := { frames := 3, cells := 0, slots := 0, locals := 75 }
abbrev mX11_goesOn : MD := (RX11, cX11_goesOn, 3, (some .boolean), rmX11_goesOn)
abbrev rmX11_cost : Room := { frames := 0, cells := 0, slots := 0, locals := 0 }
abbrev mX11_cost : MD := (RX11, cX11_cost, 1, (some .long), rmX11_cost)
abbrev rmX11_parted : Room := { frames := 0, cells := 0, slots := 0, locals := 0 }
abbrev mX11_parted : MD := (RX11, cX11_parted, 3, (some .int), rmX11_parted)
abbrev rmX11_latest : Room := { frames := 0, cells := 0, slots := 0, locals := 0 }
abbrev mX11_latest : MD := (RX11, cX11_latest, 3, (some .int), rmX11_latest)
abbrev rmX11_gap : Room := { frames := 0, cells := 0, slots := 0, locals := 0 }
abbrev mX11_gap : MD := (RX11, cX11_gap, 8, (some .long), rmX11_gap)
abbrev rmX11_meet : Room := { frames := 1, cells := 0, slots := 0, locals := 27 }
abbrev mX11_meet : MD := (RX11, cX11_meet, 10, (some .long), rmX11_meet)
abbrev rmX11_when : Room := { frames := 0, cells := 0, slots := 0, locals := 0 }
abbrev mX11_when : MD := (RX11, cX11_when, 1, (some .int), rmX11_when)
abbrev rmX11_count : Room := { frames := 0, cells := 0, slots := 0, locals := 0 }
abbrev mX11_count : MD := (RX11, cX11_count, 2, (some .int), rmX11_count)
abbrev rmJ6_compare_7cf53 : Room := { frames := 0, cells := 0, slots := 0, locals := 0 }
abbrev mJ6_compare_7cf53 : MD := (RJ6, cJ6_compare_7cf53, 2, (some .int), rmJ6_compare_7cf53)
abbrev rmJ9_floorDiv_f86c9 : Room := { frames := 0, cells := 0, slots := 0, locals := 0 }
abbrev mJ9_floorDiv_f86c9 : MD := (RJ9, cJ9_floorDiv_f86c9, 6, (some .long), rmJ9_floorDiv_f86c9)
abbrev rmJ9_max_7cf53 : Room := { frames := 0, cells := 0, slots := 0, locals := 0 }
abbrev mJ9_max_7cf53 : MD := (RJ9, cJ9_max_7cf53, 2, (some .int), rmJ9_max_7cf53)
abbrev rmJ9_max_f86c9 : Room := { frames := 0, cells := 0, slots := 0, locals := 0 }
abbrev mJ9_max_f86c9 : MD := (RJ9, cJ9_max_f86c9, 4, (some .long), rmJ9_max_f86c9)
abbrev rmJ9_min_7cf53 : Room := { frames := 0, cells := 0, slots := 0, locals := 0 }
abbrev mJ9_min_7cf53 : MD := (RJ9, cJ9_min_7cf53, 2, (some .int), rmJ9_min_7cf53)
abbrev rmJ9_min_f86c9 : Room := { frames := 0, cells := 0, slots := 0, locals := 0 }
abbrev mJ9_min_f86c9 : MD := (RJ9, cJ9_min_f86c9, 4, (some .long), rmJ9_min_f86c9)
abbrev rmL_octet : Room := { frames := 7, cells := 1, slots := 6, locals := 103 }
abbrev mL_octet : MD := (RL, cL_octet, 4, (some .int), rmL_octet)
abbrev rmL_message : Room := { frames := 7, cells := 1, slots := 6, locals := 104 }
abbrev mL_message : MD := (RL, cL_message, 5, (some .int), rmL_message)
abbrev rmL_clash : Room := { frames := 7, cells := 1, slots := 6, locals := 114 }
abbrev mL_clash : MD := (RL, cL_clash, 5, (some .int), rmL_clash)
abbrev rmL_text : Room := { frames := 7, cells := 1, slots := 6, locals := 105 }
abbrev mL_text : MD := (RL, cL_text, 5, (some .int), rmL_text)
abbrev rmL_letter : Room := { frames := 7, cells := 1, slots := 6, locals := 104 }
abbrev mL_letter : MD := (RL, cL_letter, 5, (some .int), rmL_letter)
