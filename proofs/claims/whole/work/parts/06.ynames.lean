abbrev b_Mods_forget : ByteArray := prog_4_method_2_code
abbrev y_Mods_forget : MethodName := ⟨"PlanClauses$Models", "forget", "()V"⟩
theorem Y_Mods_forget : q_Y y_Mods_forget b_Mods_forget 1 none 0 := ⟨k_276, k_274, k_275, k_4, by decide +kernel, by decide +kernel, by decide +kernel⟩
abbrev b_PC_variables : ByteArray := prog_1_method_2_code
abbrev y_PC_variables : MethodName := ⟨"PlanClauses", "variables", "(I)I"⟩
theorem Y_PC_variables : q_Y y_PC_variables b_PC_variables 3 (some .int) 1 := ⟨k_272, k_270, k_271, k_1, by decide +kernel, by decide +kernel, by decide +kernel⟩
abbrev b_PC_isLiteralOrZero : ByteArray := prog_1_method_14_code
abbrev y_PC_isLiteralOrZero : MethodName := ⟨"PlanClauses", "isLiteralOrZero", "(I)Z"⟩
theorem Y_PC_isLiteralOrZero : q_Y y_PC_isLiteralOrZero b_PC_isLiteralOrZero 2 (some .boolean) 1 := ⟨k_284, k_283, q_mem (List.mem_of_getElem? (i := 0) rfl) rfl, k_1, by decide +kernel, by decide +kernel, by decide +kernel⟩
abbrev b_Math_abs : ByteArray := prog_12_method_59_code
abbrev y_Math_abs : MethodName := ⟨"java/lang/Math", "abs", "(I)I"⟩
theorem Y_Math_abs : q_YS y_Math_abs b_Math_abs 1 (some .int) 1 := ⟨k_287, k_286, k_10, by decide +kernel, by decide +kernel, by decide +kernel⟩
abbrev b_Form_draftHas : ByteArray := prog_3_method_2_code
abbrev y_Form_draftHas : MethodName := ⟨"PlanClauses$Formula", "draftHas", "(I)Z"⟩
theorem Y_Form_draftHas : q_Y y_Form_draftHas b_Form_draftHas 3 (some .boolean) 1 := ⟨k_291, k_289, k_290, k_2, by decide +kernel, by decide +kernel, by decide +kernel⟩
abbrev b_Form_addToDraft : ByteArray := prog_3_method_3_code
abbrev y_Form_addToDraft : MethodName := ⟨"PlanClauses$Formula", "addToDraft", "(I)I"⟩
theorem Y_Form_addToDraft : q_Y y_Form_addToDraft b_Form_addToDraft 2 (some .int) 1 := ⟨k_296, k_294, k_295, k_2, by decide +kernel, by decide +kernel, by decide +kernel⟩
abbrev b_PC_literal : ByteArray := prog_1_method_3_code
abbrev y_PC_literal : MethodName := ⟨"PlanClauses", "literal", "(I)I"⟩
theorem Y_PC_literal : q_Y y_PC_literal b_PC_literal 2 (some .int) 1 := ⟨k_280, k_278, k_279, k_1, by decide +kernel, by decide +kernel, by decide +kernel⟩
abbrev b_Rows_add : ByteArray := prog_5_method_3_code
abbrev y_Rows_add : MethodName := ⟨"PlanClauses$Rows", "add", "(II)V"⟩
theorem Y_Rows_add : q_Y y_Rows_add b_Rows_add 5 none 2 := ⟨k_308, k_306, k_307, k_3, by decide +kernel, by decide +kernel, by decide +kernel⟩
abbrev b_Form_addDraft : ByteArray := prog_3_method_4_code
abbrev y_Form_addDraft : MethodName := ⟨"PlanClauses$Formula", "addDraft", "()V"⟩
theorem Y_Form_addDraft : q_Y y_Form_addDraft b_Form_addDraft 6 none 0 := ⟨k_304, k_302, k_303, k_2, by decide +kernel, by decide +kernel, by decide +kernel⟩
abbrev b_PC_clause : ByteArray := prog_1_method_4_code
abbrev y_PC_clause : MethodName := ⟨"PlanClauses", "clause", "()I"⟩
theorem Y_PC_clause : q_Y y_PC_clause b_PC_clause 1 (some .int) 0 := ⟨k_300, k_298, k_299, k_1, by decide +kernel, by decide +kernel, by decide +kernel⟩
abbrev b_PC_drop : ByteArray := prog_1_method_5_code
abbrev y_PC_drop : MethodName := ⟨"PlanClauses", "drop", "()I"⟩
theorem Y_PC_drop : q_Y y_PC_drop b_PC_drop 1 (some .int) 0 := ⟨k_312, k_310, k_311, k_1, by decide +kernel, by decide +kernel, by decide +kernel⟩
abbrev b_Form_literalOf : ByteArray := prog_3_method_5_code
abbrev y_Form_literalOf : MethodName := ⟨"PlanClauses$Formula", "literalOf", "(II)I"⟩
theorem Y_Form_literalOf : q_Y y_Form_literalOf b_Form_literalOf 3 (some .int) 2 := ⟨k_320, k_318, k_319, k_2, by decide +kernel, by decide +kernel, by decide +kernel⟩
abbrev b_PC_at : ByteArray := prog_1_method_6_code
abbrev y_PC_at : MethodName := ⟨"PlanClauses", "at", "(II)I"⟩
theorem Y_PC_at : q_Y y_PC_at b_PC_at 3 (some .int) 2 := ⟨k_316, k_314, k_315, k_1, by decide +kernel, by decide +kernel, by decide +kernel⟩
abbrev b_Math_min : ByteArray := prog_12_method_69_code
abbrev y_Math_min : MethodName := ⟨"java/lang/Math", "min", "(II)I"⟩
theorem Y_Math_min : q_YS y_Math_min b_Math_min 2 (some .int) 2 := ⟨k_339, k_338, k_10, by decide +kernel, by decide +kernel, by decide +kernel⟩
abbrev b_Math_max : ByteArray := prog_12_method_65_code
abbrev y_Math_max : MethodName := ⟨"java/lang/Math", "max", "(II)I"⟩
theorem Y_Math_max : q_YS y_Math_max b_Math_max 2 (some .int) 2 := ⟨k_342, k_341, k_10, by decide +kernel, by decide +kernel, by decide +kernel⟩
abbrev b_Rows_clear : ByteArray := prog_5_method_2_code
abbrev y_Rows_clear : MethodName := ⟨"PlanClauses$Rows", "clear", "()V"⟩
theorem Y_Rows_clear : q_Y y_Rows_clear b_Rows_clear 1 none 0 := ⟨k_346, k_344, k_345, k_3, by decide +kernel, by decide +kernel, by decide +kernel⟩
abbrev b_Trail_clear : ByteArray := prog_8_method_2_code
abbrev y_Trail_clear : MethodName := ⟨"PlanClauses$Trail", "clear", "()V"⟩
theorem Y_Trail_clear : q_Y y_Trail_clear b_Trail_clear 1 none 0 := ⟨k_350, k_348, k_349, k_6, by decide +kernel, by decide +kernel, by decide +kernel⟩
abbrev b_Sear_begin : ByteArray := prog_6_method_2_code
abbrev y_Sear_begin : MethodName := ⟨"PlanClauses$Search", "begin", "(I)V"⟩
theorem Y_Sear_begin : q_Y y_Sear_begin b_Sear_begin 2 none 1 := ⟨k_336, k_334, k_335, k_5, by decide +kernel, by decide +kernel, by decide +kernel⟩
abbrev b_Mods_begin : ByteArray := prog_4_method_3_code
abbrev y_Mods_begin : MethodName := ⟨"PlanClauses$Models", "begin", "()V"⟩
theorem Y_Mods_begin : q_Y y_Mods_begin b_Mods_begin 1 none 0 := ⟨k_332, k_331, q_mem (List.mem_of_getElem? (i := 1) rfl) rfl, k_4, by decide +kernel, by decide +kernel, by decide +kernel⟩
abbrev b_Int_bitCount : ByteArray := prog_11_method_49_code
abbrev y_Int_bitCount : MethodName := ⟨"java/lang/Integer", "bitCount", "(I)I"⟩
theorem Y_Int_bitCount : q_YS y_Int_bitCount b_Int_bitCount 1 (some .int) 1 := ⟨k_362, k_361, k_11, by decide +kernel, by decide +kernel, by decide +kernel⟩
abbrev b_Trail_back : ByteArray := prog_8_method_5_code
abbrev y_Trail_back : MethodName := ⟨"PlanClauses$Trail", "back", "(I)V"⟩
theorem Y_Trail_back : q_Y y_Trail_back b_Trail_back 3 none 1 := ⟨k_359, k_357, k_358, k_6, by decide +kernel, by decide +kernel, by decide +kernel⟩
abbrev b_Sear_areSeveral : ByteArray := prog_6_method_10_code
abbrev y_Sear_areSeveral : MethodName := ⟨"PlanClauses$Search", "areSeveral", "(I)Z"⟩
theorem Y_Sear_areSeveral : q_YS y_Sear_areSeveral b_Sear_areSeveral 1 (some .boolean) 1 := ⟨k_377, k_376, k_5, by decide +kernel, by decide +kernel, by decide +kernel⟩
abbrev b_Trail_conclude : ByteArray := prog_8_method_3_code
abbrev y_Trail_conclude : MethodName := ⟨"PlanClauses$Trail", "conclude", "(III)V"⟩
theorem Y_Trail_conclude : q_Y y_Trail_conclude b_Trail_conclude 4 none 3 := ⟨k_381, k_379, k_380, k_6, by decide +kernel, by decide +kernel, by decide +kernel⟩
abbrev b_Sear_holds : ByteArray := prog_6_method_6_code
abbrev y_Sear_holds : MethodName := ⟨"PlanClauses$Search", "holds", "(LPlanClauses$Rows;I)Z"⟩
theorem Y_Sear_holds : q_Y y_Sear_holds b_Sear_holds 7 (some .boolean) 2 := ⟨k_374, k_373, q_mem (List.mem_of_getElem? (i := 3) rfl) rfl, k_5, by decide +kernel, by decide +kernel, by decide +kernel⟩
abbrev b_Sear_propagate : ByteArray := prog_6_method_5_code
abbrev y_Sear_propagate : MethodName := ⟨"PlanClauses$Search", "propagate", "()Z"⟩
theorem Y_Sear_propagate : q_Y y_Sear_propagate b_Sear_propagate 3 (some .boolean) 0 := ⟨k_370, k_369, q_mem (List.mem_of_getElem? (i := 2) rfl) rfl, k_5, by decide +kernel, by decide +kernel, by decide +kernel⟩
abbrev b_Trail_revise : ByteArray := prog_8_method_6_code
abbrev y_Trail_revise : MethodName := ⟨"PlanClauses$Trail", "revise", "(III)V"⟩
theorem Y_Trail_revise : q_Y y_Trail_revise b_Trail_revise 6 none 3 := ⟨k_390, k_388, k_389, k_6, by decide +kernel, by decide +kernel, by decide +kernel⟩
abbrev b_Sear_learn : ByteArray := prog_6_method_7_code
abbrev y_Sear_learn : MethodName := ⟨"PlanClauses$Search", "learn", "()V"⟩
theorem Y_Sear_learn : q_Y y_Sear_learn b_Sear_learn 6 none 0 := ⟨k_385, k_384, q_mem (List.mem_of_getElem? (i := 4) rfl) rfl, k_5, by decide +kernel, by decide +kernel, by decide +kernel⟩
abbrev b_Trail_suppose : ByteArray := prog_8_method_4_code
abbrev y_Trail_suppose : MethodName := ⟨"PlanClauses$Trail", "suppose", "(II)V"⟩
theorem Y_Trail_suppose : q_Y y_Trail_suppose b_Trail_suppose 6 none 2 := ⟨k_396, k_394, k_395, k_6, by decide +kernel, by decide +kernel, by decide +kernel⟩
abbrev b_Sear_weigh : ByteArray := prog_6_method_9_code
abbrev y_Sear_weigh : MethodName := ⟨"PlanClauses$Search", "weigh", "(II)V"⟩
theorem Y_Sear_weigh : q_Y y_Sear_weigh b_Sear_weigh 6 none 2 := ⟨k_404, k_403, q_mem (List.mem_of_getElem? (i := 6) rfl) rfl, k_5, by decide +kernel, by decide +kernel, by decide +kernel⟩
abbrev b_Sear_heaviest : ByteArray := prog_6_method_8_code
abbrev y_Sear_heaviest : MethodName := ⟨"PlanClauses$Search", "heaviest", "()I"⟩
theorem Y_Sear_heaviest : q_Y y_Sear_heaviest b_Sear_heaviest 4 (some .int) 0 := ⟨k_400, k_399, q_mem (List.mem_of_getElem? (i := 5) rfl) rfl, k_5, by decide +kernel, by decide +kernel, by decide +kernel⟩
abbrev b_Sear_find : ByteArray := prog_6_method_4_code
abbrev y_Sear_find : MethodName := ⟨"PlanClauses$Search", "find", "(II)I"⟩
theorem Y_Sear_find : q_Y y_Sear_find b_Sear_find 8 (some .int) 2 := ⟨k_355, k_353, k_354, k_5, by decide +kernel, by decide +kernel, by decide +kernel⟩
abbrev b_Mods_see : ByteArray := prog_4_method_4_code
abbrev y_Mods_see : MethodName := ⟨"PlanClauses$Models", "see", "(I)V"⟩
theorem Y_Mods_see : q_Y y_Mods_see b_Mods_see 2 none 1 := ⟨k_411, k_410, q_mem (List.mem_of_getElem? (i := 7) rfl) rfl, k_4, by decide +kernel, by decide +kernel, by decide +kernel⟩
abbrev b_Mods_allow : ByteArray := prog_4_method_10_code
abbrev y_Mods_allow : MethodName := ⟨"PlanClauses$Models", "allow", "(I)Z"⟩
theorem Y_Mods_allow : q_Y y_Mods_allow b_Mods_allow 6 (some .boolean) 1 := ⟨k_328, k_326, k_327, k_4, by decide +kernel, by decide +kernel, by decide +kernel⟩
abbrev b_PC_sat : ByteArray := prog_1_method_7_code
abbrev y_PC_sat : MethodName := ⟨"PlanClauses", "sat", "(I)I"⟩
theorem Y_PC_sat : q_Y y_PC_sat b_PC_sat 2 (some .int) 1 := ⟨k_324, k_322, k_323, k_1, by decide +kernel, by decide +kernel, by decide +kernel⟩
abbrev b_PC_isVariable : ByteArray := prog_1_method_13_code
abbrev y_PC_isVariable : MethodName := ⟨"PlanClauses", "isVariable", "(I)Z"⟩
theorem Y_PC_isVariable : q_Y y_PC_isVariable b_PC_isVariable 2 (some .boolean) 1 := ⟨k_419, k_418, q_mem (List.mem_of_getElem? (i := 8) rfl) rfl, k_1, by decide +kernel, by decide +kernel, by decide +kernel⟩
abbrev b_Mods_least : ByteArray := prog_4_method_7_code
abbrev y_Mods_least : MethodName := ⟨"PlanClauses$Models", "least", "(II)I"⟩
theorem Y_Mods_least : q_Y y_Mods_least b_Mods_least 8 (some .int) 2 := ⟨k_438, k_437, q_mem (List.mem_of_getElem? (i := 10) rfl) rfl, k_4, by decide +kernel, by decide +kernel, by decide +kernel⟩
abbrev b_Int_numberOfTrailingZeros : ByteArray := prog_11_method_48_code
abbrev y_Int_numberOfTrailingZeros : MethodName := ⟨"java/lang/Integer", "numberOfTrailingZeros", "(I)I"⟩
theorem Y_Int_numberOfTrailingZeros : q_YS y_Int_numberOfTrailingZeros b_Int_numberOfTrailingZeros 2 (some .int) 1 := ⟨k_433, k_432, k_11, by decide +kernel, by decide +kernel, by decide +kernel⟩
abbrev b_Mods_sameAhead : ByteArray := prog_4_method_8_code
abbrev y_Mods_sameAhead : MethodName := ⟨"PlanClauses$Models", "sameAhead", "(II)I"⟩
theorem Y_Mods_sameAhead : q_YS y_Mods_sameAhead b_Mods_sameAhead 2 (some .int) 2 := ⟨k_430, k_429, k_4, by decide +kernel, by decide +kernel, by decide +kernel⟩
abbrev b_Mods_greater : ByteArray := prog_4_method_6_code
abbrev y_Mods_greater : MethodName := ⟨"PlanClauses$Models", "greater", "(I)I"⟩
theorem Y_Mods_greater : q_Y y_Mods_greater b_Mods_greater 6 (some .int) 1 := ⟨k_427, k_426, q_mem (List.mem_of_getElem? (i := 9) rfl) rfl, k_4, by decide +kernel, by decide +kernel, by decide +kernel⟩
abbrev b_Mods_reach : ByteArray := prog_4_method_5_code
abbrev y_Mods_reach : MethodName := ⟨"PlanClauses$Models", "reach", "(I)Z"⟩
theorem Y_Mods_reach : q_Y y_Mods_reach b_Mods_reach 4 (some .boolean) 1 := ⟨k_423, k_421, k_422, k_4, by decide +kernel, by decide +kernel, by decide +kernel⟩
abbrev b_Mods_truth : ByteArray := prog_4_method_9_code
abbrev y_Mods_truth : MethodName := ⟨"PlanClauses$Models", "truth", "(II)I"⟩
theorem Y_Mods_truth : q_Y y_Mods_truth b_Mods_truth 3 (some .int) 2 := ⟨k_442, k_440, k_441, k_4, by decide +kernel, by decide +kernel, by decide +kernel⟩
abbrev b_PC_value : ByteArray := prog_1_method_8_code
abbrev y_PC_value : MethodName := ⟨"PlanClauses", "value", "(I)I"⟩
theorem Y_PC_value : q_Y y_PC_value b_PC_value 2 (some .int) 1 := ⟨k_415, k_413, k_414, k_1, by decide +kernel, by decide +kernel, by decide +kernel⟩
abbrev b_PC_model : ByteArray := prog_1_method_9_code
abbrev y_PC_model : MethodName := ⟨"PlanClauses", "model", "(II)I"⟩
theorem Y_PC_model : q_Y y_PC_model b_PC_model 3 (some .int) 2 := ⟨k_446, k_444, k_445, k_1, by decide +kernel, by decide +kernel, by decide +kernel⟩
abbrev b_PC_models : ByteArray := prog_1_method_10_code
abbrev y_PC_models : MethodName := ⟨"PlanClauses", "models", "()I"⟩
theorem Y_PC_models : q_Y y_PC_models b_PC_models 1 (some .int) 0 := ⟨k_450, k_448, k_449, k_1, by decide +kernel, by decide +kernel, by decide +kernel⟩
abbrev b_PC_forced : ByteArray := prog_1_method_11_code
abbrev y_PC_forced : MethodName := ⟨"PlanClauses", "forced", "(I)I"⟩
theorem Y_PC_forced : q_Y y_PC_forced b_PC_forced 3 (some .int) 1 := ⟨k_454, k_452, k_453, k_1, by decide +kernel, by decide +kernel, by decide +kernel⟩
abbrev b_Sear_end : ByteArray := prog_6_method_3_code
abbrev y_Sear_end : MethodName := ⟨"PlanClauses$Search", "end", "()V"⟩
theorem Y_Sear_end : q_Y y_Sear_end b_Sear_end 1 none 0 := ⟨k_466, k_464, k_465, k_5, by decide +kernel, by decide +kernel, by decide +kernel⟩
abbrev b_Mods_firstWithout : ByteArray := prog_4_method_11_code
abbrev y_Mods_firstWithout : MethodName := ⟨"PlanClauses$Models", "firstWithout", "()I"⟩
theorem Y_Mods_firstWithout : q_Y y_Mods_firstWithout b_Mods_firstWithout 5 (some .int) 0 := ⟨k_462, k_460, k_461, k_4, by decide +kernel, by decide +kernel, by decide +kernel⟩
abbrev b_PC_culprit : ByteArray := prog_1_method_12_code
abbrev y_PC_culprit : MethodName := ⟨"PlanClauses", "culprit", "()I"⟩
theorem Y_PC_culprit : q_Y y_PC_culprit b_PC_culprit 1 (some .int) 0 := ⟨k_458, k_456, k_457, k_1, by decide +kernel, by decide +kernel, by decide +kernel⟩
abbrev b_Task_restart : ByteArray := prog_7_method_2_code
abbrev y_Task_restart : MethodName := ⟨"PlanClauses$Task", "restart", "(I)V"⟩
theorem Y_Task_restart : q_Y y_Task_restart b_Task_restart 2 none 1 := ⟨k_474, k_472, k_473, k_7, by decide +kernel, by decide +kernel, by decide +kernel⟩
abbrev b_Code_forget : ByteArray := prog_2_method_2_code
abbrev y_Code_forget : MethodName := ⟨"PlanClauses$Code", "forget", "()V"⟩
theorem Y_Code_forget : q_Y y_Code_forget b_Code_forget 1 none 0 := ⟨k_478, k_476, k_477, k_8, by decide +kernel, by decide +kernel, by decide +kernel⟩
abbrev b_PC_facts : ByteArray := prog_1_method_15_code
abbrev y_PC_facts : MethodName := ⟨"PlanClauses", "facts", "(I)I"⟩
theorem Y_PC_facts : q_Y y_PC_facts b_PC_facts 3 (some .int) 1 := ⟨k_470, k_468, k_469, k_1, by decide +kernel, by decide +kernel, by decide +kernel⟩
abbrev b_PC_areFacts : ByteArray := prog_1_method_26_code
abbrev y_PC_areFacts : MethodName := ⟨"PlanClauses", "areFacts", "(I)Z"⟩
theorem Y_PC_areFacts : q_Y y_PC_areFacts b_PC_areFacts 2 (some .boolean) 1 := ⟨k_486, k_485, q_mem (List.mem_of_getElem? (i := 11) rfl) rfl, k_1, by decide +kernel, by decide +kernel, by decide +kernel⟩
abbrev b_Task_addAction : ByteArray := prog_7_method_3_code
abbrev y_Task_addAction : MethodName := ⟨"PlanClauses$Task", "addAction", "(III)I"⟩
theorem Y_Task_addAction : q_Y y_Task_addAction b_Task_addAction 5 (some .int) 3 := ⟨k_490, k_488, k_489, k_7, by decide +kernel, by decide +kernel, by decide +kernel⟩
abbrev b_PC_action : ByteArray := prog_1_method_16_code
abbrev y_PC_action : MethodName := ⟨"PlanClauses", "action", "(III)I"⟩
theorem Y_PC_action : q_Y y_PC_action b_PC_action 4 (some .int) 3 := ⟨k_482, k_480, k_481, k_1, by decide +kernel, by decide +kernel, by decide +kernel⟩
abbrev b_Task_begin : ByteArray := prog_7_method_4_code
abbrev y_Task_begin : MethodName := ⟨"PlanClauses$Task", "begin", "(I)I"⟩
theorem Y_Task_begin : q_Y y_Task_begin b_Task_begin 3 (some .int) 1 := ⟨k_498, k_496, k_497, k_7, by decide +kernel, by decide +kernel, by decide +kernel⟩
abbrev b_Task_aim : ByteArray := prog_7_method_5_code
abbrev y_Task_aim : MethodName := ⟨"PlanClauses$Task", "aim", "(I)I"⟩
theorem Y_Task_aim : q_Y y_Task_aim b_Task_aim 3 (some .int) 1 := ⟨k_502, k_500, k_501, k_7, by decide +kernel, by decide +kernel, by decide +kernel⟩
abbrev b_PC_set : ByteArray := prog_1_method_17_code
abbrev y_PC_set : MethodName := ⟨"PlanClauses", "set", "(II)I"⟩
theorem Y_PC_set : q_Y y_PC_set b_PC_set 3 (some .int) 2 := ⟨k_494, k_492, k_493, k_1, by decide +kernel, by decide +kernel, by decide +kernel⟩
abbrev b_PC_isLength : ByteArray := prog_1_method_27_code
abbrev y_PC_isLength : MethodName := ⟨"PlanClauses", "isLength", "(I)Z"⟩
theorem Y_PC_isLength : q_YS y_PC_isLength b_PC_isLength 1 (some .boolean) 1 := ⟨k_509, k_508, k_1, by decide +kernel, by decide +kernel, by decide +kernel⟩
abbrev b_Task_waysCounted : ByteArray := prog_7_method_8_code
abbrev y_Task_waysCounted : MethodName := ⟨"PlanClauses$Task", "waysCounted", "(II)I"⟩
theorem Y_Task_waysCounted : q_Y y_Task_waysCounted b_Task_waysCounted 3 (some .int) 2 := ⟨k_521, k_520, q_mem (List.mem_of_getElem? (i := 13) rfl) rfl, k_7, by decide +kernel, by decide +kernel, by decide +kernel⟩
abbrev b_Task_after : ByteArray := prog_7_method_6_code
abbrev y_Task_after : MethodName := ⟨"PlanClauses$Task", "after", "(II)I"⟩
theorem Y_Task_after : q_Y y_Task_after b_Task_after 3 (some .int) 2 := ⟨k_525, k_523, k_524, k_7, by decide +kernel, by decide +kernel, by decide +kernel⟩
abbrev b_Task_countWays : ByteArray := prog_7_method_9_code
abbrev y_Task_countWays : MethodName := ⟨"PlanClauses$Task", "countWays", "()V"⟩
theorem Y_Task_countWays : q_Y y_Task_countWays b_Task_countWays 6 none 0 := ⟨k_517, k_516, q_mem (List.mem_of_getElem? (i := 12) rfl) rfl, k_7, by decide +kernel, by decide +kernel, by decide +kernel⟩
abbrev b_Task_ways : ByteArray := prog_7_method_7_code
abbrev y_Task_ways : MethodName := ⟨"PlanClauses$Task", "ways", "(II)I"⟩
theorem Y_Task_ways : q_Y y_Task_ways b_Task_ways 3 (some .int) 2 := ⟨k_513, k_511, k_512, k_7, by decide +kernel, by decide +kernel, by decide +kernel⟩
abbrev b_PC_plan : ByteArray := prog_1_method_18_code
abbrev y_PC_plan : MethodName := ⟨"PlanClauses", "plan", "(I)I"⟩
theorem Y_PC_plan : q_Y y_PC_plan b_PC_plan 2 (some .int) 1 := ⟨k_506, k_504, k_505, k_1, by decide +kernel, by decide +kernel, by decide +kernel⟩
abbrev b_Task_choice : ByteArray := prog_7_method_10_code
abbrev y_Task_choice : MethodName := ⟨"PlanClauses$Task", "choice", "(II)I"⟩
theorem Y_Task_choice : q_Y y_Task_choice b_Task_choice 4 (some .int) 2 := ⟨k_538, k_536, k_537, k_7, by decide +kernel, by decide +kernel, by decide +kernel⟩
abbrev b_Task_stateAhead : ByteArray := prog_7_method_11_code
abbrev y_Task_stateAhead : MethodName := ⟨"PlanClauses$Task", "stateAhead", "(II)I"⟩
theorem Y_Task_stateAhead : q_Y y_Task_stateAhead b_Task_stateAhead 6 (some .int) 2 := ⟨k_534, k_532, k_533, k_7, by decide +kernel, by decide +kernel, by decide +kernel⟩
abbrev b_PC_step : ByteArray := prog_1_method_19_code
abbrev y_PC_step : MethodName := ⟨"PlanClauses", "step", "(II)I"⟩
theorem Y_PC_step : q_Y y_PC_step b_PC_step 3 (some .int) 2 := ⟨k_530, k_528, k_529, k_1, by decide +kernel, by decide +kernel, by decide +kernel⟩
abbrev b_PC_state : ByteArray := prog_1_method_20_code
abbrev y_PC_state : MethodName := ⟨"PlanClauses", "state", "(II)I"⟩
theorem Y_PC_state : q_Y y_PC_state b_PC_state 3 (some .int) 2 := ⟨k_544, k_542, k_543, k_1, by decide +kernel, by decide +kernel, by decide +kernel⟩
abbrev b_PC_shortest : ByteArray := prog_1_method_21_code
abbrev y_PC_shortest : MethodName := ⟨"PlanClauses", "shortest", "()I"⟩
theorem Y_PC_shortest : q_Y y_PC_shortest b_PC_shortest 2 (some .int) 0 := ⟨k_548, k_546, k_547, k_1, by decide +kernel, by decide +kernel, by decide +kernel⟩
abbrev b_PC_plans : ByteArray := prog_1_method_22_code
abbrev y_PC_plans : MethodName := ⟨"PlanClauses", "plans", "(I)I"⟩
theorem Y_PC_plans : q_Y y_PC_plans b_PC_plans 2 (some .int) 1 := ⟨k_552, k_550, k_551, k_1, by decide +kernel, by decide +kernel, by decide +kernel⟩
abbrev b_Code_has : ByteArray := prog_2_method_15_code
abbrev y_Code_has : MethodName := ⟨"PlanClauses$Code", "has", "(II)Z"⟩
theorem Y_Code_has : q_YS y_Code_has b_Code_has 2 (some .boolean) 2 := ⟨k_567, k_566, k_8, by decide +kernel, by decide +kernel, by decide +kernel⟩
abbrev b_Code_fact : ByteArray := prog_2_method_5_code
abbrev y_Code_fact : MethodName := ⟨"PlanClauses$Code", "fact", "(II)I"⟩
theorem Y_Code_fact : q_Y y_Code_fact b_Code_fact 3 (some .int) 2 := ⟨k_571, k_570, q_mem (List.mem_of_getElem? (i := 15) rfl) rfl, k_8, by decide +kernel, by decide +kernel, by decide +kernel⟩
abbrev b_Code_put : ByteArray := prog_2_method_7_code
abbrev y_Code_put : MethodName := ⟨"PlanClauses$Code", "put", "(I)V"⟩
theorem Y_Code_put : q_Y y_Code_put b_Code_put 2 none 1 := ⟨k_575, k_574, q_mem (List.mem_of_getElem? (i := 16) rfl) rfl, k_8, by decide +kernel, by decide +kernel, by decide +kernel⟩
abbrev b_Code_close : ByteArray := prog_2_method_8_code
abbrev y_Code_close : MethodName := ⟨"PlanClauses$Code", "close", "()V"⟩
theorem Y_Code_close : q_Y y_Code_close b_Code_close 1 none 0 := ⟨k_579, k_578, q_mem (List.mem_of_getElem? (i := 17) rfl) rfl, k_8, by decide +kernel, by decide +kernel, by decide +kernel⟩
abbrev b_Code_tellEnds : ByteArray := prog_2_method_9_code
abbrev y_Code_tellEnds : MethodName := ⟨"PlanClauses$Code", "tellEnds", "()V"⟩
theorem Y_Code_tellEnds : q_Y y_Code_tellEnds b_Code_tellEnds 2 none 0 := ⟨k_564, k_563, q_mem (List.mem_of_getElem? (i := 14) rfl) rfl, k_8, by decide +kernel, by decide +kernel, by decide +kernel⟩
abbrev b_Code_done : ByteArray := prog_2_method_6_code
abbrev y_Code_done : MethodName := ⟨"PlanClauses$Code", "done", "(II)I"⟩
theorem Y_Code_done : q_Y y_Code_done b_Code_done 3 (some .int) 2 := ⟨k_587, k_586, q_mem (List.mem_of_getElem? (i := 19) rfl) rfl, k_8, by decide +kernel, by decide +kernel, by decide +kernel⟩
abbrev b_Code_tellAsked : ByteArray := prog_2_method_10_code
abbrev y_Code_tellAsked : MethodName := ⟨"PlanClauses$Code", "tellAsked", "(I)V"⟩
theorem Y_Code_tellAsked : q_Y y_Code_tellAsked b_Code_tellAsked 4 none 1 := ⟨k_583, k_582, q_mem (List.mem_of_getElem? (i := 18) rfl) rfl, k_8, by decide +kernel, by decide +kernel, by decide +kernel⟩
abbrev b_Code_tellChanged : ByteArray := prog_2_method_11_code
abbrev y_Code_tellChanged : MethodName := ⟨"PlanClauses$Code", "tellChanged", "(I)V"⟩
theorem Y_Code_tellChanged : q_Y y_Code_tellChanged b_Code_tellChanged 5 none 1 := ⟨k_591, k_590, q_mem (List.mem_of_getElem? (i := 20) rfl) rfl, k_8, by decide +kernel, by decide +kernel, by decide +kernel⟩
abbrev b_Code_putActionsWith : ByteArray := prog_2_method_13_code
abbrev y_Code_putActionsWith : MethodName := ⟨"PlanClauses$Code", "putActionsWith", "([III)V"⟩
theorem Y_Code_putActionsWith : q_Y y_Code_putActionsWith b_Code_putActionsWith 5 none 3 := ⟨k_599, k_598, q_mem (List.mem_of_getElem? (i := 22) rfl) rfl, k_8, by decide +kernel, by decide +kernel, by decide +kernel⟩
abbrev b_Code_tellKept : ByteArray := prog_2_method_12_code
abbrev y_Code_tellKept : MethodName := ⟨"PlanClauses$Code", "tellKept", "(I)V"⟩
theorem Y_Code_tellKept : q_Y y_Code_tellKept b_Code_tellKept 3 none 1 := ⟨k_595, k_594, q_mem (List.mem_of_getElem? (i := 21) rfl) rfl, k_8, by decide +kernel, by decide +kernel, by decide +kernel⟩
abbrev b_Code_tellPairs : ByteArray := prog_2_method_14_code
abbrev y_Code_tellPairs : MethodName := ⟨"PlanClauses$Code", "tellPairs", "(I)V"⟩
theorem Y_Code_tellPairs : q_Y y_Code_tellPairs b_Code_tellPairs 4 none 1 := ⟨k_603, k_602, q_mem (List.mem_of_getElem? (i := 23) rfl) rfl, k_8, by decide +kernel, by decide +kernel, by decide +kernel⟩
abbrev b_Code_tell : ByteArray := prog_2_method_3_code
abbrev y_Code_tell : MethodName := ⟨"PlanClauses$Code", "tell", "(I)V"⟩
theorem Y_Code_tell : q_Y y_Code_tell b_Code_tell 3 none 1 := ⟨k_560, k_558, k_559, k_8, by decide +kernel, by decide +kernel, by decide +kernel⟩
abbrev b_PC_code : ByteArray := prog_1_method_23_code
abbrev y_PC_code : MethodName := ⟨"PlanClauses", "code", "(II)I"⟩
theorem Y_PC_code : q_Y y_PC_code b_PC_code 3 (some .int) 2 := ⟨k_556, k_554, k_555, k_1, by decide +kernel, by decide +kernel, by decide +kernel⟩
abbrev b_Code_literalOf : ByteArray := prog_2_method_4_code
abbrev y_Code_literalOf : MethodName := ⟨"PlanClauses$Code", "literalOf", "(II)I"⟩
theorem Y_Code_literalOf : q_Y y_Code_literalOf b_Code_literalOf 3 (some .int) 2 := ⟨k_611, k_609, k_610, k_8, by decide +kernel, by decide +kernel, by decide +kernel⟩
abbrev b_PC_coded : ByteArray := prog_1_method_24_code
abbrev y_PC_coded : MethodName := ⟨"PlanClauses", "coded", "(III)I"⟩
theorem Y_PC_coded : q_Y y_PC_coded b_PC_coded 4 (some .int) 3 := ⟨k_607, k_605, k_606, k_1, by decide +kernel, by decide +kernel, by decide +kernel⟩
abbrev b_PC_count : ByteArray := prog_1_method_25_code
abbrev y_PC_count : MethodName := ⟨"PlanClauses", "count", "(I)I"⟩
theorem Y_PC_count : q_Y y_PC_count b_PC_count 2 (some .int) 1 := ⟨k_615, k_613, k_614, k_1, by decide +kernel, by decide +kernel, by decide +kernel⟩
abbrev b_Ref_in : ByteArray := prog_10_method_3_code
abbrev y_Ref_in : MethodName := ⟨"PlanClausesModel", "in", "(III)Z"⟩
theorem Y_Ref_in : q_YS y_Ref_in b_Ref_in 3 (some .boolean) 3 := ⟨k_737, k_736, k_9, by decide +kernel, by decide +kernel, by decide +kernel⟩
abbrev b_Ref_variables : ByteArray := prog_10_method_4_code
abbrev y_Ref_variables : MethodName := ⟨"PlanClausesModel", "variables", "(I)I"⟩
theorem Y_Ref_variables : q_Y y_Ref_variables b_Ref_variables 3 (some .int) 1 := ⟨k_734, k_732, k_733, k_9, by decide +kernel, by decide +kernel, by decide +kernel⟩
abbrev b_Ref_isLiteral : ByteArray := prog_10_method_6_code
abbrev y_Ref_isLiteral : MethodName := ⟨"PlanClausesModel", "isLiteral", "(I)Z"⟩
theorem Y_Ref_isLiteral : q_Y y_Ref_isLiteral b_Ref_isLiteral 2 (some .boolean) 1 := ⟨k_745, k_744, q_mem (List.mem_of_getElem? (i := 24) rfl) rfl, k_9, by decide +kernel, by decide +kernel, by decide +kernel⟩
abbrev b_Ref_size : ByteArray := prog_10_method_5_code
abbrev y_Ref_size : MethodName := ⟨"PlanClausesModel", "size", "(I)I"⟩
theorem Y_Ref_size : q_YS y_Ref_size b_Ref_size 1 (some .int) 1 := ⟨k_748, k_747, k_9, by decide +kernel, by decide +kernel, by decide +kernel⟩
abbrev b_Ref_literal : ByteArray := prog_10_method_7_code
abbrev y_Ref_literal : MethodName := ⟨"PlanClausesModel", "literal", "(I)I"⟩
theorem Y_Ref_literal : q_Y y_Ref_literal b_Ref_literal 3 (some .int) 1 := ⟨k_741, k_739, k_740, k_9, by decide +kernel, by decide +kernel, by decide +kernel⟩
abbrev b_Ref_clause : ByteArray := prog_10_method_8_code
abbrev y_Ref_clause : MethodName := ⟨"PlanClausesModel", "clause", "()I"⟩
theorem Y_Ref_clause : q_Y y_Ref_clause b_Ref_clause 3 (some .int) 0 := ⟨k_752, k_750, k_751, k_9, by decide +kernel, by decide +kernel, by decide +kernel⟩
abbrev b_Ref_drop : ByteArray := prog_10_method_9_code
abbrev y_Ref_drop : MethodName := ⟨"PlanClausesModel", "drop", "()I"⟩
theorem Y_Ref_drop : q_Y y_Ref_drop b_Ref_drop 1 (some .int) 0 := ⟨k_756, k_754, k_755, k_9, by decide +kernel, by decide +kernel, by decide +kernel⟩
abbrev b_Ref_at : ByteArray := prog_10_method_10_code
abbrev y_Ref_at : MethodName := ⟨"PlanClausesModel", "at", "(II)I"⟩
theorem Y_Ref_at : q_Y y_Ref_at b_Ref_at 3 (some .int) 2 := ⟨k_760, k_758, k_759, k_9, by decide +kernel, by decide +kernel, by decide +kernel⟩
abbrev b_Ref_ones : ByteArray := prog_10_method_11_code
abbrev y_Ref_ones : MethodName := ⟨"PlanClausesModel", "ones", "(I)I"⟩
theorem Y_Ref_ones : q_YS y_Ref_ones b_Ref_ones 3 (some .int) 1 := ⟨k_775, k_774, k_9, by decide +kernel, by decide +kernel, by decide +kernel⟩
abbrev b_Ref_follows : ByteArray := prog_10_method_12_code
abbrev y_Ref_follows : MethodName := ⟨"PlanClausesModel", "follows", "(I)Z"⟩
theorem Y_Ref_follows : q_Y y_Ref_follows b_Ref_follows 8 (some .boolean) 1 := ⟨k_772, k_771, q_mem (List.mem_of_getElem? (i := 26) rfl) rfl, k_9, by decide +kernel, by decide +kernel, by decide +kernel⟩
abbrev b_Ref_canBe : ByteArray := prog_10_method_13_code
abbrev y_Ref_canBe : MethodName := ⟨"PlanClausesModel", "canBe", "(III)Z"⟩
theorem Y_Ref_canBe : q_Y y_Ref_canBe b_Ref_canBe 8 (some .boolean) 3 := ⟨k_768, k_767, q_mem (List.mem_of_getElem? (i := 25) rfl) rfl, k_9, by decide +kernel, by decide +kernel, by decide +kernel⟩
abbrev b_Ref_sat : ByteArray := prog_10_method_14_code
abbrev y_Ref_sat : MethodName := ⟨"PlanClausesModel", "sat", "(I)I"⟩
theorem Y_Ref_sat : q_Y y_Ref_sat b_Ref_sat 4 (some .int) 1 := ⟨k_764, k_762, k_763, k_9, by decide +kernel, by decide +kernel, by decide +kernel⟩
abbrev b_Ref_isVariable : ByteArray := prog_10_method_17_code
abbrev y_Ref_isVariable : MethodName := ⟨"PlanClausesModel", "isVariable", "(I)Z"⟩
theorem Y_Ref_isVariable : q_Y y_Ref_isVariable b_Ref_isVariable 2 (some .boolean) 1 := ⟨k_783, k_782, q_mem (List.mem_of_getElem? (i := 27) rfl) rfl, k_9, by decide +kernel, by decide +kernel, by decide +kernel⟩
abbrev b_Ref_back : ByteArray := prog_10_method_16_code
abbrev y_Ref_back : MethodName := ⟨"PlanClausesModel", "back", "(II)I"⟩
theorem Y_Ref_back : q_Y y_Ref_back b_Ref_back 6 (some .int) 2 := ⟨k_791, k_790, q_mem (List.mem_of_getElem? (i := 29) rfl) rfl, k_9, by decide +kernel, by decide +kernel, by decide +kernel⟩
abbrev b_Ref_know : ByteArray := prog_10_method_15_code
abbrev y_Ref_know : MethodName := ⟨"PlanClausesModel", "know", "()V"⟩
theorem Y_Ref_know : q_Y y_Ref_know b_Ref_know 4 none 0 := ⟨k_787, k_786, q_mem (List.mem_of_getElem? (i := 28) rfl) rfl, k_9, by decide +kernel, by decide +kernel, by decide +kernel⟩
abbrev b_Ref_value : ByteArray := prog_10_method_18_code
abbrev y_Ref_value : MethodName := ⟨"PlanClausesModel", "value", "(I)I"⟩
theorem Y_Ref_value : q_Y y_Ref_value b_Ref_value 2 (some .int) 1 := ⟨k_779, k_777, k_778, k_9, by decide +kernel, by decide +kernel, by decide +kernel⟩
abbrev b_Ref_model : ByteArray := prog_10_method_19_code
abbrev y_Ref_model : MethodName := ⟨"PlanClausesModel", "model", "(II)I"⟩
theorem Y_Ref_model : q_Y y_Ref_model b_Ref_model 3 (some .int) 2 := ⟨k_795, k_793, k_794, k_9, by decide +kernel, by decide +kernel, by decide +kernel⟩
abbrev b_Ref_models : ByteArray := prog_10_method_20_code
abbrev y_Ref_models : MethodName := ⟨"PlanClausesModel", "models", "()I"⟩
theorem Y_Ref_models : q_Y y_Ref_models b_Ref_models 1 (some .int) 0 := ⟨k_799, k_797, k_798, k_9, by decide +kernel, by decide +kernel, by decide +kernel⟩
abbrev b_Ref_forced : ByteArray := prog_10_method_21_code
abbrev y_Ref_forced : MethodName := ⟨"PlanClausesModel", "forced", "(I)I"⟩
theorem Y_Ref_forced : q_Y y_Ref_forced b_Ref_forced 4 (some .int) 1 := ⟨k_803, k_801, k_802, k_9, by decide +kernel, by decide +kernel, by decide +kernel⟩
abbrev b_Ref_culprit : ByteArray := prog_10_method_22_code
abbrev y_Ref_culprit : MethodName := ⟨"PlanClausesModel", "culprit", "()I"⟩
theorem Y_Ref_culprit : q_Y y_Ref_culprit b_Ref_culprit 2 (some .int) 0 := ⟨k_807, k_805, k_806, k_9, by decide +kernel, by decide +kernel, by decide +kernel⟩
abbrev b_Ref_facts : ByteArray := prog_10_method_24_code
abbrev y_Ref_facts : MethodName := ⟨"PlanClausesModel", "facts", "(I)I"⟩
theorem Y_Ref_facts : q_Y y_Ref_facts b_Ref_facts 3 (some .int) 1 := ⟨k_811, k_809, k_810, k_9, by decide +kernel, by decide +kernel, by decide +kernel⟩
abbrev b_Ref_areFacts : ByteArray := prog_10_method_23_code
abbrev y_Ref_areFacts : MethodName := ⟨"PlanClausesModel", "areFacts", "(I)Z"⟩
theorem Y_Ref_areFacts : q_Y y_Ref_areFacts b_Ref_areFacts 2 (some .boolean) 1 := ⟨k_819, k_818, q_mem (List.mem_of_getElem? (i := 30) rfl) rfl, k_9, by decide +kernel, by decide +kernel, by decide +kernel⟩
abbrev b_Ref_action : ByteArray := prog_10_method_25_code
abbrev y_Ref_action : MethodName := ⟨"PlanClausesModel", "action", "(III)I"⟩
theorem Y_Ref_action : q_Y y_Ref_action b_Ref_action 4 (some .int) 3 := ⟨k_815, k_813, k_814, k_9, by decide +kernel, by decide +kernel, by decide +kernel⟩
abbrev b_Ref_set : ByteArray := prog_10_method_26_code
abbrev y_Ref_set : MethodName := ⟨"PlanClausesModel", "set", "(II)I"⟩
theorem Y_Ref_set : q_Y y_Ref_set b_Ref_set 4 (some .int) 2 := ⟨k_823, k_821, k_822, k_9, by decide +kernel, by decide +kernel, by decide +kernel⟩
abbrev b_Ref_isLength : ByteArray := prog_10_method_29_code
abbrev y_Ref_isLength : MethodName := ⟨"PlanClausesModel", "isLength", "(I)Z"⟩
theorem Y_Ref_isLength : q_YS y_Ref_isLength b_Ref_isLength 1 (some .boolean) 1 := ⟨k_830, k_829, k_9, by decide +kernel, by decide +kernel, by decide +kernel⟩
abbrev b_Ref_after : ByteArray := prog_10_method_27_code
abbrev y_Ref_after : MethodName := ⟨"PlanClausesModel", "after", "(II)I"⟩
theorem Y_Ref_after : q_Y y_Ref_after b_Ref_after 3 (some .int) 2 := ⟨k_842, k_841, q_mem (List.mem_of_getElem? (i := 33) rfl) rfl, k_9, by decide +kernel, by decide +kernel, by decide +kernel⟩
abbrev b_Ref_counts : ByteArray := prog_10_method_28_code
abbrev y_Ref_counts : MethodName := ⟨"PlanClausesModel", "counts", "(I)V"⟩
theorem Y_Ref_counts : q_Y y_Ref_counts b_Ref_counts 8 none 1 := ⟨k_838, k_837, q_mem (List.mem_of_getElem? (i := 32) rfl) rfl, k_9, by decide +kernel, by decide +kernel, by decide +kernel⟩
abbrev b_Ref_plansOf : ByteArray := prog_10_method_30_code
abbrev y_Ref_plansOf : MethodName := ⟨"PlanClausesModel", "plansOf", "(I)I"⟩
theorem Y_Ref_plansOf : q_Y y_Ref_plansOf b_Ref_plansOf 2 (some .int) 1 := ⟨k_834, k_833, q_mem (List.mem_of_getElem? (i := 31) rfl) rfl, k_9, by decide +kernel, by decide +kernel, by decide +kernel⟩
abbrev b_Ref_plan : ByteArray := prog_10_method_31_code
abbrev y_Ref_plan : MethodName := ⟨"PlanClausesModel", "plan", "(I)I"⟩
theorem Y_Ref_plan : q_Y y_Ref_plan b_Ref_plan 2 (some .int) 1 := ⟨k_827, k_825, k_826, k_9, by decide +kernel, by decide +kernel, by decide +kernel⟩
abbrev b_Ref_goes : ByteArray := prog_10_method_33_code
abbrev y_Ref_goes : MethodName := ⟨"PlanClausesModel", "goes", "(II)V"⟩
theorem Y_Ref_goes : q_Y y_Ref_goes b_Ref_goes 6 none 2 := ⟨k_854, k_853, q_mem (List.mem_of_getElem? (i := 34) rfl) rfl, k_9, by decide +kernel, by decide +kernel, by decide +kernel⟩
abbrev b_Ref_step : ByteArray := prog_10_method_34_code
abbrev y_Ref_step : MethodName := ⟨"PlanClausesModel", "step", "(II)I"⟩
theorem Y_Ref_step : q_Y y_Ref_step b_Ref_step 3 (some .int) 2 := ⟨k_850, k_848, k_849, k_9, by decide +kernel, by decide +kernel, by decide +kernel⟩
abbrev b_Ref_state : ByteArray := prog_10_method_35_code
abbrev y_Ref_state : MethodName := ⟨"PlanClausesModel", "state", "(II)I"⟩
theorem Y_Ref_state : q_Y y_Ref_state b_Ref_state 3 (some .int) 2 := ⟨k_858, k_856, k_857, k_9, by decide +kernel, by decide +kernel, by decide +kernel⟩
abbrev b_Ref_shortest : ByteArray := prog_10_method_36_code
abbrev y_Ref_shortest : MethodName := ⟨"PlanClausesModel", "shortest", "()I"⟩
theorem Y_Ref_shortest : q_Y y_Ref_shortest b_Ref_shortest 2 (some .int) 0 := ⟨k_862, k_860, k_861, k_9, by decide +kernel, by decide +kernel, by decide +kernel⟩
abbrev b_Ref_plans : ByteArray := prog_10_method_32_code
abbrev y_Ref_plans : MethodName := ⟨"PlanClausesModel", "plans", "(I)I"⟩
theorem Y_Ref_plans : q_Y y_Ref_plans b_Ref_plans 2 (some .int) 1 := ⟨k_846, k_844, k_845, k_9, by decide +kernel, by decide +kernel, by decide +kernel⟩
abbrev b_Ref_factAt : ByteArray := prog_10_method_37_code
abbrev y_Ref_factAt : MethodName := ⟨"PlanClausesModel", "factAt", "(II)I"⟩
theorem Y_Ref_factAt : q_Y y_Ref_factAt b_Ref_factAt 3 (some .int) 2 := ⟨k_874, k_873, q_mem (List.mem_of_getElem? (i := 36) rfl) rfl, k_9, by decide +kernel, by decide +kernel, by decide +kernel⟩
abbrev b_Ref_says : ByteArray := prog_10_method_39_code
abbrev y_Ref_says : MethodName := ⟨"PlanClausesModel", "says", "(I)V"⟩
theorem Y_Ref_says : q_Y y_Ref_says b_Ref_says 2 none 1 := ⟨k_878, k_877, q_mem (List.mem_of_getElem? (i := 37) rfl) rfl, k_9, by decide +kernel, by decide +kernel, by decide +kernel⟩
abbrev b_Ref_ends : ByteArray := prog_10_method_40_code
abbrev y_Ref_ends : MethodName := ⟨"PlanClausesModel", "ends", "()V"⟩
theorem Y_Ref_ends : q_Y y_Ref_ends b_Ref_ends 1 none 0 := ⟨k_882, k_881, q_mem (List.mem_of_getElem? (i := 38) rfl) rfl, k_9, by decide +kernel, by decide +kernel, by decide +kernel⟩
abbrev b_Ref_actionAt : ByteArray := prog_10_method_38_code
abbrev y_Ref_actionAt : MethodName := ⟨"PlanClausesModel", "actionAt", "(III)I"⟩
theorem Y_Ref_actionAt : q_Y y_Ref_actionAt b_Ref_actionAt 4 (some .int) 3 := ⟨k_890, k_889, q_mem (List.mem_of_getElem? (i := 40) rfl) rfl, k_9, by decide +kernel, by decide +kernel, by decide +kernel⟩
abbrev b_Ref_codesEffects : ByteArray := prog_10_method_41_code
abbrev y_Ref_codesEffects : MethodName := ⟨"PlanClausesModel", "codesEffects", "(II)V"⟩
theorem Y_Ref_codesEffects : q_Y y_Ref_codesEffects b_Ref_codesEffects 5 none 2 := ⟨k_894, k_893, q_mem (List.mem_of_getElem? (i := 41) rfl) rfl, k_9, by decide +kernel, by decide +kernel, by decide +kernel⟩
abbrev b_Ref_codesFrames : ByteArray := prog_10_method_42_code
abbrev y_Ref_codesFrames : MethodName := ⟨"PlanClausesModel", "codesFrames", "(II)V"⟩
theorem Y_Ref_codesFrames : q_Y y_Ref_codesFrames b_Ref_codesFrames 5 none 2 := ⟨k_898, k_897, q_mem (List.mem_of_getElem? (i := 42) rfl) rfl, k_9, by decide +kernel, by decide +kernel, by decide +kernel⟩
abbrev b_Ref_codesStep : ByteArray := prog_10_method_43_code
abbrev y_Ref_codesStep : MethodName := ⟨"PlanClausesModel", "codesStep", "(II)V"⟩
theorem Y_Ref_codesStep : q_Y y_Ref_codesStep b_Ref_codesStep 5 none 2 := ⟨k_886, k_885, q_mem (List.mem_of_getElem? (i := 39) rfl) rfl, k_9, by decide +kernel, by decide +kernel, by decide +kernel⟩
abbrev b_Ref_codes : ByteArray := prog_10_method_44_code
abbrev y_Ref_codes : MethodName := ⟨"PlanClausesModel", "codes", "(II)V"⟩
theorem Y_Ref_codes : q_Y y_Ref_codes b_Ref_codes 4 none 2 := ⟨k_870, k_869, q_mem (List.mem_of_getElem? (i := 35) rfl) rfl, k_9, by decide +kernel, by decide +kernel, by decide +kernel⟩
abbrev b_Ref_code : ByteArray := prog_10_method_45_code
abbrev y_Ref_code : MethodName := ⟨"PlanClausesModel", "code", "(II)I"⟩
theorem Y_Ref_code : q_Y y_Ref_code b_Ref_code 3 (some .int) 2 := ⟨k_866, k_864, k_865, k_9, by decide +kernel, by decide +kernel, by decide +kernel⟩
abbrev b_Ref_coded : ByteArray := prog_10_method_46_code
abbrev y_Ref_coded : MethodName := ⟨"PlanClausesModel", "coded", "(III)I"⟩
theorem Y_Ref_coded : q_Y y_Ref_coded b_Ref_coded 4 (some .int) 3 := ⟨k_902, k_900, k_901, k_9, by decide +kernel, by decide +kernel, by decide +kernel⟩
abbrev b_Ref_count : ByteArray := prog_10_method_47_code
abbrev y_Ref_count : MethodName := ⟨"PlanClausesModel", "count", "(I)I"⟩
theorem Y_Ref_count : q_Y y_Ref_count b_Ref_count 2 (some .int) 1 := ⟨k_906, k_904, k_905, k_9, by decide +kernel, by decide +kernel, by decide +kernel⟩
