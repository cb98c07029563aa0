theorem k_12 : (Cond.classLink "PlanClausesLaw" (7) "PlanClauses") ∈ q_tbl := q_mem (List.mem_of_getElem? (i := 55) rfl) rfl
theorem k_13 : (Cond.instantiable "PlanClauses" (4)) ∈ q_tbl := q_mem (List.mem_of_getElem? (i := 56) rfl) rfl
theorem k_14 : (Cond.methodLink "PlanClausesLaw" (9) ⟨"PlanClauses", "<init>", "()V"⟩) ∈ q_tbl := q_mem (List.mem_of_getElem? (i := 57) rfl) rfl
theorem k_15 : (Cond.instanceMethod ⟨"PlanClauses", "<init>", "()V"⟩) ∈ q_tbl := q_mem (List.mem_of_getElem? (i := 58) rfl) rfl
theorem k_16 : (Cond.code ⟨"PlanClauses", "<init>", "()V"⟩ prog_1_method_1_code (1) (Option.none : Option Jvm.ClassFile.FieldType)) ∈ q_tbl := q_mem (List.mem_of_getElem? (i := 59) rfl) rfl
theorem k_17 : (Cond.methodLink "PlanClauses" (3) ⟨"java/lang/Object", "<init>", "()V"⟩) ∈ q_tbl := q_mem (List.mem_of_getElem? (i := 60) rfl) rfl
theorem k_18 : (Cond.instanceMethod ⟨"java/lang/Object", "<init>", "()V"⟩) ∈ q_tbl := q_mem (List.mem_of_getElem? (i := 61) rfl) rfl
theorem k_19 : (Cond.code ⟨"java/lang/Object", "<init>", "()V"⟩ object_method_1_code (1) (Option.none : Option Jvm.ClassFile.FieldType)) ∈ q_tbl := q_mem (List.mem_of_getElem? (i := 62) rfl) rfl
theorem k_20 : (Cond.classLink "PlanClauses" (9) "PlanClauses$Formula") ∈ q_tbl := q_mem (List.mem_of_getElem? (i := 63) rfl) rfl
theorem k_21 : (Cond.instantiable "PlanClauses$Formula" (6)) ∈ q_tbl := q_mem (List.mem_of_getElem? (i := 64) rfl) rfl
theorem k_23 : (Cond.instanceMethod ⟨"PlanClauses$Formula", "<init>", "()V"⟩) ∈ q_tbl := q_mem (List.mem_of_getElem? (i := 66) rfl) rfl
theorem k_24 : (Cond.code ⟨"PlanClauses$Formula", "<init>", "()V"⟩ prog_3_method_1_code (1) (Option.none : Option Jvm.ClassFile.FieldType)) ∈ q_tbl := q_mem (List.mem_of_getElem? (i := 67) rfl) rfl
theorem k_25 : (Cond.methodLink "PlanClauses$Formula" (3) ⟨"java/lang/Object", "<init>", "()V"⟩) ∈ q_tbl := q_mem (List.mem_of_getElem? (i := 68) rfl) rfl
theorem k_26 : (Cond.classLink "PlanClauses$Formula" (21) "PlanClauses$Rows") ∈ q_tbl := q_mem (List.mem_of_getElem? (i := 69) rfl) rfl
theorem k_27 : (Cond.instantiable "PlanClauses$Rows" (4)) ∈ q_tbl := q_mem (List.mem_of_getElem? (i := 70) rfl) rfl
theorem k_28 : (Cond.methodLink "PlanClauses$Formula" (23) ⟨"PlanClauses$Rows", "<init>", "(I)V"⟩) ∈ q_tbl := q_mem (List.mem_of_getElem? (i := 71) rfl) rfl
theorem k_29 : (Cond.instanceMethod ⟨"PlanClauses$Rows", "<init>", "(I)V"⟩) ∈ q_tbl := q_mem (List.mem_of_getElem? (i := 72) rfl) rfl
theorem k_30 : (Cond.code ⟨"PlanClauses$Rows", "<init>", "(I)V"⟩ prog_5_method_1_code (2) (Option.none : Option Jvm.ClassFile.FieldType)) ∈ q_tbl := q_mem (List.mem_of_getElem? (i := 73) rfl) rfl
theorem k_31 : (Cond.methodLink "PlanClauses$Rows" (1) ⟨"java/lang/Object", "<init>", "()V"⟩) ∈ q_tbl := q_mem (List.mem_of_getElem? (i := 74) rfl) rfl
theorem k_51 : (Cond.arrayClass Jvm.ClassFile.FieldType.int) ∈ q_tbl := q_mem (List.mem_of_getElem? (i := 94) rfl) rfl
theorem k_77 : (Cond.classLink "PlanClauses" (16) "PlanClauses$Models") ∈ q_tbl := q_mem (List.mem_of_getElem? (i := 120) rfl) rfl
theorem k_78 : (Cond.instantiable "PlanClauses$Models" (8)) ∈ q_tbl := q_mem (List.mem_of_getElem? (i := 121) rfl) rfl
theorem k_79 : (Cond.methodLink "PlanClauses" (18) ⟨"PlanClauses$Models", "<init>", "(LPlanClauses$Formula;)V"⟩) ∈ q_tbl := q_mem (List.mem_of_getElem? (i := 122) rfl) rfl
theorem k_80 : (Cond.instanceMethod ⟨"PlanClauses$Models", "<init>", "(LPlanClauses$Formula;)V"⟩) ∈ q_tbl := q_mem (List.mem_of_getElem? (i := 123) rfl) rfl
theorem k_81 : (Cond.code ⟨"PlanClauses$Models", "<init>", "(LPlanClauses$Formula;)V"⟩ prog_4_method_1_code (2) (Option.none : Option Jvm.ClassFile.FieldType)) ∈ q_tbl := q_mem (List.mem_of_getElem? (i := 124) rfl) rfl
theorem k_82 : (Cond.methodLink "PlanClauses$Models" (3) ⟨"java/lang/Object", "<init>", "()V"⟩) ∈ q_tbl := q_mem (List.mem_of_getElem? (i := 125) rfl) rfl
theorem k_83 : (Cond.classLink "PlanClauses$Models" (19) "PlanClauses$Search") ∈ q_tbl := q_mem (List.mem_of_getElem? (i := 126) rfl) rfl
theorem k_84 : (Cond.instantiable "PlanClauses$Search" (8)) ∈ q_tbl := q_mem (List.mem_of_getElem? (i := 127) rfl) rfl
theorem k_85 : (Cond.methodLink "PlanClauses$Models" (21) ⟨"PlanClauses$Search", "<init>", "(LPlanClauses$Formula;)V"⟩) ∈ q_tbl := q_mem (List.mem_of_getElem? (i := 128) rfl) rfl
theorem k_86 : (Cond.instanceMethod ⟨"PlanClauses$Search", "<init>", "(LPlanClauses$Formula;)V"⟩) ∈ q_tbl := q_mem (List.mem_of_getElem? (i := 129) rfl) rfl
theorem k_87 : (Cond.code ⟨"PlanClauses$Search", "<init>", "(LPlanClauses$Formula;)V"⟩ prog_6_method_1_code (2) (Option.none : Option Jvm.ClassFile.FieldType)) ∈ q_tbl := q_mem (List.mem_of_getElem? (i := 130) rfl) rfl
theorem k_88 : (Cond.methodLink "PlanClauses$Search" (3) ⟨"java/lang/Object", "<init>", "()V"⟩) ∈ q_tbl := q_mem (List.mem_of_getElem? (i := 131) rfl) rfl
theorem k_89 : (Cond.classLink "PlanClauses$Search" (9) "PlanClauses$Rows") ∈ q_tbl := q_mem (List.mem_of_getElem? (i := 132) rfl) rfl
theorem k_90 : (Cond.methodLink "PlanClauses$Search" (11) ⟨"PlanClauses$Rows", "<init>", "(I)V"⟩) ∈ q_tbl := q_mem (List.mem_of_getElem? (i := 133) rfl) rfl
theorem k_91 : (Cond.classLink "PlanClauses$Search" (20) "PlanClauses$Trail") ∈ q_tbl := q_mem (List.mem_of_getElem? (i := 134) rfl) rfl
theorem k_92 : (Cond.instantiable "PlanClauses$Trail" (8)) ∈ q_tbl := q_mem (List.mem_of_getElem? (i := 135) rfl) rfl
theorem k_94 : (Cond.instanceMethod ⟨"PlanClauses$Trail", "<init>", "()V"⟩) ∈ q_tbl := q_mem (List.mem_of_getElem? (i := 137) rfl) rfl
theorem k_95 : (Cond.code ⟨"PlanClauses$Trail", "<init>", "()V"⟩ prog_8_method_1_code (1) (Option.none : Option Jvm.ClassFile.FieldType)) ∈ q_tbl := q_mem (List.mem_of_getElem? (i := 138) rfl) rfl
theorem k_96 : (Cond.methodLink "PlanClauses$Trail" (3) ⟨"java/lang/Object", "<init>", "()V"⟩) ∈ q_tbl := q_mem (List.mem_of_getElem? (i := 139) rfl) rfl
theorem k_181 : (Cond.classLink "PlanClauses" (25) "PlanClauses$Task") ∈ q_tbl := q_mem (List.mem_of_getElem? (i := 224) rfl) rfl
theorem k_182 : (Cond.instantiable "PlanClauses$Task" (9)) ∈ q_tbl := q_mem (List.mem_of_getElem? (i := 225) rfl) rfl
theorem k_184 : (Cond.instanceMethod ⟨"PlanClauses$Task", "<init>", "()V"⟩) ∈ q_tbl := q_mem (List.mem_of_getElem? (i := 227) rfl) rfl
theorem k_185 : (Cond.code ⟨"PlanClauses$Task", "<init>", "()V"⟩ prog_7_method_1_code (1) (Option.none : Option Jvm.ClassFile.FieldType)) ∈ q_tbl := q_mem (List.mem_of_getElem? (i := 228) rfl) rfl
theorem k_186 : (Cond.methodLink "PlanClauses$Task" (3) ⟨"java/lang/Object", "<init>", "()V"⟩) ∈ q_tbl := q_mem (List.mem_of_getElem? (i := 229) rfl) rfl
theorem k_226 : (Cond.classLink "PlanClauses" (32) "PlanClauses$Code") ∈ q_tbl := q_mem (List.mem_of_getElem? (i := 269) rfl) rfl
theorem k_227 : (Cond.instantiable "PlanClauses$Code" (7)) ∈ q_tbl := q_mem (List.mem_of_getElem? (i := 270) rfl) rfl
theorem k_228 : (Cond.methodLink "PlanClauses" (34) ⟨"PlanClauses$Code", "<init>", "(LPlanClauses$Task;)V"⟩) ∈ q_tbl := q_mem (List.mem_of_getElem? (i := 271) rfl) rfl
theorem k_229 : (Cond.instanceMethod ⟨"PlanClauses$Code", "<init>", "(LPlanClauses$Task;)V"⟩) ∈ q_tbl := q_mem (List.mem_of_getElem? (i := 272) rfl) rfl
theorem k_230 : (Cond.code ⟨"PlanClauses$Code", "<init>", "(LPlanClauses$Task;)V"⟩ prog_2_method_1_code (2) (Option.none : Option Jvm.ClassFile.FieldType)) ∈ q_tbl := q_mem (List.mem_of_getElem? (i := 273) rfl) rfl
theorem k_231 : (Cond.methodLink "PlanClauses$Code" (3) ⟨"java/lang/Object", "<init>", "()V"⟩) ∈ q_tbl := q_mem (List.mem_of_getElem? (i := 274) rfl) rfl
theorem k_269 : (Cond.methodLink "PlanClausesLaw" (13) ⟨"PlanClauses", "variables", "(I)I"⟩) ∈ q_tbl := q_mem (List.mem_of_getElem? (i := 312) rfl) rfl
theorem k_277 : (Cond.methodLink "PlanClausesLaw" (18) ⟨"PlanClauses", "literal", "(I)I"⟩) ∈ q_tbl := q_mem (List.mem_of_getElem? (i := 320) rfl) rfl
theorem k_297 : (Cond.methodLink "PlanClausesLaw" (22) ⟨"PlanClauses", "clause", "()I"⟩) ∈ q_tbl := q_mem (List.mem_of_getElem? (i := 340) rfl) rfl
theorem k_309 : (Cond.methodLink "PlanClausesLaw" (27) ⟨"PlanClauses", "drop", "()I"⟩) ∈ q_tbl := q_mem (List.mem_of_getElem? (i := 352) rfl) rfl
theorem k_313 : (Cond.methodLink "PlanClausesLaw" (31) ⟨"PlanClauses", "at", "(II)I"⟩) ∈ q_tbl := q_mem (List.mem_of_getElem? (i := 356) rfl) rfl
theorem k_321 : (Cond.methodLink "PlanClausesLaw" (36) ⟨"PlanClauses", "sat", "(I)I"⟩) ∈ q_tbl := q_mem (List.mem_of_getElem? (i := 364) rfl) rfl
set_option maxRecDepth 20000 in
theorem k_412 : (Cond.methodLink "PlanClausesLaw" (40) ⟨"PlanClauses", "value", "(I)I"⟩) ∈ q_tbl := q_mem (List.mem_of_getElem? (i := 455) rfl) rfl
set_option maxRecDepth 20000 in
theorem k_443 : (Cond.methodLink "PlanClausesLaw" (44) ⟨"PlanClauses", "model", "(II)I"⟩) ∈ q_tbl := q_mem (List.mem_of_getElem? (i := 486) rfl) rfl
set_option maxRecDepth 20000 in
theorem k_447 : (Cond.methodLink "PlanClausesLaw" (48) ⟨"PlanClauses", "models", "()I"⟩) ∈ q_tbl := q_mem (List.mem_of_getElem? (i := 490) rfl) rfl
set_option maxRecDepth 20000 in
theorem k_451 : (Cond.methodLink "PlanClausesLaw" (52) ⟨"PlanClauses", "forced", "(I)I"⟩) ∈ q_tbl := q_mem (List.mem_of_getElem? (i := 494) rfl) rfl
set_option maxRecDepth 20000 in
theorem k_455 : (Cond.methodLink "PlanClausesLaw" (56) ⟨"PlanClauses", "culprit", "()I"⟩) ∈ q_tbl := q_mem (List.mem_of_getElem? (i := 498) rfl) rfl
set_option maxRecDepth 20000 in
theorem k_467 : (Cond.methodLink "PlanClausesLaw" (60) ⟨"PlanClauses", "facts", "(I)I"⟩) ∈ q_tbl := q_mem (List.mem_of_getElem? (i := 510) rfl) rfl
set_option maxRecDepth 20000 in
theorem k_479 : (Cond.methodLink "PlanClausesLaw" (64) ⟨"PlanClauses", "action", "(III)I"⟩) ∈ q_tbl := q_mem (List.mem_of_getElem? (i := 522) rfl) rfl
set_option maxRecDepth 20000 in
theorem k_491 : (Cond.methodLink "PlanClausesLaw" (69) ⟨"PlanClauses", "set", "(II)I"⟩) ∈ q_tbl := q_mem (List.mem_of_getElem? (i := 534) rfl) rfl
set_option maxRecDepth 20000 in
theorem k_503 : (Cond.methodLink "PlanClausesLaw" (73) ⟨"PlanClauses", "plan", "(I)I"⟩) ∈ q_tbl := q_mem (List.mem_of_getElem? (i := 546) rfl) rfl
set_option maxRecDepth 20000 in
theorem k_527 : (Cond.methodLink "PlanClausesLaw" (77) ⟨"PlanClauses", "step", "(II)I"⟩) ∈ q_tbl := q_mem (List.mem_of_getElem? (i := 570) rfl) rfl
set_option maxRecDepth 20000 in
theorem k_541 : (Cond.methodLink "PlanClausesLaw" (81) ⟨"PlanClauses", "state", "(II)I"⟩) ∈ q_tbl := q_mem (List.mem_of_getElem? (i := 584) rfl) rfl
set_option maxRecDepth 20000 in
theorem k_545 : (Cond.methodLink "PlanClausesLaw" (85) ⟨"PlanClauses", "shortest", "()I"⟩) ∈ q_tbl := q_mem (List.mem_of_getElem? (i := 588) rfl) rfl
set_option maxRecDepth 20000 in
theorem k_549 : (Cond.methodLink "PlanClausesLaw" (89) ⟨"PlanClauses", "plans", "(I)I"⟩) ∈ q_tbl := q_mem (List.mem_of_getElem? (i := 592) rfl) rfl
set_option maxRecDepth 20000 in
theorem k_553 : (Cond.methodLink "PlanClausesLaw" (93) ⟨"PlanClauses", "code", "(II)I"⟩) ∈ q_tbl := q_mem (List.mem_of_getElem? (i := 596) rfl) rfl
set_option maxRecDepth 20000 in
theorem k_604 : (Cond.methodLink "PlanClausesLaw" (97) ⟨"PlanClauses", "coded", "(III)I"⟩) ∈ q_tbl := q_mem (List.mem_of_getElem? (i := 647) rfl) rfl
set_option maxRecDepth 20000 in
theorem k_612 : (Cond.methodLink "PlanClausesLaw" (101) ⟨"PlanClauses", "count", "(I)I"⟩) ∈ q_tbl := q_mem (List.mem_of_getElem? (i := 655) rfl) rfl
set_option maxRecDepth 20000 in
theorem k_616 : (Cond.classLink "PlanClausesLaw" (10) "PlanClausesModel") ∈ q_tbl := q_mem (List.mem_of_getElem? (i := 659) rfl) rfl
set_option maxRecDepth 20000 in
theorem k_617 : (Cond.instantiable "PlanClausesModel" (36)) ∈ q_tbl := q_mem (List.mem_of_getElem? (i := 660) rfl) rfl
set_option maxRecDepth 20000 in
theorem k_618 : (Cond.methodLink "PlanClausesLaw" (12) ⟨"PlanClausesModel", "<init>", "()V"⟩) ∈ q_tbl := q_mem (List.mem_of_getElem? (i := 661) rfl) rfl
set_option maxRecDepth 20000 in
theorem k_619 : (Cond.instanceMethod ⟨"PlanClausesModel", "<init>", "()V"⟩) ∈ q_tbl := q_mem (List.mem_of_getElem? (i := 662) rfl) rfl
set_option maxRecDepth 20000 in
theorem k_620 : (Cond.code ⟨"PlanClausesModel", "<init>", "()V"⟩ prog_10_method_1_code (1) (Option.none : Option Jvm.ClassFile.FieldType)) ∈ q_tbl := q_mem (List.mem_of_getElem? (i := 663) rfl) rfl
set_option maxRecDepth 20000 in
theorem k_621 : (Cond.methodLink "PlanClausesModel" (1) ⟨"java/lang/Object", "<init>", "()V"⟩) ∈ q_tbl := q_mem (List.mem_of_getElem? (i := 664) rfl) rfl
set_option maxRecDepth 20000 in
theorem k_731 : (Cond.methodLink "PlanClausesLaw" (17) ⟨"PlanClausesModel", "variables", "(I)I"⟩) ∈ q_tbl := q_mem (List.mem_of_getElem? (i := 774) rfl) rfl
set_option maxRecDepth 20000 in
theorem k_738 : (Cond.methodLink "PlanClausesLaw" (21) ⟨"PlanClausesModel", "literal", "(I)I"⟩) ∈ q_tbl := q_mem (List.mem_of_getElem? (i := 781) rfl) rfl
set_option maxRecDepth 20000 in
theorem k_749 : (Cond.methodLink "PlanClausesLaw" (26) ⟨"PlanClausesModel", "clause", "()I"⟩) ∈ q_tbl := q_mem (List.mem_of_getElem? (i := 792) rfl) rfl
set_option maxRecDepth 20000 in
theorem k_753 : (Cond.methodLink "PlanClausesLaw" (30) ⟨"PlanClausesModel", "drop", "()I"⟩) ∈ q_tbl := q_mem (List.mem_of_getElem? (i := 796) rfl) rfl
set_option maxRecDepth 20000 in
theorem k_757 : (Cond.methodLink "PlanClausesLaw" (35) ⟨"PlanClausesModel", "at", "(II)I"⟩) ∈ q_tbl := q_mem (List.mem_of_getElem? (i := 800) rfl) rfl
set_option maxRecDepth 20000 in
theorem k_761 : (Cond.methodLink "PlanClausesLaw" (39) ⟨"PlanClausesModel", "sat", "(I)I"⟩) ∈ q_tbl := q_mem (List.mem_of_getElem? (i := 804) rfl) rfl
set_option maxRecDepth 20000 in
theorem k_776 : (Cond.methodLink "PlanClausesLaw" (43) ⟨"PlanClausesModel", "value", "(I)I"⟩) ∈ q_tbl := q_mem (List.mem_of_getElem? (i := 819) rfl) rfl
set_option maxRecDepth 20000 in
theorem k_792 : (Cond.methodLink "PlanClausesLaw" (47) ⟨"PlanClausesModel", "model", "(II)I"⟩) ∈ q_tbl := q_mem (List.mem_of_getElem? (i := 835) rfl) rfl
set_option maxRecDepth 20000 in
theorem k_796 : (Cond.methodLink "PlanClausesLaw" (51) ⟨"PlanClausesModel", "models", "()I"⟩) ∈ q_tbl := q_mem (List.mem_of_getElem? (i := 839) rfl) rfl
set_option maxRecDepth 20000 in
theorem k_800 : (Cond.methodLink "PlanClausesLaw" (55) ⟨"PlanClausesModel", "forced", "(I)I"⟩) ∈ q_tbl := q_mem (List.mem_of_getElem? (i := 843) rfl) rfl
set_option maxRecDepth 20000 in
theorem k_804 : (Cond.methodLink "PlanClausesLaw" (59) ⟨"PlanClausesModel", "culprit", "()I"⟩) ∈ q_tbl := q_mem (List.mem_of_getElem? (i := 847) rfl) rfl
set_option maxRecDepth 20000 in
theorem k_808 : (Cond.methodLink "PlanClausesLaw" (63) ⟨"PlanClausesModel", "facts", "(I)I"⟩) ∈ q_tbl := q_mem (List.mem_of_getElem? (i := 851) rfl) rfl
set_option maxRecDepth 20000 in
theorem k_812 : (Cond.methodLink "PlanClausesLaw" (68) ⟨"PlanClausesModel", "action", "(III)I"⟩) ∈ q_tbl := q_mem (List.mem_of_getElem? (i := 855) rfl) rfl
set_option maxRecDepth 20000 in
theorem k_820 : (Cond.methodLink "PlanClausesLaw" (72) ⟨"PlanClausesModel", "set", "(II)I"⟩) ∈ q_tbl := q_mem (List.mem_of_getElem? (i := 863) rfl) rfl
set_option maxRecDepth 20000 in
theorem k_824 : (Cond.methodLink "PlanClausesLaw" (76) ⟨"PlanClausesModel", "plan", "(I)I"⟩) ∈ q_tbl := q_mem (List.mem_of_getElem? (i := 867) rfl) rfl
set_option maxRecDepth 20000 in
theorem k_843 : (Cond.methodLink "PlanClausesLaw" (92) ⟨"PlanClausesModel", "plans", "(I)I"⟩) ∈ q_tbl := q_mem (List.mem_of_getElem? (i := 886) rfl) rfl
set_option maxRecDepth 20000 in
theorem k_847 : (Cond.methodLink "PlanClausesLaw" (80) ⟨"PlanClausesModel", "step", "(II)I"⟩) ∈ q_tbl := q_mem (List.mem_of_getElem? (i := 890) rfl) rfl
set_option maxRecDepth 20000 in
theorem k_855 : (Cond.methodLink "PlanClausesLaw" (84) ⟨"PlanClausesModel", "state", "(II)I"⟩) ∈ q_tbl := q_mem (List.mem_of_getElem? (i := 898) rfl) rfl
set_option maxRecDepth 20000 in
theorem k_859 : (Cond.methodLink "PlanClausesLaw" (88) ⟨"PlanClausesModel", "shortest", "()I"⟩) ∈ q_tbl := q_mem (List.mem_of_getElem? (i := 902) rfl) rfl
set_option maxRecDepth 20000 in
theorem k_863 : (Cond.methodLink "PlanClausesLaw" (96) ⟨"PlanClausesModel", "code", "(II)I"⟩) ∈ q_tbl := q_mem (List.mem_of_getElem? (i := 906) rfl) rfl
set_option maxRecDepth 20000 in
theorem k_899 : (Cond.methodLink "PlanClausesLaw" (100) ⟨"PlanClausesModel", "coded", "(III)I"⟩) ∈ q_tbl := q_mem (List.mem_of_getElem? (i := 942) rfl) rfl
set_option maxRecDepth 20000 in
theorem k_903 : (Cond.methodLink "PlanClausesLaw" (104) ⟨"PlanClausesModel", "count", "(I)I"⟩) ∈ q_tbl := q_mem (List.mem_of_getElem? (i := 946) rfl) rfl
