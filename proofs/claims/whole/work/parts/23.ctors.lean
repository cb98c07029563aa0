abbrev b_Rows_init : ByteArray := prog_5_method_1_code
abbrev y_Rows_init : MethodName := ⟨"PlanClauses$Rows", "<init>", "(I)V"⟩
theorem Y_Rows_init : q_YC y_Rows_init b_Rows_init 2 1 := ⟨k_30, k_29, k_3, by decide +kernel, by decide +kernel, by decide +kernel⟩
theorem d_Rows_init_0 : decode b_Rows_init 0 = .ok (.aload_n 0, 1) := by decide +kernel
theorem d_Rows_init_1 : decode b_Rows_init 1 = .ok (.invokespecial 1, 3) := by decide +kernel
theorem d_Rows_init_4 : decode b_Rows_init 4 = .ok (.aload_n 0, 1) := by decide +kernel
theorem d_Rows_init_5 : decode b_Rows_init 5 = .ok (.iload_n 1, 1) := by decide +kernel
theorem d_Rows_init_6 : decode b_Rows_init 6 = .ok (.newarray .int, 2) := by decide +kernel
theorem d_Rows_init_8 : decode b_Rows_init 8 = .ok (.putfield 7, 3) := by decide +kernel
theorem d_Rows_init_11 : decode b_Rows_init 11 = .ok (.aload_n 0, 1) := by decide +kernel
theorem d_Rows_init_12 : decode b_Rows_init 12 = .ok (.iload_n 1, 1) := by decide +kernel
theorem d_Rows_init_13 : decode b_Rows_init 13 = .ok (.newarray .int, 2) := by decide +kernel
theorem d_Rows_init_15 : decode b_Rows_init 15 = .ok (.putfield 13, 3) := by decide +kernel
theorem d_Rows_init_18 : decode b_Rows_init 18 = .ok (.return_, 1) := by decide +kernel
abbrev b_Form_init : ByteArray := prog_3_method_1_code
abbrev y_Form_init : MethodName := ⟨"PlanClauses$Formula", "<init>", "()V"⟩
theorem Y_Form_init : q_YC y_Form_init b_Form_init 1 0 := ⟨k_24, k_23, k_2, by decide +kernel, by decide +kernel, by decide +kernel⟩
theorem d_Form_init_0 : decode b_Form_init 0 = .ok (.aload_n 0, 1) := by decide +kernel
theorem d_Form_init_1 : decode b_Form_init 1 = .ok (.invokespecial 3, 3) := by decide +kernel
theorem d_Form_init_4 : decode b_Form_init 4 = .ok (.aload_n 0, 1) := by decide +kernel
theorem d_Form_init_5 : decode b_Form_init 5 = .ok (.bipush 6, 2) := by decide +kernel
theorem d_Form_init_7 : decode b_Form_init 7 = .ok (.newarray .int, 2) := by decide +kernel
theorem d_Form_init_9 : decode b_Form_init 9 = .ok (.putfield 9, 3) := by decide +kernel
theorem d_Form_init_12 : decode b_Form_init 12 = .ok (.aload_n 0, 1) := by decide +kernel
theorem d_Form_init_13 : decode b_Form_init 13 = .ok (.sipush 2400, 3) := by decide +kernel
theorem d_Form_init_16 : decode b_Form_init 16 = .ok (.newarray .int, 2) := by decide +kernel
theorem d_Form_init_18 : decode b_Form_init 18 = .ok (.putfield 15, 3) := by decide +kernel
theorem d_Form_init_21 : decode b_Form_init 21 = .ok (.aload_n 0, 1) := by decide +kernel
theorem d_Form_init_22 : decode b_Form_init 22 = .ok (.sipush 400, 3) := by decide +kernel
theorem d_Form_init_25 : decode b_Form_init 25 = .ok (.newarray .int, 2) := by decide +kernel
theorem d_Form_init_27 : decode b_Form_init 27 = .ok (.putfield 18, 3) := by decide +kernel
theorem d_Form_init_30 : decode b_Form_init 30 = .ok (.aload_n 0, 1) := by decide +kernel
theorem d_Form_init_31 : decode b_Form_init 31 = .ok (.new 21, 3) := by decide +kernel
theorem d_Form_init_34 : decode b_Form_init 34 = .ok (.dup, 1) := by decide +kernel
theorem d_Form_init_35 : decode b_Form_init 35 = .ok (.sipush 400, 3) := by decide +kernel
theorem d_Form_init_38 : decode b_Form_init 38 = .ok (.invokespecial 23, 3) := by decide +kernel
theorem d_Form_init_41 : decode b_Form_init 41 = .ok (.putfield 26, 3) := by decide +kernel
theorem d_Form_init_44 : decode b_Form_init 44 = .ok (.return_, 1) := by decide +kernel
abbrev b_Trail_init : ByteArray := prog_8_method_1_code
abbrev y_Trail_init : MethodName := ⟨"PlanClauses$Trail", "<init>", "()V"⟩
theorem Y_Trail_init : q_YC y_Trail_init b_Trail_init 1 0 := ⟨k_95, k_94, k_6, by decide +kernel, by decide +kernel, by decide +kernel⟩
theorem d_Trail_init_0 : decode b_Trail_init 0 = .ok (.aload_n 0, 1) := by decide +kernel
theorem d_Trail_init_1 : decode b_Trail_init 1 = .ok (.invokespecial 3, 3) := by decide +kernel
theorem d_Trail_init_4 : decode b_Trail_init 4 = .ok (.aload_n 0, 1) := by decide +kernel
theorem d_Trail_init_5 : decode b_Trail_init 5 = .ok (.bipush 30, 2) := by decide +kernel
theorem d_Trail_init_7 : decode b_Trail_init 7 = .ok (.newarray .int, 2) := by decide +kernel
theorem d_Trail_init_9 : decode b_Trail_init 9 = .ok (.putfield 9, 3) := by decide +kernel
theorem d_Trail_init_12 : decode b_Trail_init 12 = .ok (.aload_n 0, 1) := by decide +kernel
theorem d_Trail_init_13 : decode b_Trail_init 13 = .ok (.bipush 30, 2) := by decide +kernel
theorem d_Trail_init_15 : decode b_Trail_init 15 = .ok (.newarray .int, 2) := by decide +kernel
theorem d_Trail_init_17 : decode b_Trail_init 17 = .ok (.putfield 15, 3) := by decide +kernel
theorem d_Trail_init_20 : decode b_Trail_init 20 = .ok (.aload_n 0, 1) := by decide +kernel
theorem d_Trail_init_21 : decode b_Trail_init 21 = .ok (.bipush 30, 2) := by decide +kernel
theorem d_Trail_init_23 : decode b_Trail_init 23 = .ok (.newarray .int, 2) := by decide +kernel
theorem d_Trail_init_25 : decode b_Trail_init 25 = .ok (.putfield 18, 3) := by decide +kernel
theorem d_Trail_init_28 : decode b_Trail_init 28 = .ok (.aload_n 0, 1) := by decide +kernel
theorem d_Trail_init_29 : decode b_Trail_init 29 = .ok (.bipush 32, 2) := by decide +kernel
theorem d_Trail_init_31 : decode b_Trail_init 31 = .ok (.newarray .int, 2) := by decide +kernel
theorem d_Trail_init_33 : decode b_Trail_init 33 = .ok (.putfield 21, 3) := by decide +kernel
theorem d_Trail_init_36 : decode b_Trail_init 36 = .ok (.return_, 1) := by decide +kernel
abbrev b_Sear_init : ByteArray := prog_6_method_1_code
abbrev y_Sear_init : MethodName := ⟨"PlanClauses$Search", "<init>", "(LPlanClauses$Formula;)V"⟩
theorem Y_Sear_init : q_YC y_Sear_init b_Sear_init 2 1 := ⟨k_87, k_86, k_5, by decide +kernel, by decide +kernel, by decide +kernel⟩
theorem d_Sear_init_0 : decode b_Sear_init 0 = .ok (.aload_n 0, 1) := by decide +kernel
theorem d_Sear_init_1 : decode b_Sear_init 1 = .ok (.invokespecial 3, 3) := by decide +kernel
theorem d_Sear_init_4 : decode b_Sear_init 4 = .ok (.aload_n 0, 1) := by decide +kernel
theorem d_Sear_init_5 : decode b_Sear_init 5 = .ok (.new 9, 3) := by decide +kernel
theorem d_Sear_init_8 : decode b_Sear_init 8 = .ok (.dup, 1) := by decide +kernel
theorem d_Sear_init_9 : decode b_Sear_init 9 = .ok (.sipush 2048, 3) := by decide +kernel
theorem d_Sear_init_12 : decode b_Sear_init 12 = .ok (.invokespecial 11, 3) := by decide +kernel
theorem d_Sear_init_15 : decode b_Sear_init 15 = .ok (.putfield 14, 3) := by decide +kernel
theorem d_Sear_init_18 : decode b_Sear_init 18 = .ok (.aload_n 0, 1) := by decide +kernel
theorem d_Sear_init_19 : decode b_Sear_init 19 = .ok (.new 20, 3) := by decide +kernel
theorem d_Sear_init_22 : decode b_Sear_init 22 = .ok (.dup, 1) := by decide +kernel
theorem d_Sear_init_23 : decode b_Sear_init 23 = .ok (.invokespecial 22, 3) := by decide +kernel
theorem d_Sear_init_26 : decode b_Sear_init 26 = .ok (.putfield 23, 3) := by decide +kernel
theorem d_Sear_init_29 : decode b_Sear_init 29 = .ok (.aload_n 0, 1) := by decide +kernel
theorem d_Sear_init_30 : decode b_Sear_init 30 = .ok (.bipush 30, 2) := by decide +kernel
theorem d_Sear_init_32 : decode b_Sear_init 32 = .ok (.newarray .int, 2) := by decide +kernel
theorem d_Sear_init_34 : decode b_Sear_init 34 = .ok (.putfield 27, 3) := by decide +kernel
theorem d_Sear_init_37 : decode b_Sear_init 37 = .ok (.aload_n 0, 1) := by decide +kernel
theorem d_Sear_init_38 : decode b_Sear_init 38 = .ok (.aload_n 1, 1) := by decide +kernel
theorem d_Sear_init_39 : decode b_Sear_init 39 = .ok (.putfield 31, 3) := by decide +kernel
theorem d_Sear_init_42 : decode b_Sear_init 42 = .ok (.return_, 1) := by decide +kernel
abbrev b_Mods_init : ByteArray := prog_4_method_1_code
abbrev y_Mods_init : MethodName := ⟨"PlanClauses$Models", "<init>", "(LPlanClauses$Formula;)V"⟩
theorem Y_Mods_init : q_YC y_Mods_init b_Mods_init 2 1 := ⟨k_81, k_80, k_4, by decide +kernel, by decide +kernel, by decide +kernel⟩
theorem d_Mods_init_0 : decode b_Mods_init 0 = .ok (.aload_n 0, 1) := by decide +kernel
theorem d_Mods_init_1 : decode b_Mods_init 1 = .ok (.invokespecial 3, 3) := by decide +kernel
theorem d_Mods_init_4 : decode b_Mods_init 4 = .ok (.aload_n 0, 1) := by decide +kernel
theorem d_Mods_init_5 : decode b_Mods_init 5 = .ok (.bipush 60, 2) := by decide +kernel
theorem d_Mods_init_7 : decode b_Mods_init 7 = .ok (.newarray .int, 2) := by decide +kernel
theorem d_Mods_init_9 : decode b_Mods_init 9 = .ok (.putfield 9, 3) := by decide +kernel
theorem d_Mods_init_12 : decode b_Mods_init 12 = .ok (.aload_n 0, 1) := by decide +kernel
theorem d_Mods_init_13 : decode b_Mods_init 13 = .ok (.aload_n 1, 1) := by decide +kernel
theorem d_Mods_init_14 : decode b_Mods_init 14 = .ok (.putfield 15, 3) := by decide +kernel
theorem d_Mods_init_17 : decode b_Mods_init 17 = .ok (.aload_n 0, 1) := by decide +kernel
theorem d_Mods_init_18 : decode b_Mods_init 18 = .ok (.new 19, 3) := by decide +kernel
theorem d_Mods_init_21 : decode b_Mods_init 21 = .ok (.dup, 1) := by decide +kernel
theorem d_Mods_init_22 : decode b_Mods_init 22 = .ok (.aload_n 1, 1) := by decide +kernel
theorem d_Mods_init_23 : decode b_Mods_init 23 = .ok (.invokespecial 21, 3) := by decide +kernel
theorem d_Mods_init_26 : decode b_Mods_init 26 = .ok (.putfield 24, 3) := by decide +kernel
theorem d_Mods_init_29 : decode b_Mods_init 29 = .ok (.return_, 1) := by decide +kernel
abbrev b_Task_init : ByteArray := prog_7_method_1_code
abbrev y_Task_init : MethodName := ⟨"PlanClauses$Task", "<init>", "()V"⟩
theorem Y_Task_init : q_YC y_Task_init b_Task_init 1 0 := ⟨k_185, k_184, k_7, by decide +kernel, by decide +kernel, by decide +kernel⟩
theorem d_Task_init_0 : decode b_Task_init 0 = .ok (.aload_n 0, 1) := by decide +kernel
theorem d_Task_init_1 : decode b_Task_init 1 = .ok (.invokespecial 3, 3) := by decide +kernel
theorem d_Task_init_4 : decode b_Task_init 4 = .ok (.aload_n 0, 1) := by decide +kernel
theorem d_Task_init_5 : decode b_Task_init 5 = .ok (.iconst 5, 1) := by decide +kernel
theorem d_Task_init_6 : decode b_Task_init 6 = .ok (.newarray .int, 2) := by decide +kernel
theorem d_Task_init_8 : decode b_Task_init 8 = .ok (.putfield 9, 3) := by decide +kernel
theorem d_Task_init_11 : decode b_Task_init 11 = .ok (.aload_n 0, 1) := by decide +kernel
theorem d_Task_init_12 : decode b_Task_init 12 = .ok (.iconst 5, 1) := by decide +kernel
theorem d_Task_init_13 : decode b_Task_init 13 = .ok (.newarray .int, 2) := by decide +kernel
theorem d_Task_init_15 : decode b_Task_init 15 = .ok (.putfield 15, 3) := by decide +kernel
theorem d_Task_init_18 : decode b_Task_init 18 = .ok (.aload_n 0, 1) := by decide +kernel
theorem d_Task_init_19 : decode b_Task_init 19 = .ok (.iconst 5, 1) := by decide +kernel
theorem d_Task_init_20 : decode b_Task_init 20 = .ok (.newarray .int, 2) := by decide +kernel
theorem d_Task_init_22 : decode b_Task_init 22 = .ok (.putfield 18, 3) := by decide +kernel
theorem d_Task_init_25 : decode b_Task_init 25 = .ok (.aload_n 0, 1) := by decide +kernel
theorem d_Task_init_26 : decode b_Task_init 26 = .ok (.sipush 384, 3) := by decide +kernel
theorem d_Task_init_29 : decode b_Task_init 29 = .ok (.newarray .int, 2) := by decide +kernel
theorem d_Task_init_31 : decode b_Task_init 31 = .ok (.putfield 21, 3) := by decide +kernel
theorem d_Task_init_34 : decode b_Task_init 34 = .ok (.return_, 1) := by decide +kernel
abbrev b_Code_init : ByteArray := prog_2_method_1_code
abbrev y_Code_init : MethodName := ⟨"PlanClauses$Code", "<init>", "(LPlanClauses$Task;)V"⟩
theorem Y_Code_init : q_YC y_Code_init b_Code_init 2 1 := ⟨k_230, k_229, k_8, by decide +kernel, by decide +kernel, by decide +kernel⟩
theorem d_Code_init_0 : decode b_Code_init 0 = .ok (.aload_n 0, 1) := by decide +kernel
theorem d_Code_init_1 : decode b_Code_init 1 = .ok (.invokespecial 3, 3) := by decide +kernel
theorem d_Code_init_4 : decode b_Code_init 4 = .ok (.aload_n 0, 1) := by decide +kernel
theorem d_Code_init_5 : decode b_Code_init 5 = .ok (.sipush 982, 3) := by decide +kernel
theorem d_Code_init_8 : decode b_Code_init 8 = .ok (.newarray .int, 2) := by decide +kernel
theorem d_Code_init_10 : decode b_Code_init 10 = .ok (.putfield 9, 3) := by decide +kernel
theorem d_Code_init_13 : decode b_Code_init 13 = .ok (.aload_n 0, 1) := by decide +kernel
theorem d_Code_init_14 : decode b_Code_init 14 = .ok (.sipush 423, 3) := by decide +kernel
theorem d_Code_init_17 : decode b_Code_init 17 = .ok (.newarray .int, 2) := by decide +kernel
theorem d_Code_init_19 : decode b_Code_init 19 = .ok (.putfield 15, 3) := by decide +kernel
theorem d_Code_init_22 : decode b_Code_init 22 = .ok (.aload_n 0, 1) := by decide +kernel
theorem d_Code_init_23 : decode b_Code_init 23 = .ok (.aload_n 1, 1) := by decide +kernel
theorem d_Code_init_24 : decode b_Code_init 24 = .ok (.putfield 18, 3) := by decide +kernel
theorem d_Code_init_27 : decode b_Code_init 27 = .ok (.return_, 1) := by decide +kernel
abbrev b_PC_init : ByteArray := prog_1_method_1_code
abbrev y_PC_init : MethodName := ⟨"PlanClauses", "<init>", "()V"⟩
theorem Y_PC_init : q_YC y_PC_init b_PC_init 1 0 := ⟨k_16, k_15, k_1, by decide +kernel, by decide +kernel, by decide +kernel⟩
theorem d_PC_init_0 : decode b_PC_init 0 = .ok (.aload_n 0, 1) := by decide +kernel
theorem d_PC_init_1 : decode b_PC_init 1 = .ok (.invokespecial 3, 3) := by decide +kernel
theorem d_PC_init_4 : decode b_PC_init 4 = .ok (.aload_n 0, 1) := by decide +kernel
theorem d_PC_init_5 : decode b_PC_init 5 = .ok (.new 9, 3) := by decide +kernel
theorem d_PC_init_8 : decode b_PC_init 8 = .ok (.dup, 1) := by decide +kernel
theorem d_PC_init_9 : decode b_PC_init 9 = .ok (.invokespecial 11, 3) := by decide +kernel
theorem d_PC_init_12 : decode b_PC_init 12 = .ok (.putfield 12, 3) := by decide +kernel
theorem d_PC_init_15 : decode b_PC_init 15 = .ok (.aload_n 0, 1) := by decide +kernel
theorem d_PC_init_16 : decode b_PC_init 16 = .ok (.new 16, 3) := by decide +kernel
theorem d_PC_init_19 : decode b_PC_init 19 = .ok (.dup, 1) := by decide +kernel
theorem d_PC_init_20 : decode b_PC_init 20 = .ok (.aload_n 0, 1) := by decide +kernel
theorem d_PC_init_21 : decode b_PC_init 21 = .ok (.getfield 12, 3) := by decide +kernel
theorem d_PC_init_24 : decode b_PC_init 24 = .ok (.invokespecial 18, 3) := by decide +kernel
theorem d_PC_init_27 : decode b_PC_init 27 = .ok (.putfield 21, 3) := by decide +kernel
theorem d_PC_init_30 : decode b_PC_init 30 = .ok (.aload_n 0, 1) := by decide +kernel
theorem d_PC_init_31 : decode b_PC_init 31 = .ok (.new 25, 3) := by decide +kernel
theorem d_PC_init_34 : decode b_PC_init 34 = .ok (.dup, 1) := by decide +kernel
theorem d_PC_init_35 : decode b_PC_init 35 = .ok (.invokespecial 27, 3) := by decide +kernel
theorem d_PC_init_38 : decode b_PC_init 38 = .ok (.putfield 28, 3) := by decide +kernel
theorem d_PC_init_41 : decode b_PC_init 41 = .ok (.aload_n 0, 1) := by decide +kernel
theorem d_PC_init_42 : decode b_PC_init 42 = .ok (.new 32, 3) := by decide +kernel
theorem d_PC_init_45 : decode b_PC_init 45 = .ok (.dup, 1) := by decide +kernel
theorem d_PC_init_46 : decode b_PC_init 46 = .ok (.aload_n 0, 1) := by decide +kernel
theorem d_PC_init_47 : decode b_PC_init 47 = .ok (.getfield 28, 3) := by decide +kernel
theorem d_PC_init_50 : decode b_PC_init 50 = .ok (.invokespecial 34, 3) := by decide +kernel
theorem d_PC_init_53 : decode b_PC_init 53 = .ok (.putfield 37, 3) := by decide +kernel
theorem d_PC_init_56 : decode b_PC_init 56 = .ok (.return_, 1) := by decide +kernel
abbrev b_Ref_init : ByteArray := prog_10_method_1_code
abbrev y_Ref_init : MethodName := ⟨"PlanClausesModel", "<init>", "()V"⟩
theorem Y_Ref_init : q_YC y_Ref_init b_Ref_init 1 0 := ⟨k_620, k_619, k_9, by decide +kernel, by decide +kernel, by decide +kernel⟩
theorem d_Ref_init_0 : decode b_Ref_init 0 = .ok (.aload_n 0, 1) := by decide +kernel
theorem d_Ref_init_1 : decode b_Ref_init 1 = .ok (.invokespecial 1, 3) := by decide +kernel
theorem d_Ref_init_4 : decode b_Ref_init 4 = .ok (.aload_n 0, 1) := by decide +kernel
theorem d_Ref_init_5 : decode b_Ref_init 5 = .ok (.sipush 2400, 3) := by decide +kernel
theorem d_Ref_init_8 : decode b_Ref_init 8 = .ok (.newarray .int, 2) := by decide +kernel
theorem d_Ref_init_10 : decode b_Ref_init 10 = .ok (.putfield 7, 3) := by decide +kernel
theorem d_Ref_init_13 : decode b_Ref_init 13 = .ok (.aload_n 0, 1) := by decide +kernel
theorem d_Ref_init_14 : decode b_Ref_init 14 = .ok (.sipush 400, 3) := by decide +kernel
theorem d_Ref_init_17 : decode b_Ref_init 17 = .ok (.newarray .int, 2) := by decide +kernel
theorem d_Ref_init_19 : decode b_Ref_init 19 = .ok (.putfield 13, 3) := by decide +kernel
theorem d_Ref_init_22 : decode b_Ref_init 22 = .ok (.aload_n 0, 1) := by decide +kernel
theorem d_Ref_init_23 : decode b_Ref_init 23 = .ok (.sipush 400, 3) := by decide +kernel
theorem d_Ref_init_26 : decode b_Ref_init 26 = .ok (.newarray .int, 2) := by decide +kernel
theorem d_Ref_init_28 : decode b_Ref_init 28 = .ok (.putfield 16, 3) := by decide +kernel
theorem d_Ref_init_31 : decode b_Ref_init 31 = .ok (.aload_n 0, 1) := by decide +kernel
theorem d_Ref_init_32 : decode b_Ref_init 32 = .ok (.sipush 400, 3) := by decide +kernel
theorem d_Ref_init_35 : decode b_Ref_init 35 = .ok (.newarray .int, 2) := by decide +kernel
theorem d_Ref_init_37 : decode b_Ref_init 37 = .ok (.putfield 19, 3) := by decide +kernel
theorem d_Ref_init_40 : decode b_Ref_init 40 = .ok (.aload_n 0, 1) := by decide +kernel
theorem d_Ref_init_41 : decode b_Ref_init 41 = .ok (.bipush 6, 2) := by decide +kernel
theorem d_Ref_init_43 : decode b_Ref_init 43 = .ok (.newarray .int, 2) := by decide +kernel
theorem d_Ref_init_45 : decode b_Ref_init 45 = .ok (.putfield 22, 3) := by decide +kernel
theorem d_Ref_init_48 : decode b_Ref_init 48 = .ok (.aload_n 0, 1) := by decide +kernel
theorem d_Ref_init_49 : decode b_Ref_init 49 = .ok (.bipush 60, 2) := by decide +kernel
theorem d_Ref_init_51 : decode b_Ref_init 51 = .ok (.newarray .int, 2) := by decide +kernel
theorem d_Ref_init_53 : decode b_Ref_init 53 = .ok (.putfield 25, 3) := by decide +kernel
theorem d_Ref_init_56 : decode b_Ref_init 56 = .ok (.aload_n 0, 1) := by decide +kernel
theorem d_Ref_init_57 : decode b_Ref_init 57 = .ok (.iconst 5, 1) := by decide +kernel
theorem d_Ref_init_58 : decode b_Ref_init 58 = .ok (.newarray .int, 2) := by decide +kernel
theorem d_Ref_init_60 : decode b_Ref_init 60 = .ok (.putfield 28, 3) := by decide +kernel
theorem d_Ref_init_63 : decode b_Ref_init 63 = .ok (.aload_n 0, 1) := by decide +kernel
theorem d_Ref_init_64 : decode b_Ref_init 64 = .ok (.iconst 5, 1) := by decide +kernel
theorem d_Ref_init_65 : decode b_Ref_init 65 = .ok (.newarray .int, 2) := by decide +kernel
theorem d_Ref_init_67 : decode b_Ref_init 67 = .ok (.putfield 31, 3) := by decide +kernel
theorem d_Ref_init_70 : decode b_Ref_init 70 = .ok (.aload_n 0, 1) := by decide +kernel
theorem d_Ref_init_71 : decode b_Ref_init 71 = .ok (.iconst 5, 1) := by decide +kernel
theorem d_Ref_init_72 : decode b_Ref_init 72 = .ok (.newarray .int, 2) := by decide +kernel
theorem d_Ref_init_74 : decode b_Ref_init 74 = .ok (.putfield 34, 3) := by decide +kernel
theorem d_Ref_init_77 : decode b_Ref_init 77 = .ok (.aload_n 0, 1) := by decide +kernel
theorem d_Ref_init_78 : decode b_Ref_init 78 = .ok (.bipush 32, 2) := by decide +kernel
theorem d_Ref_init_80 : decode b_Ref_init 80 = .ok (.newarray .int, 2) := by decide +kernel
theorem d_Ref_init_82 : decode b_Ref_init 82 = .ok (.putfield 37, 3) := by decide +kernel
theorem d_Ref_init_85 : decode b_Ref_init 85 = .ok (.aload_n 0, 1) := by decide +kernel
theorem d_Ref_init_86 : decode b_Ref_init 86 = .ok (.bipush 32, 2) := by decide +kernel
theorem d_Ref_init_88 : decode b_Ref_init 88 = .ok (.newarray .int, 2) := by decide +kernel
theorem d_Ref_init_90 : decode b_Ref_init 90 = .ok (.putfield 40, 3) := by decide +kernel
theorem d_Ref_init_93 : decode b_Ref_init 93 = .ok (.aload_n 0, 1) := by decide +kernel
theorem d_Ref_init_94 : decode b_Ref_init 94 = .ok (.bipush 32, 2) := by decide +kernel
theorem d_Ref_init_96 : decode b_Ref_init 96 = .ok (.newarray .int, 2) := by decide +kernel
theorem d_Ref_init_98 : decode b_Ref_init 98 = .ok (.putfield 43, 3) := by decide +kernel
theorem d_Ref_init_101 : decode b_Ref_init 101 = .ok (.aload_n 0, 1) := by decide +kernel
theorem d_Ref_init_102 : decode b_Ref_init 102 = .ok (.bipush 32, 2) := by decide +kernel
theorem d_Ref_init_104 : decode b_Ref_init 104 = .ok (.newarray .int, 2) := by decide +kernel
theorem d_Ref_init_106 : decode b_Ref_init 106 = .ok (.putfield 46, 3) := by decide +kernel
theorem d_Ref_init_109 : decode b_Ref_init 109 = .ok (.aload_n 0, 1) := by decide +kernel
theorem d_Ref_init_110 : decode b_Ref_init 110 = .ok (.sipush 384, 3) := by decide +kernel
theorem d_Ref_init_113 : decode b_Ref_init 113 = .ok (.newarray .int, 2) := by decide +kernel
theorem d_Ref_init_115 : decode b_Ref_init 115 = .ok (.putfield 49, 3) := by decide +kernel
theorem d_Ref_init_118 : decode b_Ref_init 118 = .ok (.aload_n 0, 1) := by decide +kernel
theorem d_Ref_init_119 : decode b_Ref_init 119 = .ok (.bipush 12, 2) := by decide +kernel
theorem d_Ref_init_121 : decode b_Ref_init 121 = .ok (.newarray .int, 2) := by decide +kernel
theorem d_Ref_init_123 : decode b_Ref_init 123 = .ok (.putfield 52, 3) := by decide +kernel
theorem d_Ref_init_126 : decode b_Ref_init 126 = .ok (.aload_n 0, 1) := by decide +kernel
theorem d_Ref_init_127 : decode b_Ref_init 127 = .ok (.iconst 0, 1) := by decide +kernel
theorem d_Ref_init_128 : decode b_Ref_init 128 = .ok (.putfield 55, 3) := by decide +kernel
theorem d_Ref_init_131 : decode b_Ref_init 131 = .ok (.return_, 1) := by decide +kernel
set_option maxHeartbeats 4000000 in
set_option maxRecDepth 100000 in
theorem c_Rows_init (l : Launch) (dC : Nat → ClassId) (dI : Nat → Nat → Nat) (cA : ClassId) (h0 : Nat) (x1 : Int32) (rm : Nat) (hn1 : ¬ x1 < 0) (hn2 : x1.toNatClampNeg = rm) (hn3 : rm * 4 ≤ 536870912) (sz : Nat) :
    q_Mc l y_Rows_init b_Rows_init 2 2 (rm + rm) 1 12 [.ref h0, .int x1] dC dI cA [(h0, .inr (2, [.null, .null, .int 0, .int 0]))] (fun u : Nat → Nat => [(h0, .inr (2, [.ref (u 0), .ref (u 1), .int 0, .int 0])), (u 0, .inl (cA, rm, .inl (fun _ => 0))), (u 1, .inl (cA, rm, .inl (fun _ => 0)))]) sz (fun _ => True) := by
  refine q_metc (plainFor_of_name (by decide +kernel)) (Nat.le_of_ble_eq_true rfl) (fun {p e s m below meth c ls} C0 hin hne hl hH => ?_)
  obtain ⟨hx, hb, -⟩ := id C0
  have hA : ∀ q, s.heap.size ≤ q → va_A [(h0, .inr (2, [.null, .null, .int 0, .int 0]))] s.heap.size q := q_nA
  have hl : lv_has ls 2 [(0, .ref h0), (1, .int x1)] := hl
  have hH : q_H dC dI (va_A ([(h0, .inr (2, [.null, .null, .int 0, .int 0]))]) s.heap.size) s.heap s.heap [] [(h0, .inr (2, [.null, .null, .int 0, .int 0]))] := hH
  refine lv_aload_n hx hb d_Rows_init_0 rfl (lv_at hl 0 rfl) ?_
  refine q_obj C0 k_31 hl.1 d_Rows_init_1 (Nat.le_of_ble_eq_true rfl) (Nat.le_of_ble_eq_true rfl) ?_
  refine lv_aload_n hx hb d_Rows_init_4 rfl (lv_at hl 0 rfl) ?_
  refine lv_iload_n hx hb d_Rows_init_5 rfl (lv_at hl 1 rfl) ?_
  refine q_newi C0 hH hA rm hn1 hn2 hn3 (Nat.le_of_ble_eq_true rfl) (by show _ ≤ rm + rm; omega) d_Rows_init_6 (fun q1 H hH => ?_)
  have hH : q_H dC dI (va_A ([(h0, .inr (2, [.null, .null, .int 0, .int 0]))]) s.heap.size) s.heap H _ [(h0, .inr (2, [.null, .null, .int 0, .int 0])), (q1, .inl (cA, rm, .inl (fun _ => 0)))] := hH
  refine q_putr (ws' := [(h0, .inr (2, [.ref q1, .null, .int 0, .int 0])), (q1, .inl (cA, rm, .inl (fun _ => 0)))]) (ty := .array .int) C0 hH hin 0 rfl hc_2 0 (by decide) k_32 rfl rfl (by decide +kernel) rfl rfl (Nat.le_of_ble_eq_true rfl) rfl d_Rows_init_8 (fun H locs hH => ?_)
  refine lv_aload_n hx hb d_Rows_init_11 rfl (lv_at hl 0 rfl) ?_
  refine lv_iload_n hx hb d_Rows_init_12 rfl (lv_at hl 1 rfl) ?_
  refine q_newi C0 hH hA rm hn1 hn2 hn3 (Nat.le_of_ble_eq_true rfl) (by show _ ≤ rm + rm; omega) d_Rows_init_13 (fun q2 H hH => ?_)
  have hH : q_H dC dI (va_A ([(h0, .inr (2, [.null, .null, .int 0, .int 0]))]) s.heap.size) s.heap H _ [(h0, .inr (2, [.ref q1, .null, .int 0, .int 0])), (q1, .inl (cA, rm, .inl (fun _ => 0))), (q2, .inl (cA, rm, .inl (fun _ => 0)))] := hH
  refine q_putr (ws' := [(h0, .inr (2, [.ref q1, .ref q2, .int 0, .int 0])), (q1, .inl (cA, rm, .inl (fun _ => 0))), (q2, .inl (cA, rm, .inl (fun _ => 0)))]) (ty := .array .int) C0 hH hin 0 rfl hc_2 1 (by decide) k_34 rfl rfl (by decide +kernel) rfl rfl (Nat.le_of_ble_eq_true rfl) rfl d_Rows_init_15 (fun H locs hH => ?_)
  refine W.widen (k := 2) (n := rm + rm) (by omega) (by omega) ?_
  exact q_retc C0 hH (fun i => [q1, q2].getD i 0) rfl trivial d_Rows_init_18
set_option maxHeartbeats 4000000 in
set_option maxRecDepth 100000 in
theorem c_Form_init (l : Launch) (dC : Nat → ClassId) (dI : Nat → Nat → Nat) (cA : ClassId) (h0 : Nat) (sz : Nat) :
    q_Mc l y_Form_init b_Form_init 1 6 (6 + 2400 + 400 + 4 + 400 + 400) 2 33 [.ref h0] dC dI cA [(h0, .inr (1, [.int 0, .int 0, .null, .null, .null, .null]))] (fun u : Nat → Nat => [(h0, .inr (1, [.int 0, .int 0, .ref (u 0), .ref (u 1), .ref (u 2), .ref (u 3)])), (u 0, .inl (cA, 6, .inl (fun _ => 0))), (u 1, .inl (cA, 2400, .inl (fun _ => 0))), (u 2, .inl (cA, 400, .inl (fun _ => 0))), (u 3, .inr (2, [.ref (u 4), .ref (u 5), .int 0, .int 0])), (u 4, .inl (cA, 400, .inl (fun _ => 0))), (u 5, .inl (cA, 400, .inl (fun _ => 0)))]) sz (fun _ => True) := by
  refine q_metc (plainFor_of_name (by decide +kernel)) (Nat.le_of_ble_eq_true rfl) (fun {p e s m below meth c ls} C0 hin hne hl hH => ?_)
  obtain ⟨hx, hb, -⟩ := id C0
  have hA : ∀ q, s.heap.size ≤ q → va_A [(h0, .inr (1, [.int 0, .int 0, .null, .null, .null, .null]))] s.heap.size q := q_nA
  have hl : lv_has ls 1 [(0, .ref h0)] := hl
  have hH : q_H dC dI (va_A ([(h0, .inr (1, [.int 0, .int 0, .null, .null, .null, .null]))]) s.heap.size) s.heap s.heap [] [(h0, .inr (1, [.int 0, .int 0, .null, .null, .null, .null]))] := hH
  refine lv_aload_n hx hb d_Form_init_0 rfl (lv_at hl 0 rfl) ?_
  refine q_obj C0 k_25 hl.1 d_Form_init_1 (Nat.le_of_ble_eq_true rfl) (Nat.le_of_ble_eq_true rfl) ?_
  refine lv_aload_n hx hb d_Form_init_4 rfl (lv_at hl 0 rfl) ?_
  refine lv_bipush (v := 6) hx hb d_Form_init_5 (by decide) ?_
  refine q_newi C0 hH hA 6 (by decide) (by decide) (Nat.le_of_ble_eq_true rfl) (Nat.le_of_ble_eq_true rfl) (Nat.le_of_ble_eq_true rfl) d_Form_init_7 (fun q1 H hH => ?_)
  have hH : q_H dC dI (va_A ([(h0, .inr (1, [.int 0, .int 0, .null, .null, .null, .null]))]) s.heap.size) s.heap H _ [(h0, .inr (1, [.int 0, .int 0, .null, .null, .null, .null])), (q1, .inl (cA, 6, .inl (fun _ => 0)))] := hH
  refine q_putr (ws' := [(h0, .inr (1, [.int 0, .int 0, .ref q1, .null, .null, .null])), (q1, .inl (cA, 6, .inl (fun _ => 0)))]) (ty := .array .int) C0 hH hin 0 rfl hc_1 2 (by decide) k_56 rfl rfl (by decide +kernel) rfl rfl (Nat.le_of_ble_eq_true rfl) rfl d_Form_init_9 (fun H locs hH => ?_)
  refine lv_aload_n hx hb d_Form_init_12 rfl (lv_at hl 0 rfl) ?_
  refine lv_sipush (v := 2400) hx hb d_Form_init_13 (by decide) ?_
  refine q_newi C0 hH hA 2400 (by decide) (by decide) (Nat.le_of_ble_eq_true rfl) (Nat.le_of_ble_eq_true rfl) (Nat.le_of_ble_eq_true rfl) d_Form_init_16 (fun q2 H hH => ?_)
  have hH : q_H dC dI (va_A ([(h0, .inr (1, [.int 0, .int 0, .null, .null, .null, .null]))]) s.heap.size) s.heap H _ [(h0, .inr (1, [.int 0, .int 0, .ref q1, .null, .null, .null])), (q1, .inl (cA, 6, .inl (fun _ => 0))), (q2, .inl (cA, 2400, .inl (fun _ => 0)))] := hH
  refine q_putr (ws' := [(h0, .inr (1, [.int 0, .int 0, .ref q1, .ref q2, .null, .null])), (q1, .inl (cA, 6, .inl (fun _ => 0))), (q2, .inl (cA, 2400, .inl (fun _ => 0)))]) (ty := .array .int) C0 hH hin 0 rfl hc_1 3 (by decide) k_57 rfl rfl (by decide +kernel) rfl rfl (Nat.le_of_ble_eq_true rfl) rfl d_Form_init_18 (fun H locs hH => ?_)
  refine lv_aload_n hx hb d_Form_init_21 rfl (lv_at hl 0 rfl) ?_
  refine lv_sipush (v := 400) hx hb d_Form_init_22 (by decide) ?_
  refine q_newi C0 hH hA 400 (by decide) (by decide) (Nat.le_of_ble_eq_true rfl) (Nat.le_of_ble_eq_true rfl) (Nat.le_of_ble_eq_true rfl) d_Form_init_25 (fun q3 H hH => ?_)
  have hH : q_H dC dI (va_A ([(h0, .inr (1, [.int 0, .int 0, .null, .null, .null, .null]))]) s.heap.size) s.heap H _ [(h0, .inr (1, [.int 0, .int 0, .ref q1, .ref q2, .null, .null])), (q1, .inl (cA, 6, .inl (fun _ => 0))), (q2, .inl (cA, 2400, .inl (fun _ => 0))), (q3, .inl (cA, 400, .inl (fun _ => 0)))] := hH
  refine q_putr (ws' := [(h0, .inr (1, [.int 0, .int 0, .ref q1, .ref q2, .ref q3, .null])), (q1, .inl (cA, 6, .inl (fun _ => 0))), (q2, .inl (cA, 2400, .inl (fun _ => 0))), (q3, .inl (cA, 400, .inl (fun _ => 0)))]) (ty := .array .int) C0 hH hin 0 rfl hc_1 4 (by decide) k_58 rfl rfl (by decide +kernel) rfl rfl (Nat.le_of_ble_eq_true rfl) rfl d_Form_init_27 (fun H locs hH => ?_)
  refine lv_aload_n hx hb d_Form_init_30 rfl (lv_at hl 0 rfl) ?_
  refine q_newo (fs := [.null, .null, .int 0, .int 0]) C0 hH hA hc_2 t_Rows_ok k_26 k_27 k_3 rfl (Nat.le_of_ble_eq_true rfl) (Nat.le_of_ble_eq_true rfl) d_Form_init_31 (fun q4 H hH => ?_)
  have hH : q_H dC dI (va_A ([(h0, .inr (1, [.int 0, .int 0, .null, .null, .null, .null]))]) s.heap.size) s.heap H _ [(h0, .inr (1, [.int 0, .int 0, .ref q1, .ref q2, .ref q3, .null])), (q1, .inl (cA, 6, .inl (fun _ => 0))), (q2, .inl (cA, 2400, .inl (fun _ => 0))), (q3, .inl (cA, 400, .inl (fun _ => 0))), (q4, .inr (2, [.null, .null, .int 0, .int 0]))] := hH
  refine lv_dup hx hb d_Form_init_34 rfl ?_
  refine lv_sipush (v := 400) hx hb d_Form_init_35 (by decide) ?_
  refine q_ctor (rest := [.ref q4, .ref h0]) (isR := [0, 1, 2, 3]) C0 hne hH hA (c_Rows_init l dC dI cA q4 400 400 (by decide) (by decide) (Nat.le_of_ble_eq_true rfl) _) Y_Rows_init rfl k_28 (q_pc [4] [0, 1, 2, 3] 5 rfl (by decide) rfl) ⟨Nat.le_of_ble_eq_true rfl, Nat.le_of_ble_eq_true rfl⟩ rfl rfl (Nat.le_of_ble_eq_true rfl) hl.1 d_Form_init_38 ⟨Nat.le_of_ble_eq_true rfl, Nat.le_of_ble_eq_true rfl⟩ (fun u5 H locs _ hH => ?_)
  have hH : q_H dC dI (va_A ([(h0, .inr (1, [.int 0, .int 0, .null, .null, .null, .null]))]) s.heap.size) s.heap H locs [(h0, .inr (1, [.int 0, .int 0, .ref q1, .ref q2, .ref q3, .null])), (q1, .inl (cA, 6, .inl (fun _ => 0))), (q2, .inl (cA, 2400, .inl (fun _ => 0))), (q3, .inl (cA, 400, .inl (fun _ => 0))), (q4, .inr (2, [.ref (u5 0), .ref (u5 1), .int 0, .int 0])), (u5 0, .inl (cA, 400, .inl (fun _ => 0))), (u5 1, .inl (cA, 400, .inl (fun _ => 0)))] := hH
  refine q_putr (ws' := [(h0, .inr (1, [.int 0, .int 0, .ref q1, .ref q2, .ref q3, .ref q4])), (q1, .inl (cA, 6, .inl (fun _ => 0))), (q2, .inl (cA, 2400, .inl (fun _ => 0))), (q3, .inl (cA, 400, .inl (fun _ => 0))), (q4, .inr (2, [.ref (u5 0), .ref (u5 1), .int 0, .int 0])), (u5 0, .inl (cA, 400, .inl (fun _ => 0))), (u5 1, .inl (cA, 400, .inl (fun _ => 0)))]) (ty := .object "PlanClauses$Rows") C0 hH hin 0 rfl hc_1 5 (by decide) k_60 rfl rfl (by decide +kernel) rfl rfl (Nat.le_of_ble_eq_true rfl) rfl d_Form_init_41 (fun H locs hH => ?_)
  refine W.widen (k := 6) (n := 6 + 2400 + 400 + 4 + 400 + 400) (by omega) (by omega) ?_
  exact q_retc C0 hH (fun i => [q1, q2, q3, q4, u5 0, u5 1].getD i 0) rfl trivial d_Form_init_44
set_option maxHeartbeats 4000000 in
set_option maxRecDepth 100000 in
theorem c_Trail_init (l : Launch) (dC : Nat → ClassId) (dI : Nat → Nat → Nat) (cA : ClassId) (h0 : Nat) (sz : Nat) :
    q_Mc l y_Trail_init b_Trail_init 1 4 (30 + 30 + 30 + 32) 1 12 [.ref h0] dC dI cA [(h0, .inr (5, [.int 0, .int 0, .int 0, .int 0, .null, .null, .null, .null]))] (fun u : Nat → Nat => [(h0, .inr (5, [.int 0, .int 0, .int 0, .int 0, .ref (u 0), .ref (u 1), .ref (u 2), .ref (u 3)])), (u 0, .inl (cA, 30, .inl (fun _ => 0))), (u 1, .inl (cA, 30, .inl (fun _ => 0))), (u 2, .inl (cA, 30, .inl (fun _ => 0))), (u 3, .inl (cA, 32, .inl (fun _ => 0)))]) sz (fun _ => True) := by
  refine q_metc (plainFor_of_name (by decide +kernel)) (Nat.le_of_ble_eq_true rfl) (fun {p e s m below meth c ls} C0 hin hne hl hH => ?_)
  obtain ⟨hx, hb, -⟩ := id C0
  have hA : ∀ q, s.heap.size ≤ q → va_A [(h0, .inr (5, [.int 0, .int 0, .int 0, .int 0, .null, .null, .null, .null]))] s.heap.size q := q_nA
  have hl : lv_has ls 1 [(0, .ref h0)] := hl
  have hH : q_H dC dI (va_A ([(h0, .inr (5, [.int 0, .int 0, .int 0, .int 0, .null, .null, .null, .null]))]) s.heap.size) s.heap s.heap [] [(h0, .inr (5, [.int 0, .int 0, .int 0, .int 0, .null, .null, .null, .null]))] := hH
  refine lv_aload_n hx hb d_Trail_init_0 rfl (lv_at hl 0 rfl) ?_
  refine q_obj C0 k_96 hl.1 d_Trail_init_1 (Nat.le_of_ble_eq_true rfl) (Nat.le_of_ble_eq_true rfl) ?_
  refine lv_aload_n hx hb d_Trail_init_4 rfl (lv_at hl 0 rfl) ?_
  refine lv_bipush (v := 30) hx hb d_Trail_init_5 (by decide) ?_
  refine q_newi C0 hH hA 30 (by decide) (by decide) (Nat.le_of_ble_eq_true rfl) (Nat.le_of_ble_eq_true rfl) (Nat.le_of_ble_eq_true rfl) d_Trail_init_7 (fun q1 H hH => ?_)
  have hH : q_H dC dI (va_A ([(h0, .inr (5, [.int 0, .int 0, .int 0, .int 0, .null, .null, .null, .null]))]) s.heap.size) s.heap H _ [(h0, .inr (5, [.int 0, .int 0, .int 0, .int 0, .null, .null, .null, .null])), (q1, .inl (cA, 30, .inl (fun _ => 0)))] := hH
  refine q_putr (ws' := [(h0, .inr (5, [.int 0, .int 0, .int 0, .int 0, .ref q1, .null, .null, .null])), (q1, .inl (cA, 30, .inl (fun _ => 0)))]) (ty := .array .int) C0 hH hin 0 rfl hc_5 4 (by decide) k_105 rfl rfl (by decide +kernel) rfl rfl (Nat.le_of_ble_eq_true rfl) rfl d_Trail_init_9 (fun H locs hH => ?_)
  refine lv_aload_n hx hb d_Trail_init_12 rfl (lv_at hl 0 rfl) ?_
  refine lv_bipush (v := 30) hx hb d_Trail_init_13 (by decide) ?_
  refine q_newi C0 hH hA 30 (by decide) (by decide) (Nat.le_of_ble_eq_true rfl) (Nat.le_of_ble_eq_true rfl) (Nat.le_of_ble_eq_true rfl) d_Trail_init_15 (fun q2 H hH => ?_)
  have hH : q_H dC dI (va_A ([(h0, .inr (5, [.int 0, .int 0, .int 0, .int 0, .null, .null, .null, .null]))]) s.heap.size) s.heap H _ [(h0, .inr (5, [.int 0, .int 0, .int 0, .int 0, .ref q1, .null, .null, .null])), (q1, .inl (cA, 30, .inl (fun _ => 0))), (q2, .inl (cA, 30, .inl (fun _ => 0)))] := hH
  refine q_putr (ws' := [(h0, .inr (5, [.int 0, .int 0, .int 0, .int 0, .ref q1, .ref q2, .null, .null])), (q1, .inl (cA, 30, .inl (fun _ => 0))), (q2, .inl (cA, 30, .inl (fun _ => 0)))]) (ty := .array .int) C0 hH hin 0 rfl hc_5 5 (by decide) k_107 rfl rfl (by decide +kernel) rfl rfl (Nat.le_of_ble_eq_true rfl) rfl d_Trail_init_17 (fun H locs hH => ?_)
  refine lv_aload_n hx hb d_Trail_init_20 rfl (lv_at hl 0 rfl) ?_
  refine lv_bipush (v := 30) hx hb d_Trail_init_21 (by decide) ?_
  refine q_newi C0 hH hA 30 (by decide) (by decide) (Nat.le_of_ble_eq_true rfl) (Nat.le_of_ble_eq_true rfl) (Nat.le_of_ble_eq_true rfl) d_Trail_init_23 (fun q3 H hH => ?_)
  have hH : q_H dC dI (va_A ([(h0, .inr (5, [.int 0, .int 0, .int 0, .int 0, .null, .null, .null, .null]))]) s.heap.size) s.heap H _ [(h0, .inr (5, [.int 0, .int 0, .int 0, .int 0, .ref q1, .ref q2, .null, .null])), (q1, .inl (cA, 30, .inl (fun _ => 0))), (q2, .inl (cA, 30, .inl (fun _ => 0))), (q3, .inl (cA, 30, .inl (fun _ => 0)))] := hH
  refine q_putr (ws' := [(h0, .inr (5, [.int 0, .int 0, .int 0, .int 0, .ref q1, .ref q2, .ref q3, .null])), (q1, .inl (cA, 30, .inl (fun _ => 0))), (q2, .inl (cA, 30, .inl (fun _ => 0))), (q3, .inl (cA, 30, .inl (fun _ => 0)))]) (ty := .array .int) C0 hH hin 0 rfl hc_5 6 (by decide) k_109 rfl rfl (by decide +kernel) rfl rfl (Nat.le_of_ble_eq_true rfl) rfl d_Trail_init_25 (fun H locs hH => ?_)
  refine lv_aload_n hx hb d_Trail_init_28 rfl (lv_at hl 0 rfl) ?_
  refine lv_bipush (v := 32) hx hb d_Trail_init_29 (by decide) ?_
  refine q_newi C0 hH hA 32 (by decide) (by decide) (Nat.le_of_ble_eq_true rfl) (Nat.le_of_ble_eq_true rfl) (Nat.le_of_ble_eq_true rfl) d_Trail_init_31 (fun q4 H hH => ?_)
  have hH : q_H dC dI (va_A ([(h0, .inr (5, [.int 0, .int 0, .int 0, .int 0, .null, .null, .null, .null]))]) s.heap.size) s.heap H _ [(h0, .inr (5, [.int 0, .int 0, .int 0, .int 0, .ref q1, .ref q2, .ref q3, .null])), (q1, .inl (cA, 30, .inl (fun _ => 0))), (q2, .inl (cA, 30, .inl (fun _ => 0))), (q3, .inl (cA, 30, .inl (fun _ => 0))), (q4, .inl (cA, 32, .inl (fun _ => 0)))] := hH
  refine q_putr (ws' := [(h0, .inr (5, [.int 0, .int 0, .int 0, .int 0, .ref q1, .ref q2, .ref q3, .ref q4])), (q1, .inl (cA, 30, .inl (fun _ => 0))), (q2, .inl (cA, 30, .inl (fun _ => 0))), (q3, .inl (cA, 30, .inl (fun _ => 0))), (q4, .inl (cA, 32, .inl (fun _ => 0)))]) (ty := .array .int) C0 hH hin 0 rfl hc_5 7 (by decide) k_111 rfl rfl (by decide +kernel) rfl rfl (Nat.le_of_ble_eq_true rfl) rfl d_Trail_init_33 (fun H locs hH => ?_)
  refine W.widen (k := 4) (n := 30 + 30 + 30 + 32) (by omega) (by omega) ?_
  exact q_retc C0 hH (fun i => [q1, q2, q3, q4].getD i 0) rfl trivial d_Trail_init_36
set_option maxHeartbeats 4000000 in
set_option maxRecDepth 100000 in
theorem c_Sear_init (l : Launch) (dC : Nat → ClassId) (dI : Nat → Nat → Nat) (cA : ClassId) (h0 : Nat) (h1 : Nat) (sz : Nat) :
    q_Mc l y_Sear_init b_Sear_init 2 9 (4 + 2048 + 2048 + 8 + 30 + 30 + 30 + 32 + 30) 2 33 [.ref h0, .ref h1] dC dI cA [(h0, .inr (4, [.null, .null, .null, .null, .int 0, .int 0, .int 0, .int 0]))] (fun u : Nat → Nat => [(h0, .inr (4, [.ref h1, .ref (u 0), .ref (u 3), .ref (u 8), .int 0, .int 0, .int 0, .int 0])), (u 0, .inr (2, [.ref (u 1), .ref (u 2), .int 0, .int 0])), (u 1, .inl (cA, 2048, .inl (fun _ => 0))), (u 2, .inl (cA, 2048, .inl (fun _ => 0))), (u 3, .inr (5, [.int 0, .int 0, .int 0, .int 0, .ref (u 4), .ref (u 5), .ref (u 6), .ref (u 7)])), (u 4, .inl (cA, 30, .inl (fun _ => 0))), (u 5, .inl (cA, 30, .inl (fun _ => 0))), (u 6, .inl (cA, 30, .inl (fun _ => 0))), (u 7, .inl (cA, 32, .inl (fun _ => 0))), (u 8, .inl (cA, 30, .inl (fun _ => 0)))]) sz (fun _ => True) := by
  refine q_metc (plainFor_of_name (by decide +kernel)) (Nat.le_of_ble_eq_true rfl) (fun {p e s m below meth c ls} C0 hin hne hl hH => ?_)
  obtain ⟨hx, hb, -⟩ := id C0
  have hA : ∀ q, s.heap.size ≤ q → va_A [(h0, .inr (4, [.null, .null, .null, .null, .int 0, .int 0, .int 0, .int 0]))] s.heap.size q := q_nA
  have hl : lv_has ls 2 [(0, .ref h0), (1, .ref h1)] := hl
  have hH : q_H dC dI (va_A ([(h0, .inr (4, [.null, .null, .null, .null, .int 0, .int 0, .int 0, .int 0]))]) s.heap.size) s.heap s.heap [] [(h0, .inr (4, [.null, .null, .null, .null, .int 0, .int 0, .int 0, .int 0]))] := hH
  refine lv_aload_n hx hb d_Sear_init_0 rfl (lv_at hl 0 rfl) ?_
  refine q_obj C0 k_88 hl.1 d_Sear_init_1 (Nat.le_of_ble_eq_true rfl) (Nat.le_of_ble_eq_true rfl) ?_
  refine lv_aload_n hx hb d_Sear_init_4 rfl (lv_at hl 0 rfl) ?_
  refine q_newo (fs := [.null, .null, .int 0, .int 0]) C0 hH hA hc_2 t_Rows_ok k_89 k_27 k_3 rfl (Nat.le_of_ble_eq_true rfl) (Nat.le_of_ble_eq_true rfl) d_Sear_init_5 (fun q1 H hH => ?_)
  have hH : q_H dC dI (va_A ([(h0, .inr (4, [.null, .null, .null, .null, .int 0, .int 0, .int 0, .int 0]))]) s.heap.size) s.heap H _ [(h0, .inr (4, [.null, .null, .null, .null, .int 0, .int 0, .int 0, .int 0])), (q1, .inr (2, [.null, .null, .int 0, .int 0]))] := hH
  refine lv_dup hx hb d_Sear_init_8 rfl ?_
  refine lv_sipush (v := 2048) hx hb d_Sear_init_9 (by decide) ?_
  refine q_ctor (rest := [.ref q1, .ref h0]) (isR := [0]) C0 hne hH hA (c_Rows_init l dC dI cA q1 2048 2048 (by decide) (by decide) (Nat.le_of_ble_eq_true rfl) _) Y_Rows_init rfl k_90 (q_pc [1] [0] 2 rfl (by decide) rfl) ⟨Nat.le_of_ble_eq_true rfl, Nat.le_of_ble_eq_true rfl⟩ rfl rfl (Nat.le_of_ble_eq_true rfl) hl.1 d_Sear_init_12 ⟨Nat.le_of_ble_eq_true rfl, Nat.le_of_ble_eq_true rfl⟩ (fun u2 H locs _ hH => ?_)
  have hH : q_H dC dI (va_A ([(h0, .inr (4, [.null, .null, .null, .null, .int 0, .int 0, .int 0, .int 0]))]) s.heap.size) s.heap H locs [(h0, .inr (4, [.null, .null, .null, .null, .int 0, .int 0, .int 0, .int 0])), (q1, .inr (2, [.ref (u2 0), .ref (u2 1), .int 0, .int 0])), (u2 0, .inl (cA, 2048, .inl (fun _ => 0))), (u2 1, .inl (cA, 2048, .inl (fun _ => 0)))] := hH
  refine q_putr (ws' := [(h0, .inr (4, [.null, .ref q1, .null, .null, .int 0, .int 0, .int 0, .int 0])), (q1, .inr (2, [.ref (u2 0), .ref (u2 1), .int 0, .int 0])), (u2 0, .inl (cA, 2048, .inl (fun _ => 0))), (u2 1, .inl (cA, 2048, .inl (fun _ => 0)))]) (ty := .object "PlanClauses$Rows") C0 hH hin 0 rfl hc_4 1 (by decide) k_131 rfl rfl (by decide +kernel) rfl rfl (Nat.le_of_ble_eq_true rfl) rfl d_Sear_init_15 (fun H locs hH => ?_)
  refine lv_aload_n hx hb d_Sear_init_18 rfl (lv_at hl 0 rfl) ?_
  refine q_newo (fs := [.int 0, .int 0, .int 0, .int 0, .null, .null, .null, .null]) C0 hH hA hc_5 t_Trail_ok k_91 k_92 k_6 rfl (Nat.le_of_ble_eq_true rfl) (Nat.le_of_ble_eq_true rfl) d_Sear_init_19 (fun q3 H hH => ?_)
  have hH : q_H dC dI (va_A ([(h0, .inr (4, [.null, .null, .null, .null, .int 0, .int 0, .int 0, .int 0]))]) s.heap.size) s.heap H _ [(h0, .inr (4, [.null, .ref q1, .null, .null, .int 0, .int 0, .int 0, .int 0])), (q1, .inr (2, [.ref (u2 0), .ref (u2 1), .int 0, .int 0])), (u2 0, .inl (cA, 2048, .inl (fun _ => 0))), (u2 1, .inl (cA, 2048, .inl (fun _ => 0))), (q3, .inr (5, [.int 0, .int 0, .int 0, .int 0, .null, .null, .null, .null]))] := hH
  refine lv_dup hx hb d_Sear_init_22 rfl ?_
  refine q_ctorN (rest := [.ref q3, .ref h0]) (isR := [0, 1, 2, 3]) C0 hne hH hA (c_Trail_init l dC dI cA q3 _) Y_Trail_init rfl hne.2.1 (q_pc [4] [0, 1, 2, 3] 5 rfl (by decide) rfl) ⟨Nat.le_of_ble_eq_true rfl, Nat.le_of_ble_eq_true rfl⟩ rfl rfl (Nat.le_of_ble_eq_true rfl) hl.1 d_Sear_init_23 ⟨Nat.le_of_ble_eq_true rfl, Nat.le_of_ble_eq_true rfl⟩ (fun u4 H locs _ hH => ?_)
  have hH : q_H dC dI (va_A ([(h0, .inr (4, [.null, .null, .null, .null, .int 0, .int 0, .int 0, .int 0]))]) s.heap.size) s.heap H locs [(h0, .inr (4, [.null, .ref q1, .null, .null, .int 0, .int 0, .int 0, .int 0])), (q1, .inr (2, [.ref (u2 0), .ref (u2 1), .int 0, .int 0])), (u2 0, .inl (cA, 2048, .inl (fun _ => 0))), (u2 1, .inl (cA, 2048, .inl (fun _ => 0))), (q3, .inr (5, [.int 0, .int 0, .int 0, .int 0, .ref (u4 0), .ref (u4 1), .ref (u4 2), .ref (u4 3)])), (u4 0, .inl (cA, 30, .inl (fun _ => 0))), (u4 1, .inl (cA, 30, .inl (fun _ => 0))), (u4 2, .inl (cA, 30, .inl (fun _ => 0))), (u4 3, .inl (cA, 32, .inl (fun _ => 0)))] := hH
  refine q_putr (ws' := [(h0, .inr (4, [.null, .ref q1, .ref q3, .null, .int 0, .int 0, .int 0, .int 0])), (q1, .inr (2, [.ref (u2 0), .ref (u2 1), .int 0, .int 0])), (u2 0, .inl (cA, 2048, .inl (fun _ => 0))), (u2 1, .inl (cA, 2048, .inl (fun _ => 0))), (q3, .inr (5, [.int 0, .int 0, .int 0, .int 0, .ref (u4 0), .ref (u4 1), .ref (u4 2), .ref (u4 3)])), (u4 0, .inl (cA, 30, .inl (fun _ => 0))), (u4 1, .inl (cA, 30, .inl (fun _ => 0))), (u4 2, .inl (cA, 30, .inl (fun _ => 0))), (u4 3, .inl (cA, 32, .inl (fun _ => 0)))]) (ty := .object "PlanClauses$Trail") C0 hH hin 0 rfl hc_4 2 (by decide) k_132 rfl rfl (by decide +kernel) rfl rfl (Nat.le_of_ble_eq_true rfl) rfl d_Sear_init_26 (fun H locs hH => ?_)
  refine lv_aload_n hx hb d_Sear_init_29 rfl (lv_at hl 0 rfl) ?_
  refine lv_bipush (v := 30) hx hb d_Sear_init_30 (by decide) ?_
  refine q_newi C0 hH hA 30 (by decide) (by decide) (Nat.le_of_ble_eq_true rfl) (Nat.le_of_ble_eq_true rfl) (Nat.le_of_ble_eq_true rfl) d_Sear_init_32 (fun q5 H hH => ?_)
  have hH : q_H dC dI (va_A ([(h0, .inr (4, [.null, .null, .null, .null, .int 0, .int 0, .int 0, .int 0]))]) s.heap.size) s.heap H _ [(h0, .inr (4, [.null, .ref q1, .ref q3, .null, .int 0, .int 0, .int 0, .int 0])), (q1, .inr (2, [.ref (u2 0), .ref (u2 1), .int 0, .int 0])), (u2 0, .inl (cA, 2048, .inl (fun _ => 0))), (u2 1, .inl (cA, 2048, .inl (fun _ => 0))), (q3, .inr (5, [.int 0, .int 0, .int 0, .int 0, .ref (u4 0), .ref (u4 1), .ref (u4 2), .ref (u4 3)])), (u4 0, .inl (cA, 30, .inl (fun _ => 0))), (u4 1, .inl (cA, 30, .inl (fun _ => 0))), (u4 2, .inl (cA, 30, .inl (fun _ => 0))), (u4 3, .inl (cA, 32, .inl (fun _ => 0))), (q5, .inl (cA, 30, .inl (fun _ => 0)))] := hH
  refine q_putr (ws' := [(h0, .inr (4, [.null, .ref q1, .ref q3, .ref q5, .int 0, .int 0, .int 0, .int 0])), (q1, .inr (2, [.ref (u2 0), .ref (u2 1), .int 0, .int 0])), (u2 0, .inl (cA, 2048, .inl (fun _ => 0))), (u2 1, .inl (cA, 2048, .inl (fun _ => 0))), (q3, .inr (5, [.int 0, .int 0, .int 0, .int 0, .ref (u4 0), .ref (u4 1), .ref (u4 2), .ref (u4 3)])), (u4 0, .inl (cA, 30, .inl (fun _ => 0))), (u4 1, .inl (cA, 30, .inl (fun _ => 0))), (u4 2, .inl (cA, 30, .inl (fun _ => 0))), (u4 3, .inl (cA, 32, .inl (fun _ => 0))), (q5, .inl (cA, 30, .inl (fun _ => 0)))]) (ty := .array .int) C0 hH hin 0 rfl hc_4 3 (by decide) k_133 rfl rfl (by decide +kernel) rfl rfl (Nat.le_of_ble_eq_true rfl) rfl d_Sear_init_34 (fun H locs hH => ?_)
  refine lv_aload_n hx hb d_Sear_init_37 rfl (lv_at hl 0 rfl) ?_
  refine lv_aload_n hx hb d_Sear_init_38 rfl (lv_at hl 1 rfl) ?_
  refine q_putr (ws' := [(h0, .inr (4, [.ref h1, .ref q1, .ref q3, .ref q5, .int 0, .int 0, .int 0, .int 0])), (q1, .inr (2, [.ref (u2 0), .ref (u2 1), .int 0, .int 0])), (u2 0, .inl (cA, 2048, .inl (fun _ => 0))), (u2 1, .inl (cA, 2048, .inl (fun _ => 0))), (q3, .inr (5, [.int 0, .int 0, .int 0, .int 0, .ref (u4 0), .ref (u4 1), .ref (u4 2), .ref (u4 3)])), (u4 0, .inl (cA, 30, .inl (fun _ => 0))), (u4 1, .inl (cA, 30, .inl (fun _ => 0))), (u4 2, .inl (cA, 30, .inl (fun _ => 0))), (u4 3, .inl (cA, 32, .inl (fun _ => 0))), (q5, .inl (cA, 30, .inl (fun _ => 0)))]) (ty := .object "PlanClauses$Formula") C0 hH hin 0 rfl hc_4 0 (by decide) k_130 rfl rfl (by decide +kernel) rfl rfl (Nat.le_of_ble_eq_true rfl) rfl d_Sear_init_39 (fun H locs hH => ?_)
  refine W.widen (k := 9) (n := 4 + 2048 + 2048 + 8 + 30 + 30 + 30 + 32 + 30) (by omega) (by omega) ?_
  exact q_retc C0 hH (fun i => [q1, u2 0, u2 1, q3, u4 0, u4 1, u4 2, u4 3, q5].getD i 0) rfl trivial d_Sear_init_42
set_option maxHeartbeats 4000000 in
set_option maxRecDepth 100000 in
theorem c_Mods_init (l : Launch) (dC : Nat → ClassId) (dI : Nat → Nat → Nat) (cA : ClassId) (h0 : Nat) (h1 : Nat) (sz : Nat) :
    q_Mc l y_Mods_init b_Mods_init 2 11 (60 + 8 + 4 + 2048 + 2048 + 8 + 30 + 30 + 30 + 32 + 30) 3 54 [.ref h0, .ref h1] dC dI cA [(h0, .inr (3, [.null, .null, .null, .int 0, .int 0, .int 0, .int 0, .int 0]))] (fun u : Nat → Nat => [(h0, .inr (3, [.ref h1, .ref (u 1), .ref (u 0), .int 0, .int 0, .int 0, .int 0, .int 0])), (u 0, .inl (cA, 60, .inl (fun _ => 0))), (u 1, .inr (4, [.ref h1, .ref (u 2), .ref (u 5), .ref (u 10), .int 0, .int 0, .int 0, .int 0])), (u 2, .inr (2, [.ref (u 3), .ref (u 4), .int 0, .int 0])), (u 3, .inl (cA, 2048, .inl (fun _ => 0))), (u 4, .inl (cA, 2048, .inl (fun _ => 0))), (u 5, .inr (5, [.int 0, .int 0, .int 0, .int 0, .ref (u 6), .ref (u 7), .ref (u 8), .ref (u 9)])), (u 6, .inl (cA, 30, .inl (fun _ => 0))), (u 7, .inl (cA, 30, .inl (fun _ => 0))), (u 8, .inl (cA, 30, .inl (fun _ => 0))), (u 9, .inl (cA, 32, .inl (fun _ => 0))), (u 10, .inl (cA, 30, .inl (fun _ => 0)))]) sz (fun _ => True) := by
  refine q_metc (plainFor_of_name (by decide +kernel)) (Nat.le_of_ble_eq_true rfl) (fun {p e s m below meth c ls} C0 hin hne hl hH => ?_)
  obtain ⟨hx, hb, -⟩ := id C0
  have hA : ∀ q, s.heap.size ≤ q → va_A [(h0, .inr (3, [.null, .null, .null, .int 0, .int 0, .int 0, .int 0, .int 0]))] s.heap.size q := q_nA
  have hl : lv_has ls 2 [(0, .ref h0), (1, .ref h1)] := hl
  have hH : q_H dC dI (va_A ([(h0, .inr (3, [.null, .null, .null, .int 0, .int 0, .int 0, .int 0, .int 0]))]) s.heap.size) s.heap s.heap [] [(h0, .inr (3, [.null, .null, .null, .int 0, .int 0, .int 0, .int 0, .int 0]))] := hH
  refine lv_aload_n hx hb d_Mods_init_0 rfl (lv_at hl 0 rfl) ?_
  refine q_obj C0 k_82 hl.1 d_Mods_init_1 (Nat.le_of_ble_eq_true rfl) (Nat.le_of_ble_eq_true rfl) ?_
  refine lv_aload_n hx hb d_Mods_init_4 rfl (lv_at hl 0 rfl) ?_
  refine lv_bipush (v := 60) hx hb d_Mods_init_5 (by decide) ?_
  refine q_newi C0 hH hA 60 (by decide) (by decide) (Nat.le_of_ble_eq_true rfl) (Nat.le_of_ble_eq_true rfl) (Nat.le_of_ble_eq_true rfl) d_Mods_init_7 (fun q1 H hH => ?_)
  have hH : q_H dC dI (va_A ([(h0, .inr (3, [.null, .null, .null, .int 0, .int 0, .int 0, .int 0, .int 0]))]) s.heap.size) s.heap H _ [(h0, .inr (3, [.null, .null, .null, .int 0, .int 0, .int 0, .int 0, .int 0])), (q1, .inl (cA, 60, .inl (fun _ => 0)))] := hH
  refine q_putr (ws' := [(h0, .inr (3, [.null, .null, .ref q1, .int 0, .int 0, .int 0, .int 0, .int 0])), (q1, .inl (cA, 60, .inl (fun _ => 0)))]) (ty := .array .int) C0 hH hin 0 rfl hc_3 2 (by decide) k_157 rfl rfl (by decide +kernel) rfl rfl (Nat.le_of_ble_eq_true rfl) rfl d_Mods_init_9 (fun H locs hH => ?_)
  refine lv_aload_n hx hb d_Mods_init_12 rfl (lv_at hl 0 rfl) ?_
  refine lv_aload_n hx hb d_Mods_init_13 rfl (lv_at hl 1 rfl) ?_
  refine q_putr (ws' := [(h0, .inr (3, [.ref h1, .null, .ref q1, .int 0, .int 0, .int 0, .int 0, .int 0])), (q1, .inl (cA, 60, .inl (fun _ => 0)))]) (ty := .object "PlanClauses$Formula") C0 hH hin 0 rfl hc_3 0 (by decide) k_155 rfl rfl (by decide +kernel) rfl rfl (Nat.le_of_ble_eq_true rfl) rfl d_Mods_init_14 (fun H locs hH => ?_)
  refine lv_aload_n hx hb d_Mods_init_17 rfl (lv_at hl 0 rfl) ?_
  refine q_newo (fs := [.null, .null, .null, .null, .int 0, .int 0, .int 0, .int 0]) C0 hH hA hc_4 t_Sear_ok k_83 k_84 k_5 rfl (Nat.le_of_ble_eq_true rfl) (Nat.le_of_ble_eq_true rfl) d_Mods_init_18 (fun q2 H hH => ?_)
  have hH : q_H dC dI (va_A ([(h0, .inr (3, [.null, .null, .null, .int 0, .int 0, .int 0, .int 0, .int 0]))]) s.heap.size) s.heap H _ [(h0, .inr (3, [.ref h1, .null, .ref q1, .int 0, .int 0, .int 0, .int 0, .int 0])), (q1, .inl (cA, 60, .inl (fun _ => 0))), (q2, .inr (4, [.null, .null, .null, .null, .int 0, .int 0, .int 0, .int 0]))] := hH
  refine lv_dup hx hb d_Mods_init_21 rfl ?_
  refine lv_aload_n hx hb d_Mods_init_22 rfl (lv_at hl 1 rfl) ?_
  refine q_ctor (rest := [.ref q2, .ref h0]) (isR := [0, 1]) C0 hne hH hA (c_Sear_init l dC dI cA q2 h1 _) Y_Sear_init rfl k_85 (q_pc [2] [0, 1] 3 rfl (by decide) rfl) ⟨Nat.le_of_ble_eq_true rfl, Nat.le_of_ble_eq_true rfl⟩ rfl rfl (Nat.le_of_ble_eq_true rfl) hl.1 d_Mods_init_23 ⟨Nat.le_of_ble_eq_true rfl, Nat.le_of_ble_eq_true rfl⟩ (fun u3 H locs _ hH => ?_)
  have hH : q_H dC dI (va_A ([(h0, .inr (3, [.null, .null, .null, .int 0, .int 0, .int 0, .int 0, .int 0]))]) s.heap.size) s.heap H locs [(h0, .inr (3, [.ref h1, .null, .ref q1, .int 0, .int 0, .int 0, .int 0, .int 0])), (q1, .inl (cA, 60, .inl (fun _ => 0))), (q2, .inr (4, [.ref h1, .ref (u3 0), .ref (u3 3), .ref (u3 8), .int 0, .int 0, .int 0, .int 0])), (u3 0, .inr (2, [.ref (u3 1), .ref (u3 2), .int 0, .int 0])), (u3 1, .inl (cA, 2048, .inl (fun _ => 0))), (u3 2, .inl (cA, 2048, .inl (fun _ => 0))), (u3 3, .inr (5, [.int 0, .int 0, .int 0, .int 0, .ref (u3 4), .ref (u3 5), .ref (u3 6), .ref (u3 7)])), (u3 4, .inl (cA, 30, .inl (fun _ => 0))), (u3 5, .inl (cA, 30, .inl (fun _ => 0))), (u3 6, .inl (cA, 30, .inl (fun _ => 0))), (u3 7, .inl (cA, 32, .inl (fun _ => 0))), (u3 8, .inl (cA, 30, .inl (fun _ => 0)))] := hH
  refine q_putr (ws' := [(h0, .inr (3, [.ref h1, .ref q2, .ref q1, .int 0, .int 0, .int 0, .int 0, .int 0])), (q1, .inl (cA, 60, .inl (fun _ => 0))), (q2, .inr (4, [.ref h1, .ref (u3 0), .ref (u3 3), .ref (u3 8), .int 0, .int 0, .int 0, .int 0])), (u3 0, .inr (2, [.ref (u3 1), .ref (u3 2), .int 0, .int 0])), (u3 1, .inl (cA, 2048, .inl (fun _ => 0))), (u3 2, .inl (cA, 2048, .inl (fun _ => 0))), (u3 3, .inr (5, [.int 0, .int 0, .int 0, .int 0, .ref (u3 4), .ref (u3 5), .ref (u3 6), .ref (u3 7)])), (u3 4, .inl (cA, 30, .inl (fun _ => 0))), (u3 5, .inl (cA, 30, .inl (fun _ => 0))), (u3 6, .inl (cA, 30, .inl (fun _ => 0))), (u3 7, .inl (cA, 32, .inl (fun _ => 0))), (u3 8, .inl (cA, 30, .inl (fun _ => 0)))]) (ty := .object "PlanClauses$Search") C0 hH hin 0 rfl hc_3 1 (by decide) k_156 rfl rfl (by decide +kernel) rfl rfl (Nat.le_of_ble_eq_true rfl) rfl d_Mods_init_26 (fun H locs hH => ?_)
  refine W.widen (k := 11) (n := 60 + 8 + 4 + 2048 + 2048 + 8 + 30 + 30 + 30 + 32 + 30) (by omega) (by omega) ?_
  exact q_retc C0 hH (fun i => [q1, q2, u3 0, u3 1, u3 2, u3 3, u3 4, u3 5, u3 6, u3 7, u3 8].getD i 0) rfl trivial d_Mods_init_29
set_option maxHeartbeats 4000000 in
set_option maxRecDepth 100000 in
theorem c_Task_init (l : Launch) (dC : Nat → ClassId) (dI : Nat → Nat → Nat) (cA : ClassId) (h0 : Nat) (sz : Nat) :
    q_Mc l y_Task_init b_Task_init 1 4 (5 + 5 + 5 + 384) 1 12 [.ref h0] dC dI cA [(h0, .inr (6, [.int 0, .int 0, .int 0, .int 0, .null, .null, .null, .null, .int 0]))] (fun u : Nat → Nat => [(h0, .inr (6, [.int 0, .int 0, .int 0, .int 0, .ref (u 0), .ref (u 1), .ref (u 2), .ref (u 3), .int 0])), (u 0, .inl (cA, 5, .inl (fun _ => 0))), (u 1, .inl (cA, 5, .inl (fun _ => 0))), (u 2, .inl (cA, 5, .inl (fun _ => 0))), (u 3, .inl (cA, 384, .inl (fun _ => 0)))]) sz (fun _ => True) := by
  refine q_metc (plainFor_of_name (by decide +kernel)) (Nat.le_of_ble_eq_true rfl) (fun {p e s m below meth c ls} C0 hin hne hl hH => ?_)
  obtain ⟨hx, hb, -⟩ := id C0
  have hA : ∀ q, s.heap.size ≤ q → va_A [(h0, .inr (6, [.int 0, .int 0, .int 0, .int 0, .null, .null, .null, .null, .int 0]))] s.heap.size q := q_nA
  have hl : lv_has ls 1 [(0, .ref h0)] := hl
  have hH : q_H dC dI (va_A ([(h0, .inr (6, [.int 0, .int 0, .int 0, .int 0, .null, .null, .null, .null, .int 0]))]) s.heap.size) s.heap s.heap [] [(h0, .inr (6, [.int 0, .int 0, .int 0, .int 0, .null, .null, .null, .null, .int 0]))] := hH
  refine lv_aload_n hx hb d_Task_init_0 rfl (lv_at hl 0 rfl) ?_
  refine q_obj C0 k_186 hl.1 d_Task_init_1 (Nat.le_of_ble_eq_true rfl) (Nat.le_of_ble_eq_true rfl) ?_
  refine lv_aload_n hx hb d_Task_init_4 rfl (lv_at hl 0 rfl) ?_
  refine lv_iconst (v := 5) hx hb d_Task_init_5 (by decide) ?_
  refine q_newi C0 hH hA 5 (by decide) (by decide) (Nat.le_of_ble_eq_true rfl) (Nat.le_of_ble_eq_true rfl) (Nat.le_of_ble_eq_true rfl) d_Task_init_6 (fun q1 H hH => ?_)
  have hH : q_H dC dI (va_A ([(h0, .inr (6, [.int 0, .int 0, .int 0, .int 0, .null, .null, .null, .null, .int 0]))]) s.heap.size) s.heap H _ [(h0, .inr (6, [.int 0, .int 0, .int 0, .int 0, .null, .null, .null, .null, .int 0])), (q1, .inl (cA, 5, .inl (fun _ => 0)))] := hH
  refine q_putr (ws' := [(h0, .inr (6, [.int 0, .int 0, .int 0, .int 0, .ref q1, .null, .null, .null, .int 0])), (q1, .inl (cA, 5, .inl (fun _ => 0)))]) (ty := .array .int) C0 hH hin 0 rfl hc_6 4 (by decide) k_199 rfl rfl (by decide +kernel) rfl rfl (Nat.le_of_ble_eq_true rfl) rfl d_Task_init_8 (fun H locs hH => ?_)
  refine lv_aload_n hx hb d_Task_init_11 rfl (lv_at hl 0 rfl) ?_
  refine lv_iconst (v := 5) hx hb d_Task_init_12 (by decide) ?_
  refine q_newi C0 hH hA 5 (by decide) (by decide) (Nat.le_of_ble_eq_true rfl) (Nat.le_of_ble_eq_true rfl) (Nat.le_of_ble_eq_true rfl) d_Task_init_13 (fun q2 H hH => ?_)
  have hH : q_H dC dI (va_A ([(h0, .inr (6, [.int 0, .int 0, .int 0, .int 0, .null, .null, .null, .null, .int 0]))]) s.heap.size) s.heap H _ [(h0, .inr (6, [.int 0, .int 0, .int 0, .int 0, .ref q1, .null, .null, .null, .int 0])), (q1, .inl (cA, 5, .inl (fun _ => 0))), (q2, .inl (cA, 5, .inl (fun _ => 0)))] := hH
  refine q_putr (ws' := [(h0, .inr (6, [.int 0, .int 0, .int 0, .int 0, .ref q1, .ref q2, .null, .null, .int 0])), (q1, .inl (cA, 5, .inl (fun _ => 0))), (q2, .inl (cA, 5, .inl (fun _ => 0)))]) (ty := .array .int) C0 hH hin 0 rfl hc_6 5 (by decide) k_201 rfl rfl (by decide +kernel) rfl rfl (Nat.le_of_ble_eq_true rfl) rfl d_Task_init_15 (fun H locs hH => ?_)
  refine lv_aload_n hx hb d_Task_init_18 rfl (lv_at hl 0 rfl) ?_
  refine lv_iconst (v := 5) hx hb d_Task_init_19 (by decide) ?_
  refine q_newi C0 hH hA 5 (by decide) (by decide) (Nat.le_of_ble_eq_true rfl) (Nat.le_of_ble_eq_true rfl) (Nat.le_of_ble_eq_true rfl) d_Task_init_20 (fun q3 H hH => ?_)
  have hH : q_H dC dI (va_A ([(h0, .inr (6, [.int 0, .int 0, .int 0, .int 0, .null, .null, .null, .null, .int 0]))]) s.heap.size) s.heap H _ [(h0, .inr (6, [.int 0, .int 0, .int 0, .int 0, .ref q1, .ref q2, .null, .null, .int 0])), (q1, .inl (cA, 5, .inl (fun _ => 0))), (q2, .inl (cA, 5, .inl (fun _ => 0))), (q3, .inl (cA, 5, .inl (fun _ => 0)))] := hH
  refine q_putr (ws' := [(h0, .inr (6, [.int 0, .int 0, .int 0, .int 0, .ref q1, .ref q2, .ref q3, .null, .int 0])), (q1, .inl (cA, 5, .inl (fun _ => 0))), (q2, .inl (cA, 5, .inl (fun _ => 0))), (q3, .inl (cA, 5, .inl (fun _ => 0)))]) (ty := .array .int) C0 hH hin 0 rfl hc_6 6 (by decide) k_203 rfl rfl (by decide +kernel) rfl rfl (Nat.le_of_ble_eq_true rfl) rfl d_Task_init_22 (fun H locs hH => ?_)
  refine lv_aload_n hx hb d_Task_init_25 rfl (lv_at hl 0 rfl) ?_
  refine lv_sipush (v := 384) hx hb d_Task_init_26 (by decide) ?_
  refine q_newi C0 hH hA 384 (by decide) (by decide) (Nat.le_of_ble_eq_true rfl) (Nat.le_of_ble_eq_true rfl) (Nat.le_of_ble_eq_true rfl) d_Task_init_29 (fun q4 H hH => ?_)
  have hH : q_H dC dI (va_A ([(h0, .inr (6, [.int 0, .int 0, .int 0, .int 0, .null, .null, .null, .null, .int 0]))]) s.heap.size) s.heap H _ [(h0, .inr (6, [.int 0, .int 0, .int 0, .int 0, .ref q1, .ref q2, .ref q3, .null, .int 0])), (q1, .inl (cA, 5, .inl (fun _ => 0))), (q2, .inl (cA, 5, .inl (fun _ => 0))), (q3, .inl (cA, 5, .inl (fun _ => 0))), (q4, .inl (cA, 384, .inl (fun _ => 0)))] := hH
  refine q_putr (ws' := [(h0, .inr (6, [.int 0, .int 0, .int 0, .int 0, .ref q1, .ref q2, .ref q3, .ref q4, .int 0])), (q1, .inl (cA, 5, .inl (fun _ => 0))), (q2, .inl (cA, 5, .inl (fun _ => 0))), (q3, .inl (cA, 5, .inl (fun _ => 0))), (q4, .inl (cA, 384, .inl (fun _ => 0)))]) (ty := .array .int) C0 hH hin 0 rfl hc_6 7 (by decide) k_205 rfl rfl (by decide +kernel) rfl rfl (Nat.le_of_ble_eq_true rfl) rfl d_Task_init_31 (fun H locs hH => ?_)
  refine W.widen (k := 4) (n := 5 + 5 + 5 + 384) (by omega) (by omega) ?_
  exact q_retc C0 hH (fun i => [q1, q2, q3, q4].getD i 0) rfl trivial d_Task_init_34
set_option maxHeartbeats 4000000 in
set_option maxRecDepth 100000 in
theorem c_Code_init (l : Launch) (dC : Nat → ClassId) (dI : Nat → Nat → Nat) (cA : ClassId) (h0 : Nat) (h1 : Nat) (sz : Nat) :
    q_Mc l y_Code_init b_Code_init 2 2 (982 + 423) 1 12 [.ref h0, .ref h1] dC dI cA [(h0, .inr (7, [.null, .null, .null, .int 0, .int 0, .int 0, .int 0]))] (fun u : Nat → Nat => [(h0, .inr (7, [.ref h1, .ref (u 0), .ref (u 1), .int 0, .int 0, .int 0, .int 0])), (u 0, .inl (cA, 982, .inl (fun _ => 0))), (u 1, .inl (cA, 423, .inl (fun _ => 0)))]) sz (fun _ => True) := by
  refine q_metc (plainFor_of_name (by decide +kernel)) (Nat.le_of_ble_eq_true rfl) (fun {p e s m below meth c ls} C0 hin hne hl hH => ?_)
  obtain ⟨hx, hb, -⟩ := id C0
  have hA : ∀ q, s.heap.size ≤ q → va_A [(h0, .inr (7, [.null, .null, .null, .int 0, .int 0, .int 0, .int 0]))] s.heap.size q := q_nA
  have hl : lv_has ls 2 [(0, .ref h0), (1, .ref h1)] := hl
  have hH : q_H dC dI (va_A ([(h0, .inr (7, [.null, .null, .null, .int 0, .int 0, .int 0, .int 0]))]) s.heap.size) s.heap s.heap [] [(h0, .inr (7, [.null, .null, .null, .int 0, .int 0, .int 0, .int 0]))] := hH
  refine lv_aload_n hx hb d_Code_init_0 rfl (lv_at hl 0 rfl) ?_
  refine q_obj C0 k_231 hl.1 d_Code_init_1 (Nat.le_of_ble_eq_true rfl) (Nat.le_of_ble_eq_true rfl) ?_
  refine lv_aload_n hx hb d_Code_init_4 rfl (lv_at hl 0 rfl) ?_
  refine lv_sipush (v := 982) hx hb d_Code_init_5 (by decide) ?_
  refine q_newi C0 hH hA 982 (by decide) (by decide) (Nat.le_of_ble_eq_true rfl) (Nat.le_of_ble_eq_true rfl) (Nat.le_of_ble_eq_true rfl) d_Code_init_8 (fun q1 H hH => ?_)
  have hH : q_H dC dI (va_A ([(h0, .inr (7, [.null, .null, .null, .int 0, .int 0, .int 0, .int 0]))]) s.heap.size) s.heap H _ [(h0, .inr (7, [.null, .null, .null, .int 0, .int 0, .int 0, .int 0])), (q1, .inl (cA, 982, .inl (fun _ => 0)))] := hH
  refine q_putr (ws' := [(h0, .inr (7, [.null, .ref q1, .null, .int 0, .int 0, .int 0, .int 0])), (q1, .inl (cA, 982, .inl (fun _ => 0)))]) (ty := .array .int) C0 hH hin 0 rfl hc_7 1 (by decide) k_233 rfl rfl (by decide +kernel) rfl rfl (Nat.le_of_ble_eq_true rfl) rfl d_Code_init_10 (fun H locs hH => ?_)
  refine lv_aload_n hx hb d_Code_init_13 rfl (lv_at hl 0 rfl) ?_
  refine lv_sipush (v := 423) hx hb d_Code_init_14 (by decide) ?_
  refine q_newi C0 hH hA 423 (by decide) (by decide) (Nat.le_of_ble_eq_true rfl) (Nat.le_of_ble_eq_true rfl) (Nat.le_of_ble_eq_true rfl) d_Code_init_17 (fun q2 H hH => ?_)
  have hH : q_H dC dI (va_A ([(h0, .inr (7, [.null, .null, .null, .int 0, .int 0, .int 0, .int 0]))]) s.heap.size) s.heap H _ [(h0, .inr (7, [.null, .ref q1, .null, .int 0, .int 0, .int 0, .int 0])), (q1, .inl (cA, 982, .inl (fun _ => 0))), (q2, .inl (cA, 423, .inl (fun _ => 0)))] := hH
  refine q_putr (ws' := [(h0, .inr (7, [.null, .ref q1, .ref q2, .int 0, .int 0, .int 0, .int 0])), (q1, .inl (cA, 982, .inl (fun _ => 0))), (q2, .inl (cA, 423, .inl (fun _ => 0)))]) (ty := .array .int) C0 hH hin 0 rfl hc_7 2 (by decide) k_234 rfl rfl (by decide +kernel) rfl rfl (Nat.le_of_ble_eq_true rfl) rfl d_Code_init_19 (fun H locs hH => ?_)
  refine lv_aload_n hx hb d_Code_init_22 rfl (lv_at hl 0 rfl) ?_
  refine lv_aload_n hx hb d_Code_init_23 rfl (lv_at hl 1 rfl) ?_
  refine q_putr (ws' := [(h0, .inr (7, [.ref h1, .ref q1, .ref q2, .int 0, .int 0, .int 0, .int 0])), (q1, .inl (cA, 982, .inl (fun _ => 0))), (q2, .inl (cA, 423, .inl (fun _ => 0)))]) (ty := .object "PlanClauses$Task") C0 hH hin 0 rfl hc_7 0 (by decide) k_232 rfl rfl (by decide +kernel) rfl rfl (Nat.le_of_ble_eq_true rfl) rfl d_Code_init_24 (fun H locs hH => ?_)
  refine W.widen (k := 2) (n := 982 + 423) (by omega) (by omega) ?_
  exact q_retc C0 hH (fun i => [q1, q2].getD i 0) rfl trivial d_Code_init_27
set_option maxHeartbeats 4000000 in
set_option maxRecDepth 100000 in
theorem c_PC_init (l : Launch) (dC : Nat → ClassId) (dI : Nat → Nat → Nat) (cA : ClassId) (h0 : Nat) (sz : Nat) :
    q_Mc l y_PC_init b_PC_init 1 27 (6 + 6 + 2400 + 400 + 4 + 400 + 400 + 8 + 60 + 8 + 4 + 2048 + 2048 + 8 + 30 + 30 + 30 + 32 + 30 + 9 + 5 + 5 + 5 + 384 + 7 + 982 + 423) 4 75 [.ref h0] dC dI cA [(h0, .inr (0, [.null, .null, .null, .null]))] (fun u : Nat → Nat => [(h0, .inr (0, [.ref (u 0), .ref (u 7), .ref (u 19), .ref (u 24)])), (u 0, .inr (1, [.int 0, .int 0, .ref (u 1), .ref (u 2), .ref (u 3), .ref (u 4)])), (u 1, .inl (cA, 6, .inl (fun _ => 0))), (u 2, .inl (cA, 2400, .inl (fun _ => 0))), (u 3, .inl (cA, 400, .inl (fun _ => 0))), (u 4, .inr (2, [.ref (u 5), .ref (u 6), .int 0, .int 0])), (u 5, .inl (cA, 400, .inl (fun _ => 0))), (u 6, .inl (cA, 400, .inl (fun _ => 0))), (u 7, .inr (3, [.ref (u 0), .ref (u 9), .ref (u 8), .int 0, .int 0, .int 0, .int 0, .int 0])), (u 8, .inl (cA, 60, .inl (fun _ => 0))), (u 9, .inr (4, [.ref (u 0), .ref (u 10), .ref (u 13), .ref (u 18), .int 0, .int 0, .int 0, .int 0])), (u 10, .inr (2, [.ref (u 11), .ref (u 12), .int 0, .int 0])), (u 11, .inl (cA, 2048, .inl (fun _ => 0))), (u 12, .inl (cA, 2048, .inl (fun _ => 0))), (u 13, .inr (5, [.int 0, .int 0, .int 0, .int 0, .ref (u 14), .ref (u 15), .ref (u 16), .ref (u 17)])), (u 14, .inl (cA, 30, .inl (fun _ => 0))), (u 15, .inl (cA, 30, .inl (fun _ => 0))), (u 16, .inl (cA, 30, .inl (fun _ => 0))), (u 17, .inl (cA, 32, .inl (fun _ => 0))), (u 18, .inl (cA, 30, .inl (fun _ => 0))), (u 19, .inr (6, [.int 0, .int 0, .int 0, .int 0, .ref (u 20), .ref (u 21), .ref (u 22), .ref (u 23), .int 0])), (u 20, .inl (cA, 5, .inl (fun _ => 0))), (u 21, .inl (cA, 5, .inl (fun _ => 0))), (u 22, .inl (cA, 5, .inl (fun _ => 0))), (u 23, .inl (cA, 384, .inl (fun _ => 0))), (u 24, .inr (7, [.ref (u 19), .ref (u 25), .ref (u 26), .int 0, .int 0, .int 0, .int 0])), (u 25, .inl (cA, 982, .inl (fun _ => 0))), (u 26, .inl (cA, 423, .inl (fun _ => 0)))]) sz (fun _ => True) := by
  refine q_metc (plainFor_of_name (by decide +kernel)) (Nat.le_of_ble_eq_true rfl) (fun {p e s m below meth c ls} C0 hin hne hl hH => ?_)
  obtain ⟨hx, hb, -⟩ := id C0
  have hA : ∀ q, s.heap.size ≤ q → va_A [(h0, .inr (0, [.null, .null, .null, .null]))] s.heap.size q := q_nA
  have hl : lv_has ls 1 [(0, .ref h0)] := hl
  have hH : q_H dC dI (va_A ([(h0, .inr (0, [.null, .null, .null, .null]))]) s.heap.size) s.heap s.heap [] [(h0, .inr (0, [.null, .null, .null, .null]))] := hH
  refine lv_aload_n hx hb d_PC_init_0 rfl (lv_at hl 0 rfl) ?_
  refine q_obj C0 k_17 hl.1 d_PC_init_1 (Nat.le_of_ble_eq_true rfl) (Nat.le_of_ble_eq_true rfl) ?_
  refine lv_aload_n hx hb d_PC_init_4 rfl (lv_at hl 0 rfl) ?_
  refine q_newo (fs := [.int 0, .int 0, .null, .null, .null, .null]) C0 hH hA hc_1 t_Form_ok k_20 k_21 k_2 rfl (Nat.le_of_ble_eq_true rfl) (Nat.le_of_ble_eq_true rfl) d_PC_init_5 (fun q1 H hH => ?_)
  have hH : q_H dC dI (va_A ([(h0, .inr (0, [.null, .null, .null, .null]))]) s.heap.size) s.heap H _ [(h0, .inr (0, [.null, .null, .null, .null])), (q1, .inr (1, [.int 0, .int 0, .null, .null, .null, .null]))] := hH
  refine lv_dup hx hb d_PC_init_8 rfl ?_
  refine q_ctorN (rest := [.ref q1, .ref h0]) (isR := [0]) C0 hne hH hA (c_Form_init l dC dI cA q1 _) Y_Form_init rfl hne.1 (q_pc [1] [0] 2 rfl (by decide) rfl) ⟨Nat.le_of_ble_eq_true rfl, Nat.le_of_ble_eq_true rfl⟩ rfl rfl (Nat.le_of_ble_eq_true rfl) hl.1 d_PC_init_9 ⟨Nat.le_of_ble_eq_true rfl, Nat.le_of_ble_eq_true rfl⟩ (fun u2 H locs _ hH => ?_)
  have hH : q_H dC dI (va_A ([(h0, .inr (0, [.null, .null, .null, .null]))]) s.heap.size) s.heap H locs [(h0, .inr (0, [.null, .null, .null, .null])), (q1, .inr (1, [.int 0, .int 0, .ref (u2 0), .ref (u2 1), .ref (u2 2), .ref (u2 3)])), (u2 0, .inl (cA, 6, .inl (fun _ => 0))), (u2 1, .inl (cA, 2400, .inl (fun _ => 0))), (u2 2, .inl (cA, 400, .inl (fun _ => 0))), (u2 3, .inr (2, [.ref (u2 4), .ref (u2 5), .int 0, .int 0])), (u2 4, .inl (cA, 400, .inl (fun _ => 0))), (u2 5, .inl (cA, 400, .inl (fun _ => 0)))] := hH
  refine q_putr (ws' := [(h0, .inr (0, [.ref q1, .null, .null, .null])), (q1, .inr (1, [.int 0, .int 0, .ref (u2 0), .ref (u2 1), .ref (u2 2), .ref (u2 3)])), (u2 0, .inl (cA, 6, .inl (fun _ => 0))), (u2 1, .inl (cA, 2400, .inl (fun _ => 0))), (u2 2, .inl (cA, 400, .inl (fun _ => 0))), (u2 3, .inr (2, [.ref (u2 4), .ref (u2 5), .int 0, .int 0])), (u2 4, .inl (cA, 400, .inl (fun _ => 0))), (u2 5, .inl (cA, 400, .inl (fun _ => 0)))]) (ty := .object "PlanClauses$Formula") C0 hH hin 0 rfl hc_0 0 (by decide) k_256 rfl rfl (by decide +kernel) rfl rfl (Nat.le_of_ble_eq_true rfl) rfl d_PC_init_12 (fun H locs hH => ?_)
  refine lv_aload_n hx hb d_PC_init_15 rfl (lv_at hl 0 rfl) ?_
  refine q_newo (fs := [.null, .null, .null, .int 0, .int 0, .int 0, .int 0, .int 0]) C0 hH hA hc_3 t_Mods_ok k_77 k_78 k_4 rfl (Nat.le_of_ble_eq_true rfl) (Nat.le_of_ble_eq_true rfl) d_PC_init_16 (fun q3 H hH => ?_)
  have hH : q_H dC dI (va_A ([(h0, .inr (0, [.null, .null, .null, .null]))]) s.heap.size) s.heap H _ [(h0, .inr (0, [.ref q1, .null, .null, .null])), (q1, .inr (1, [.int 0, .int 0, .ref (u2 0), .ref (u2 1), .ref (u2 2), .ref (u2 3)])), (u2 0, .inl (cA, 6, .inl (fun _ => 0))), (u2 1, .inl (cA, 2400, .inl (fun _ => 0))), (u2 2, .inl (cA, 400, .inl (fun _ => 0))), (u2 3, .inr (2, [.ref (u2 4), .ref (u2 5), .int 0, .int 0])), (u2 4, .inl (cA, 400, .inl (fun _ => 0))), (u2 5, .inl (cA, 400, .inl (fun _ => 0))), (q3, .inr (3, [.null, .null, .null, .int 0, .int 0, .int 0, .int 0, .int 0]))] := hH
  refine lv_dup hx hb d_PC_init_19 rfl ?_
  refine lv_aload_n hx hb d_PC_init_20 rfl (lv_at hl 0 rfl) ?_
  refine q_get (v := .ref q1) C0 hH 0 rfl hc_0 0 (by decide) k_256 rfl d_PC_init_21 ?_
  refine q_ctor (rest := [.ref q3, .ref h0]) (isR := [0, 1, 2, 3, 4, 5, 6, 7]) C0 hne hH hA (c_Mods_init l dC dI cA q3 q1 _) Y_Mods_init rfl k_79 (q_pc [8] [0, 1, 2, 3, 4, 5, 6, 7] 9 rfl (by decide) rfl) ⟨Nat.le_of_ble_eq_true rfl, Nat.le_of_ble_eq_true rfl⟩ rfl rfl (Nat.le_of_ble_eq_true rfl) hl.1 d_PC_init_24 ⟨Nat.le_of_ble_eq_true rfl, Nat.le_of_ble_eq_true rfl⟩ (fun u4 H locs _ hH => ?_)
  have hH : q_H dC dI (va_A ([(h0, .inr (0, [.null, .null, .null, .null]))]) s.heap.size) s.heap H locs [(h0, .inr (0, [.ref q1, .null, .null, .null])), (q1, .inr (1, [.int 0, .int 0, .ref (u2 0), .ref (u2 1), .ref (u2 2), .ref (u2 3)])), (u2 0, .inl (cA, 6, .inl (fun _ => 0))), (u2 1, .inl (cA, 2400, .inl (fun _ => 0))), (u2 2, .inl (cA, 400, .inl (fun _ => 0))), (u2 3, .inr (2, [.ref (u2 4), .ref (u2 5), .int 0, .int 0])), (u2 4, .inl (cA, 400, .inl (fun _ => 0))), (u2 5, .inl (cA, 400, .inl (fun _ => 0))), (q3, .inr (3, [.ref q1, .ref (u4 1), .ref (u4 0), .int 0, .int 0, .int 0, .int 0, .int 0])), (u4 0, .inl (cA, 60, .inl (fun _ => 0))), (u4 1, .inr (4, [.ref q1, .ref (u4 2), .ref (u4 5), .ref (u4 10), .int 0, .int 0, .int 0, .int 0])), (u4 2, .inr (2, [.ref (u4 3), .ref (u4 4), .int 0, .int 0])), (u4 3, .inl (cA, 2048, .inl (fun _ => 0))), (u4 4, .inl (cA, 2048, .inl (fun _ => 0))), (u4 5, .inr (5, [.int 0, .int 0, .int 0, .int 0, .ref (u4 6), .ref (u4 7), .ref (u4 8), .ref (u4 9)])), (u4 6, .inl (cA, 30, .inl (fun _ => 0))), (u4 7, .inl (cA, 30, .inl (fun _ => 0))), (u4 8, .inl (cA, 30, .inl (fun _ => 0))), (u4 9, .inl (cA, 32, .inl (fun _ => 0))), (u4 10, .inl (cA, 30, .inl (fun _ => 0)))] := hH
  refine q_putr (ws' := [(h0, .inr (0, [.ref q1, .ref q3, .null, .null])), (q1, .inr (1, [.int 0, .int 0, .ref (u2 0), .ref (u2 1), .ref (u2 2), .ref (u2 3)])), (u2 0, .inl (cA, 6, .inl (fun _ => 0))), (u2 1, .inl (cA, 2400, .inl (fun _ => 0))), (u2 2, .inl (cA, 400, .inl (fun _ => 0))), (u2 3, .inr (2, [.ref (u2 4), .ref (u2 5), .int 0, .int 0])), (u2 4, .inl (cA, 400, .inl (fun _ => 0))), (u2 5, .inl (cA, 400, .inl (fun _ => 0))), (q3, .inr (3, [.ref q1, .ref (u4 1), .ref (u4 0), .int 0, .int 0, .int 0, .int 0, .int 0])), (u4 0, .inl (cA, 60, .inl (fun _ => 0))), (u4 1, .inr (4, [.ref q1, .ref (u4 2), .ref (u4 5), .ref (u4 10), .int 0, .int 0, .int 0, .int 0])), (u4 2, .inr (2, [.ref (u4 3), .ref (u4 4), .int 0, .int 0])), (u4 3, .inl (cA, 2048, .inl (fun _ => 0))), (u4 4, .inl (cA, 2048, .inl (fun _ => 0))), (u4 5, .inr (5, [.int 0, .int 0, .int 0, .int 0, .ref (u4 6), .ref (u4 7), .ref (u4 8), .ref (u4 9)])), (u4 6, .inl (cA, 30, .inl (fun _ => 0))), (u4 7, .inl (cA, 30, .inl (fun _ => 0))), (u4 8, .inl (cA, 30, .inl (fun _ => 0))), (u4 9, .inl (cA, 32, .inl (fun _ => 0))), (u4 10, .inl (cA, 30, .inl (fun _ => 0)))]) (ty := .object "PlanClauses$Models") C0 hH hin 0 rfl hc_0 1 (by decide) k_257 rfl rfl (by decide +kernel) rfl rfl (Nat.le_of_ble_eq_true rfl) rfl d_PC_init_27 (fun H locs hH => ?_)
  refine lv_aload_n hx hb d_PC_init_30 rfl (lv_at hl 0 rfl) ?_
  refine q_newo (fs := [.int 0, .int 0, .int 0, .int 0, .null, .null, .null, .null, .int 0]) C0 hH hA hc_6 t_Task_ok k_181 k_182 k_7 rfl (Nat.le_of_ble_eq_true rfl) (Nat.le_of_ble_eq_true rfl) d_PC_init_31 (fun q5 H hH => ?_)
  have hH : q_H dC dI (va_A ([(h0, .inr (0, [.null, .null, .null, .null]))]) s.heap.size) s.heap H _ [(h0, .inr (0, [.ref q1, .ref q3, .null, .null])), (q1, .inr (1, [.int 0, .int 0, .ref (u2 0), .ref (u2 1), .ref (u2 2), .ref (u2 3)])), (u2 0, .inl (cA, 6, .inl (fun _ => 0))), (u2 1, .inl (cA, 2400, .inl (fun _ => 0))), (u2 2, .inl (cA, 400, .inl (fun _ => 0))), (u2 3, .inr (2, [.ref (u2 4), .ref (u2 5), .int 0, .int 0])), (u2 4, .inl (cA, 400, .inl (fun _ => 0))), (u2 5, .inl (cA, 400, .inl (fun _ => 0))), (q3, .inr (3, [.ref q1, .ref (u4 1), .ref (u4 0), .int 0, .int 0, .int 0, .int 0, .int 0])), (u4 0, .inl (cA, 60, .inl (fun _ => 0))), (u4 1, .inr (4, [.ref q1, .ref (u4 2), .ref (u4 5), .ref (u4 10), .int 0, .int 0, .int 0, .int 0])), (u4 2, .inr (2, [.ref (u4 3), .ref (u4 4), .int 0, .int 0])), (u4 3, .inl (cA, 2048, .inl (fun _ => 0))), (u4 4, .inl (cA, 2048, .inl (fun _ => 0))), (u4 5, .inr (5, [.int 0, .int 0, .int 0, .int 0, .ref (u4 6), .ref (u4 7), .ref (u4 8), .ref (u4 9)])), (u4 6, .inl (cA, 30, .inl (fun _ => 0))), (u4 7, .inl (cA, 30, .inl (fun _ => 0))), (u4 8, .inl (cA, 30, .inl (fun _ => 0))), (u4 9, .inl (cA, 32, .inl (fun _ => 0))), (u4 10, .inl (cA, 30, .inl (fun _ => 0))), (q5, .inr (6, [.int 0, .int 0, .int 0, .int 0, .null, .null, .null, .null, .int 0]))] := hH
  refine lv_dup hx hb d_PC_init_34 rfl ?_
  refine q_ctorN (rest := [.ref q5, .ref h0]) (isR := [0, 1, 2, 3, 4, 5, 6, 7, 8, 9, 10, 11, 12, 13, 14, 15, 16, 17, 18, 19]) C0 hne hH hA (c_Task_init l dC dI cA q5 _) Y_Task_init rfl hne.2.2 (q_pc [20] [0, 1, 2, 3, 4, 5, 6, 7, 8, 9, 10, 11, 12, 13, 14, 15, 16, 17, 18, 19] 21 rfl (by decide) rfl) ⟨Nat.le_of_ble_eq_true rfl, Nat.le_of_ble_eq_true rfl⟩ rfl rfl (Nat.le_of_ble_eq_true rfl) hl.1 d_PC_init_35 ⟨Nat.le_of_ble_eq_true rfl, Nat.le_of_ble_eq_true rfl⟩ (fun u6 H locs _ hH => ?_)
  have hH : q_H dC dI (va_A ([(h0, .inr (0, [.null, .null, .null, .null]))]) s.heap.size) s.heap H locs [(h0, .inr (0, [.ref q1, .ref q3, .null, .null])), (q1, .inr (1, [.int 0, .int 0, .ref (u2 0), .ref (u2 1), .ref (u2 2), .ref (u2 3)])), (u2 0, .inl (cA, 6, .inl (fun _ => 0))), (u2 1, .inl (cA, 2400, .inl (fun _ => 0))), (u2 2, .inl (cA, 400, .inl (fun _ => 0))), (u2 3, .inr (2, [.ref (u2 4), .ref (u2 5), .int 0, .int 0])), (u2 4, .inl (cA, 400, .inl (fun _ => 0))), (u2 5, .inl (cA, 400, .inl (fun _ => 0))), (q3, .inr (3, [.ref q1, .ref (u4 1), .ref (u4 0), .int 0, .int 0, .int 0, .int 0, .int 0])), (u4 0, .inl (cA, 60, .inl (fun _ => 0))), (u4 1, .inr (4, [.ref q1, .ref (u4 2), .ref (u4 5), .ref (u4 10), .int 0, .int 0, .int 0, .int 0])), (u4 2, .inr (2, [.ref (u4 3), .ref (u4 4), .int 0, .int 0])), (u4 3, .inl (cA, 2048, .inl (fun _ => 0))), (u4 4, .inl (cA, 2048, .inl (fun _ => 0))), (u4 5, .inr (5, [.int 0, .int 0, .int 0, .int 0, .ref (u4 6), .ref (u4 7), .ref (u4 8), .ref (u4 9)])), (u4 6, .inl (cA, 30, .inl (fun _ => 0))), (u4 7, .inl (cA, 30, .inl (fun _ => 0))), (u4 8, .inl (cA, 30, .inl (fun _ => 0))), (u4 9, .inl (cA, 32, .inl (fun _ => 0))), (u4 10, .inl (cA, 30, .inl (fun _ => 0))), (q5, .inr (6, [.int 0, .int 0, .int 0, .int 0, .ref (u6 0), .ref (u6 1), .ref (u6 2), .ref (u6 3), .int 0])), (u6 0, .inl (cA, 5, .inl (fun _ => 0))), (u6 1, .inl (cA, 5, .inl (fun _ => 0))), (u6 2, .inl (cA, 5, .inl (fun _ => 0))), (u6 3, .inl (cA, 384, .inl (fun _ => 0)))] := hH
  refine q_putr (ws' := [(h0, .inr (0, [.ref q1, .ref q3, .ref q5, .null])), (q1, .inr (1, [.int 0, .int 0, .ref (u2 0), .ref (u2 1), .ref (u2 2), .ref (u2 3)])), (u2 0, .inl (cA, 6, .inl (fun _ => 0))), (u2 1, .inl (cA, 2400, .inl (fun _ => 0))), (u2 2, .inl (cA, 400, .inl (fun _ => 0))), (u2 3, .inr (2, [.ref (u2 4), .ref (u2 5), .int 0, .int 0])), (u2 4, .inl (cA, 400, .inl (fun _ => 0))), (u2 5, .inl (cA, 400, .inl (fun _ => 0))), (q3, .inr (3, [.ref q1, .ref (u4 1), .ref (u4 0), .int 0, .int 0, .int 0, .int 0, .int 0])), (u4 0, .inl (cA, 60, .inl (fun _ => 0))), (u4 1, .inr (4, [.ref q1, .ref (u4 2), .ref (u4 5), .ref (u4 10), .int 0, .int 0, .int 0, .int 0])), (u4 2, .inr (2, [.ref (u4 3), .ref (u4 4), .int 0, .int 0])), (u4 3, .inl (cA, 2048, .inl (fun _ => 0))), (u4 4, .inl (cA, 2048, .inl (fun _ => 0))), (u4 5, .inr (5, [.int 0, .int 0, .int 0, .int 0, .ref (u4 6), .ref (u4 7), .ref (u4 8), .ref (u4 9)])), (u4 6, .inl (cA, 30, .inl (fun _ => 0))), (u4 7, .inl (cA, 30, .inl (fun _ => 0))), (u4 8, .inl (cA, 30, .inl (fun _ => 0))), (u4 9, .inl (cA, 32, .inl (fun _ => 0))), (u4 10, .inl (cA, 30, .inl (fun _ => 0))), (q5, .inr (6, [.int 0, .int 0, .int 0, .int 0, .ref (u6 0), .ref (u6 1), .ref (u6 2), .ref (u6 3), .int 0])), (u6 0, .inl (cA, 5, .inl (fun _ => 0))), (u6 1, .inl (cA, 5, .inl (fun _ => 0))), (u6 2, .inl (cA, 5, .inl (fun _ => 0))), (u6 3, .inl (cA, 384, .inl (fun _ => 0)))]) (ty := .object "PlanClauses$Task") C0 hH hin 0 rfl hc_0 2 (by decide) k_258 rfl rfl (by decide +kernel) rfl rfl (Nat.le_of_ble_eq_true rfl) rfl d_PC_init_38 (fun H locs hH => ?_)
  refine lv_aload_n hx hb d_PC_init_41 rfl (lv_at hl 0 rfl) ?_
  refine q_newo (fs := [.null, .null, .null, .int 0, .int 0, .int 0, .int 0]) C0 hH hA hc_7 t_Code_ok k_226 k_227 k_8 rfl (Nat.le_of_ble_eq_true rfl) (Nat.le_of_ble_eq_true rfl) d_PC_init_42 (fun q7 H hH => ?_)
  have hH : q_H dC dI (va_A ([(h0, .inr (0, [.null, .null, .null, .null]))]) s.heap.size) s.heap H _ [(h0, .inr (0, [.ref q1, .ref q3, .ref q5, .null])), (q1, .inr (1, [.int 0, .int 0, .ref (u2 0), .ref (u2 1), .ref (u2 2), .ref (u2 3)])), (u2 0, .inl (cA, 6, .inl (fun _ => 0))), (u2 1, .inl (cA, 2400, .inl (fun _ => 0))), (u2 2, .inl (cA, 400, .inl (fun _ => 0))), (u2 3, .inr (2, [.ref (u2 4), .ref (u2 5), .int 0, .int 0])), (u2 4, .inl (cA, 400, .inl (fun _ => 0))), (u2 5, .inl (cA, 400, .inl (fun _ => 0))), (q3, .inr (3, [.ref q1, .ref (u4 1), .ref (u4 0), .int 0, .int 0, .int 0, .int 0, .int 0])), (u4 0, .inl (cA, 60, .inl (fun _ => 0))), (u4 1, .inr (4, [.ref q1, .ref (u4 2), .ref (u4 5), .ref (u4 10), .int 0, .int 0, .int 0, .int 0])), (u4 2, .inr (2, [.ref (u4 3), .ref (u4 4), .int 0, .int 0])), (u4 3, .inl (cA, 2048, .inl (fun _ => 0))), (u4 4, .inl (cA, 2048, .inl (fun _ => 0))), (u4 5, .inr (5, [.int 0, .int 0, .int 0, .int 0, .ref (u4 6), .ref (u4 7), .ref (u4 8), .ref (u4 9)])), (u4 6, .inl (cA, 30, .inl (fun _ => 0))), (u4 7, .inl (cA, 30, .inl (fun _ => 0))), (u4 8, .inl (cA, 30, .inl (fun _ => 0))), (u4 9, .inl (cA, 32, .inl (fun _ => 0))), (u4 10, .inl (cA, 30, .inl (fun _ => 0))), (q5, .inr (6, [.int 0, .int 0, .int 0, .int 0, .ref (u6 0), .ref (u6 1), .ref (u6 2), .ref (u6 3), .int 0])), (u6 0, .inl (cA, 5, .inl (fun _ => 0))), (u6 1, .inl (cA, 5, .inl (fun _ => 0))), (u6 2, .inl (cA, 5, .inl (fun _ => 0))), (u6 3, .inl (cA, 384, .inl (fun _ => 0))), (q7, .inr (7, [.null, .null, .null, .int 0, .int 0, .int 0, .int 0]))] := hH
  refine lv_dup hx hb d_PC_init_45 rfl ?_
  refine lv_aload_n hx hb d_PC_init_46 rfl (lv_at hl 0 rfl) ?_
  refine q_get (v := .ref q5) C0 hH 0 rfl hc_0 2 (by decide) k_258 rfl d_PC_init_47 ?_
  refine q_ctor (rest := [.ref q7, .ref h0]) (isR := [0, 1, 2, 3, 4, 5, 6, 7, 8, 9, 10, 11, 12, 13, 14, 15, 16, 17, 18, 19, 20, 21, 22, 23, 24]) C0 hne hH hA (c_Code_init l dC dI cA q7 q5 _) Y_Code_init rfl k_228 (q_pc [25] [0, 1, 2, 3, 4, 5, 6, 7, 8, 9, 10, 11, 12, 13, 14, 15, 16, 17, 18, 19, 20, 21, 22, 23, 24] 26 rfl (by decide) rfl) ⟨Nat.le_of_ble_eq_true rfl, Nat.le_of_ble_eq_true rfl⟩ rfl rfl (Nat.le_of_ble_eq_true rfl) hl.1 d_PC_init_50 ⟨Nat.le_of_ble_eq_true rfl, Nat.le_of_ble_eq_true rfl⟩ (fun u8 H locs _ hH => ?_)
  have hH : q_H dC dI (va_A ([(h0, .inr (0, [.null, .null, .null, .null]))]) s.heap.size) s.heap H locs [(h0, .inr (0, [.ref q1, .ref q3, .ref q5, .null])), (q1, .inr (1, [.int 0, .int 0, .ref (u2 0), .ref (u2 1), .ref (u2 2), .ref (u2 3)])), (u2 0, .inl (cA, 6, .inl (fun _ => 0))), (u2 1, .inl (cA, 2400, .inl (fun _ => 0))), (u2 2, .inl (cA, 400, .inl (fun _ => 0))), (u2 3, .inr (2, [.ref (u2 4), .ref (u2 5), .int 0, .int 0])), (u2 4, .inl (cA, 400, .inl (fun _ => 0))), (u2 5, .inl (cA, 400, .inl (fun _ => 0))), (q3, .inr (3, [.ref q1, .ref (u4 1), .ref (u4 0), .int 0, .int 0, .int 0, .int 0, .int 0])), (u4 0, .inl (cA, 60, .inl (fun _ => 0))), (u4 1, .inr (4, [.ref q1, .ref (u4 2), .ref (u4 5), .ref (u4 10), .int 0, .int 0, .int 0, .int 0])), (u4 2, .inr (2, [.ref (u4 3), .ref (u4 4), .int 0, .int 0])), (u4 3, .inl (cA, 2048, .inl (fun _ => 0))), (u4 4, .inl (cA, 2048, .inl (fun _ => 0))), (u4 5, .inr (5, [.int 0, .int 0, .int 0, .int 0, .ref (u4 6), .ref (u4 7), .ref (u4 8), .ref (u4 9)])), (u4 6, .inl (cA, 30, .inl (fun _ => 0))), (u4 7, .inl (cA, 30, .inl (fun _ => 0))), (u4 8, .inl (cA, 30, .inl (fun _ => 0))), (u4 9, .inl (cA, 32, .inl (fun _ => 0))), (u4 10, .inl (cA, 30, .inl (fun _ => 0))), (q5, .inr (6, [.int 0, .int 0, .int 0, .int 0, .ref (u6 0), .ref (u6 1), .ref (u6 2), .ref (u6 3), .int 0])), (u6 0, .inl (cA, 5, .inl (fun _ => 0))), (u6 1, .inl (cA, 5, .inl (fun _ => 0))), (u6 2, .inl (cA, 5, .inl (fun _ => 0))), (u6 3, .inl (cA, 384, .inl (fun _ => 0))), (q7, .inr (7, [.ref q5, .ref (u8 0), .ref (u8 1), .int 0, .int 0, .int 0, .int 0])), (u8 0, .inl (cA, 982, .inl (fun _ => 0))), (u8 1, .inl (cA, 423, .inl (fun _ => 0)))] := hH
  refine q_putr (ws' := [(h0, .inr (0, [.ref q1, .ref q3, .ref q5, .ref q7])), (q1, .inr (1, [.int 0, .int 0, .ref (u2 0), .ref (u2 1), .ref (u2 2), .ref (u2 3)])), (u2 0, .inl (cA, 6, .inl (fun _ => 0))), (u2 1, .inl (cA, 2400, .inl (fun _ => 0))), (u2 2, .inl (cA, 400, .inl (fun _ => 0))), (u2 3, .inr (2, [.ref (u2 4), .ref (u2 5), .int 0, .int 0])), (u2 4, .inl (cA, 400, .inl (fun _ => 0))), (u2 5, .inl (cA, 400, .inl (fun _ => 0))), (q3, .inr (3, [.ref q1, .ref (u4 1), .ref (u4 0), .int 0, .int 0, .int 0, .int 0, .int 0])), (u4 0, .inl (cA, 60, .inl (fun _ => 0))), (u4 1, .inr (4, [.ref q1, .ref (u4 2), .ref (u4 5), .ref (u4 10), .int 0, .int 0, .int 0, .int 0])), (u4 2, .inr (2, [.ref (u4 3), .ref (u4 4), .int 0, .int 0])), (u4 3, .inl (cA, 2048, .inl (fun _ => 0))), (u4 4, .inl (cA, 2048, .inl (fun _ => 0))), (u4 5, .inr (5, [.int 0, .int 0, .int 0, .int 0, .ref (u4 6), .ref (u4 7), .ref (u4 8), .ref (u4 9)])), (u4 6, .inl (cA, 30, .inl (fun _ => 0))), (u4 7, .inl (cA, 30, .inl (fun _ => 0))), (u4 8, .inl (cA, 30, .inl (fun _ => 0))), (u4 9, .inl (cA, 32, .inl (fun _ => 0))), (u4 10, .inl (cA, 30, .inl (fun _ => 0))), (q5, .inr (6, [.int 0, .int 0, .int 0, .int 0, .ref (u6 0), .ref (u6 1), .ref (u6 2), .ref (u6 3), .int 0])), (u6 0, .inl (cA, 5, .inl (fun _ => 0))), (u6 1, .inl (cA, 5, .inl (fun _ => 0))), (u6 2, .inl (cA, 5, .inl (fun _ => 0))), (u6 3, .inl (cA, 384, .inl (fun _ => 0))), (q7, .inr (7, [.ref q5, .ref (u8 0), .ref (u8 1), .int 0, .int 0, .int 0, .int 0])), (u8 0, .inl (cA, 982, .inl (fun _ => 0))), (u8 1, .inl (cA, 423, .inl (fun _ => 0)))]) (ty := .object "PlanClauses$Code") C0 hH hin 0 rfl hc_0 3 (by decide) k_259 rfl rfl (by decide +kernel) rfl rfl (Nat.le_of_ble_eq_true rfl) rfl d_PC_init_53 (fun H locs hH => ?_)
  refine W.widen (k := 27) (n := 6 + 6 + 2400 + 400 + 4 + 400 + 400 + 8 + 60 + 8 + 4 + 2048 + 2048 + 8 + 30 + 30 + 30 + 32 + 30 + 9 + 5 + 5 + 5 + 384 + 7 + 982 + 423) (by omega) (by omega) ?_
  exact q_retc C0 hH (fun i => [q1, u2 0, u2 1, u2 2, u2 3, u2 4, u2 5, q3, u4 0, u4 1, u4 2, u4 3, u4 4, u4 5, u4 6, u4 7, u4 8, u4 9, u4 10, q5, u6 0, u6 1, u6 2, u6 3, q7, u8 0, u8 1].getD i 0) rfl trivial d_PC_init_56
set_option maxHeartbeats 4000000 in
set_option maxRecDepth 100000 in
theorem c_Ref_init (l : Launch) (dC : Nat → ClassId) (dI : Nat → Nat → Nat) (cA : ClassId) (h0 : Nat) (sz : Nat) :
    q_Mc l y_Ref_init b_Ref_init 1 15 (2400 + 400 + 400 + 400 + 6 + 60 + 5 + 5 + 5 + 32 + 32 + 32 + 32 + 384 + 12) 1 12 [.ref h0] dC dI cA [(h0, .inr (8, [.int 0, .int 0, .null, .null, .null, .null, .int 0, .null, .int 0, .int 0, .null, .int 0, .int 0, .null, .null, .null, .int 0, .int 0, .int 0, .int 0, .null, .null, .null, .null, .int 0, .int 0, .int 0, .null, .int 0, .int 0, .int 0, .int 0, .int 0, .int 0, .null, .int 0]))] (fun u : Nat → Nat => [(h0, .inr (8, [.int 0, .int 0, .ref (u 0), .ref (u 1), .ref (u 2), .ref (u 3), .int 0, .ref (u 4), .int 0, .int 0, .ref (u 5), .int 0, .int 0, .ref (u 6), .ref (u 7), .ref (u 8), .int 0, .int 0, .int 0, .int 0, .ref (u 9), .ref (u 10), .ref (u 11), .ref (u 12), .int 0, .int 0, .int 0, .ref (u 13), .int 0, .int 0, .int 0, .int 0, .int 0, .int 0, .ref (u 14), .int 0])), (u 0, .inl (cA, 2400, .inl (fun _ => 0))), (u 1, .inl (cA, 400, .inl (fun _ => 0))), (u 2, .inl (cA, 400, .inl (fun _ => 0))), (u 3, .inl (cA, 400, .inl (fun _ => 0))), (u 4, .inl (cA, 6, .inl (fun _ => 0))), (u 5, .inl (cA, 60, .inl (fun _ => 0))), (u 6, .inl (cA, 5, .inl (fun _ => 0))), (u 7, .inl (cA, 5, .inl (fun _ => 0))), (u 8, .inl (cA, 5, .inl (fun _ => 0))), (u 9, .inl (cA, 32, .inl (fun _ => 0))), (u 10, .inl (cA, 32, .inl (fun _ => 0))), (u 11, .inl (cA, 32, .inl (fun _ => 0))), (u 12, .inl (cA, 32, .inl (fun _ => 0))), (u 13, .inl (cA, 384, .inl (fun _ => 0))), (u 14, .inl (cA, 12, .inl (fun _ => 0)))]) sz (fun _ => True) := by
  refine q_metc (plainFor_of_name (by decide +kernel)) (Nat.le_of_ble_eq_true rfl) (fun {p e s m below meth c ls} C0 hin hne hl hH => ?_)
  obtain ⟨hx, hb, -⟩ := id C0
  have hA : ∀ q, s.heap.size ≤ q → va_A [(h0, .inr (8, [.int 0, .int 0, .null, .null, .null, .null, .int 0, .null, .int 0, .int 0, .null, .int 0, .int 0, .null, .null, .null, .int 0, .int 0, .int 0, .int 0, .null, .null, .null, .null, .int 0, .int 0, .int 0, .null, .int 0, .int 0, .int 0, .int 0, .int 0, .int 0, .null, .int 0]))] s.heap.size q := q_nA
  have hl : lv_has ls 1 [(0, .ref h0)] := hl
  have hH : q_H dC dI (va_A ([(h0, .inr (8, [.int 0, .int 0, .null, .null, .null, .null, .int 0, .null, .int 0, .int 0, .null, .int 0, .int 0, .null, .null, .null, .int 0, .int 0, .int 0, .int 0, .null, .null, .null, .null, .int 0, .int 0, .int 0, .null, .int 0, .int 0, .int 0, .int 0, .int 0, .int 0, .null, .int 0]))]) s.heap.size) s.heap s.heap [] [(h0, .inr (8, [.int 0, .int 0, .null, .null, .null, .null, .int 0, .null, .int 0, .int 0, .null, .int 0, .int 0, .null, .null, .null, .int 0, .int 0, .int 0, .int 0, .null, .null, .null, .null, .int 0, .int 0, .int 0, .null, .int 0, .int 0, .int 0, .int 0, .int 0, .int 0, .null, .int 0]))] := hH
  refine lv_aload_n hx hb d_Ref_init_0 rfl (lv_at hl 0 rfl) ?_
  refine q_obj C0 k_621 hl.1 d_Ref_init_1 (Nat.le_of_ble_eq_true rfl) (Nat.le_of_ble_eq_true rfl) ?_
  refine lv_aload_n hx hb d_Ref_init_4 rfl (lv_at hl 0 rfl) ?_
  refine lv_sipush (v := 2400) hx hb d_Ref_init_5 (by decide) ?_
  refine q_newi C0 hH hA 2400 (by decide) (by decide) (Nat.le_of_ble_eq_true rfl) (Nat.le_of_ble_eq_true rfl) (Nat.le_of_ble_eq_true rfl) d_Ref_init_8 (fun q1 H hH => ?_)
  have hH : q_H dC dI (va_A ([(h0, .inr (8, [.int 0, .int 0, .null, .null, .null, .null, .int 0, .null, .int 0, .int 0, .null, .int 0, .int 0, .null, .null, .null, .int 0, .int 0, .int 0, .int 0, .null, .null, .null, .null, .int 0, .int 0, .int 0, .null, .int 0, .int 0, .int 0, .int 0, .int 0, .int 0, .null, .int 0]))]) s.heap.size) s.heap H _ [(h0, .inr (8, [.int 0, .int 0, .null, .null, .null, .null, .int 0, .null, .int 0, .int 0, .null, .int 0, .int 0, .null, .null, .null, .int 0, .int 0, .int 0, .int 0, .null, .null, .null, .null, .int 0, .int 0, .int 0, .null, .int 0, .int 0, .int 0, .int 0, .int 0, .int 0, .null, .int 0])), (q1, .inl (cA, 2400, .inl (fun _ => 0)))] := hH
  refine q_putr (ws' := [(h0, .inr (8, [.int 0, .int 0, .ref q1, .null, .null, .null, .int 0, .null, .int 0, .int 0, .null, .int 0, .int 0, .null, .null, .null, .int 0, .int 0, .int 0, .int 0, .null, .null, .null, .null, .int 0, .int 0, .int 0, .null, .int 0, .int 0, .int 0, .int 0, .int 0, .int 0, .null, .int 0])), (q1, .inl (cA, 2400, .inl (fun _ => 0)))]) (ty := .array .int) C0 hH hin 0 rfl hc_8 2 (by decide) k_624 rfl rfl (by decide +kernel) rfl rfl (Nat.le_of_ble_eq_true rfl) rfl d_Ref_init_10 (fun H locs hH => ?_)
  refine lv_aload_n hx hb d_Ref_init_13 rfl (lv_at hl 0 rfl) ?_
  refine lv_sipush (v := 400) hx hb d_Ref_init_14 (by decide) ?_
  refine q_newi C0 hH hA 400 (by decide) (by decide) (Nat.le_of_ble_eq_true rfl) (Nat.le_of_ble_eq_true rfl) (Nat.le_of_ble_eq_true rfl) d_Ref_init_17 (fun q2 H hH => ?_)
  have hH : q_H dC dI (va_A ([(h0, .inr (8, [.int 0, .int 0, .null, .null, .null, .null, .int 0, .null, .int 0, .int 0, .null, .int 0, .int 0, .null, .null, .null, .int 0, .int 0, .int 0, .int 0, .null, .null, .null, .null, .int 0, .int 0, .int 0, .null, .int 0, .int 0, .int 0, .int 0, .int 0, .int 0, .null, .int 0]))]) s.heap.size) s.heap H _ [(h0, .inr (8, [.int 0, .int 0, .ref q1, .null, .null, .null, .int 0, .null, .int 0, .int 0, .null, .int 0, .int 0, .null, .null, .null, .int 0, .int 0, .int 0, .int 0, .null, .null, .null, .null, .int 0, .int 0, .int 0, .null, .int 0, .int 0, .int 0, .int 0, .int 0, .int 0, .null, .int 0])), (q1, .inl (cA, 2400, .inl (fun _ => 0))), (q2, .inl (cA, 400, .inl (fun _ => 0)))] := hH
  refine q_putr (ws' := [(h0, .inr (8, [.int 0, .int 0, .ref q1, .ref q2, .null, .null, .int 0, .null, .int 0, .int 0, .null, .int 0, .int 0, .null, .null, .null, .int 0, .int 0, .int 0, .int 0, .null, .null, .null, .null, .int 0, .int 0, .int 0, .null, .int 0, .int 0, .int 0, .int 0, .int 0, .int 0, .null, .int 0])), (q1, .inl (cA, 2400, .inl (fun _ => 0))), (q2, .inl (cA, 400, .inl (fun _ => 0)))]) (ty := .array .int) C0 hH hin 0 rfl hc_8 3 (by decide) k_625 rfl rfl (by decide +kernel) rfl rfl (Nat.le_of_ble_eq_true rfl) rfl d_Ref_init_19 (fun H locs hH => ?_)
  refine lv_aload_n hx hb d_Ref_init_22 rfl (lv_at hl 0 rfl) ?_
  refine lv_sipush (v := 400) hx hb d_Ref_init_23 (by decide) ?_
  refine q_newi C0 hH hA 400 (by decide) (by decide) (Nat.le_of_ble_eq_true rfl) (Nat.le_of_ble_eq_true rfl) (Nat.le_of_ble_eq_true rfl) d_Ref_init_26 (fun q3 H hH => ?_)
  have hH : q_H dC dI (va_A ([(h0, .inr (8, [.int 0, .int 0, .null, .null, .null, .null, .int 0, .null, .int 0, .int 0, .null, .int 0, .int 0, .null, .null, .null, .int 0, .int 0, .int 0, .int 0, .null, .null, .null, .null, .int 0, .int 0, .int 0, .null, .int 0, .int 0, .int 0, .int 0, .int 0, .int 0, .null, .int 0]))]) s.heap.size) s.heap H _ [(h0, .inr (8, [.int 0, .int 0, .ref q1, .ref q2, .null, .null, .int 0, .null, .int 0, .int 0, .null, .int 0, .int 0, .null, .null, .null, .int 0, .int 0, .int 0, .int 0, .null, .null, .null, .null, .int 0, .int 0, .int 0, .null, .int 0, .int 0, .int 0, .int 0, .int 0, .int 0, .null, .int 0])), (q1, .inl (cA, 2400, .inl (fun _ => 0))), (q2, .inl (cA, 400, .inl (fun _ => 0))), (q3, .inl (cA, 400, .inl (fun _ => 0)))] := hH
  refine q_putr (ws' := [(h0, .inr (8, [.int 0, .int 0, .ref q1, .ref q2, .ref q3, .null, .int 0, .null, .int 0, .int 0, .null, .int 0, .int 0, .null, .null, .null, .int 0, .int 0, .int 0, .int 0, .null, .null, .null, .null, .int 0, .int 0, .int 0, .null, .int 0, .int 0, .int 0, .int 0, .int 0, .int 0, .null, .int 0])), (q1, .inl (cA, 2400, .inl (fun _ => 0))), (q2, .inl (cA, 400, .inl (fun _ => 0))), (q3, .inl (cA, 400, .inl (fun _ => 0)))]) (ty := .array .int) C0 hH hin 0 rfl hc_8 4 (by decide) k_626 rfl rfl (by decide +kernel) rfl rfl (Nat.le_of_ble_eq_true rfl) rfl d_Ref_init_28 (fun H locs hH => ?_)
  refine lv_aload_n hx hb d_Ref_init_31 rfl (lv_at hl 0 rfl) ?_
  refine lv_sipush (v := 400) hx hb d_Ref_init_32 (by decide) ?_
  refine q_newi C0 hH hA 400 (by decide) (by decide) (Nat.le_of_ble_eq_true rfl) (Nat.le_of_ble_eq_true rfl) (Nat.le_of_ble_eq_true rfl) d_Ref_init_35 (fun q4 H hH => ?_)
  have hH : q_H dC dI (va_A ([(h0, .inr (8, [.int 0, .int 0, .null, .null, .null, .null, .int 0, .null, .int 0, .int 0, .null, .int 0, .int 0, .null, .null, .null, .int 0, .int 0, .int 0, .int 0, .null, .null, .null, .null, .int 0, .int 0, .int 0, .null, .int 0, .int 0, .int 0, .int 0, .int 0, .int 0, .null, .int 0]))]) s.heap.size) s.heap H _ [(h0, .inr (8, [.int 0, .int 0, .ref q1, .ref q2, .ref q3, .null, .int 0, .null, .int 0, .int 0, .null, .int 0, .int 0, .null, .null, .null, .int 0, .int 0, .int 0, .int 0, .null, .null, .null, .null, .int 0, .int 0, .int 0, .null, .int 0, .int 0, .int 0, .int 0, .int 0, .int 0, .null, .int 0])), (q1, .inl (cA, 2400, .inl (fun _ => 0))), (q2, .inl (cA, 400, .inl (fun _ => 0))), (q3, .inl (cA, 400, .inl (fun _ => 0))), (q4, .inl (cA, 400, .inl (fun _ => 0)))] := hH
  refine q_putr (ws' := [(h0, .inr (8, [.int 0, .int 0, .ref q1, .ref q2, .ref q3, .ref q4, .int 0, .null, .int 0, .int 0, .null, .int 0, .int 0, .null, .null, .null, .int 0, .int 0, .int 0, .int 0, .null, .null, .null, .null, .int 0, .int 0, .int 0, .null, .int 0, .int 0, .int 0, .int 0, .int 0, .int 0, .null, .int 0])), (q1, .inl (cA, 2400, .inl (fun _ => 0))), (q2, .inl (cA, 400, .inl (fun _ => 0))), (q3, .inl (cA, 400, .inl (fun _ => 0))), (q4, .inl (cA, 400, .inl (fun _ => 0)))]) (ty := .array .int) C0 hH hin 0 rfl hc_8 5 (by decide) k_627 rfl rfl (by decide +kernel) rfl rfl (Nat.le_of_ble_eq_true rfl) rfl d_Ref_init_37 (fun H locs hH => ?_)
  refine lv_aload_n hx hb d_Ref_init_40 rfl (lv_at hl 0 rfl) ?_
  refine lv_bipush (v := 6) hx hb d_Ref_init_41 (by decide) ?_
  refine q_newi C0 hH hA 6 (by decide) (by decide) (Nat.le_of_ble_eq_true rfl) (Nat.le_of_ble_eq_true rfl) (Nat.le_of_ble_eq_true rfl) d_Ref_init_43 (fun q5 H hH => ?_)
  have hH : q_H dC dI (va_A ([(h0, .inr (8, [.int 0, .int 0, .null, .null, .null, .null, .int 0, .null, .int 0, .int 0, .null, .int 0, .int 0, .null, .null, .null, .int 0, .int 0, .int 0, .int 0, .null, .null, .null, .null, .int 0, .int 0, .int 0, .null, .int 0, .int 0, .int 0, .int 0, .int 0, .int 0, .null, .int 0]))]) s.heap.size) s.heap H _ [(h0, .inr (8, [.int 0, .int 0, .ref q1, .ref q2, .ref q3, .ref q4, .int 0, .null, .int 0, .int 0, .null, .int 0, .int 0, .null, .null, .null, .int 0, .int 0, .int 0, .int 0, .null, .null, .null, .null, .int 0, .int 0, .int 0, .null, .int 0, .int 0, .int 0, .int 0, .int 0, .int 0, .null, .int 0])), (q1, .inl (cA, 2400, .inl (fun _ => 0))), (q2, .inl (cA, 400, .inl (fun _ => 0))), (q3, .inl (cA, 400, .inl (fun _ => 0))), (q4, .inl (cA, 400, .inl (fun _ => 0))), (q5, .inl (cA, 6, .inl (fun _ => 0)))] := hH
  refine q_putr (ws' := [(h0, .inr (8, [.int 0, .int 0, .ref q1, .ref q2, .ref q3, .ref q4, .int 0, .ref q5, .int 0, .int 0, .null, .int 0, .int 0, .null, .null, .null, .int 0, .int 0, .int 0, .int 0, .null, .null, .null, .null, .int 0, .int 0, .int 0, .null, .int 0, .int 0, .int 0, .int 0, .int 0, .int 0, .null, .int 0])), (q1, .inl (cA, 2400, .inl (fun _ => 0))), (q2, .inl (cA, 400, .inl (fun _ => 0))), (q3, .inl (cA, 400, .inl (fun _ => 0))), (q4, .inl (cA, 400, .inl (fun _ => 0))), (q5, .inl (cA, 6, .inl (fun _ => 0)))]) (ty := .array .int) C0 hH hin 0 rfl hc_8 7 (by decide) k_629 rfl rfl (by decide +kernel) rfl rfl (Nat.le_of_ble_eq_true rfl) rfl d_Ref_init_45 (fun H locs hH => ?_)
  refine lv_aload_n hx hb d_Ref_init_48 rfl (lv_at hl 0 rfl) ?_
  refine lv_bipush (v := 60) hx hb d_Ref_init_49 (by decide) ?_
  refine q_newi C0 hH hA 60 (by decide) (by decide) (Nat.le_of_ble_eq_true rfl) (Nat.le_of_ble_eq_true rfl) (Nat.le_of_ble_eq_true rfl) d_Ref_init_51 (fun q6 H hH => ?_)
  have hH : q_H dC dI (va_A ([(h0, .inr (8, [.int 0, .int 0, .null, .null, .null, .null, .int 0, .null, .int 0, .int 0, .null, .int 0, .int 0, .null, .null, .null, .int 0, .int 0, .int 0, .int 0, .null, .null, .null, .null, .int 0, .int 0, .int 0, .null, .int 0, .int 0, .int 0, .int 0, .int 0, .int 0, .null, .int 0]))]) s.heap.size) s.heap H _ [(h0, .inr (8, [.int 0, .int 0, .ref q1, .ref q2, .ref q3, .ref q4, .int 0, .ref q5, .int 0, .int 0, .null, .int 0, .int 0, .null, .null, .null, .int 0, .int 0, .int 0, .int 0, .null, .null, .null, .null, .int 0, .int 0, .int 0, .null, .int 0, .int 0, .int 0, .int 0, .int 0, .int 0, .null, .int 0])), (q1, .inl (cA, 2400, .inl (fun _ => 0))), (q2, .inl (cA, 400, .inl (fun _ => 0))), (q3, .inl (cA, 400, .inl (fun _ => 0))), (q4, .inl (cA, 400, .inl (fun _ => 0))), (q5, .inl (cA, 6, .inl (fun _ => 0))), (q6, .inl (cA, 60, .inl (fun _ => 0)))] := hH
  refine q_putr (ws' := [(h0, .inr (8, [.int 0, .int 0, .ref q1, .ref q2, .ref q3, .ref q4, .int 0, .ref q5, .int 0, .int 0, .ref q6, .int 0, .int 0, .null, .null, .null, .int 0, .int 0, .int 0, .int 0, .null, .null, .null, .null, .int 0, .int 0, .int 0, .null, .int 0, .int 0, .int 0, .int 0, .int 0, .int 0, .null, .int 0])), (q1, .inl (cA, 2400, .inl (fun _ => 0))), (q2, .inl (cA, 400, .inl (fun _ => 0))), (q3, .inl (cA, 400, .inl (fun _ => 0))), (q4, .inl (cA, 400, .inl (fun _ => 0))), (q5, .inl (cA, 6, .inl (fun _ => 0))), (q6, .inl (cA, 60, .inl (fun _ => 0)))]) (ty := .array .int) C0 hH hin 0 rfl hc_8 10 (by decide) k_632 rfl rfl (by decide +kernel) rfl rfl (Nat.le_of_ble_eq_true rfl) rfl d_Ref_init_53 (fun H locs hH => ?_)
  refine lv_aload_n hx hb d_Ref_init_56 rfl (lv_at hl 0 rfl) ?_
  refine lv_iconst (v := 5) hx hb d_Ref_init_57 (by decide) ?_
  refine q_newi C0 hH hA 5 (by decide) (by decide) (Nat.le_of_ble_eq_true rfl) (Nat.le_of_ble_eq_true rfl) (Nat.le_of_ble_eq_true rfl) d_Ref_init_58 (fun q7 H hH => ?_)
  have hH : q_H dC dI (va_A ([(h0, .inr (8, [.int 0, .int 0, .null, .null, .null, .null, .int 0, .null, .int 0, .int 0, .null, .int 0, .int 0, .null, .null, .null, .int 0, .int 0, .int 0, .int 0, .null, .null, .null, .null, .int 0, .int 0, .int 0, .null, .int 0, .int 0, .int 0, .int 0, .int 0, .int 0, .null, .int 0]))]) s.heap.size) s.heap H _ [(h0, .inr (8, [.int 0, .int 0, .ref q1, .ref q2, .ref q3, .ref q4, .int 0, .ref q5, .int 0, .int 0, .ref q6, .int 0, .int 0, .null, .null, .null, .int 0, .int 0, .int 0, .int 0, .null, .null, .null, .null, .int 0, .int 0, .int 0, .null, .int 0, .int 0, .int 0, .int 0, .int 0, .int 0, .null, .int 0])), (q1, .inl (cA, 2400, .inl (fun _ => 0))), (q2, .inl (cA, 400, .inl (fun _ => 0))), (q3, .inl (cA, 400, .inl (fun _ => 0))), (q4, .inl (cA, 400, .inl (fun _ => 0))), (q5, .inl (cA, 6, .inl (fun _ => 0))), (q6, .inl (cA, 60, .inl (fun _ => 0))), (q7, .inl (cA, 5, .inl (fun _ => 0)))] := hH
  refine q_putr (ws' := [(h0, .inr (8, [.int 0, .int 0, .ref q1, .ref q2, .ref q3, .ref q4, .int 0, .ref q5, .int 0, .int 0, .ref q6, .int 0, .int 0, .ref q7, .null, .null, .int 0, .int 0, .int 0, .int 0, .null, .null, .null, .null, .int 0, .int 0, .int 0, .null, .int 0, .int 0, .int 0, .int 0, .int 0, .int 0, .null, .int 0])), (q1, .inl (cA, 2400, .inl (fun _ => 0))), (q2, .inl (cA, 400, .inl (fun _ => 0))), (q3, .inl (cA, 400, .inl (fun _ => 0))), (q4, .inl (cA, 400, .inl (fun _ => 0))), (q5, .inl (cA, 6, .inl (fun _ => 0))), (q6, .inl (cA, 60, .inl (fun _ => 0))), (q7, .inl (cA, 5, .inl (fun _ => 0)))]) (ty := .array .int) C0 hH hin 0 rfl hc_8 13 (by decide) k_635 rfl rfl (by decide +kernel) rfl rfl (Nat.le_of_ble_eq_true rfl) rfl d_Ref_init_60 (fun H locs hH => ?_)
  refine lv_aload_n hx hb d_Ref_init_63 rfl (lv_at hl 0 rfl) ?_
  refine lv_iconst (v := 5) hx hb d_Ref_init_64 (by decide) ?_
  refine q_newi C0 hH hA 5 (by decide) (by decide) (Nat.le_of_ble_eq_true rfl) (Nat.le_of_ble_eq_true rfl) (Nat.le_of_ble_eq_true rfl) d_Ref_init_65 (fun q8 H hH => ?_)
  have hH : q_H dC dI (va_A ([(h0, .inr (8, [.int 0, .int 0, .null, .null, .null, .null, .int 0, .null, .int 0, .int 0, .null, .int 0, .int 0, .null, .null, .null, .int 0, .int 0, .int 0, .int 0, .null, .null, .null, .null, .int 0, .int 0, .int 0, .null, .int 0, .int 0, .int 0, .int 0, .int 0, .int 0, .null, .int 0]))]) s.heap.size) s.heap H _ [(h0, .inr (8, [.int 0, .int 0, .ref q1, .ref q2, .ref q3, .ref q4, .int 0, .ref q5, .int 0, .int 0, .ref q6, .int 0, .int 0, .ref q7, .null, .null, .int 0, .int 0, .int 0, .int 0, .null, .null, .null, .null, .int 0, .int 0, .int 0, .null, .int 0, .int 0, .int 0, .int 0, .int 0, .int 0, .null, .int 0])), (q1, .inl (cA, 2400, .inl (fun _ => 0))), (q2, .inl (cA, 400, .inl (fun _ => 0))), (q3, .inl (cA, 400, .inl (fun _ => 0))), (q4, .inl (cA, 400, .inl (fun _ => 0))), (q5, .inl (cA, 6, .inl (fun _ => 0))), (q6, .inl (cA, 60, .inl (fun _ => 0))), (q7, .inl (cA, 5, .inl (fun _ => 0))), (q8, .inl (cA, 5, .inl (fun _ => 0)))] := hH
  refine q_putr (ws' := [(h0, .inr (8, [.int 0, .int 0, .ref q1, .ref q2, .ref q3, .ref q4, .int 0, .ref q5, .int 0, .int 0, .ref q6, .int 0, .int 0, .ref q7, .ref q8, .null, .int 0, .int 0, .int 0, .int 0, .null, .null, .null, .null, .int 0, .int 0, .int 0, .null, .int 0, .int 0, .int 0, .int 0, .int 0, .int 0, .null, .int 0])), (q1, .inl (cA, 2400, .inl (fun _ => 0))), (q2, .inl (cA, 400, .inl (fun _ => 0))), (q3, .inl (cA, 400, .inl (fun _ => 0))), (q4, .inl (cA, 400, .inl (fun _ => 0))), (q5, .inl (cA, 6, .inl (fun _ => 0))), (q6, .inl (cA, 60, .inl (fun _ => 0))), (q7, .inl (cA, 5, .inl (fun _ => 0))), (q8, .inl (cA, 5, .inl (fun _ => 0)))]) (ty := .array .int) C0 hH hin 0 rfl hc_8 14 (by decide) k_636 rfl rfl (by decide +kernel) rfl rfl (Nat.le_of_ble_eq_true rfl) rfl d_Ref_init_67 (fun H locs hH => ?_)
  refine lv_aload_n hx hb d_Ref_init_70 rfl (lv_at hl 0 rfl) ?_
  refine lv_iconst (v := 5) hx hb d_Ref_init_71 (by decide) ?_
  refine q_newi C0 hH hA 5 (by decide) (by decide) (Nat.le_of_ble_eq_true rfl) (Nat.le_of_ble_eq_true rfl) (Nat.le_of_ble_eq_true rfl) d_Ref_init_72 (fun q9 H hH => ?_)
  have hH : q_H dC dI (va_A ([(h0, .inr (8, [.int 0, .int 0, .null, .null, .null, .null, .int 0, .null, .int 0, .int 0, .null, .int 0, .int 0, .null, .null, .null, .int 0, .int 0, .int 0, .int 0, .null, .null, .null, .null, .int 0, .int 0, .int 0, .null, .int 0, .int 0, .int 0, .int 0, .int 0, .int 0, .null, .int 0]))]) s.heap.size) s.heap H _ [(h0, .inr (8, [.int 0, .int 0, .ref q1, .ref q2, .ref q3, .ref q4, .int 0, .ref q5, .int 0, .int 0, .ref q6, .int 0, .int 0, .ref q7, .ref q8, .null, .int 0, .int 0, .int 0, .int 0, .null, .null, .null, .null, .int 0, .int 0, .int 0, .null, .int 0, .int 0, .int 0, .int 0, .int 0, .int 0, .null, .int 0])), (q1, .inl (cA, 2400, .inl (fun _ => 0))), (q2, .inl (cA, 400, .inl (fun _ => 0))), (q3, .inl (cA, 400, .inl (fun _ => 0))), (q4, .inl (cA, 400, .inl (fun _ => 0))), (q5, .inl (cA, 6, .inl (fun _ => 0))), (q6, .inl (cA, 60, .inl (fun _ => 0))), (q7, .inl (cA, 5, .inl (fun _ => 0))), (q8, .inl (cA, 5, .inl (fun _ => 0))), (q9, .inl (cA, 5, .inl (fun _ => 0)))] := hH
  refine q_putr (ws' := [(h0, .inr (8, [.int 0, .int 0, .ref q1, .ref q2, .ref q3, .ref q4, .int 0, .ref q5, .int 0, .int 0, .ref q6, .int 0, .int 0, .ref q7, .ref q8, .ref q9, .int 0, .int 0, .int 0, .int 0, .null, .null, .null, .null, .int 0, .int 0, .int 0, .null, .int 0, .int 0, .int 0, .int 0, .int 0, .int 0, .null, .int 0])), (q1, .inl (cA, 2400, .inl (fun _ => 0))), (q2, .inl (cA, 400, .inl (fun _ => 0))), (q3, .inl (cA, 400, .inl (fun _ => 0))), (q4, .inl (cA, 400, .inl (fun _ => 0))), (q5, .inl (cA, 6, .inl (fun _ => 0))), (q6, .inl (cA, 60, .inl (fun _ => 0))), (q7, .inl (cA, 5, .inl (fun _ => 0))), (q8, .inl (cA, 5, .inl (fun _ => 0))), (q9, .inl (cA, 5, .inl (fun _ => 0)))]) (ty := .array .int) C0 hH hin 0 rfl hc_8 15 (by decide) k_637 rfl rfl (by decide +kernel) rfl rfl (Nat.le_of_ble_eq_true rfl) rfl d_Ref_init_74 (fun H locs hH => ?_)
  refine lv_aload_n hx hb d_Ref_init_77 rfl (lv_at hl 0 rfl) ?_
  refine lv_bipush (v := 32) hx hb d_Ref_init_78 (by decide) ?_
  refine q_newi C0 hH hA 32 (by decide) (by decide) (Nat.le_of_ble_eq_true rfl) (Nat.le_of_ble_eq_true rfl) (Nat.le_of_ble_eq_true rfl) d_Ref_init_80 (fun q10 H hH => ?_)
  have hH : q_H dC dI (va_A ([(h0, .inr (8, [.int 0, .int 0, .null, .null, .null, .null, .int 0, .null, .int 0, .int 0, .null, .int 0, .int 0, .null, .null, .null, .int 0, .int 0, .int 0, .int 0, .null, .null, .null, .null, .int 0, .int 0, .int 0, .null, .int 0, .int 0, .int 0, .int 0, .int 0, .int 0, .null, .int 0]))]) s.heap.size) s.heap H _ [(h0, .inr (8, [.int 0, .int 0, .ref q1, .ref q2, .ref q3, .ref q4, .int 0, .ref q5, .int 0, .int 0, .ref q6, .int 0, .int 0, .ref q7, .ref q8, .ref q9, .int 0, .int 0, .int 0, .int 0, .null, .null, .null, .null, .int 0, .int 0, .int 0, .null, .int 0, .int 0, .int 0, .int 0, .int 0, .int 0, .null, .int 0])), (q1, .inl (cA, 2400, .inl (fun _ => 0))), (q2, .inl (cA, 400, .inl (fun _ => 0))), (q3, .inl (cA, 400, .inl (fun _ => 0))), (q4, .inl (cA, 400, .inl (fun _ => 0))), (q5, .inl (cA, 6, .inl (fun _ => 0))), (q6, .inl (cA, 60, .inl (fun _ => 0))), (q7, .inl (cA, 5, .inl (fun _ => 0))), (q8, .inl (cA, 5, .inl (fun _ => 0))), (q9, .inl (cA, 5, .inl (fun _ => 0))), (q10, .inl (cA, 32, .inl (fun _ => 0)))] := hH
  refine q_putr (ws' := [(h0, .inr (8, [.int 0, .int 0, .ref q1, .ref q2, .ref q3, .ref q4, .int 0, .ref q5, .int 0, .int 0, .ref q6, .int 0, .int 0, .ref q7, .ref q8, .ref q9, .int 0, .int 0, .int 0, .int 0, .ref q10, .null, .null, .null, .int 0, .int 0, .int 0, .null, .int 0, .int 0, .int 0, .int 0, .int 0, .int 0, .null, .int 0])), (q1, .inl (cA, 2400, .inl (fun _ => 0))), (q2, .inl (cA, 400, .inl (fun _ => 0))), (q3, .inl (cA, 400, .inl (fun _ => 0))), (q4, .inl (cA, 400, .inl (fun _ => 0))), (q5, .inl (cA, 6, .inl (fun _ => 0))), (q6, .inl (cA, 60, .inl (fun _ => 0))), (q7, .inl (cA, 5, .inl (fun _ => 0))), (q8, .inl (cA, 5, .inl (fun _ => 0))), (q9, .inl (cA, 5, .inl (fun _ => 0))), (q10, .inl (cA, 32, .inl (fun _ => 0)))]) (ty := .array .int) C0 hH hin 0 rfl hc_8 20 (by decide) k_642 rfl rfl (by decide +kernel) rfl rfl (Nat.le_of_ble_eq_true rfl) rfl d_Ref_init_82 (fun H locs hH => ?_)
  refine lv_aload_n hx hb d_Ref_init_85 rfl (lv_at hl 0 rfl) ?_
  refine lv_bipush (v := 32) hx hb d_Ref_init_86 (by decide) ?_
  refine q_newi C0 hH hA 32 (by decide) (by decide) (Nat.le_of_ble_eq_true rfl) (Nat.le_of_ble_eq_true rfl) (Nat.le_of_ble_eq_true rfl) d_Ref_init_88 (fun q11 H hH => ?_)
  have hH : q_H dC dI (va_A ([(h0, .inr (8, [.int 0, .int 0, .null, .null, .null, .null, .int 0, .null, .int 0, .int 0, .null, .int 0, .int 0, .null, .null, .null, .int 0, .int 0, .int 0, .int 0, .null, .null, .null, .null, .int 0, .int 0, .int 0, .null, .int 0, .int 0, .int 0, .int 0, .int 0, .int 0, .null, .int 0]))]) s.heap.size) s.heap H _ [(h0, .inr (8, [.int 0, .int 0, .ref q1, .ref q2, .ref q3, .ref q4, .int 0, .ref q5, .int 0, .int 0, .ref q6, .int 0, .int 0, .ref q7, .ref q8, .ref q9, .int 0, .int 0, .int 0, .int 0, .ref q10, .null, .null, .null, .int 0, .int 0, .int 0, .null, .int 0, .int 0, .int 0, .int 0, .int 0, .int 0, .null, .int 0])), (q1, .inl (cA, 2400, .inl (fun _ => 0))), (q2, .inl (cA, 400, .inl (fun _ => 0))), (q3, .inl (cA, 400, .inl (fun _ => 0))), (q4, .inl (cA, 400, .inl (fun _ => 0))), (q5, .inl (cA, 6, .inl (fun _ => 0))), (q6, .inl (cA, 60, .inl (fun _ => 0))), (q7, .inl (cA, 5, .inl (fun _ => 0))), (q8, .inl (cA, 5, .inl (fun _ => 0))), (q9, .inl (cA, 5, .inl (fun _ => 0))), (q10, .inl (cA, 32, .inl (fun _ => 0))), (q11, .inl (cA, 32, .inl (fun _ => 0)))] := hH
  refine q_putr (ws' := [(h0, .inr (8, [.int 0, .int 0, .ref q1, .ref q2, .ref q3, .ref q4, .int 0, .ref q5, .int 0, .int 0, .ref q6, .int 0, .int 0, .ref q7, .ref q8, .ref q9, .int 0, .int 0, .int 0, .int 0, .ref q10, .ref q11, .null, .null, .int 0, .int 0, .int 0, .null, .int 0, .int 0, .int 0, .int 0, .int 0, .int 0, .null, .int 0])), (q1, .inl (cA, 2400, .inl (fun _ => 0))), (q2, .inl (cA, 400, .inl (fun _ => 0))), (q3, .inl (cA, 400, .inl (fun _ => 0))), (q4, .inl (cA, 400, .inl (fun _ => 0))), (q5, .inl (cA, 6, .inl (fun _ => 0))), (q6, .inl (cA, 60, .inl (fun _ => 0))), (q7, .inl (cA, 5, .inl (fun _ => 0))), (q8, .inl (cA, 5, .inl (fun _ => 0))), (q9, .inl (cA, 5, .inl (fun _ => 0))), (q10, .inl (cA, 32, .inl (fun _ => 0))), (q11, .inl (cA, 32, .inl (fun _ => 0)))]) (ty := .array .int) C0 hH hin 0 rfl hc_8 21 (by decide) k_643 rfl rfl (by decide +kernel) rfl rfl (Nat.le_of_ble_eq_true rfl) rfl d_Ref_init_90 (fun H locs hH => ?_)
  refine lv_aload_n hx hb d_Ref_init_93 rfl (lv_at hl 0 rfl) ?_
  refine lv_bipush (v := 32) hx hb d_Ref_init_94 (by decide) ?_
  refine q_newi C0 hH hA 32 (by decide) (by decide) (Nat.le_of_ble_eq_true rfl) (Nat.le_of_ble_eq_true rfl) (Nat.le_of_ble_eq_true rfl) d_Ref_init_96 (fun q12 H hH => ?_)
  have hH : q_H dC dI (va_A ([(h0, .inr (8, [.int 0, .int 0, .null, .null, .null, .null, .int 0, .null, .int 0, .int 0, .null, .int 0, .int 0, .null, .null, .null, .int 0, .int 0, .int 0, .int 0, .null, .null, .null, .null, .int 0, .int 0, .int 0, .null, .int 0, .int 0, .int 0, .int 0, .int 0, .int 0, .null, .int 0]))]) s.heap.size) s.heap H _ [(h0, .inr (8, [.int 0, .int 0, .ref q1, .ref q2, .ref q3, .ref q4, .int 0, .ref q5, .int 0, .int 0, .ref q6, .int 0, .int 0, .ref q7, .ref q8, .ref q9, .int 0, .int 0, .int 0, .int 0, .ref q10, .ref q11, .null, .null, .int 0, .int 0, .int 0, .null, .int 0, .int 0, .int 0, .int 0, .int 0, .int 0, .null, .int 0])), (q1, .inl (cA, 2400, .inl (fun _ => 0))), (q2, .inl (cA, 400, .inl (fun _ => 0))), (q3, .inl (cA, 400, .inl (fun _ => 0))), (q4, .inl (cA, 400, .inl (fun _ => 0))), (q5, .inl (cA, 6, .inl (fun _ => 0))), (q6, .inl (cA, 60, .inl (fun _ => 0))), (q7, .inl (cA, 5, .inl (fun _ => 0))), (q8, .inl (cA, 5, .inl (fun _ => 0))), (q9, .inl (cA, 5, .inl (fun _ => 0))), (q10, .inl (cA, 32, .inl (fun _ => 0))), (q11, .inl (cA, 32, .inl (fun _ => 0))), (q12, .inl (cA, 32, .inl (fun _ => 0)))] := hH
  refine q_putr (ws' := [(h0, .inr (8, [.int 0, .int 0, .ref q1, .ref q2, .ref q3, .ref q4, .int 0, .ref q5, .int 0, .int 0, .ref q6, .int 0, .int 0, .ref q7, .ref q8, .ref q9, .int 0, .int 0, .int 0, .int 0, .ref q10, .ref q11, .ref q12, .null, .int 0, .int 0, .int 0, .null, .int 0, .int 0, .int 0, .int 0, .int 0, .int 0, .null, .int 0])), (q1, .inl (cA, 2400, .inl (fun _ => 0))), (q2, .inl (cA, 400, .inl (fun _ => 0))), (q3, .inl (cA, 400, .inl (fun _ => 0))), (q4, .inl (cA, 400, .inl (fun _ => 0))), (q5, .inl (cA, 6, .inl (fun _ => 0))), (q6, .inl (cA, 60, .inl (fun _ => 0))), (q7, .inl (cA, 5, .inl (fun _ => 0))), (q8, .inl (cA, 5, .inl (fun _ => 0))), (q9, .inl (cA, 5, .inl (fun _ => 0))), (q10, .inl (cA, 32, .inl (fun _ => 0))), (q11, .inl (cA, 32, .inl (fun _ => 0))), (q12, .inl (cA, 32, .inl (fun _ => 0)))]) (ty := .array .int) C0 hH hin 0 rfl hc_8 22 (by decide) k_644 rfl rfl (by decide +kernel) rfl rfl (Nat.le_of_ble_eq_true rfl) rfl d_Ref_init_98 (fun H locs hH => ?_)
  refine lv_aload_n hx hb d_Ref_init_101 rfl (lv_at hl 0 rfl) ?_
  refine lv_bipush (v := 32) hx hb d_Ref_init_102 (by decide) ?_
  refine q_newi C0 hH hA 32 (by decide) (by decide) (Nat.le_of_ble_eq_true rfl) (Nat.le_of_ble_eq_true rfl) (Nat.le_of_ble_eq_true rfl) d_Ref_init_104 (fun q13 H hH => ?_)
  have hH : q_H dC dI (va_A ([(h0, .inr (8, [.int 0, .int 0, .null, .null, .null, .null, .int 0, .null, .int 0, .int 0, .null, .int 0, .int 0, .null, .null, .null, .int 0, .int 0, .int 0, .int 0, .null, .null, .null, .null, .int 0, .int 0, .int 0, .null, .int 0, .int 0, .int 0, .int 0, .int 0, .int 0, .null, .int 0]))]) s.heap.size) s.heap H _ [(h0, .inr (8, [.int 0, .int 0, .ref q1, .ref q2, .ref q3, .ref q4, .int 0, .ref q5, .int 0, .int 0, .ref q6, .int 0, .int 0, .ref q7, .ref q8, .ref q9, .int 0, .int 0, .int 0, .int 0, .ref q10, .ref q11, .ref q12, .null, .int 0, .int 0, .int 0, .null, .int 0, .int 0, .int 0, .int 0, .int 0, .int 0, .null, .int 0])), (q1, .inl (cA, 2400, .inl (fun _ => 0))), (q2, .inl (cA, 400, .inl (fun _ => 0))), (q3, .inl (cA, 400, .inl (fun _ => 0))), (q4, .inl (cA, 400, .inl (fun _ => 0))), (q5, .inl (cA, 6, .inl (fun _ => 0))), (q6, .inl (cA, 60, .inl (fun _ => 0))), (q7, .inl (cA, 5, .inl (fun _ => 0))), (q8, .inl (cA, 5, .inl (fun _ => 0))), (q9, .inl (cA, 5, .inl (fun _ => 0))), (q10, .inl (cA, 32, .inl (fun _ => 0))), (q11, .inl (cA, 32, .inl (fun _ => 0))), (q12, .inl (cA, 32, .inl (fun _ => 0))), (q13, .inl (cA, 32, .inl (fun _ => 0)))] := hH
  refine q_putr (ws' := [(h0, .inr (8, [.int 0, .int 0, .ref q1, .ref q2, .ref q3, .ref q4, .int 0, .ref q5, .int 0, .int 0, .ref q6, .int 0, .int 0, .ref q7, .ref q8, .ref q9, .int 0, .int 0, .int 0, .int 0, .ref q10, .ref q11, .ref q12, .ref q13, .int 0, .int 0, .int 0, .null, .int 0, .int 0, .int 0, .int 0, .int 0, .int 0, .null, .int 0])), (q1, .inl (cA, 2400, .inl (fun _ => 0))), (q2, .inl (cA, 400, .inl (fun _ => 0))), (q3, .inl (cA, 400, .inl (fun _ => 0))), (q4, .inl (cA, 400, .inl (fun _ => 0))), (q5, .inl (cA, 6, .inl (fun _ => 0))), (q6, .inl (cA, 60, .inl (fun _ => 0))), (q7, .inl (cA, 5, .inl (fun _ => 0))), (q8, .inl (cA, 5, .inl (fun _ => 0))), (q9, .inl (cA, 5, .inl (fun _ => 0))), (q10, .inl (cA, 32, .inl (fun _ => 0))), (q11, .inl (cA, 32, .inl (fun _ => 0))), (q12, .inl (cA, 32, .inl (fun _ => 0))), (q13, .inl (cA, 32, .inl (fun _ => 0)))]) (ty := .array .int) C0 hH hin 0 rfl hc_8 23 (by decide) k_645 rfl rfl (by decide +kernel) rfl rfl (Nat.le_of_ble_eq_true rfl) rfl d_Ref_init_106 (fun H locs hH => ?_)
  refine lv_aload_n hx hb d_Ref_init_109 rfl (lv_at hl 0 rfl) ?_
  refine lv_sipush (v := 384) hx hb d_Ref_init_110 (by decide) ?_
  refine q_newi C0 hH hA 384 (by decide) (by decide) (Nat.le_of_ble_eq_true rfl) (Nat.le_of_ble_eq_true rfl) (Nat.le_of_ble_eq_true rfl) d_Ref_init_113 (fun q14 H hH => ?_)
  have hH : q_H dC dI (va_A ([(h0, .inr (8, [.int 0, .int 0, .null, .null, .null, .null, .int 0, .null, .int 0, .int 0, .null, .int 0, .int 0, .null, .null, .null, .int 0, .int 0, .int 0, .int 0, .null, .null, .null, .null, .int 0, .int 0, .int 0, .null, .int 0, .int 0, .int 0, .int 0, .int 0, .int 0, .null, .int 0]))]) s.heap.size) s.heap H _ [(h0, .inr (8, [.int 0, .int 0, .ref q1, .ref q2, .ref q3, .ref q4, .int 0, .ref q5, .int 0, .int 0, .ref q6, .int 0, .int 0, .ref q7, .ref q8, .ref q9, .int 0, .int 0, .int 0, .int 0, .ref q10, .ref q11, .ref q12, .ref q13, .int 0, .int 0, .int 0, .null, .int 0, .int 0, .int 0, .int 0, .int 0, .int 0, .null, .int 0])), (q1, .inl (cA, 2400, .inl (fun _ => 0))), (q2, .inl (cA, 400, .inl (fun _ => 0))), (q3, .inl (cA, 400, .inl (fun _ => 0))), (q4, .inl (cA, 400, .inl (fun _ => 0))), (q5, .inl (cA, 6, .inl (fun _ => 0))), (q6, .inl (cA, 60, .inl (fun _ => 0))), (q7, .inl (cA, 5, .inl (fun _ => 0))), (q8, .inl (cA, 5, .inl (fun _ => 0))), (q9, .inl (cA, 5, .inl (fun _ => 0))), (q10, .inl (cA, 32, .inl (fun _ => 0))), (q11, .inl (cA, 32, .inl (fun _ => 0))), (q12, .inl (cA, 32, .inl (fun _ => 0))), (q13, .inl (cA, 32, .inl (fun _ => 0))), (q14, .inl (cA, 384, .inl (fun _ => 0)))] := hH
  refine q_putr (ws' := [(h0, .inr (8, [.int 0, .int 0, .ref q1, .ref q2, .ref q3, .ref q4, .int 0, .ref q5, .int 0, .int 0, .ref q6, .int 0, .int 0, .ref q7, .ref q8, .ref q9, .int 0, .int 0, .int 0, .int 0, .ref q10, .ref q11, .ref q12, .ref q13, .int 0, .int 0, .int 0, .ref q14, .int 0, .int 0, .int 0, .int 0, .int 0, .int 0, .null, .int 0])), (q1, .inl (cA, 2400, .inl (fun _ => 0))), (q2, .inl (cA, 400, .inl (fun _ => 0))), (q3, .inl (cA, 400, .inl (fun _ => 0))), (q4, .inl (cA, 400, .inl (fun _ => 0))), (q5, .inl (cA, 6, .inl (fun _ => 0))), (q6, .inl (cA, 60, .inl (fun _ => 0))), (q7, .inl (cA, 5, .inl (fun _ => 0))), (q8, .inl (cA, 5, .inl (fun _ => 0))), (q9, .inl (cA, 5, .inl (fun _ => 0))), (q10, .inl (cA, 32, .inl (fun _ => 0))), (q11, .inl (cA, 32, .inl (fun _ => 0))), (q12, .inl (cA, 32, .inl (fun _ => 0))), (q13, .inl (cA, 32, .inl (fun _ => 0))), (q14, .inl (cA, 384, .inl (fun _ => 0)))]) (ty := .array .int) C0 hH hin 0 rfl hc_8 27 (by decide) k_649 rfl rfl (by decide +kernel) rfl rfl (Nat.le_of_ble_eq_true rfl) rfl d_Ref_init_115 (fun H locs hH => ?_)
  refine lv_aload_n hx hb d_Ref_init_118 rfl (lv_at hl 0 rfl) ?_
  refine lv_bipush (v := 12) hx hb d_Ref_init_119 (by decide) ?_
  refine q_newi C0 hH hA 12 (by decide) (by decide) (Nat.le_of_ble_eq_true rfl) (Nat.le_of_ble_eq_true rfl) (Nat.le_of_ble_eq_true rfl) d_Ref_init_121 (fun q15 H hH => ?_)
  have hH : q_H dC dI (va_A ([(h0, .inr (8, [.int 0, .int 0, .null, .null, .null, .null, .int 0, .null, .int 0, .int 0, .null, .int 0, .int 0, .null, .null, .null, .int 0, .int 0, .int 0, .int 0, .null, .null, .null, .null, .int 0, .int 0, .int 0, .null, .int 0, .int 0, .int 0, .int 0, .int 0, .int 0, .null, .int 0]))]) s.heap.size) s.heap H _ [(h0, .inr (8, [.int 0, .int 0, .ref q1, .ref q2, .ref q3, .ref q4, .int 0, .ref q5, .int 0, .int 0, .ref q6, .int 0, .int 0, .ref q7, .ref q8, .ref q9, .int 0, .int 0, .int 0, .int 0, .ref q10, .ref q11, .ref q12, .ref q13, .int 0, .int 0, .int 0, .ref q14, .int 0, .int 0, .int 0, .int 0, .int 0, .int 0, .null, .int 0])), (q1, .inl (cA, 2400, .inl (fun _ => 0))), (q2, .inl (cA, 400, .inl (fun _ => 0))), (q3, .inl (cA, 400, .inl (fun _ => 0))), (q4, .inl (cA, 400, .inl (fun _ => 0))), (q5, .inl (cA, 6, .inl (fun _ => 0))), (q6, .inl (cA, 60, .inl (fun _ => 0))), (q7, .inl (cA, 5, .inl (fun _ => 0))), (q8, .inl (cA, 5, .inl (fun _ => 0))), (q9, .inl (cA, 5, .inl (fun _ => 0))), (q10, .inl (cA, 32, .inl (fun _ => 0))), (q11, .inl (cA, 32, .inl (fun _ => 0))), (q12, .inl (cA, 32, .inl (fun _ => 0))), (q13, .inl (cA, 32, .inl (fun _ => 0))), (q14, .inl (cA, 384, .inl (fun _ => 0))), (q15, .inl (cA, 12, .inl (fun _ => 0)))] := hH
  refine q_putr (ws' := [(h0, .inr (8, [.int 0, .int 0, .ref q1, .ref q2, .ref q3, .ref q4, .int 0, .ref q5, .int 0, .int 0, .ref q6, .int 0, .int 0, .ref q7, .ref q8, .ref q9, .int 0, .int 0, .int 0, .int 0, .ref q10, .ref q11, .ref q12, .ref q13, .int 0, .int 0, .int 0, .ref q14, .int 0, .int 0, .int 0, .int 0, .int 0, .int 0, .ref q15, .int 0])), (q1, .inl (cA, 2400, .inl (fun _ => 0))), (q2, .inl (cA, 400, .inl (fun _ => 0))), (q3, .inl (cA, 400, .inl (fun _ => 0))), (q4, .inl (cA, 400, .inl (fun _ => 0))), (q5, .inl (cA, 6, .inl (fun _ => 0))), (q6, .inl (cA, 60, .inl (fun _ => 0))), (q7, .inl (cA, 5, .inl (fun _ => 0))), (q8, .inl (cA, 5, .inl (fun _ => 0))), (q9, .inl (cA, 5, .inl (fun _ => 0))), (q10, .inl (cA, 32, .inl (fun _ => 0))), (q11, .inl (cA, 32, .inl (fun _ => 0))), (q12, .inl (cA, 32, .inl (fun _ => 0))), (q13, .inl (cA, 32, .inl (fun _ => 0))), (q14, .inl (cA, 384, .inl (fun _ => 0))), (q15, .inl (cA, 12, .inl (fun _ => 0)))]) (ty := .array .int) C0 hH hin 0 rfl hc_8 34 (by decide) k_656 rfl rfl (by decide +kernel) rfl rfl (Nat.le_of_ble_eq_true rfl) rfl d_Ref_init_123 (fun H locs hH => ?_)
  refine lv_aload_n hx hb d_Ref_init_126 rfl (lv_at hl 0 rfl) ?_
  refine lv_iconst (v := 0) hx hb d_Ref_init_127 (by decide) ?_
  refine q_puti (ws' := [(h0, .inr (8, [.int 0, .int 0, .ref q1, .ref q2, .ref q3, .ref q4, .int 0, .ref q5, .int 0, .int 0, .ref q6, .int 0, .int 0, .ref q7, .ref q8, .ref q9, .int 0, .int 0, .int 0, .int 0, .ref q10, .ref q11, .ref q12, .ref q13, .int 0, .int 0, .int 0, .ref q14, .int 0, .int 0, .int 0, .int 0, .int 0, .int 0, .ref q15, .int 0])), (q1, .inl (cA, 2400, .inl (fun _ => 0))), (q2, .inl (cA, 400, .inl (fun _ => 0))), (q3, .inl (cA, 400, .inl (fun _ => 0))), (q4, .inl (cA, 400, .inl (fun _ => 0))), (q5, .inl (cA, 6, .inl (fun _ => 0))), (q6, .inl (cA, 60, .inl (fun _ => 0))), (q7, .inl (cA, 5, .inl (fun _ => 0))), (q8, .inl (cA, 5, .inl (fun _ => 0))), (q9, .inl (cA, 5, .inl (fun _ => 0))), (q10, .inl (cA, 32, .inl (fun _ => 0))), (q11, .inl (cA, 32, .inl (fun _ => 0))), (q12, .inl (cA, 32, .inl (fun _ => 0))), (q13, .inl (cA, 32, .inl (fun _ => 0))), (q14, .inl (cA, 384, .inl (fun _ => 0))), (q15, .inl (cA, 12, .inl (fun _ => 0)))]) C0 hH 0 rfl hc_8 0 (by decide) k_622 rfl rfl (Nat.le_of_ble_eq_true rfl) rfl d_Ref_init_128 (fun H locs hH => ?_)
  refine W.widen (k := 15) (n := 2400 + 400 + 400 + 400 + 6 + 60 + 5 + 5 + 5 + 32 + 32 + 32 + 32 + 384 + 12) (by omega) (by omega) ?_
  exact q_retc C0 hH (fun i => [q1, q2, q3, q4, q5, q6, q7, q8, q9, q10, q11, q12, q13, q14, q15].getD i 0) rfl trivial d_Ref_init_131
