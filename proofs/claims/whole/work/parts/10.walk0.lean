theorem d_Mods_forget_0 : decode b_Mods_forget 0 = .ok (.aload_n 0, 1) := by decide +kernel
theorem d_Mods_forget_1 : decode b_Mods_forget 1 = .ok (.iconst 0, 1) := by decide +kernel
theorem d_Mods_forget_2 : decode b_Mods_forget 2 = .ok (.putfield 28, 3) := by decide +kernel
theorem d_Mods_forget_5 : decode b_Mods_forget 5 = .ok (.return_, 1) := by decide +kernel
set_option maxHeartbeats 4000000 in
set_option maxRecDepth 100000 in
theorem c_Mods_forget (l : Launch) (dC : Nat → ClassId) (dI : Nat → Nat → Nat) (cA : ClassId) (ad : Nat → Nat) (mo : tMods) (Q : tMods → Prop) (sz : Nat) (h : w_Mods_forget mo Q) :
    q_Mv l y_Mods_forget b_Mods_forget 1 0 0 [.ref (ad 11)] dC dI cA ([c_MO ad cA mo].flatten) (fun u : tMods => [c_MO ad cA u].flatten) sz (fun u => Q u) := by
  refine q_metv (plainFor_of_name (by decide +kernel)) (Nat.le_of_ble_eq_true rfl) (fun {p e s m below meth c ls} C0 hl hH => ?_)
  obtain ⟨hx, hb, -⟩ := id C0
  have hA : ∀ q, s.heap.size ≤ q → va_A ([c_MO ad cA mo].flatten) s.heap.size q := q_nA
  have hl : lv_has ls 1 [(0, .ref (ad 11))] := hl
  unfold w_Mods_forget at h
  refine lv_aload_n hx hb d_Mods_forget_0 rfl (lv_at hl 0 rfl) ?_
  refine lv_iconst (v := 0) hx hb d_Mods_forget_1 (by decide) ?_
  refine q_putz (ws' := [c_MO ad cA (tMods.mk mo.rows mo.size mo.seenTrue mo.seenFalse 0 mo.complete)].flatten) C0 hH 0 rfl hc_3 6 (by decide) k_162 rfl rfl (Or.inl rfl) (Nat.le_of_ble_eq_true rfl) rfl d_Mods_forget_2 (fun H locs hH => ?_)
  exact q_retv C0 hH (tMods.mk mo.rows mo.size mo.seenTrue mo.seenFalse 0 mo.complete) rfl h d_Mods_forget_5
theorem d_PC_variables_0 : decode b_PC_variables 0 = .ok (.iload_n 1, 1) := by decide +kernel
theorem d_PC_variables_1 : decode b_PC_variables 1 = .ok (.ifCond .lt 9, 3) := by decide +kernel
theorem d_PC_variables_4 : decode b_PC_variables 4 = .ok (.iload_n 1, 1) := by decide +kernel
theorem d_PC_variables_5 : decode b_PC_variables 5 = .ok (.bipush 30, 2) := by decide +kernel
theorem d_PC_variables_7 : decode b_PC_variables 7 = .ok (.if_icmp .le 5, 3) := by decide +kernel
theorem d_PC_variables_10 : decode b_PC_variables 10 = .ok (.iconst (-1), 1) := by decide +kernel
theorem d_PC_variables_11 : decode b_PC_variables 11 = .ok (.ireturn, 1) := by decide +kernel
theorem d_PC_variables_12 : decode b_PC_variables 12 = .ok (.aload_n 0, 1) := by decide +kernel
theorem d_PC_variables_13 : decode b_PC_variables 13 = .ok (.getfield 12, 3) := by decide +kernel
theorem d_PC_variables_16 : decode b_PC_variables 16 = .ok (.getfield 41, 3) := by decide +kernel
theorem d_PC_variables_19 : decode b_PC_variables 19 = .ok (.getfield 45, 3) := by decide +kernel
theorem d_PC_variables_22 : decode b_PC_variables 22 = .ok (.ifCond .le 6, 3) := by decide +kernel
theorem d_PC_variables_25 : decode b_PC_variables 25 = .ok (.bipush (-2), 2) := by decide +kernel
theorem d_PC_variables_27 : decode b_PC_variables 27 = .ok (.ireturn, 1) := by decide +kernel
theorem d_PC_variables_28 : decode b_PC_variables 28 = .ok (.aload_n 0, 1) := by decide +kernel
theorem d_PC_variables_29 : decode b_PC_variables 29 = .ok (.getfield 12, 3) := by decide +kernel
theorem d_PC_variables_32 : decode b_PC_variables 32 = .ok (.getfield 51, 3) := by decide +kernel
theorem d_PC_variables_35 : decode b_PC_variables 35 = .ok (.istore_n 2, 1) := by decide +kernel
theorem d_PC_variables_36 : decode b_PC_variables 36 = .ok (.aload_n 0, 1) := by decide +kernel
theorem d_PC_variables_37 : decode b_PC_variables 37 = .ok (.getfield 12, 3) := by decide +kernel
theorem d_PC_variables_40 : decode b_PC_variables 40 = .ok (.iload_n 1, 1) := by decide +kernel
theorem d_PC_variables_41 : decode b_PC_variables 41 = .ok (.putfield 51, 3) := by decide +kernel
theorem d_PC_variables_44 : decode b_PC_variables 44 = .ok (.aload_n 0, 1) := by decide +kernel
theorem d_PC_variables_45 : decode b_PC_variables 45 = .ok (.getfield 12, 3) := by decide +kernel
theorem d_PC_variables_48 : decode b_PC_variables 48 = .ok (.iconst 0, 1) := by decide +kernel
theorem d_PC_variables_49 : decode b_PC_variables 49 = .ok (.putfield 54, 3) := by decide +kernel
theorem d_PC_variables_52 : decode b_PC_variables 52 = .ok (.aload_n 0, 1) := by decide +kernel
theorem d_PC_variables_53 : decode b_PC_variables 53 = .ok (.getfield 21, 3) := by decide +kernel
theorem d_PC_variables_56 : decode b_PC_variables 56 = .ok (.invokevirtual 57, 3) := by decide +kernel
theorem d_PC_variables_59 : decode b_PC_variables 59 = .ok (.iload_n 2, 1) := by decide +kernel
theorem d_PC_variables_60 : decode b_PC_variables 60 = .ok (.ireturn, 1) := by decide +kernel
set_option maxHeartbeats 4000000 in
set_option maxRecDepth 100000 in
theorem c_PC_variables (l : Launch) (dC : Nat → ClassId) (dI : Nat → Nat → Nat) (cA : ClassId) (ad : Nat → Nat) (x1 : Int32) (fo : tForm) (fr : tRows) (mo : tMods) (Q : Int32 → tForm → tMods → Prop) (sz : Nat) (h : w_PC_variables x1 fo fr mo Q) :
    q_Mi l y_PC_variables b_PC_variables 3 (some .int) 1 20 [.ref (ad 0), .int x1] dC dI cA ([c_PC ad, c_FO ad cA fo, c_FR ad cA fr, c_MO ad cA mo].flatten) (fun u : tForm × tMods => [c_PC ad, c_FO ad cA u.1, c_FR ad cA fr, c_MO ad cA u.2].flatten) sz (fun r u => Q r u.1 u.2) := by
  refine q_meti (plainFor_of_name (by decide +kernel)) (Nat.le_of_ble_eq_true rfl) (fun {p e s m below meth c ls} C0 hl hH => ?_)
  obtain ⟨hx, hb, -⟩ := id C0
  have hA : ∀ q, s.heap.size ≤ q → va_A ([c_PC ad, c_FO ad cA fo, c_FR ad cA fr, c_MO ad cA mo].flatten) s.heap.size q := q_nA
  have hl : lv_has ls 3 [(0, .ref (ad 0)), (1, .int x1)] := hl
  unfold w_PC_variables at h
  refine lv_iload_n hx hb d_PC_variables_0 rfl (lv_at hl 1 rfl) ?_
  refine lv_if_lt (tgt := 10) hx hb d_PC_variables_1 (by decide) (fun c => ?_) (fun c => ?_)
  · have h := h.1 c
    refine lv_iconst (v := (-1)) hx hb d_PC_variables_10 (by decide) ?_
    exact q_reti C0 hH (fo, mo) rfl h d_PC_variables_11
  · have h := h.2 c
    refine lv_iload_n hx hb d_PC_variables_4 rfl (lv_at hl 1 rfl) ?_
    refine lv_bipush (v := 30) hx hb d_PC_variables_5 (by decide) ?_
    refine lv_icmp_le (tgt := 12) hx hb d_PC_variables_7 (by decide) (fun c => ?_) (fun c => ?_)
    · have h := h.1 c
      refine lv_aload_n hx hb d_PC_variables_12 rfl (lv_at hl 0 rfl) ?_
      refine q_get (v := .ref (ad 1)) C0 hH 0 rfl hc_0 0 (by decide) k_256 rfl d_PC_variables_13 ?_
      refine q_get (v := .ref (ad 5)) C0 hH 1 rfl hc_1 5 (by decide) k_62 rfl d_PC_variables_16 ?_
      refine q_get (v := .int fr.size) C0 hH 5 rfl hc_2 2 (by decide) k_38 rfl d_PC_variables_19 ?_
      refine lv_if_le (tgt := 28) hx hb d_PC_variables_22 (by decide) (fun c => ?_) (fun c => ?_)
      · have h := h.1 c
        refine lv_aload_n hx hb d_PC_variables_28 rfl (lv_at hl 0 rfl) ?_
        refine q_get (v := .ref (ad 1)) C0 hH 0 rfl hc_0 0 (by decide) k_256 rfl d_PC_variables_29 ?_
        refine q_get (v := .int fo.width) C0 hH 1 rfl hc_1 0 (by decide) k_52 rfl d_PC_variables_32 ?_
        refine lv_istore_n (lv' := [(2, .int fo.width), (0, .ref (ad 0)), (1, .int x1)]) hx hb d_PC_variables_35 rfl hl (by decide) rfl (fun ls hl => ?_)
        refine lv_aload_n hx hb d_PC_variables_36 rfl (lv_at hl 1 rfl) ?_
        refine q_get (v := .ref (ad 1)) C0 hH 0 rfl hc_0 0 (by decide) k_256 rfl d_PC_variables_37 ?_
        refine lv_iload_n hx hb d_PC_variables_40 rfl (lv_at hl 2 rfl) ?_
        refine q_puti (ws' := [c_PC ad, c_FO ad cA (tForm.mk x1 fo.draftSize fo.draft fo.literals fo.sizes), c_FR ad cA fr, c_MO ad cA mo].flatten) C0 hH 1 rfl hc_1 0 (by decide) k_52 rfl rfl (Nat.le_of_ble_eq_true rfl) rfl d_PC_variables_41 (fun H locs hH => ?_)
        refine lv_aload_n hx hb d_PC_variables_44 rfl (lv_at hl 1 rfl) ?_
        refine q_get (v := .ref (ad 1)) C0 hH 0 rfl hc_0 0 (by decide) k_256 rfl d_PC_variables_45 ?_
        refine lv_iconst (v := 0) hx hb d_PC_variables_48 (by decide) ?_
        refine q_puti (ws' := [c_PC ad, c_FO ad cA (tForm.mk x1 0 fo.draft fo.literals fo.sizes), c_FR ad cA fr, c_MO ad cA mo].flatten) C0 hH 1 rfl hc_1 1 (by decide) k_55 rfl rfl (Nat.le_of_ble_eq_true rfl) rfl d_PC_variables_49 (fun H locs hH => ?_)
        refine lv_aload_n hx hb d_PC_variables_52 rfl (lv_at hl 1 rfl) ?_
        refine q_get (v := .ref (ad 11)) C0 hH 0 rfl hc_0 1 (by decide) k_257 rfl d_PC_variables_53 ?_
        refine q_callv (rest := []) (ws' := fun u : tMods => [c_PC ad, c_FO ad cA (tForm.mk x1 0 fo.draft fo.literals fo.sizes), c_FR ad cA fr, c_MO ad cA u].flatten) C0 hH hA (c_Mods_forget l dC dI cA ad mo _ _ h) Y_Mods_forget k_273 8 rfl hc_3 (q_pg [3] [0, 1, 2] [0, 1, 2, 3] 4 1 rfl (by decide) rfl (fun _ => rfl) rfl (by decide) (fun _ => rfl)) ⟨Nat.le_of_ble_eq_true rfl, Nat.le_of_ble_eq_true rfl⟩ rfl rfl (Nat.le_of_ble_eq_true rfl) hl.1 d_PC_variables_56 ⟨Nat.le_refl 0, Nat.le_refl 0⟩ (fun u_1 H locs h hH => ?_)
        obtain ⟨mo_1, rfl⟩ : ∃ z, z = u_1 := ⟨_, rfl⟩
        try dsimp only at h
        have hH : q_H dC dI (va_A ([c_PC ad, c_FO ad cA fo, c_FR ad cA fr, c_MO ad cA mo].flatten) s.heap.size) s.heap H locs ([c_PC ad, c_FO ad cA (tForm.mk x1 0 fo.draft fo.literals fo.sizes), c_FR ad cA fr, c_MO ad cA mo_1].flatten) := hH
        refine lv_iload_n hx hb d_PC_variables_59 rfl (lv_at hl 0 rfl) ?_
        exact q_reti C0 hH ((tForm.mk x1 0 fo.draft fo.literals fo.sizes), mo_1) rfl h d_PC_variables_60
      · have h := h.2 c
        refine lv_bipush (v := (-2)) hx hb d_PC_variables_25 (by decide) ?_
        exact q_reti C0 hH (fo, mo) rfl h d_PC_variables_27
    · have h := h.2 c
      refine lv_iconst (v := (-1)) hx hb d_PC_variables_10 (by decide) ?_
      exact q_reti C0 hH (fo, mo) rfl h d_PC_variables_11
theorem d_PC_isLiteralOrZero_0 : decode b_PC_isLiteralOrZero 0 = .ok (.iload_n 1, 1) := by decide +kernel
theorem d_PC_isLiteralOrZero_1 : decode b_PC_isLiteralOrZero 1 = .ok (.aload_n 0, 1) := by decide +kernel
theorem d_PC_isLiteralOrZero_2 : decode b_PC_isLiteralOrZero 2 = .ok (.getfield 12, 3) := by decide +kernel
theorem d_PC_isLiteralOrZero_5 : decode b_PC_isLiteralOrZero 5 = .ok (.getfield 51, 3) := by decide +kernel
theorem d_PC_isLiteralOrZero_8 : decode b_PC_isLiteralOrZero 8 = .ok (.ineg, 1) := by decide +kernel
theorem d_PC_isLiteralOrZero_9 : decode b_PC_isLiteralOrZero 9 = .ok (.if_icmp .lt 18, 3) := by decide +kernel
theorem d_PC_isLiteralOrZero_12 : decode b_PC_isLiteralOrZero 12 = .ok (.iload_n 1, 1) := by decide +kernel
theorem d_PC_isLiteralOrZero_13 : decode b_PC_isLiteralOrZero 13 = .ok (.aload_n 0, 1) := by decide +kernel
theorem d_PC_isLiteralOrZero_14 : decode b_PC_isLiteralOrZero 14 = .ok (.getfield 12, 3) := by decide +kernel
theorem d_PC_isLiteralOrZero_17 : decode b_PC_isLiteralOrZero 17 = .ok (.getfield 51, 3) := by decide +kernel
theorem d_PC_isLiteralOrZero_20 : decode b_PC_isLiteralOrZero 20 = .ok (.if_icmp .gt 7, 3) := by decide +kernel
theorem d_PC_isLiteralOrZero_23 : decode b_PC_isLiteralOrZero 23 = .ok (.iconst 1, 1) := by decide +kernel
theorem d_PC_isLiteralOrZero_24 : decode b_PC_isLiteralOrZero 24 = .ok (.goto 4, 3) := by decide +kernel
theorem d_PC_isLiteralOrZero_27 : decode b_PC_isLiteralOrZero 27 = .ok (.iconst 0, 1) := by decide +kernel
theorem d_PC_isLiteralOrZero_28 : decode b_PC_isLiteralOrZero 28 = .ok (.ireturn, 1) := by decide +kernel
set_option maxHeartbeats 4000000 in
set_option maxRecDepth 100000 in
theorem c_PC_isLiteralOrZero (l : Launch) (dC : Nat → ClassId) (dI : Nat → Nat → Nat) (cA : ClassId) (ad : Nat → Nat) (x1 : Int32) (fo : tForm) (Q : Int32 → Prop) (sz : Nat) (h : w_PC_isLiteralOrZero x1 fo Q) :
    q_Mi l y_PC_isLiteralOrZero b_PC_isLiteralOrZero 2 (some .boolean) 0 0 [.ref (ad 0), .int x1] dC dI cA ([c_PC ad, c_FO ad cA fo].flatten) (fun _ : Unit => [c_PC ad, c_FO ad cA fo].flatten) sz (fun r _ => Q r) := by
  refine q_meti (plainFor_of_name (by decide +kernel)) (Nat.le_of_ble_eq_true rfl) (fun {p e s m below meth c ls} C0 hl hH => ?_)
  obtain ⟨hx, hb, -⟩ := id C0
  have hA : ∀ q, s.heap.size ≤ q → va_A ([c_PC ad, c_FO ad cA fo].flatten) s.heap.size q := q_nA
  have hl : lv_has ls 2 [(0, .ref (ad 0)), (1, .int x1)] := hl
  unfold w_PC_isLiteralOrZero at h
  refine lv_iload_n hx hb d_PC_isLiteralOrZero_0 rfl (lv_at hl 1 rfl) ?_
  refine lv_aload_n hx hb d_PC_isLiteralOrZero_1 rfl (lv_at hl 0 rfl) ?_
  refine q_get (v := .ref (ad 1)) C0 hH 0 rfl hc_0 0 (by decide) k_256 rfl d_PC_isLiteralOrZero_2 ?_
  refine q_get (v := .int fo.width) C0 hH 1 rfl hc_1 0 (by decide) k_52 rfl d_PC_isLiteralOrZero_5 ?_
  refine lv_ineg hx hb d_PC_isLiteralOrZero_8 ?_
  refine lv_icmp_lt (tgt := 27) hx hb d_PC_isLiteralOrZero_9 (by decide) (fun c => ?_) (fun c => ?_)
  · have h := h.1 c
    refine lv_iconst (v := 0) hx hb d_PC_isLiteralOrZero_27 (by decide) ?_
    exact q_retz C0 hH () rfl (Or.inl rfl) h d_PC_isLiteralOrZero_28
  · have h := h.2 c
    refine lv_iload_n hx hb d_PC_isLiteralOrZero_12 rfl (lv_at hl 1 rfl) ?_
    refine lv_aload_n hx hb d_PC_isLiteralOrZero_13 rfl (lv_at hl 0 rfl) ?_
    refine q_get (v := .ref (ad 1)) C0 hH 0 rfl hc_0 0 (by decide) k_256 rfl d_PC_isLiteralOrZero_14 ?_
    refine q_get (v := .int fo.width) C0 hH 1 rfl hc_1 0 (by decide) k_52 rfl d_PC_isLiteralOrZero_17 ?_
    refine lv_icmp_gt (tgt := 27) hx hb d_PC_isLiteralOrZero_20 (by decide) (fun c => ?_) (fun c => ?_)
    · have h := h.1 c
      refine lv_iconst (v := 0) hx hb d_PC_isLiteralOrZero_27 (by decide) ?_
      exact q_retz C0 hH () rfl (Or.inl rfl) h d_PC_isLiteralOrZero_28
    · have h := h.2 c
      refine lv_iconst (v := 1) hx hb d_PC_isLiteralOrZero_23 (by decide) ?_
      refine lv_goto (tgt := 28) hx hb d_PC_isLiteralOrZero_24 (by decide) ?_
      exact q_retz C0 hH () rfl (Or.inr rfl) h d_PC_isLiteralOrZero_28
theorem d_Math_abs_0 : decode b_Math_abs 0 = .ok (.iload_n 0, 1) := by decide +kernel
theorem d_Math_abs_1 : decode b_Math_abs 1 = .ok (.ifCond .ge 8, 3) := by decide +kernel
theorem d_Math_abs_4 : decode b_Math_abs 4 = .ok (.iload_n 0, 1) := by decide +kernel
theorem d_Math_abs_5 : decode b_Math_abs 5 = .ok (.ineg, 1) := by decide +kernel
theorem d_Math_abs_6 : decode b_Math_abs 6 = .ok (.goto 4, 3) := by decide +kernel
theorem d_Math_abs_9 : decode b_Math_abs 9 = .ok (.iload_n 0, 1) := by decide +kernel
theorem d_Math_abs_10 : decode b_Math_abs 10 = .ok (.ireturn, 1) := by decide +kernel
set_option maxHeartbeats 4000000 in
set_option maxRecDepth 100000 in
theorem c_Math_abs (l : Launch) (dC : Nat → ClassId) (dI : Nat → Nat → Nat) (cA : ClassId) (ad : Nat → Nat) (x0 : Int32) (Q : Int32 → Prop) (sz : Nat) (h : w_Math_abs x0 Q) :
    q_Mi l y_Math_abs b_Math_abs 1 (some .int) 0 0 [.int x0] dC dI cA ([]) (fun _ : Unit => []) sz (fun r _ => Q r) := by
  refine q_meti (by decide +kernel) (Nat.le_of_ble_eq_true rfl) (fun {p e s m below meth c ls} C0 hl hH => ?_)
  obtain ⟨hx, hb, -⟩ := id C0
  have hA : ∀ q, s.heap.size ≤ q → va_A ([]) s.heap.size q := q_nA
  have hl : lv_has ls 1 [(0, .int x0)] := hl
  unfold w_Math_abs at h
  refine lv_iload_n hx hb d_Math_abs_0 rfl (lv_at hl 0 rfl) ?_
  refine lv_if_ge (tgt := 9) hx hb d_Math_abs_1 (by decide) (fun c => ?_) (fun c => ?_)
  · have h := h.1 c
    refine lv_iload_n hx hb d_Math_abs_9 rfl (lv_at hl 0 rfl) ?_
    exact q_reti C0 hH () rfl h d_Math_abs_10
  · have h := h.2 c
    refine lv_iload_n hx hb d_Math_abs_4 rfl (lv_at hl 0 rfl) ?_
    refine lv_ineg hx hb d_Math_abs_5 ?_
    refine lv_goto (tgt := 10) hx hb d_Math_abs_6 (by decide) ?_
    exact q_reti C0 hH () rfl h d_Math_abs_10
theorem d_Form_draftHas_0 : decode b_Form_draftHas 0 = .ok (.iconst 0, 1) := by decide +kernel
theorem d_Form_draftHas_1 : decode b_Form_draftHas 1 = .ok (.istore_n 2, 1) := by decide +kernel
theorem d_Form_draftHas_2 : decode b_Form_draftHas 2 = .ok (.iload_n 2, 1) := by decide +kernel
theorem d_Form_draftHas_3 : decode b_Form_draftHas 3 = .ok (.aload_n 0, 1) := by decide +kernel
theorem d_Form_draftHas_4 : decode b_Form_draftHas 4 = .ok (.getfield 30, 3) := by decide +kernel
theorem d_Form_draftHas_7 : decode b_Form_draftHas 7 = .ok (.if_icmp .ge 24, 3) := by decide +kernel
theorem d_Form_draftHas_10 : decode b_Form_draftHas 10 = .ok (.aload_n 0, 1) := by decide +kernel
theorem d_Form_draftHas_11 : decode b_Form_draftHas 11 = .ok (.getfield 9, 3) := by decide +kernel
theorem d_Form_draftHas_14 : decode b_Form_draftHas 14 = .ok (.iload_n 2, 1) := by decide +kernel
theorem d_Form_draftHas_15 : decode b_Form_draftHas 15 = .ok (.iaload, 1) := by decide +kernel
theorem d_Form_draftHas_16 : decode b_Form_draftHas 16 = .ok (.invokestatic 34, 3) := by decide +kernel
theorem d_Form_draftHas_19 : decode b_Form_draftHas 19 = .ok (.iload_n 1, 1) := by decide +kernel
theorem d_Form_draftHas_20 : decode b_Form_draftHas 20 = .ok (.if_icmp .ne 5, 3) := by decide +kernel
theorem d_Form_draftHas_23 : decode b_Form_draftHas 23 = .ok (.iconst 1, 1) := by decide +kernel
theorem d_Form_draftHas_24 : decode b_Form_draftHas 24 = .ok (.ireturn, 1) := by decide +kernel
theorem d_Form_draftHas_25 : decode b_Form_draftHas 25 = .ok (.iinc 2 1, 3) := by decide +kernel
theorem d_Form_draftHas_28 : decode b_Form_draftHas 28 = .ok (.goto (-26), 3) := by decide +kernel
theorem d_Form_draftHas_31 : decode b_Form_draftHas 31 = .ok (.iconst 0, 1) := by decide +kernel
theorem d_Form_draftHas_32 : decode b_Form_draftHas 32 = .ok (.ireturn, 1) := by decide +kernel
set_option maxHeartbeats 4000000 in
set_option maxRecDepth 100000 in
theorem x_Form_draftHas_L2 {p : Program} {e : Env} {s : State} {m : MethodId} {args : Array Value} {below : List Frame} {meth : Method} {c : Code} {l : Launch} {dC : Nat → ClassId} {dI : Nat → Nat → Nat} {cA : ClassId} {ad : Nat → Nat} {w0 : va_W} (C0 : q_C p s m args meth c b_Form_draftHas 3 (some .boolean) "PlanClauses$Formula" dC dI cA) (hA : ∀ q, s.heap.size ≤ q → va_A w0 s.heap.size q) (x1 : Int32) (fo : tForm) {Q : Int32 → Prop} {K31 : Prop}
    (hK31 : ∀ (H : Heap) (locs : List Loc) (ls : Array Slot), K31  → lv_has ls 3 [] → q_H dC dI (va_A w0 s.heap.size) s.heap H locs ([c_FO ad cA fo].flatten) → W p l e (q_R 1 20) s m args below meth c H locs 0 0 (q_Zi below args s dC dI cA w0 (fun _ : Unit => [c_FO ad cA fo].flatten) (fun r _ => Q r)) (F0 m 31 ls [])) :
    ∀ (nn : Nat) (x2 : Int32) (H : Heap) (locs : List Loc) (ls : Array Slot), w_Form_draftHas_L2 x1 fo K31 Q nn x2 → lv_has ls 3 [(0, .ref (ad 1)), (1, .int x1), (2, .int x2)] → q_H dC dI (va_A w0 s.heap.size) s.heap H locs ([c_FO ad cA fo].flatten) → W p l e (q_R 1 20) s m args below meth c H locs 0 0 (q_Zi below args s dC dI cA w0 (fun _ : Unit => [c_FO ad cA fo].flatten) (fun r _ => Q r)) (F0 m 2 ls []) := by
  obtain ⟨hx, hb, -⟩ := id C0
  intro nn
  induction nn with
  | zero =>
    intro x2 H locs ls h
    exact (show False from h).elim
  | succ nn ih =>
    intro x2 H locs ls h hl hH
    rw [w_Form_draftHas_L2] at h
    refine lv_iload_n hx hb d_Form_draftHas_2 rfl (lv_at hl 2 rfl) ?_
    refine lv_aload_n hx hb d_Form_draftHas_3 rfl (lv_at hl 0 rfl) ?_
    refine q_get (v := .int fo.draftSize) C0 hH 0 rfl hc_1 1 (by decide) k_54 rfl d_Form_draftHas_4 ?_
    refine lv_icmp_ge (tgt := 31) hx hb d_Form_draftHas_7 (by decide) (fun c => ?_) (fun c => ?_)
    · have h := h.1 c
      exact hK31 _ _ _ h (lv_sub hl [] rfl) hH
    · have h := h.2 c
      refine lv_aload_n hx hb d_Form_draftHas_10 rfl (lv_at hl 0 rfl) ?_
      refine q_get (v := .ref (ad 2)) C0 hH 0 rfl hc_1 2 (by decide) k_56 rfl d_Form_draftHas_11 ?_
      refine lv_iload_n hx hb d_Form_draftHas_14 rfl (lv_at hl 2 rfl) ?_
      obtain ⟨hi, h⟩ := h
      refine q_ald (f := fo.draft) C0 hH 1 rfl hi d_Form_draftHas_15 ?_
      refine q_calls (rest := []) C0 hH hA (c_Math_abs l dC dI cA ad (fo.draft x2.toNatClampNeg) _ _ h) Y_Math_abs k_292 ⟨Nat.le_of_ble_eq_true rfl, Nat.le_of_ble_eq_true rfl⟩ rfl rfl (Nat.le_of_ble_eq_true rfl) hl.1 d_Form_draftHas_16 ⟨Nat.le_refl 0, Nat.le_refl 0⟩ (fun r_1 H locs h hH => ?_)
      try dsimp only at h
      refine lv_iload_n hx hb d_Form_draftHas_19 rfl (lv_at hl 1 rfl) ?_
      refine lv_icmp_ne (tgt := 25) hx hb d_Form_draftHas_20 (by decide) (fun c => ?_) (fun c => ?_)
      · have h := h.1 c
        refine lv_iinc (v := (x2 + 1)) (lv' := [(2, .int (x2 + 1)), (0, .ref (ad 1)), (1, .int x1)]) hx hb d_Form_draftHas_25 hl (k := 2) rfl rfl (by decide) rfl (fun ls hl => ?_)
        refine lv_goto (tgt := 2) hx hb d_Form_draftHas_28 (by decide) ?_
        exact ih (x2 + 1) _ _ _ h (lv_sub hl [1, 2, 0] rfl) hH
      · have h := h.2 c
        refine lv_iconst (v := 1) hx hb d_Form_draftHas_23 (by decide) ?_
        exact q_retz C0 hH () rfl (Or.inr rfl) h d_Form_draftHas_24
set_option maxHeartbeats 4000000 in
set_option maxRecDepth 100000 in
theorem c_Form_draftHas (l : Launch) (dC : Nat → ClassId) (dI : Nat → Nat → Nat) (cA : ClassId) (ad : Nat → Nat) (x1 : Int32) (fo : tForm) (Q : Int32 → Prop) (sz : Nat) (h : w_Form_draftHas x1 fo Q) :
    q_Mi l y_Form_draftHas b_Form_draftHas 3 (some .boolean) 1 20 [.ref (ad 1), .int x1] dC dI cA ([c_FO ad cA fo].flatten) (fun _ : Unit => [c_FO ad cA fo].flatten) sz (fun r _ => Q r) := by
  refine q_meti (plainFor_of_name (by decide +kernel)) (Nat.le_of_ble_eq_true rfl) (fun {p e s m below meth c ls} C0 hl hH => ?_)
  obtain ⟨hx, hb, -⟩ := id C0
  have hA : ∀ q, s.heap.size ≤ q → va_A ([c_FO ad cA fo].flatten) s.heap.size q := q_nA
  have hl : lv_has ls 3 [(0, .ref (ad 1)), (1, .int x1)] := hl
  unfold w_Form_draftHas at h
  refine lv_iconst (v := 0) hx hb d_Form_draftHas_0 (by decide) ?_
  refine lv_istore_n (lv' := [(2, .int 0), (0, .ref (ad 1)), (1, .int x1)]) hx hb d_Form_draftHas_1 rfl hl (by decide) rfl (fun ls hl => ?_)
  obtain ⟨nn, h⟩ := h
  refine x_Form_draftHas_L2 C0 hA x1 fo ?_ nn 0 _ _ _ h (lv_sub hl [1, 2, 0] rfl) hH
  · intro H locs ls h hl hH
    try dsimp only at h
    refine lv_iconst (v := 0) hx hb d_Form_draftHas_31 (by decide) ?_
    exact q_retz C0 hH () rfl (Or.inl rfl) h d_Form_draftHas_32
theorem d_Form_addToDraft_0 : decode b_Form_addToDraft 0 = .ok (.aload_n 0, 1) := by decide +kernel
theorem d_Form_addToDraft_1 : decode b_Form_addToDraft 1 = .ok (.getfield 30, 3) := by decide +kernel
theorem d_Form_addToDraft_4 : decode b_Form_addToDraft 4 = .ok (.bipush 6, 2) := by decide +kernel
theorem d_Form_addToDraft_6 : decode b_Form_addToDraft 6 = .ok (.if_icmp .ge 23, 3) := by decide +kernel
theorem d_Form_addToDraft_9 : decode b_Form_addToDraft 9 = .ok (.aload_n 0, 1) := by decide +kernel
theorem d_Form_addToDraft_10 : decode b_Form_addToDraft 10 = .ok (.getfield 9, 3) := by decide +kernel
theorem d_Form_addToDraft_13 : decode b_Form_addToDraft 13 = .ok (.aload_n 0, 1) := by decide +kernel
theorem d_Form_addToDraft_14 : decode b_Form_addToDraft 14 = .ok (.getfield 30, 3) := by decide +kernel
theorem d_Form_addToDraft_17 : decode b_Form_addToDraft 17 = .ok (.iload_n 1, 1) := by decide +kernel
theorem d_Form_addToDraft_18 : decode b_Form_addToDraft 18 = .ok (.iastore, 1) := by decide +kernel
theorem d_Form_addToDraft_19 : decode b_Form_addToDraft 19 = .ok (.aload_n 0, 1) := by decide +kernel
theorem d_Form_addToDraft_20 : decode b_Form_addToDraft 20 = .ok (.dup, 1) := by decide +kernel
theorem d_Form_addToDraft_21 : decode b_Form_addToDraft 21 = .ok (.getfield 30, 3) := by decide +kernel
theorem d_Form_addToDraft_24 : decode b_Form_addToDraft 24 = .ok (.iconst 1, 1) := by decide +kernel
theorem d_Form_addToDraft_25 : decode b_Form_addToDraft 25 = .ok (.iadd, 1) := by decide +kernel
theorem d_Form_addToDraft_26 : decode b_Form_addToDraft 26 = .ok (.putfield 30, 3) := by decide +kernel
theorem d_Form_addToDraft_29 : decode b_Form_addToDraft 29 = .ok (.aload_n 0, 1) := by decide +kernel
theorem d_Form_addToDraft_30 : decode b_Form_addToDraft 30 = .ok (.getfield 30, 3) := by decide +kernel
theorem d_Form_addToDraft_33 : decode b_Form_addToDraft 33 = .ok (.ireturn, 1) := by decide +kernel
set_option maxHeartbeats 4000000 in
set_option maxRecDepth 100000 in
theorem c_Form_addToDraft (l : Launch) (dC : Nat → ClassId) (dI : Nat → Nat → Nat) (cA : ClassId) (ad : Nat → Nat) (x1 : Int32) (fo : tForm) (Q : Int32 → tForm → Prop) (sz : Nat) (h : w_Form_addToDraft x1 fo Q) :
    q_Mi l y_Form_addToDraft b_Form_addToDraft 2 (some .int) 0 0 [.ref (ad 1), .int x1] dC dI cA ([c_FO ad cA fo].flatten) (fun u : tForm => [c_FO ad cA u].flatten) sz (fun r u => Q r u) := by
  refine q_meti (plainFor_of_name (by decide +kernel)) (Nat.le_of_ble_eq_true rfl) (fun {p e s m below meth c ls} C0 hl hH => ?_)
  obtain ⟨hx, hb, -⟩ := id C0
  have hA : ∀ q, s.heap.size ≤ q → va_A ([c_FO ad cA fo].flatten) s.heap.size q := q_nA
  have hl : lv_has ls 2 [(0, .ref (ad 1)), (1, .int x1)] := hl
  unfold w_Form_addToDraft at h
  refine lv_aload_n hx hb d_Form_addToDraft_0 rfl (lv_at hl 0 rfl) ?_
  refine q_get (v := .int fo.draftSize) C0 hH 0 rfl hc_1 1 (by decide) k_54 rfl d_Form_addToDraft_1 ?_
  refine lv_bipush (v := 6) hx hb d_Form_addToDraft_4 (by decide) ?_
  refine lv_icmp_ge (tgt := 29) hx hb d_Form_addToDraft_6 (by decide) (fun c => ?_) (fun c => ?_)
  · have h := h.1 c
    refine lv_aload_n hx hb d_Form_addToDraft_29 rfl (lv_at hl 0 rfl) ?_
    refine q_get (v := .int fo.draftSize) C0 hH 0 rfl hc_1 1 (by decide) k_54 rfl d_Form_addToDraft_30 ?_
    exact q_reti C0 hH fo rfl h d_Form_addToDraft_33
  · have h := h.2 c
    refine lv_aload_n hx hb d_Form_addToDraft_9 rfl (lv_at hl 0 rfl) ?_
    refine q_get (v := .ref (ad 2)) C0 hH 0 rfl hc_1 2 (by decide) k_56 rfl d_Form_addToDraft_10 ?_
    refine lv_aload_n hx hb d_Form_addToDraft_13 rfl (lv_at hl 0 rfl) ?_
    refine q_get (v := .int fo.draftSize) C0 hH 0 rfl hc_1 1 (by decide) k_54 rfl d_Form_addToDraft_14 ?_
    refine lv_iload_n hx hb d_Form_addToDraft_17 rfl (lv_at hl 1 rfl) ?_
    obtain ⟨hi, h⟩ := h
    refine q_ast (ws' := [c_FO ad cA (tForm.mk fo.width fo.draftSize (upd fo.draft fo.draftSize.toNatClampNeg x1) fo.literals fo.sizes)].flatten) (f := fo.draft) C0 hH 1 rfl hi rfl d_Form_addToDraft_18 (fun H locs hH => ?_)
    refine lv_aload_n hx hb d_Form_addToDraft_19 rfl (lv_at hl 0 rfl) ?_
    refine lv_dup hx hb d_Form_addToDraft_20 rfl ?_
    refine q_get (v := .int fo.draftSize) C0 hH 0 rfl hc_1 1 (by decide) k_54 rfl d_Form_addToDraft_21 ?_
    refine lv_iconst (v := 1) hx hb d_Form_addToDraft_24 (by decide) ?_
    refine lv_iadd hx hb d_Form_addToDraft_25 ?_
    refine q_puti (ws' := [c_FO ad cA (tForm.mk fo.width (fo.draftSize + 1) (upd fo.draft fo.draftSize.toNatClampNeg x1) fo.literals fo.sizes)].flatten) C0 hH 0 rfl hc_1 1 (by decide) k_54 rfl rfl (Nat.le_of_ble_eq_true rfl) rfl d_Form_addToDraft_26 (fun H locs hH => ?_)
    refine lv_aload_n hx hb d_Form_addToDraft_29 rfl (lv_at hl 0 rfl) ?_
    refine q_get (v := .int (fo.draftSize + 1)) C0 hH 0 rfl hc_1 1 (by decide) k_54 rfl d_Form_addToDraft_30 ?_
    exact q_reti C0 hH (tForm.mk fo.width (fo.draftSize + 1) (upd fo.draft fo.draftSize.toNatClampNeg x1) fo.literals fo.sizes) rfl h d_Form_addToDraft_33
theorem d_PC_literal_0 : decode b_PC_literal 0 = .ok (.iload_n 1, 1) := by decide +kernel
theorem d_PC_literal_1 : decode b_PC_literal 1 = .ok (.ifCond .eq 25, 3) := by decide +kernel
theorem d_PC_literal_4 : decode b_PC_literal 4 = .ok (.aload_n 0, 1) := by decide +kernel
theorem d_PC_literal_5 : decode b_PC_literal 5 = .ok (.iload_n 1, 1) := by decide +kernel
theorem d_PC_literal_6 : decode b_PC_literal 6 = .ok (.invokevirtual 60, 3) := by decide +kernel
theorem d_PC_literal_9 : decode b_PC_literal 9 = .ok (.ifCond .eq 17, 3) := by decide +kernel
theorem d_PC_literal_12 : decode b_PC_literal 12 = .ok (.aload_n 0, 1) := by decide +kernel
theorem d_PC_literal_13 : decode b_PC_literal 13 = .ok (.getfield 12, 3) := by decide +kernel
theorem d_PC_literal_16 : decode b_PC_literal 16 = .ok (.iload_n 1, 1) := by decide +kernel
theorem d_PC_literal_17 : decode b_PC_literal 17 = .ok (.invokestatic 64, 3) := by decide +kernel
theorem d_PC_literal_20 : decode b_PC_literal 20 = .ok (.invokevirtual 70, 3) := by decide +kernel
theorem d_PC_literal_23 : decode b_PC_literal 23 = .ok (.ifCond .eq 5, 3) := by decide +kernel
theorem d_PC_literal_26 : decode b_PC_literal 26 = .ok (.iconst (-1), 1) := by decide +kernel
theorem d_PC_literal_27 : decode b_PC_literal 27 = .ok (.ireturn, 1) := by decide +kernel
theorem d_PC_literal_28 : decode b_PC_literal 28 = .ok (.aload_n 0, 1) := by decide +kernel
theorem d_PC_literal_29 : decode b_PC_literal 29 = .ok (.getfield 12, 3) := by decide +kernel
theorem d_PC_literal_32 : decode b_PC_literal 32 = .ok (.getfield 54, 3) := by decide +kernel
theorem d_PC_literal_35 : decode b_PC_literal 35 = .ok (.bipush 6, 2) := by decide +kernel
theorem d_PC_literal_37 : decode b_PC_literal 37 = .ok (.if_icmp .lt 6, 3) := by decide +kernel
theorem d_PC_literal_40 : decode b_PC_literal 40 = .ok (.bipush (-3), 2) := by decide +kernel
theorem d_PC_literal_42 : decode b_PC_literal 42 = .ok (.ireturn, 1) := by decide +kernel
theorem d_PC_literal_43 : decode b_PC_literal 43 = .ok (.aload_n 0, 1) := by decide +kernel
theorem d_PC_literal_44 : decode b_PC_literal 44 = .ok (.getfield 12, 3) := by decide +kernel
theorem d_PC_literal_47 : decode b_PC_literal 47 = .ok (.iload_n 1, 1) := by decide +kernel
theorem d_PC_literal_48 : decode b_PC_literal 48 = .ok (.invokevirtual 73, 3) := by decide +kernel
theorem d_PC_literal_51 : decode b_PC_literal 51 = .ok (.ireturn, 1) := by decide +kernel
set_option maxHeartbeats 4000000 in
set_option maxRecDepth 100000 in
theorem c_PC_literal (l : Launch) (dC : Nat → ClassId) (dI : Nat → Nat → Nat) (cA : ClassId) (ad : Nat → Nat) (x1 : Int32) (fo : tForm) (Q : Int32 → tForm → Prop) (sz : Nat) (h : w_PC_literal x1 fo Q) :
    q_Mi l y_PC_literal b_PC_literal 2 (some .int) 2 42 [.ref (ad 0), .int x1] dC dI cA ([c_PC ad, c_FO ad cA fo].flatten) (fun u : tForm => [c_PC ad, c_FO ad cA u].flatten) sz (fun r u => Q r u) := by
  refine q_meti (plainFor_of_name (by decide +kernel)) (Nat.le_of_ble_eq_true rfl) (fun {p e s m below meth c ls} C0 hl hH => ?_)
  obtain ⟨hx, hb, -⟩ := id C0
  have hA : ∀ q, s.heap.size ≤ q → va_A ([c_PC ad, c_FO ad cA fo].flatten) s.heap.size q := q_nA
  have hl : lv_has ls 2 [(0, .ref (ad 0)), (1, .int x1)] := hl
  unfold w_PC_literal at h
  refine lv_iload_n hx hb d_PC_literal_0 rfl (lv_at hl 1 rfl) ?_
  refine lv_if_eq (tgt := 26) hx hb d_PC_literal_1 (by decide) (fun c => ?_) (fun c => ?_)
  · have h := h.1 c
    refine lv_iconst (v := (-1)) hx hb d_PC_literal_26 (by decide) ?_
    exact q_reti C0 hH fo rfl h d_PC_literal_27
  · have h := h.2 c
    refine lv_aload_n hx hb d_PC_literal_4 rfl (lv_at hl 0 rfl) ?_
    refine lv_iload_n hx hb d_PC_literal_5 rfl (lv_at hl 1 rfl) ?_
    refine q_calli (rest := []) (ws' := fun _ : Unit => [c_PC ad, c_FO ad cA fo].flatten) C0 hH hA (c_PC_isLiteralOrZero l dC dI cA ad x1 fo _ _ h) Y_PC_isLiteralOrZero k_281 0 rfl hc_0 (q_pg [0, 1] [] [0, 1] 2 2 rfl (by decide) rfl (fun _ => rfl) rfl (by decide) (fun _ => rfl)) ⟨Nat.le_of_ble_eq_true rfl, Nat.le_of_ble_eq_true rfl⟩ rfl rfl (Nat.le_of_ble_eq_true rfl) hl.1 d_PC_literal_6 ⟨Nat.le_refl 0, Nat.le_refl 0⟩ (fun r_1 u_1 H locs h hH => ?_)
    try dsimp only at h
    have hH : q_H dC dI (va_A ([c_PC ad, c_FO ad cA fo].flatten) s.heap.size) s.heap H locs ([c_PC ad, c_FO ad cA fo].flatten) := hH
    refine lv_if_eq (tgt := 26) hx hb d_PC_literal_9 (by decide) (fun c => ?_) (fun c => ?_)
    · have h := h.1 c
      refine lv_iconst (v := (-1)) hx hb d_PC_literal_26 (by decide) ?_
      exact q_reti C0 hH fo rfl h d_PC_literal_27
    · have h := h.2 c
      refine lv_aload_n hx hb d_PC_literal_12 rfl (lv_at hl 0 rfl) ?_
      refine q_get (v := .ref (ad 1)) C0 hH 0 rfl hc_0 0 (by decide) k_256 rfl d_PC_literal_13 ?_
      refine lv_iload_n hx hb d_PC_literal_16 rfl (lv_at hl 1 rfl) ?_
      refine q_calls (rest := [.ref (ad 1)]) C0 hH hA (c_Math_abs l dC dI cA ad x1 _ _ h) Y_Math_abs k_285 ⟨Nat.le_of_ble_eq_true rfl, Nat.le_of_ble_eq_true rfl⟩ rfl rfl (Nat.le_of_ble_eq_true rfl) hl.1 d_PC_literal_17 ⟨Nat.le_refl 0, Nat.le_refl 0⟩ (fun r_2 H locs h hH => ?_)
      try dsimp only at h
      refine q_calli (rest := []) (ws' := fun _ : Unit => [c_PC ad, c_FO ad cA fo].flatten) C0 hH hA (c_Form_draftHas l dC dI cA ad r_2 fo _ _ h) Y_Form_draftHas k_288 1 rfl hc_1 (q_pg [1] [0] [0, 1] 2 1 rfl (by decide) rfl (fun _ => rfl) rfl (by decide) (fun _ => rfl)) ⟨Nat.le_of_ble_eq_true rfl, Nat.le_of_ble_eq_true rfl⟩ rfl rfl (Nat.le_of_ble_eq_true rfl) hl.1 d_PC_literal_20 ⟨Nat.le_refl 0, Nat.le_refl 0⟩ (fun r_3 u_3 H locs h hH => ?_)
      try dsimp only at h
      have hH : q_H dC dI (va_A ([c_PC ad, c_FO ad cA fo].flatten) s.heap.size) s.heap H locs ([c_PC ad, c_FO ad cA fo].flatten) := hH
      refine lv_if_eq (tgt := 28) hx hb d_PC_literal_23 (by decide) (fun c => ?_) (fun c => ?_)
      · have h := h.1 c
        refine lv_aload_n hx hb d_PC_literal_28 rfl (lv_at hl 0 rfl) ?_
        refine q_get (v := .ref (ad 1)) C0 hH 0 rfl hc_0 0 (by decide) k_256 rfl d_PC_literal_29 ?_
        refine q_get (v := .int fo.draftSize) C0 hH 1 rfl hc_1 1 (by decide) k_55 rfl d_PC_literal_32 ?_
        refine lv_bipush (v := 6) hx hb d_PC_literal_35 (by decide) ?_
        refine lv_icmp_lt (tgt := 43) hx hb d_PC_literal_37 (by decide) (fun c => ?_) (fun c => ?_)
        · have h := h.1 c
          refine lv_aload_n hx hb d_PC_literal_43 rfl (lv_at hl 0 rfl) ?_
          refine q_get (v := .ref (ad 1)) C0 hH 0 rfl hc_0 0 (by decide) k_256 rfl d_PC_literal_44 ?_
          refine lv_iload_n hx hb d_PC_literal_47 rfl (lv_at hl 1 rfl) ?_
          refine q_calli (rest := []) (ws' := fun u : tForm => [c_PC ad, c_FO ad cA u].flatten) C0 hH hA (c_Form_addToDraft l dC dI cA ad x1 fo _ _ h) Y_Form_addToDraft k_293 1 rfl hc_1 (q_pg [1] [0] [0, 1] 2 1 rfl (by decide) rfl (fun _ => rfl) rfl (by decide) (fun _ => rfl)) ⟨Nat.le_of_ble_eq_true rfl, Nat.le_of_ble_eq_true rfl⟩ rfl rfl (Nat.le_of_ble_eq_true rfl) hl.1 d_PC_literal_48 ⟨Nat.le_refl 0, Nat.le_refl 0⟩ (fun r_4 u_4 H locs h hH => ?_)
          obtain ⟨fo_4, rfl⟩ : ∃ z, z = u_4 := ⟨_, rfl⟩
          try dsimp only at h
          have hH : q_H dC dI (va_A ([c_PC ad, c_FO ad cA fo].flatten) s.heap.size) s.heap H locs ([c_PC ad, c_FO ad cA fo_4].flatten) := hH
          exact q_reti C0 hH fo_4 rfl h d_PC_literal_51
        · have h := h.2 c
          refine lv_bipush (v := (-3)) hx hb d_PC_literal_40 (by decide) ?_
          exact q_reti C0 hH fo rfl h d_PC_literal_42
      · have h := h.2 c
        refine lv_iconst (v := (-1)) hx hb d_PC_literal_26 (by decide) ?_
        exact q_reti C0 hH fo rfl h d_PC_literal_27
theorem d_Rows_add_0 : decode b_Rows_add 0 = .ok (.aload_n 0, 1) := by decide +kernel
theorem d_Rows_add_1 : decode b_Rows_add 1 = .ok (.getfield 7, 3) := by decide +kernel
theorem d_Rows_add_4 : decode b_Rows_add 4 = .ok (.arraylength, 1) := by decide +kernel
theorem d_Rows_add_5 : decode b_Rows_add 5 = .ok (.istore_n 3, 1) := by decide +kernel
theorem d_Rows_add_6 : decode b_Rows_add 6 = .ok (.aload_n 0, 1) := by decide +kernel
theorem d_Rows_add_7 : decode b_Rows_add 7 = .ok (.getfield 16, 3) := by decide +kernel
theorem d_Rows_add_10 : decode b_Rows_add 10 = .ok (.istore 4, 2) := by decide +kernel
theorem d_Rows_add_12 : decode b_Rows_add 12 = .ok (.aload_n 0, 1) := by decide +kernel
theorem d_Rows_add_13 : decode b_Rows_add 13 = .ok (.getfield 16, 3) := by decide +kernel
theorem d_Rows_add_16 : decode b_Rows_add 16 = .ok (.iload_n 3, 1) := by decide +kernel
theorem d_Rows_add_17 : decode b_Rows_add 17 = .ok (.if_icmp .ge 16, 3) := by decide +kernel
theorem d_Rows_add_20 : decode b_Rows_add 20 = .ok (.aload_n 0, 1) := by decide +kernel
theorem d_Rows_add_21 : decode b_Rows_add 21 = .ok (.dup, 1) := by decide +kernel
theorem d_Rows_add_22 : decode b_Rows_add 22 = .ok (.getfield 16, 3) := by decide +kernel
theorem d_Rows_add_25 : decode b_Rows_add 25 = .ok (.iconst 1, 1) := by decide +kernel
theorem d_Rows_add_26 : decode b_Rows_add 26 = .ok (.iadd, 1) := by decide +kernel
theorem d_Rows_add_27 : decode b_Rows_add 27 = .ok (.putfield 16, 3) := by decide +kernel
theorem d_Rows_add_30 : decode b_Rows_add 30 = .ok (.goto 33, 3) := by decide +kernel
theorem d_Rows_add_33 : decode b_Rows_add 33 = .ok (.aload_n 0, 1) := by decide +kernel
theorem d_Rows_add_34 : decode b_Rows_add 34 = .ok (.getfield 20, 3) := by decide +kernel
theorem d_Rows_add_37 : decode b_Rows_add 37 = .ok (.istore 4, 2) := by decide +kernel
theorem d_Rows_add_39 : decode b_Rows_add 39 = .ok (.aload_n 0, 1) := by decide +kernel
theorem d_Rows_add_40 : decode b_Rows_add 40 = .ok (.aload_n 0, 1) := by decide +kernel
theorem d_Rows_add_41 : decode b_Rows_add 41 = .ok (.getfield 20, 3) := by decide +kernel
theorem d_Rows_add_44 : decode b_Rows_add 44 = .ok (.iconst 1, 1) := by decide +kernel
theorem d_Rows_add_45 : decode b_Rows_add 45 = .ok (.iadd, 1) := by decide +kernel
theorem d_Rows_add_46 : decode b_Rows_add 46 = .ok (.iload_n 3, 1) := by decide +kernel
theorem d_Rows_add_47 : decode b_Rows_add 47 = .ok (.if_icmp .ge 12, 3) := by decide +kernel
theorem d_Rows_add_50 : decode b_Rows_add 50 = .ok (.aload_n 0, 1) := by decide +kernel
theorem d_Rows_add_51 : decode b_Rows_add 51 = .ok (.getfield 20, 3) := by decide +kernel
theorem d_Rows_add_54 : decode b_Rows_add 54 = .ok (.iconst 1, 1) := by decide +kernel
theorem d_Rows_add_55 : decode b_Rows_add 55 = .ok (.iadd, 1) := by decide +kernel
theorem d_Rows_add_56 : decode b_Rows_add 56 = .ok (.goto 4, 3) := by decide +kernel
theorem d_Rows_add_59 : decode b_Rows_add 59 = .ok (.iconst 0, 1) := by decide +kernel
theorem d_Rows_add_60 : decode b_Rows_add 60 = .ok (.putfield 20, 3) := by decide +kernel
theorem d_Rows_add_63 : decode b_Rows_add 63 = .ok (.iload 4, 2) := by decide +kernel
theorem d_Rows_add_65 : decode b_Rows_add 65 = .ok (.iload_n 3, 1) := by decide +kernel
theorem d_Rows_add_66 : decode b_Rows_add 66 = .ok (.if_icmp .ge 19, 3) := by decide +kernel
theorem d_Rows_add_69 : decode b_Rows_add 69 = .ok (.aload_n 0, 1) := by decide +kernel
theorem d_Rows_add_70 : decode b_Rows_add 70 = .ok (.getfield 7, 3) := by decide +kernel
theorem d_Rows_add_73 : decode b_Rows_add 73 = .ok (.iload 4, 2) := by decide +kernel
theorem d_Rows_add_75 : decode b_Rows_add 75 = .ok (.iload_n 1, 1) := by decide +kernel
theorem d_Rows_add_76 : decode b_Rows_add 76 = .ok (.iastore, 1) := by decide +kernel
theorem d_Rows_add_77 : decode b_Rows_add 77 = .ok (.aload_n 0, 1) := by decide +kernel
theorem d_Rows_add_78 : decode b_Rows_add 78 = .ok (.getfield 13, 3) := by decide +kernel
theorem d_Rows_add_81 : decode b_Rows_add 81 = .ok (.iload 4, 2) := by decide +kernel
theorem d_Rows_add_83 : decode b_Rows_add 83 = .ok (.iload_n 2, 1) := by decide +kernel
theorem d_Rows_add_84 : decode b_Rows_add 84 = .ok (.iastore, 1) := by decide +kernel
theorem d_Rows_add_85 : decode b_Rows_add 85 = .ok (.return_, 1) := by decide +kernel
set_option maxHeartbeats 4000000 in
set_option maxRecDepth 100000 in
theorem c_Rows_add_fr (l : Launch) (dC : Nat → ClassId) (dI : Nat → Nat → Nat) (cA : ClassId) (ad : Nat → Nat) (x1 : Int32) (x2 : Int32) (fr : tRows) (Q : tRows → Prop) (sz : Nat) (h : w_Rows_add x1 x2 fr Q) :
    q_Mv l y_Rows_add b_Rows_add 5 0 0 [.ref (ad 5), .int x1, .int x2] dC dI cA ([c_FR ad cA fr].flatten) (fun u : tRows => [c_FR ad cA u].flatten) sz (fun u => Q u) := by
  refine q_metv (plainFor_of_name (by decide +kernel)) (Nat.le_of_ble_eq_true rfl) (fun {p e s m below meth c ls} C0 hl hH => ?_)
  obtain ⟨hx, hb, -⟩ := id C0
  have hA : ∀ q, s.heap.size ≤ q → va_A ([c_FR ad cA fr].flatten) s.heap.size q := q_nA
  have hl : lv_has ls 5 [(0, .ref (ad 5)), (1, .int x1), (2, .int x2)] := hl
  unfold w_Rows_add at h
  refine lv_aload_n hx hb d_Rows_add_0 rfl (lv_at hl 0 rfl) ?_
  refine q_get (v := .ref (ad 6)) C0 hH 0 rfl hc_2 0 (by decide) k_32 rfl d_Rows_add_1 ?_
  refine q_alen (n := fr.room) (f := fr.wantTrue) C0 hH 1 rfl d_Rows_add_4 ?_
  refine lv_istore_n (lv' := [(3, .int (nI fr.room)), (0, .ref (ad 5)), (1, .int x1), (2, .int x2)]) hx hb d_Rows_add_5 rfl hl (by decide) rfl (fun ls hl => ?_)
  refine lv_aload_n hx hb d_Rows_add_6 rfl (lv_at hl 1 rfl) ?_
  refine q_get (v := .int fr.size) C0 hH 0 rfl hc_2 2 (by decide) k_36 rfl d_Rows_add_7 ?_
  refine lv_istore (lv' := [(4, .int fr.size), (3, .int (nI fr.room)), (0, .ref (ad 5)), (1, .int x1), (2, .int x2)]) hx hb d_Rows_add_10 hl (by decide) rfl (fun ls hl => ?_)
  refine lv_aload_n hx hb d_Rows_add_12 rfl (lv_at hl 2 rfl) ?_
  refine q_get (v := .int fr.size) C0 hH 0 rfl hc_2 2 (by decide) k_36 rfl d_Rows_add_13 ?_
  refine lv_iload_n hx hb d_Rows_add_16 rfl (lv_at hl 1 rfl) ?_
  refine lv_icmp_ge (tgt := 33) hx hb d_Rows_add_17 (by decide) (fun c => ?_) (fun c => ?_)
  · have h := h.1 c
    refine lv_aload_n hx hb d_Rows_add_33 rfl (lv_at hl 2 rfl) ?_
    refine q_get (v := .int fr.oldest) C0 hH 0 rfl hc_2 3 (by decide) k_41 rfl d_Rows_add_34 ?_
    refine lv_istore (lv' := [(4, .int fr.oldest), (3, .int (nI fr.room)), (0, .ref (ad 5)), (1, .int x1), (2, .int x2)]) hx hb d_Rows_add_37 hl (by decide) rfl (fun ls hl => ?_)
    refine lv_aload_n hx hb d_Rows_add_39 rfl (lv_at hl 2 rfl) ?_
    refine lv_aload_n hx hb d_Rows_add_40 rfl (lv_at hl 2 rfl) ?_
    refine q_get (v := .int fr.oldest) C0 hH 0 rfl hc_2 3 (by decide) k_41 rfl d_Rows_add_41 ?_
    refine lv_iconst (v := 1) hx hb d_Rows_add_44 (by decide) ?_
    refine lv_iadd hx hb d_Rows_add_45 ?_
    refine lv_iload_n hx hb d_Rows_add_46 rfl (lv_at hl 1 rfl) ?_
    refine lv_icmp_ge (tgt := 59) hx hb d_Rows_add_47 (by decide) (fun c => ?_) (fun c => ?_)
    · have h := h.1 c
      refine lv_iconst (v := 0) hx hb d_Rows_add_59 (by decide) ?_
      refine q_puti (ws' := [c_FR ad cA (tRows.mk fr.wantTrue fr.wantFalse fr.size 0 fr.room)].flatten) C0 hH 0 rfl hc_2 3 (by decide) k_41 rfl rfl (Nat.le_of_ble_eq_true rfl) rfl d_Rows_add_60 (fun H locs hH => ?_)
      refine lv_iload hx hb d_Rows_add_63 (lv_at hl 0 rfl) ?_
      refine lv_iload_n hx hb d_Rows_add_65 rfl (lv_at hl 1 rfl) ?_
      refine lv_icmp_ge (tgt := 85) hx hb d_Rows_add_66 (by decide) (fun c => ?_) (fun c => ?_)
      · have h := h.1 c
        exact q_retv C0 hH (tRows.mk fr.wantTrue fr.wantFalse fr.size 0 fr.room) rfl h d_Rows_add_85
      · have h := h.2 c
        refine lv_aload_n hx hb d_Rows_add_69 rfl (lv_at hl 2 rfl) ?_
        refine q_get (v := .ref (ad 6)) C0 hH 0 rfl hc_2 0 (by decide) k_32 rfl d_Rows_add_70 ?_
        refine lv_iload hx hb d_Rows_add_73 (lv_at hl 0 rfl) ?_
        refine lv_iload_n hx hb d_Rows_add_75 rfl (lv_at hl 3 rfl) ?_
        obtain ⟨hi, h⟩ := h
        refine q_ast (ws' := [c_FR ad cA (tRows.mk (upd fr.wantTrue fr.oldest.toNatClampNeg x1) fr.wantFalse fr.size 0 fr.room)].flatten) (f := fr.wantTrue) C0 hH 1 rfl hi rfl d_Rows_add_76 (fun H locs hH => ?_)
        refine lv_aload_n hx hb d_Rows_add_77 rfl (lv_at hl 2 rfl) ?_
        refine q_get (v := .ref (ad 7)) C0 hH 0 rfl hc_2 1 (by decide) k_34 rfl d_Rows_add_78 ?_
        refine lv_iload hx hb d_Rows_add_81 (lv_at hl 0 rfl) ?_
        refine lv_iload_n hx hb d_Rows_add_83 rfl (lv_at hl 4 rfl) ?_
        obtain ⟨hi, h⟩ := h
        refine q_ast (ws' := [c_FR ad cA (tRows.mk (upd fr.wantTrue fr.oldest.toNatClampNeg x1) (upd fr.wantFalse fr.oldest.toNatClampNeg x2) fr.size 0 fr.room)].flatten) (f := fr.wantFalse) C0 hH 2 rfl hi rfl d_Rows_add_84 (fun H locs hH => ?_)
        exact q_retv C0 hH (tRows.mk (upd fr.wantTrue fr.oldest.toNatClampNeg x1) (upd fr.wantFalse fr.oldest.toNatClampNeg x2) fr.size 0 fr.room) rfl h d_Rows_add_85
    · have h := h.2 c
      refine lv_aload_n hx hb d_Rows_add_50 rfl (lv_at hl 2 rfl) ?_
      refine q_get (v := .int fr.oldest) C0 hH 0 rfl hc_2 3 (by decide) k_41 rfl d_Rows_add_51 ?_
      refine lv_iconst (v := 1) hx hb d_Rows_add_54 (by decide) ?_
      refine lv_iadd hx hb d_Rows_add_55 ?_
      refine lv_goto (tgt := 60) hx hb d_Rows_add_56 (by decide) ?_
      refine q_puti (ws' := [c_FR ad cA (tRows.mk fr.wantTrue fr.wantFalse fr.size (fr.oldest + 1) fr.room)].flatten) C0 hH 0 rfl hc_2 3 (by decide) k_41 rfl rfl (Nat.le_of_ble_eq_true rfl) rfl d_Rows_add_60 (fun H locs hH => ?_)
      refine lv_iload hx hb d_Rows_add_63 (lv_at hl 0 rfl) ?_
      refine lv_iload_n hx hb d_Rows_add_65 rfl (lv_at hl 1 rfl) ?_
      refine lv_icmp_ge (tgt := 85) hx hb d_Rows_add_66 (by decide) (fun c => ?_) (fun c => ?_)
      · have h := h.1 c
        exact q_retv C0 hH (tRows.mk fr.wantTrue fr.wantFalse fr.size (fr.oldest + 1) fr.room) rfl h d_Rows_add_85
      · have h := h.2 c
        refine lv_aload_n hx hb d_Rows_add_69 rfl (lv_at hl 2 rfl) ?_
        refine q_get (v := .ref (ad 6)) C0 hH 0 rfl hc_2 0 (by decide) k_32 rfl d_Rows_add_70 ?_
        refine lv_iload hx hb d_Rows_add_73 (lv_at hl 0 rfl) ?_
        refine lv_iload_n hx hb d_Rows_add_75 rfl (lv_at hl 3 rfl) ?_
        obtain ⟨hi, h⟩ := h
        refine q_ast (ws' := [c_FR ad cA (tRows.mk (upd fr.wantTrue fr.oldest.toNatClampNeg x1) fr.wantFalse fr.size (fr.oldest + 1) fr.room)].flatten) (f := fr.wantTrue) C0 hH 1 rfl hi rfl d_Rows_add_76 (fun H locs hH => ?_)
        refine lv_aload_n hx hb d_Rows_add_77 rfl (lv_at hl 2 rfl) ?_
        refine q_get (v := .ref (ad 7)) C0 hH 0 rfl hc_2 1 (by decide) k_34 rfl d_Rows_add_78 ?_
        refine lv_iload hx hb d_Rows_add_81 (lv_at hl 0 rfl) ?_
        refine lv_iload_n hx hb d_Rows_add_83 rfl (lv_at hl 4 rfl) ?_
        obtain ⟨hi, h⟩ := h
        refine q_ast (ws' := [c_FR ad cA (tRows.mk (upd fr.wantTrue fr.oldest.toNatClampNeg x1) (upd fr.wantFalse fr.oldest.toNatClampNeg x2) fr.size (fr.oldest + 1) fr.room)].flatten) (f := fr.wantFalse) C0 hH 2 rfl hi rfl d_Rows_add_84 (fun H locs hH => ?_)
        exact q_retv C0 hH (tRows.mk (upd fr.wantTrue fr.oldest.toNatClampNeg x1) (upd fr.wantFalse fr.oldest.toNatClampNeg x2) fr.size (fr.oldest + 1) fr.room) rfl h d_Rows_add_85
  · have h := h.2 c
    refine lv_aload_n hx hb d_Rows_add_20 rfl (lv_at hl 2 rfl) ?_
    refine lv_dup hx hb d_Rows_add_21 rfl ?_
    refine q_get (v := .int fr.size) C0 hH 0 rfl hc_2 2 (by decide) k_36 rfl d_Rows_add_22 ?_
    refine lv_iconst (v := 1) hx hb d_Rows_add_25 (by decide) ?_
    refine lv_iadd hx hb d_Rows_add_26 ?_
    refine q_puti (ws' := [c_FR ad cA (tRows.mk fr.wantTrue fr.wantFalse (fr.size + 1) fr.oldest fr.room)].flatten) C0 hH 0 rfl hc_2 2 (by decide) k_36 rfl rfl (Nat.le_of_ble_eq_true rfl) rfl d_Rows_add_27 (fun H locs hH => ?_)
    refine lv_goto (tgt := 63) hx hb d_Rows_add_30 (by decide) ?_
    refine lv_iload hx hb d_Rows_add_63 (lv_at hl 0 rfl) ?_
    refine lv_iload_n hx hb d_Rows_add_65 rfl (lv_at hl 1 rfl) ?_
    refine lv_icmp_ge (tgt := 85) hx hb d_Rows_add_66 (by decide) (fun c => ?_) (fun c => ?_)
    · have h := h.1 c
      exact q_retv C0 hH (tRows.mk fr.wantTrue fr.wantFalse (fr.size + 1) fr.oldest fr.room) rfl h d_Rows_add_85
    · have h := h.2 c
      refine lv_aload_n hx hb d_Rows_add_69 rfl (lv_at hl 2 rfl) ?_
      refine q_get (v := .ref (ad 6)) C0 hH 0 rfl hc_2 0 (by decide) k_32 rfl d_Rows_add_70 ?_
      refine lv_iload hx hb d_Rows_add_73 (lv_at hl 0 rfl) ?_
      refine lv_iload_n hx hb d_Rows_add_75 rfl (lv_at hl 3 rfl) ?_
      obtain ⟨hi, h⟩ := h
      refine q_ast (ws' := [c_FR ad cA (tRows.mk (upd fr.wantTrue fr.size.toNatClampNeg x1) fr.wantFalse (fr.size + 1) fr.oldest fr.room)].flatten) (f := fr.wantTrue) C0 hH 1 rfl hi rfl d_Rows_add_76 (fun H locs hH => ?_)
      refine lv_aload_n hx hb d_Rows_add_77 rfl (lv_at hl 2 rfl) ?_
      refine q_get (v := .ref (ad 7)) C0 hH 0 rfl hc_2 1 (by decide) k_34 rfl d_Rows_add_78 ?_
      refine lv_iload hx hb d_Rows_add_81 (lv_at hl 0 rfl) ?_
      refine lv_iload_n hx hb d_Rows_add_83 rfl (lv_at hl 4 rfl) ?_
      obtain ⟨hi, h⟩ := h
      refine q_ast (ws' := [c_FR ad cA (tRows.mk (upd fr.wantTrue fr.size.toNatClampNeg x1) (upd fr.wantFalse fr.size.toNatClampNeg x2) (fr.size + 1) fr.oldest fr.room)].flatten) (f := fr.wantFalse) C0 hH 2 rfl hi rfl d_Rows_add_84 (fun H locs hH => ?_)
      exact q_retv C0 hH (tRows.mk (upd fr.wantTrue fr.size.toNatClampNeg x1) (upd fr.wantFalse fr.size.toNatClampNeg x2) (fr.size + 1) fr.oldest fr.room) rfl h d_Rows_add_85
theorem d_Form_addDraft_0 : decode b_Form_addDraft 0 = .ok (.aload_n 0, 1) := by decide +kernel
theorem d_Form_addDraft_1 : decode b_Form_addDraft 1 = .ok (.getfield 26, 3) := by decide +kernel
theorem d_Form_addDraft_4 : decode b_Form_addDraft 4 = .ok (.getfield 40, 3) := by decide +kernel
theorem d_Form_addDraft_7 : decode b_Form_addDraft 7 = .ok (.istore_n 1, 1) := by decide +kernel
theorem d_Form_addDraft_8 : decode b_Form_addDraft 8 = .ok (.iload_n 1, 1) := by decide +kernel
theorem d_Form_addDraft_9 : decode b_Form_addDraft 9 = .ok (.sipush 400, 3) := by decide +kernel
theorem d_Form_addDraft_12 : decode b_Form_addDraft 12 = .ok (.if_icmp .lt 4, 3) := by decide +kernel
theorem d_Form_addDraft_15 : decode b_Form_addDraft 15 = .ok (.return_, 1) := by decide +kernel
theorem d_Form_addDraft_16 : decode b_Form_addDraft 16 = .ok (.iconst 0, 1) := by decide +kernel
theorem d_Form_addDraft_17 : decode b_Form_addDraft 17 = .ok (.istore_n 2, 1) := by decide +kernel
theorem d_Form_addDraft_18 : decode b_Form_addDraft 18 = .ok (.iconst 0, 1) := by decide +kernel
theorem d_Form_addDraft_19 : decode b_Form_addDraft 19 = .ok (.istore_n 3, 1) := by decide +kernel
theorem d_Form_addDraft_20 : decode b_Form_addDraft 20 = .ok (.iconst 0, 1) := by decide +kernel
theorem d_Form_addDraft_21 : decode b_Form_addDraft 21 = .ok (.istore 4, 2) := by decide +kernel
theorem d_Form_addDraft_23 : decode b_Form_addDraft 23 = .ok (.iload 4, 2) := by decide +kernel
theorem d_Form_addDraft_25 : decode b_Form_addDraft 25 = .ok (.aload_n 0, 1) := by decide +kernel
theorem d_Form_addDraft_26 : decode b_Form_addDraft 26 = .ok (.getfield 30, 3) := by decide +kernel
theorem d_Form_addDraft_29 : decode b_Form_addDraft 29 = .ok (.if_icmp .ge 59, 3) := by decide +kernel
theorem d_Form_addDraft_32 : decode b_Form_addDraft 32 = .ok (.aload_n 0, 1) := by decide +kernel
theorem d_Form_addDraft_33 : decode b_Form_addDraft 33 = .ok (.getfield 9, 3) := by decide +kernel
theorem d_Form_addDraft_36 : decode b_Form_addDraft 36 = .ok (.iload 4, 2) := by decide +kernel
theorem d_Form_addDraft_38 : decode b_Form_addDraft 38 = .ok (.iaload, 1) := by decide +kernel
theorem d_Form_addDraft_39 : decode b_Form_addDraft 39 = .ok (.istore 5, 2) := by decide +kernel
theorem d_Form_addDraft_41 : decode b_Form_addDraft 41 = .ok (.aload_n 0, 1) := by decide +kernel
theorem d_Form_addDraft_42 : decode b_Form_addDraft 42 = .ok (.getfield 15, 3) := by decide +kernel
theorem d_Form_addDraft_45 : decode b_Form_addDraft 45 = .ok (.iload_n 1, 1) := by decide +kernel
theorem d_Form_addDraft_46 : decode b_Form_addDraft 46 = .ok (.bipush 6, 2) := by decide +kernel
theorem d_Form_addDraft_48 : decode b_Form_addDraft 48 = .ok (.imul, 1) := by decide +kernel
theorem d_Form_addDraft_49 : decode b_Form_addDraft 49 = .ok (.iload 4, 2) := by decide +kernel
theorem d_Form_addDraft_51 : decode b_Form_addDraft 51 = .ok (.iadd, 1) := by decide +kernel
theorem d_Form_addDraft_52 : decode b_Form_addDraft 52 = .ok (.iload 5, 2) := by decide +kernel
theorem d_Form_addDraft_54 : decode b_Form_addDraft 54 = .ok (.iastore, 1) := by decide +kernel
theorem d_Form_addDraft_55 : decode b_Form_addDraft 55 = .ok (.iload 5, 2) := by decide +kernel
theorem d_Form_addDraft_57 : decode b_Form_addDraft 57 = .ok (.ifCond .le 15, 3) := by decide +kernel
theorem d_Form_addDraft_60 : decode b_Form_addDraft 60 = .ok (.iload_n 2, 1) := by decide +kernel
theorem d_Form_addDraft_61 : decode b_Form_addDraft 61 = .ok (.iconst 1, 1) := by decide +kernel
theorem d_Form_addDraft_62 : decode b_Form_addDraft 62 = .ok (.iload 5, 2) := by decide +kernel
theorem d_Form_addDraft_64 : decode b_Form_addDraft 64 = .ok (.iconst 1, 1) := by decide +kernel
theorem d_Form_addDraft_65 : decode b_Form_addDraft 65 = .ok (.isub, 1) := by decide +kernel
theorem d_Form_addDraft_66 : decode b_Form_addDraft 66 = .ok (.ishl, 1) := by decide +kernel
theorem d_Form_addDraft_67 : decode b_Form_addDraft 67 = .ok (.ior, 1) := by decide +kernel
theorem d_Form_addDraft_68 : decode b_Form_addDraft 68 = .ok (.istore_n 2, 1) := by decide +kernel
theorem d_Form_addDraft_69 : decode b_Form_addDraft 69 = .ok (.goto 13, 3) := by decide +kernel
theorem d_Form_addDraft_72 : decode b_Form_addDraft 72 = .ok (.iload_n 3, 1) := by decide +kernel
theorem d_Form_addDraft_73 : decode b_Form_addDraft 73 = .ok (.iconst 1, 1) := by decide +kernel
theorem d_Form_addDraft_74 : decode b_Form_addDraft 74 = .ok (.iload 5, 2) := by decide +kernel
theorem d_Form_addDraft_76 : decode b_Form_addDraft 76 = .ok (.ineg, 1) := by decide +kernel
theorem d_Form_addDraft_77 : decode b_Form_addDraft 77 = .ok (.iconst 1, 1) := by decide +kernel
theorem d_Form_addDraft_78 : decode b_Form_addDraft 78 = .ok (.isub, 1) := by decide +kernel
theorem d_Form_addDraft_79 : decode b_Form_addDraft 79 = .ok (.ishl, 1) := by decide +kernel
theorem d_Form_addDraft_80 : decode b_Form_addDraft 80 = .ok (.ior, 1) := by decide +kernel
theorem d_Form_addDraft_81 : decode b_Form_addDraft 81 = .ok (.istore_n 3, 1) := by decide +kernel
theorem d_Form_addDraft_82 : decode b_Form_addDraft 82 = .ok (.iinc 4 1, 3) := by decide +kernel
theorem d_Form_addDraft_85 : decode b_Form_addDraft 85 = .ok (.goto (-62), 3) := by decide +kernel
theorem d_Form_addDraft_88 : decode b_Form_addDraft 88 = .ok (.aload_n 0, 1) := by decide +kernel
theorem d_Form_addDraft_89 : decode b_Form_addDraft 89 = .ok (.getfield 18, 3) := by decide +kernel
theorem d_Form_addDraft_92 : decode b_Form_addDraft 92 = .ok (.iload_n 1, 1) := by decide +kernel
theorem d_Form_addDraft_93 : decode b_Form_addDraft 93 = .ok (.aload_n 0, 1) := by decide +kernel
theorem d_Form_addDraft_94 : decode b_Form_addDraft 94 = .ok (.getfield 30, 3) := by decide +kernel
theorem d_Form_addDraft_97 : decode b_Form_addDraft 97 = .ok (.iastore, 1) := by decide +kernel
theorem d_Form_addDraft_98 : decode b_Form_addDraft 98 = .ok (.aload_n 0, 1) := by decide +kernel
theorem d_Form_addDraft_99 : decode b_Form_addDraft 99 = .ok (.getfield 26, 3) := by decide +kernel
theorem d_Form_addDraft_102 : decode b_Form_addDraft 102 = .ok (.iload_n 2, 1) := by decide +kernel
theorem d_Form_addDraft_103 : decode b_Form_addDraft 103 = .ok (.iload_n 3, 1) := by decide +kernel
theorem d_Form_addDraft_104 : decode b_Form_addDraft 104 = .ok (.invokevirtual 43, 3) := by decide +kernel
theorem d_Form_addDraft_107 : decode b_Form_addDraft 107 = .ok (.aload_n 0, 1) := by decide +kernel
theorem d_Form_addDraft_108 : decode b_Form_addDraft 108 = .ok (.iconst 0, 1) := by decide +kernel
theorem d_Form_addDraft_109 : decode b_Form_addDraft 109 = .ok (.putfield 30, 3) := by decide +kernel
theorem d_Form_addDraft_112 : decode b_Form_addDraft 112 = .ok (.return_, 1) := by decide +kernel
set_option maxHeartbeats 4000000 in
set_option maxRecDepth 100000 in
theorem x_Form_addDraft_L23 {p : Program} {e : Env} {s : State} {m : MethodId} {args : Array Value} {below : List Frame} {meth : Method} {c : Code} {l : Launch} {dC : Nat → ClassId} {dI : Nat → Nat → Nat} {cA : ClassId} {ad : Nat → Nat} {w0 : va_W} (C0 : q_C p s m args meth c b_Form_addDraft 6 none "PlanClauses$Formula" dC dI cA) (hA : ∀ q, s.heap.size ≤ q → va_A w0 s.heap.size q) (x1 : Int32) (fr : tRows) {Q : tForm → tRows → Prop} {K88 : Int32 → Int32 → tForm → Prop}
    (hK88 : ∀ (x2 : Int32) (x3 : Int32) (fo : tForm) (H : Heap) (locs : List Loc) (ls : Array Slot), K88 x2 x3 fo → lv_has ls 6 [(0, .ref (ad 1)), (1, .int x1), (2, .int x2), (3, .int x3)] → q_H dC dI (va_A w0 s.heap.size) s.heap H locs ([c_FO ad cA fo, c_FR ad cA fr].flatten) → W p l e (q_R 1 24) s m args below meth c H locs 0 0 (q_Zv below args s dC dI cA w0 (fun u : tForm × tRows => [c_FO ad cA u.1, c_FR ad cA u.2].flatten) (fun u => Q u.1 u.2)) (F0 m 88 ls [])) :
    ∀ (nn : Nat) (x2 : Int32) (x3 : Int32) (x4 : Int32) (fo : tForm) (H : Heap) (locs : List Loc) (ls : Array Slot), w_Form_addDraft_L23 x1 K88 nn x2 x3 x4 fo → lv_has ls 6 [(0, .ref (ad 1)), (1, .int x1), (2, .int x2), (3, .int x3), (4, .int x4)] → q_H dC dI (va_A w0 s.heap.size) s.heap H locs ([c_FO ad cA fo, c_FR ad cA fr].flatten) → W p l e (q_R 1 24) s m args below meth c H locs 0 0 (q_Zv below args s dC dI cA w0 (fun u : tForm × tRows => [c_FO ad cA u.1, c_FR ad cA u.2].flatten) (fun u => Q u.1 u.2)) (F0 m 23 ls []) := by
  obtain ⟨hx, hb, -⟩ := id C0
  intro nn
  induction nn with
  | zero =>
    intro x2 x3 x4 fo H locs ls h
    exact (show False from h).elim
  | succ nn ih =>
    intro x2 x3 x4 fo H locs ls h hl hH
    rw [w_Form_addDraft_L23] at h
    refine lv_iload hx hb d_Form_addDraft_23 (lv_at hl 4 rfl) ?_
    refine lv_aload_n hx hb d_Form_addDraft_25 rfl (lv_at hl 0 rfl) ?_
    refine q_get (v := .int fo.draftSize) C0 hH 0 rfl hc_1 1 (by decide) k_54 rfl d_Form_addDraft_26 ?_
    refine lv_icmp_ge (tgt := 88) hx hb d_Form_addDraft_29 (by decide) (fun c => ?_) (fun c => ?_)
    · have h := h.1 c
      exact hK88 x2 x3 fo _ _ _ h (lv_sub hl [0, 1, 2, 3] rfl) hH
    · have h := h.2 c
      refine lv_aload_n hx hb d_Form_addDraft_32 rfl (lv_at hl 0 rfl) ?_
      refine q_get (v := .ref (ad 2)) C0 hH 0 rfl hc_1 2 (by decide) k_56 rfl d_Form_addDraft_33 ?_
      refine lv_iload hx hb d_Form_addDraft_36 (lv_at hl 4 rfl) ?_
      obtain ⟨hi, h⟩ := h
      refine q_ald (f := fo.draft) C0 hH 1 rfl hi d_Form_addDraft_38 ?_
      refine lv_istore (lv' := [(5, .int (fo.draft x4.toNatClampNeg)), (0, .ref (ad 1)), (1, .int x1), (2, .int x2), (3, .int x3), (4, .int x4)]) hx hb d_Form_addDraft_39 hl (by decide) rfl (fun ls hl => ?_)
      refine lv_aload_n hx hb d_Form_addDraft_41 rfl (lv_at hl 1 rfl) ?_
      refine q_get (v := .ref (ad 3)) C0 hH 0 rfl hc_1 3 (by decide) k_57 rfl d_Form_addDraft_42 ?_
      refine lv_iload_n hx hb d_Form_addDraft_45 rfl (lv_at hl 2 rfl) ?_
      refine lv_bipush (v := 6) hx hb d_Form_addDraft_46 (by decide) ?_
      refine lv_imul hx hb d_Form_addDraft_48 ?_
      refine lv_iload hx hb d_Form_addDraft_49 (lv_at hl 5 rfl) ?_
      refine lv_iadd hx hb d_Form_addDraft_51 ?_
      refine lv_iload hx hb d_Form_addDraft_52 (lv_at hl 0 rfl) ?_
      obtain ⟨hi, h⟩ := h
      refine q_ast (ws' := [c_FO ad cA (tForm.mk fo.width fo.draftSize fo.draft (upd fo.literals ((x1 * 6) + x4).toNatClampNeg (fo.draft x4.toNatClampNeg)) fo.sizes), c_FR ad cA fr].flatten) (f := fo.literals) C0 hH 2 rfl hi rfl d_Form_addDraft_54 (fun H locs hH => ?_)
      refine lv_iload hx hb d_Form_addDraft_55 (lv_at hl 0 rfl) ?_
      refine lv_if_le (tgt := 72) hx hb d_Form_addDraft_57 (by decide) (fun c => ?_) (fun c => ?_)
      · have h := h.1 c
        refine lv_iload_n hx hb d_Form_addDraft_72 rfl (lv_at hl 4 rfl) ?_
        refine lv_iconst (v := 1) hx hb d_Form_addDraft_73 (by decide) ?_
        refine lv_iload hx hb d_Form_addDraft_74 (lv_at hl 0 rfl) ?_
        refine lv_ineg hx hb d_Form_addDraft_76 ?_
        refine lv_iconst (v := 1) hx hb d_Form_addDraft_77 (by decide) ?_
        refine lv_isub hx hb d_Form_addDraft_78 ?_
        refine lv_ishl hx hb d_Form_addDraft_79 ?_
        refine lv_ior hx hb d_Form_addDraft_80 ?_
        refine lv_istore_n (lv' := [(3, .int (x3 ||| ((1 : Int32) <<< (((-(fo.draft x4.toNatClampNeg)) - 1) &&& 31)))), (5, .int (fo.draft x4.toNatClampNeg)), (0, .ref (ad 1)), (1, .int x1), (2, .int x2), (4, .int x4)]) hx hb d_Form_addDraft_81 rfl hl (by decide) rfl (fun ls hl => ?_)
        refine lv_iinc (v := (x4 + 1)) (lv' := [(4, .int (x4 + 1)), (3, .int (x3 ||| ((1 : Int32) <<< (((-(fo.draft x4.toNatClampNeg)) - 1) &&& 31)))), (5, .int (fo.draft x4.toNatClampNeg)), (0, .ref (ad 1)), (1, .int x1), (2, .int x2)]) hx hb d_Form_addDraft_82 hl (k := 5) rfl rfl (by decide) rfl (fun ls hl => ?_)
        refine lv_goto (tgt := 23) hx hb d_Form_addDraft_85 (by decide) ?_
        exact ih x2 (x3 ||| ((1 : Int32) <<< (((-(fo.draft x4.toNatClampNeg)) - 1) &&& 31))) (x4 + 1) (tForm.mk fo.width fo.draftSize fo.draft (upd fo.literals ((x1 * 6) + x4).toNatClampNeg (fo.draft x4.toNatClampNeg)) fo.sizes) _ _ _ h (lv_sub hl [3, 4, 5, 1, 0] rfl) hH
      · have h := h.2 c
        refine lv_iload_n hx hb d_Form_addDraft_60 rfl (lv_at hl 3 rfl) ?_
        refine lv_iconst (v := 1) hx hb d_Form_addDraft_61 (by decide) ?_
        refine lv_iload hx hb d_Form_addDraft_62 (lv_at hl 0 rfl) ?_
        refine lv_iconst (v := 1) hx hb d_Form_addDraft_64 (by decide) ?_
        refine lv_isub hx hb d_Form_addDraft_65 ?_
        refine lv_ishl hx hb d_Form_addDraft_66 ?_
        refine lv_ior hx hb d_Form_addDraft_67 ?_
        refine lv_istore_n (lv' := [(2, .int (x2 ||| ((1 : Int32) <<< (((fo.draft x4.toNatClampNeg) - 1) &&& 31)))), (5, .int (fo.draft x4.toNatClampNeg)), (0, .ref (ad 1)), (1, .int x1), (3, .int x3), (4, .int x4)]) hx hb d_Form_addDraft_68 rfl hl (by decide) rfl (fun ls hl => ?_)
        refine lv_goto (tgt := 82) hx hb d_Form_addDraft_69 (by decide) ?_
        refine lv_iinc (v := (x4 + 1)) (lv' := [(4, .int (x4 + 1)), (2, .int (x2 ||| ((1 : Int32) <<< (((fo.draft x4.toNatClampNeg) - 1) &&& 31)))), (5, .int (fo.draft x4.toNatClampNeg)), (0, .ref (ad 1)), (1, .int x1), (3, .int x3)]) hx hb d_Form_addDraft_82 hl (k := 5) rfl rfl (by decide) rfl (fun ls hl => ?_)
        refine lv_goto (tgt := 23) hx hb d_Form_addDraft_85 (by decide) ?_
        exact ih (x2 ||| ((1 : Int32) <<< (((fo.draft x4.toNatClampNeg) - 1) &&& 31))) x3 (x4 + 1) (tForm.mk fo.width fo.draftSize fo.draft (upd fo.literals ((x1 * 6) + x4).toNatClampNeg (fo.draft x4.toNatClampNeg)) fo.sizes) _ _ _ h (lv_sub hl [3, 4, 1, 5, 0] rfl) hH
set_option maxHeartbeats 4000000 in
set_option maxRecDepth 100000 in
theorem c_Form_addDraft (l : Launch) (dC : Nat → ClassId) (dI : Nat → Nat → Nat) (cA : ClassId) (ad : Nat → Nat) (fo : tForm) (fr : tRows) (Q : tForm → tRows → Prop) (sz : Nat) (h : w_Form_addDraft fo fr Q) :
    q_Mv l y_Form_addDraft b_Form_addDraft 6 1 24 [.ref (ad 1)] dC dI cA ([c_FO ad cA fo, c_FR ad cA fr].flatten) (fun u : tForm × tRows => [c_FO ad cA u.1, c_FR ad cA u.2].flatten) sz (fun u => Q u.1 u.2) := by
  refine q_metv (plainFor_of_name (by decide +kernel)) (Nat.le_of_ble_eq_true rfl) (fun {p e s m below meth c ls} C0 hl hH => ?_)
  obtain ⟨hx, hb, -⟩ := id C0
  have hA : ∀ q, s.heap.size ≤ q → va_A ([c_FO ad cA fo, c_FR ad cA fr].flatten) s.heap.size q := q_nA
  have hl : lv_has ls 6 [(0, .ref (ad 1))] := hl
  unfold w_Form_addDraft at h
  refine lv_aload_n hx hb d_Form_addDraft_0 rfl (lv_at hl 0 rfl) ?_
  refine q_get (v := .ref (ad 5)) C0 hH 0 rfl hc_1 5 (by decide) k_60 rfl d_Form_addDraft_1 ?_
  refine q_get (v := .int fr.size) C0 hH 4 rfl hc_2 2 (by decide) k_40 rfl d_Form_addDraft_4 ?_
  refine lv_istore_n (lv' := [(1, .int fr.size), (0, .ref (ad 1))]) hx hb d_Form_addDraft_7 rfl hl (by decide) rfl (fun ls hl => ?_)
  refine lv_iload_n hx hb d_Form_addDraft_8 rfl (lv_at hl 0 rfl) ?_
  refine lv_sipush (v := 400) hx hb d_Form_addDraft_9 (by decide) ?_
  refine lv_icmp_lt (tgt := 16) hx hb d_Form_addDraft_12 (by decide) (fun c => ?_) (fun c => ?_)
  · have h := h.1 c
    refine lv_iconst (v := 0) hx hb d_Form_addDraft_16 (by decide) ?_
    refine lv_istore_n (lv' := [(2, .int 0), (1, .int fr.size), (0, .ref (ad 1))]) hx hb d_Form_addDraft_17 rfl hl (by decide) rfl (fun ls hl => ?_)
    refine lv_iconst (v := 0) hx hb d_Form_addDraft_18 (by decide) ?_
    refine lv_istore_n (lv' := [(3, .int 0), (2, .int 0), (1, .int fr.size), (0, .ref (ad 1))]) hx hb d_Form_addDraft_19 rfl hl (by decide) rfl (fun ls hl => ?_)
    refine lv_iconst (v := 0) hx hb d_Form_addDraft_20 (by decide) ?_
    refine lv_istore (lv' := [(4, .int 0), (3, .int 0), (2, .int 0), (1, .int fr.size), (0, .ref (ad 1))]) hx hb d_Form_addDraft_21 hl (by decide) rfl (fun ls hl => ?_)
    obtain ⟨nn, h⟩ := h
    refine x_Form_addDraft_L23 C0 hA fr.size fr ?_ nn 0 0 0 fo _ _ _ h (lv_sub hl [4, 3, 2, 1, 0] rfl) hH
    · intro x2_1 x3_1 fo_1 H locs ls h hl hH
      try dsimp only at h
      refine lv_aload_n hx hb d_Form_addDraft_88 rfl (lv_at hl 0 rfl) ?_
      refine q_get (v := .ref (ad 4)) C0 hH 0 rfl hc_1 4 (by decide) k_58 rfl d_Form_addDraft_89 ?_
      refine lv_iload_n hx hb d_Form_addDraft_92 rfl (lv_at hl 1 rfl) ?_
      refine lv_aload_n hx hb d_Form_addDraft_93 rfl (lv_at hl 0 rfl) ?_
      refine q_get (v := .int fo_1.draftSize) C0 hH 0 rfl hc_1 1 (by decide) k_54 rfl d_Form_addDraft_94 ?_
      obtain ⟨hi, h⟩ := h
      refine q_ast (ws' := [c_FO ad cA (tForm.mk fo_1.width fo_1.draftSize fo_1.draft fo_1.literals (upd fo_1.sizes fr.size.toNatClampNeg fo_1.draftSize)), c_FR ad cA fr].flatten) (f := fo_1.sizes) C0 hH 3 rfl hi rfl d_Form_addDraft_97 (fun H locs hH => ?_)
      refine lv_aload_n hx hb d_Form_addDraft_98 rfl (lv_at hl 0 rfl) ?_
      refine q_get (v := .ref (ad 5)) C0 hH 0 rfl hc_1 5 (by decide) k_60 rfl d_Form_addDraft_99 ?_
      refine lv_iload_n hx hb d_Form_addDraft_102 rfl (lv_at hl 2 rfl) ?_
      refine lv_iload_n hx hb d_Form_addDraft_103 rfl (lv_at hl 3 rfl) ?_
      refine q_callv (rest := []) (ws' := fun u : tRows => [c_FO ad cA (tForm.mk fo_1.width fo_1.draftSize fo_1.draft fo_1.literals (upd fo_1.sizes fr.size.toNatClampNeg fo_1.draftSize)), c_FR ad cA u].flatten) C0 hH hA (c_Rows_add_fr l dC dI cA ad x2_1 x3_1 fr _ _ h) Y_Rows_add k_305 4 rfl hc_2 (q_pg [1] [0] [0, 1] 2 1 rfl (by decide) rfl (fun _ => rfl) rfl (by decide) (fun _ => rfl)) ⟨Nat.le_of_ble_eq_true rfl, Nat.le_of_ble_eq_true rfl⟩ rfl rfl (Nat.le_of_ble_eq_true rfl) hl.1 d_Form_addDraft_104 ⟨Nat.le_refl 0, Nat.le_refl 0⟩ (fun u_2 H locs h hH => ?_)
      obtain ⟨fr_2, rfl⟩ : ∃ z, z = u_2 := ⟨_, rfl⟩
      try dsimp only at h
      have hH : q_H dC dI (va_A ([c_FO ad cA fo, c_FR ad cA fr].flatten) s.heap.size) s.heap H locs ([c_FO ad cA (tForm.mk fo_1.width fo_1.draftSize fo_1.draft fo_1.literals (upd fo_1.sizes fr.size.toNatClampNeg fo_1.draftSize)), c_FR ad cA fr_2].flatten) := hH
      refine lv_aload_n hx hb d_Form_addDraft_107 rfl (lv_at hl 0 rfl) ?_
      refine lv_iconst (v := 0) hx hb d_Form_addDraft_108 (by decide) ?_
      refine q_puti (ws' := [c_FO ad cA (tForm.mk fo_1.width 0 fo_1.draft fo_1.literals (upd fo_1.sizes fr.size.toNatClampNeg fo_1.draftSize)), c_FR ad cA fr_2].flatten) C0 hH 0 rfl hc_1 1 (by decide) k_54 rfl rfl (Nat.le_of_ble_eq_true rfl) rfl d_Form_addDraft_109 (fun H locs hH => ?_)
      exact q_retv C0 hH ((tForm.mk fo_1.width 0 fo_1.draft fo_1.literals (upd fo_1.sizes fr.size.toNatClampNeg fo_1.draftSize)), fr_2) rfl h d_Form_addDraft_112
  · have h := h.2 c
    exact q_retv C0 hH (fo, fr) rfl h d_Form_addDraft_15
theorem d_PC_clause_0 : decode b_PC_clause 0 = .ok (.aload_n 0, 1) := by decide +kernel
theorem d_PC_clause_1 : decode b_PC_clause 1 = .ok (.getfield 12, 3) := by decide +kernel
theorem d_PC_clause_4 : decode b_PC_clause 4 = .ok (.getfield 41, 3) := by decide +kernel
theorem d_PC_clause_7 : decode b_PC_clause 7 = .ok (.getfield 45, 3) := by decide +kernel
theorem d_PC_clause_10 : decode b_PC_clause 10 = .ok (.sipush 400, 3) := by decide +kernel
theorem d_PC_clause_13 : decode b_PC_clause 13 = .ok (.if_icmp .lt 6, 3) := by decide +kernel
theorem d_PC_clause_16 : decode b_PC_clause 16 = .ok (.bipush (-3), 2) := by decide +kernel
theorem d_PC_clause_18 : decode b_PC_clause 18 = .ok (.ireturn, 1) := by decide +kernel
theorem d_PC_clause_19 : decode b_PC_clause 19 = .ok (.aload_n 0, 1) := by decide +kernel
theorem d_PC_clause_20 : decode b_PC_clause 20 = .ok (.getfield 12, 3) := by decide +kernel
theorem d_PC_clause_23 : decode b_PC_clause 23 = .ok (.invokevirtual 76, 3) := by decide +kernel
theorem d_PC_clause_26 : decode b_PC_clause 26 = .ok (.aload_n 0, 1) := by decide +kernel
theorem d_PC_clause_27 : decode b_PC_clause 27 = .ok (.getfield 21, 3) := by decide +kernel
theorem d_PC_clause_30 : decode b_PC_clause 30 = .ok (.invokevirtual 57, 3) := by decide +kernel
theorem d_PC_clause_33 : decode b_PC_clause 33 = .ok (.aload_n 0, 1) := by decide +kernel
theorem d_PC_clause_34 : decode b_PC_clause 34 = .ok (.getfield 12, 3) := by decide +kernel
theorem d_PC_clause_37 : decode b_PC_clause 37 = .ok (.getfield 41, 3) := by decide +kernel
theorem d_PC_clause_40 : decode b_PC_clause 40 = .ok (.getfield 45, 3) := by decide +kernel
theorem d_PC_clause_43 : decode b_PC_clause 43 = .ok (.ireturn, 1) := by decide +kernel
set_option maxHeartbeats 4000000 in
set_option maxRecDepth 100000 in
theorem c_PC_clause (l : Launch) (dC : Nat → ClassId) (dI : Nat → Nat → Nat) (cA : ClassId) (ad : Nat → Nat) (fo : tForm) (fr : tRows) (mo : tMods) (Q : Int32 → tForm → tRows → tMods → Prop) (sz : Nat) (h : w_PC_clause fo fr mo Q) :
    q_Mi l y_PC_clause b_PC_clause 1 (some .int) 2 49 [.ref (ad 0)] dC dI cA ([c_PC ad, c_FO ad cA fo, c_FR ad cA fr, c_MO ad cA mo].flatten) (fun u : tForm × tRows × tMods => [c_PC ad, c_FO ad cA u.1, c_FR ad cA u.2.1, c_MO ad cA u.2.2].flatten) sz (fun r u => Q r u.1 u.2.1 u.2.2) := by
  refine q_meti (plainFor_of_name (by decide +kernel)) (Nat.le_of_ble_eq_true rfl) (fun {p e s m below meth c ls} C0 hl hH => ?_)
  obtain ⟨hx, hb, -⟩ := id C0
  have hA : ∀ q, s.heap.size ≤ q → va_A ([c_PC ad, c_FO ad cA fo, c_FR ad cA fr, c_MO ad cA mo].flatten) s.heap.size q := q_nA
  have hl : lv_has ls 1 [(0, .ref (ad 0))] := hl
  unfold w_PC_clause at h
  refine lv_aload_n hx hb d_PC_clause_0 rfl (lv_at hl 0 rfl) ?_
  refine q_get (v := .ref (ad 1)) C0 hH 0 rfl hc_0 0 (by decide) k_256 rfl d_PC_clause_1 ?_
  refine q_get (v := .ref (ad 5)) C0 hH 1 rfl hc_1 5 (by decide) k_62 rfl d_PC_clause_4 ?_
  refine q_get (v := .int fr.size) C0 hH 5 rfl hc_2 2 (by decide) k_38 rfl d_PC_clause_7 ?_
  refine lv_sipush (v := 400) hx hb d_PC_clause_10 (by decide) ?_
  refine lv_icmp_lt (tgt := 19) hx hb d_PC_clause_13 (by decide) (fun c => ?_) (fun c => ?_)
  · have h := h.1 c
    refine lv_aload_n hx hb d_PC_clause_19 rfl (lv_at hl 0 rfl) ?_
    refine q_get (v := .ref (ad 1)) C0 hH 0 rfl hc_0 0 (by decide) k_256 rfl d_PC_clause_20 ?_
    refine q_callv (rest := []) (ws' := fun u : tForm × tRows => [c_PC ad, c_FO ad cA u.1, c_FR ad cA u.2, c_MO ad cA mo].flatten) C0 hH hA (c_Form_addDraft l dC dI cA ad fo fr _ _ h) Y_Form_addDraft k_301 1 rfl hc_1 (q_pg [1, 2] [0, 3] [0, 2, 3, 1] 4 2 rfl (by decide) rfl (fun _ => rfl) rfl (by decide) (fun _ => rfl)) ⟨Nat.le_of_ble_eq_true rfl, Nat.le_of_ble_eq_true rfl⟩ rfl rfl (Nat.le_of_ble_eq_true rfl) hl.1 d_PC_clause_23 ⟨Nat.le_refl 0, Nat.le_refl 0⟩ (fun u_1 H locs h hH => ?_)
    obtain ⟨fo_1, fr_1⟩ := u_1
    try dsimp only at h
    have hH : q_H dC dI (va_A ([c_PC ad, c_FO ad cA fo, c_FR ad cA fr, c_MO ad cA mo].flatten) s.heap.size) s.heap H locs ([c_PC ad, c_FO ad cA fo_1, c_FR ad cA fr_1, c_MO ad cA mo].flatten) := hH
    refine lv_aload_n hx hb d_PC_clause_26 rfl (lv_at hl 0 rfl) ?_
    refine q_get (v := .ref (ad 11)) C0 hH 0 rfl hc_0 1 (by decide) k_257 rfl d_PC_clause_27 ?_
    refine q_callv (rest := []) (ws' := fun u : tMods => [c_PC ad, c_FO ad cA fo_1, c_FR ad cA fr_1, c_MO ad cA u].flatten) C0 hH hA (c_Mods_forget l dC dI cA ad mo _ _ h) Y_Mods_forget k_273 8 rfl hc_3 (q_pg [3] [0, 1, 2] [0, 1, 2, 3] 4 1 rfl (by decide) rfl (fun _ => rfl) rfl (by decide) (fun _ => rfl)) ⟨Nat.le_of_ble_eq_true rfl, Nat.le_of_ble_eq_true rfl⟩ rfl rfl (Nat.le_of_ble_eq_true rfl) hl.1 d_PC_clause_30 ⟨Nat.le_refl 0, Nat.le_refl 0⟩ (fun u_2 H locs h hH => ?_)
    obtain ⟨mo_2, rfl⟩ : ∃ z, z = u_2 := ⟨_, rfl⟩
    try dsimp only at h
    have hH : q_H dC dI (va_A ([c_PC ad, c_FO ad cA fo, c_FR ad cA fr, c_MO ad cA mo].flatten) s.heap.size) s.heap H locs ([c_PC ad, c_FO ad cA fo_1, c_FR ad cA fr_1, c_MO ad cA mo_2].flatten) := hH
    refine lv_aload_n hx hb d_PC_clause_33 rfl (lv_at hl 0 rfl) ?_
    refine q_get (v := .ref (ad 1)) C0 hH 0 rfl hc_0 0 (by decide) k_256 rfl d_PC_clause_34 ?_
    refine q_get (v := .ref (ad 5)) C0 hH 1 rfl hc_1 5 (by decide) k_62 rfl d_PC_clause_37 ?_
    refine q_get (v := .int fr_1.size) C0 hH 5 rfl hc_2 2 (by decide) k_38 rfl d_PC_clause_40 ?_
    exact q_reti C0 hH (fo_1, fr_1, mo_2) rfl h d_PC_clause_43
  · have h := h.2 c
    refine lv_bipush (v := (-3)) hx hb d_PC_clause_16 (by decide) ?_
    exact q_reti C0 hH (fo, fr, mo) rfl h d_PC_clause_18
theorem d_PC_drop_0 : decode b_PC_drop 0 = .ok (.aload_n 0, 1) := by decide +kernel
theorem d_PC_drop_1 : decode b_PC_drop 1 = .ok (.getfield 12, 3) := by decide +kernel
theorem d_PC_drop_4 : decode b_PC_drop 4 = .ok (.getfield 41, 3) := by decide +kernel
theorem d_PC_drop_7 : decode b_PC_drop 7 = .ok (.getfield 45, 3) := by decide +kernel
theorem d_PC_drop_10 : decode b_PC_drop 10 = .ok (.ifCond .ne 6, 3) := by decide +kernel
theorem d_PC_drop_13 : decode b_PC_drop 13 = .ok (.bipush (-2), 2) := by decide +kernel
theorem d_PC_drop_15 : decode b_PC_drop 15 = .ok (.ireturn, 1) := by decide +kernel
theorem d_PC_drop_16 : decode b_PC_drop 16 = .ok (.aload_n 0, 1) := by decide +kernel
theorem d_PC_drop_17 : decode b_PC_drop 17 = .ok (.getfield 12, 3) := by decide +kernel
theorem d_PC_drop_20 : decode b_PC_drop 20 = .ok (.getfield 41, 3) := by decide +kernel
theorem d_PC_drop_23 : decode b_PC_drop 23 = .ok (.dup, 1) := by decide +kernel
theorem d_PC_drop_24 : decode b_PC_drop 24 = .ok (.getfield 45, 3) := by decide +kernel
theorem d_PC_drop_27 : decode b_PC_drop 27 = .ok (.iconst 1, 1) := by decide +kernel
theorem d_PC_drop_28 : decode b_PC_drop 28 = .ok (.isub, 1) := by decide +kernel
theorem d_PC_drop_29 : decode b_PC_drop 29 = .ok (.putfield 45, 3) := by decide +kernel
theorem d_PC_drop_32 : decode b_PC_drop 32 = .ok (.aload_n 0, 1) := by decide +kernel
theorem d_PC_drop_33 : decode b_PC_drop 33 = .ok (.getfield 21, 3) := by decide +kernel
theorem d_PC_drop_36 : decode b_PC_drop 36 = .ok (.invokevirtual 57, 3) := by decide +kernel
theorem d_PC_drop_39 : decode b_PC_drop 39 = .ok (.aload_n 0, 1) := by decide +kernel
theorem d_PC_drop_40 : decode b_PC_drop 40 = .ok (.getfield 12, 3) := by decide +kernel
theorem d_PC_drop_43 : decode b_PC_drop 43 = .ok (.getfield 41, 3) := by decide +kernel
theorem d_PC_drop_46 : decode b_PC_drop 46 = .ok (.getfield 45, 3) := by decide +kernel
theorem d_PC_drop_49 : decode b_PC_drop 49 = .ok (.ireturn, 1) := by decide +kernel
set_option maxHeartbeats 4000000 in
set_option maxRecDepth 100000 in
theorem c_PC_drop (l : Launch) (dC : Nat → ClassId) (dI : Nat → Nat → Nat) (cA : ClassId) (ad : Nat → Nat) (fo : tForm) (fr : tRows) (mo : tMods) (Q : Int32 → tRows → tMods → Prop) (sz : Nat) (h : w_PC_drop fr mo Q) :
    q_Mi l y_PC_drop b_PC_drop 1 (some .int) 1 20 [.ref (ad 0)] dC dI cA ([c_PC ad, c_FO ad cA fo, c_FR ad cA fr, c_MO ad cA mo].flatten) (fun u : tRows × tMods => [c_PC ad, c_FO ad cA fo, c_FR ad cA u.1, c_MO ad cA u.2].flatten) sz (fun r u => Q r u.1 u.2) := by
  refine q_meti (plainFor_of_name (by decide +kernel)) (Nat.le_of_ble_eq_true rfl) (fun {p e s m below meth c ls} C0 hl hH => ?_)
  obtain ⟨hx, hb, -⟩ := id C0
  have hA : ∀ q, s.heap.size ≤ q → va_A ([c_PC ad, c_FO ad cA fo, c_FR ad cA fr, c_MO ad cA mo].flatten) s.heap.size q := q_nA
  have hl : lv_has ls 1 [(0, .ref (ad 0))] := hl
  unfold w_PC_drop at h
  refine lv_aload_n hx hb d_PC_drop_0 rfl (lv_at hl 0 rfl) ?_
  refine q_get (v := .ref (ad 1)) C0 hH 0 rfl hc_0 0 (by decide) k_256 rfl d_PC_drop_1 ?_
  refine q_get (v := .ref (ad 5)) C0 hH 1 rfl hc_1 5 (by decide) k_62 rfl d_PC_drop_4 ?_
  refine q_get (v := .int fr.size) C0 hH 5 rfl hc_2 2 (by decide) k_38 rfl d_PC_drop_7 ?_
  refine lv_if_ne (tgt := 16) hx hb d_PC_drop_10 (by decide) (fun c => ?_) (fun c => ?_)
  · have h := h.1 c
    refine lv_aload_n hx hb d_PC_drop_16 rfl (lv_at hl 0 rfl) ?_
    refine q_get (v := .ref (ad 1)) C0 hH 0 rfl hc_0 0 (by decide) k_256 rfl d_PC_drop_17 ?_
    refine q_get (v := .ref (ad 5)) C0 hH 1 rfl hc_1 5 (by decide) k_62 rfl d_PC_drop_20 ?_
    refine lv_dup hx hb d_PC_drop_23 rfl ?_
    refine q_get (v := .int fr.size) C0 hH 5 rfl hc_2 2 (by decide) k_38 rfl d_PC_drop_24 ?_
    refine lv_iconst (v := 1) hx hb d_PC_drop_27 (by decide) ?_
    refine lv_isub hx hb d_PC_drop_28 ?_
    refine q_puti (ws' := [c_PC ad, c_FO ad cA fo, c_FR ad cA (tRows.mk fr.wantTrue fr.wantFalse (fr.size - 1) fr.oldest fr.room), c_MO ad cA mo].flatten) C0 hH 5 rfl hc_2 2 (by decide) k_38 rfl rfl (Nat.le_of_ble_eq_true rfl) rfl d_PC_drop_29 (fun H locs hH => ?_)
    refine lv_aload_n hx hb d_PC_drop_32 rfl (lv_at hl 0 rfl) ?_
    refine q_get (v := .ref (ad 11)) C0 hH 0 rfl hc_0 1 (by decide) k_257 rfl d_PC_drop_33 ?_
    refine q_callv (rest := []) (ws' := fun u : tMods => [c_PC ad, c_FO ad cA fo, c_FR ad cA (tRows.mk fr.wantTrue fr.wantFalse (fr.size - 1) fr.oldest fr.room), c_MO ad cA u].flatten) C0 hH hA (c_Mods_forget l dC dI cA ad mo _ _ h) Y_Mods_forget k_273 8 rfl hc_3 (q_pg [3] [0, 1, 2] [0, 1, 2, 3] 4 1 rfl (by decide) rfl (fun _ => rfl) rfl (by decide) (fun _ => rfl)) ⟨Nat.le_of_ble_eq_true rfl, Nat.le_of_ble_eq_true rfl⟩ rfl rfl (Nat.le_of_ble_eq_true rfl) hl.1 d_PC_drop_36 ⟨Nat.le_refl 0, Nat.le_refl 0⟩ (fun u_1 H locs h hH => ?_)
    obtain ⟨mo_1, rfl⟩ : ∃ z, z = u_1 := ⟨_, rfl⟩
    try dsimp only at h
    have hH : q_H dC dI (va_A ([c_PC ad, c_FO ad cA fo, c_FR ad cA fr, c_MO ad cA mo].flatten) s.heap.size) s.heap H locs ([c_PC ad, c_FO ad cA fo, c_FR ad cA (tRows.mk fr.wantTrue fr.wantFalse (fr.size - 1) fr.oldest fr.room), c_MO ad cA mo_1].flatten) := hH
    refine lv_aload_n hx hb d_PC_drop_39 rfl (lv_at hl 0 rfl) ?_
    refine q_get (v := .ref (ad 1)) C0 hH 0 rfl hc_0 0 (by decide) k_256 rfl d_PC_drop_40 ?_
    refine q_get (v := .ref (ad 5)) C0 hH 1 rfl hc_1 5 (by decide) k_62 rfl d_PC_drop_43 ?_
    refine q_get (v := .int (fr.size - 1)) C0 hH 5 rfl hc_2 2 (by decide) k_38 rfl d_PC_drop_46 ?_
    exact q_reti C0 hH ((tRows.mk fr.wantTrue fr.wantFalse (fr.size - 1) fr.oldest fr.room), mo_1) rfl h d_PC_drop_49
  · have h := h.2 c
    refine lv_bipush (v := (-2)) hx hb d_PC_drop_13 (by decide) ?_
    exact q_reti C0 hH (fr, mo) rfl h d_PC_drop_15
theorem d_Form_literalOf_0 : decode b_Form_literalOf 0 = .ok (.iload_n 1, 1) := by decide +kernel
theorem d_Form_literalOf_1 : decode b_Form_literalOf 1 = .ok (.ifCond .lt 35, 3) := by decide +kernel
theorem d_Form_literalOf_4 : decode b_Form_literalOf 4 = .ok (.iload_n 1, 1) := by decide +kernel
theorem d_Form_literalOf_5 : decode b_Form_literalOf 5 = .ok (.aload_n 0, 1) := by decide +kernel
theorem d_Form_literalOf_6 : decode b_Form_literalOf 6 = .ok (.getfield 26, 3) := by decide +kernel
theorem d_Form_literalOf_9 : decode b_Form_literalOf 9 = .ok (.getfield 40, 3) := by decide +kernel
theorem d_Form_literalOf_12 : decode b_Form_literalOf 12 = .ok (.if_icmp .ge 24, 3) := by decide +kernel
theorem d_Form_literalOf_15 : decode b_Form_literalOf 15 = .ok (.iload_n 1, 1) := by decide +kernel
theorem d_Form_literalOf_16 : decode b_Form_literalOf 16 = .ok (.sipush 400, 3) := by decide +kernel
theorem d_Form_literalOf_19 : decode b_Form_literalOf 19 = .ok (.if_icmp .ge 17, 3) := by decide +kernel
theorem d_Form_literalOf_22 : decode b_Form_literalOf 22 = .ok (.iload_n 2, 1) := by decide +kernel
theorem d_Form_literalOf_23 : decode b_Form_literalOf 23 = .ok (.ifCond .lt 13, 3) := by decide +kernel
theorem d_Form_literalOf_26 : decode b_Form_literalOf 26 = .ok (.iload_n 2, 1) := by decide +kernel
theorem d_Form_literalOf_27 : decode b_Form_literalOf 27 = .ok (.aload_n 0, 1) := by decide +kernel
theorem d_Form_literalOf_28 : decode b_Form_literalOf 28 = .ok (.getfield 18, 3) := by decide +kernel
theorem d_Form_literalOf_31 : decode b_Form_literalOf 31 = .ok (.iload_n 1, 1) := by decide +kernel
theorem d_Form_literalOf_32 : decode b_Form_literalOf 32 = .ok (.iaload, 1) := by decide +kernel
theorem d_Form_literalOf_33 : decode b_Form_literalOf 33 = .ok (.if_icmp .lt 6, 3) := by decide +kernel
theorem d_Form_literalOf_36 : decode b_Form_literalOf 36 = .ok (.bipush (-9), 2) := by decide +kernel
theorem d_Form_literalOf_38 : decode b_Form_literalOf 38 = .ok (.ireturn, 1) := by decide +kernel
theorem d_Form_literalOf_39 : decode b_Form_literalOf 39 = .ok (.aload_n 0, 1) := by decide +kernel
theorem d_Form_literalOf_40 : decode b_Form_literalOf 40 = .ok (.getfield 15, 3) := by decide +kernel
theorem d_Form_literalOf_43 : decode b_Form_literalOf 43 = .ok (.iload_n 1, 1) := by decide +kernel
theorem d_Form_literalOf_44 : decode b_Form_literalOf 44 = .ok (.bipush 6, 2) := by decide +kernel
theorem d_Form_literalOf_46 : decode b_Form_literalOf 46 = .ok (.imul, 1) := by decide +kernel
theorem d_Form_literalOf_47 : decode b_Form_literalOf 47 = .ok (.iload_n 2, 1) := by decide +kernel
theorem d_Form_literalOf_48 : decode b_Form_literalOf 48 = .ok (.iadd, 1) := by decide +kernel
theorem d_Form_literalOf_49 : decode b_Form_literalOf 49 = .ok (.iaload, 1) := by decide +kernel
theorem d_Form_literalOf_50 : decode b_Form_literalOf 50 = .ok (.ireturn, 1) := by decide +kernel
set_option maxHeartbeats 4000000 in
set_option maxRecDepth 100000 in
theorem c_Form_literalOf (l : Launch) (dC : Nat → ClassId) (dI : Nat → Nat → Nat) (cA : ClassId) (ad : Nat → Nat) (x1 : Int32) (x2 : Int32) (fo : tForm) (fr : tRows) (Q : Int32 → Prop) (sz : Nat) (h : w_Form_literalOf x1 x2 fo fr Q) :
    q_Mi l y_Form_literalOf b_Form_literalOf 3 (some .int) 0 0 [.ref (ad 1), .int x1, .int x2] dC dI cA ([c_FO ad cA fo, c_FR ad cA fr].flatten) (fun _ : Unit => [c_FO ad cA fo, c_FR ad cA fr].flatten) sz (fun r _ => Q r) := by
  refine q_meti (plainFor_of_name (by decide +kernel)) (Nat.le_of_ble_eq_true rfl) (fun {p e s m below meth c ls} C0 hl hH => ?_)
  obtain ⟨hx, hb, -⟩ := id C0
  have hA : ∀ q, s.heap.size ≤ q → va_A ([c_FO ad cA fo, c_FR ad cA fr].flatten) s.heap.size q := q_nA
  have hl : lv_has ls 3 [(0, .ref (ad 1)), (1, .int x1), (2, .int x2)] := hl
  unfold w_Form_literalOf at h
  refine lv_iload_n hx hb d_Form_literalOf_0 rfl (lv_at hl 1 rfl) ?_
  refine lv_if_lt (tgt := 36) hx hb d_Form_literalOf_1 (by decide) (fun c => ?_) (fun c => ?_)
  · have h := h.1 c
    refine lv_bipush (v := (-9)) hx hb d_Form_literalOf_36 (by decide) ?_
    exact q_reti C0 hH () rfl h d_Form_literalOf_38
  · have h := h.2 c
    refine lv_iload_n hx hb d_Form_literalOf_4 rfl (lv_at hl 1 rfl) ?_
    refine lv_aload_n hx hb d_Form_literalOf_5 rfl (lv_at hl 0 rfl) ?_
    refine q_get (v := .ref (ad 5)) C0 hH 0 rfl hc_1 5 (by decide) k_60 rfl d_Form_literalOf_6 ?_
    refine q_get (v := .int fr.size) C0 hH 4 rfl hc_2 2 (by decide) k_40 rfl d_Form_literalOf_9 ?_
    refine lv_icmp_ge (tgt := 36) hx hb d_Form_literalOf_12 (by decide) (fun c => ?_) (fun c => ?_)
    · have h := h.1 c
      refine lv_bipush (v := (-9)) hx hb d_Form_literalOf_36 (by decide) ?_
      exact q_reti C0 hH () rfl h d_Form_literalOf_38
    · have h := h.2 c
      refine lv_iload_n hx hb d_Form_literalOf_15 rfl (lv_at hl 1 rfl) ?_
      refine lv_sipush (v := 400) hx hb d_Form_literalOf_16 (by decide) ?_
      refine lv_icmp_ge (tgt := 36) hx hb d_Form_literalOf_19 (by decide) (fun c => ?_) (fun c => ?_)
      · have h := h.1 c
        refine lv_bipush (v := (-9)) hx hb d_Form_literalOf_36 (by decide) ?_
        exact q_reti C0 hH () rfl h d_Form_literalOf_38
      · have h := h.2 c
        refine lv_iload_n hx hb d_Form_literalOf_22 rfl (lv_at hl 2 rfl) ?_
        refine lv_if_lt (tgt := 36) hx hb d_Form_literalOf_23 (by decide) (fun c => ?_) (fun c => ?_)
        · have h := h.1 c
          refine lv_bipush (v := (-9)) hx hb d_Form_literalOf_36 (by decide) ?_
          exact q_reti C0 hH () rfl h d_Form_literalOf_38
        · have h := h.2 c
          refine lv_iload_n hx hb d_Form_literalOf_26 rfl (lv_at hl 2 rfl) ?_
          refine lv_aload_n hx hb d_Form_literalOf_27 rfl (lv_at hl 0 rfl) ?_
          refine q_get (v := .ref (ad 4)) C0 hH 0 rfl hc_1 4 (by decide) k_58 rfl d_Form_literalOf_28 ?_
          refine lv_iload_n hx hb d_Form_literalOf_31 rfl (lv_at hl 1 rfl) ?_
          obtain ⟨hi, h⟩ := h
          refine q_ald (f := fo.sizes) C0 hH 3 rfl hi d_Form_literalOf_32 ?_
          refine lv_icmp_lt (tgt := 39) hx hb d_Form_literalOf_33 (by decide) (fun c => ?_) (fun c => ?_)
          · have h := h.1 c
            refine lv_aload_n hx hb d_Form_literalOf_39 rfl (lv_at hl 0 rfl) ?_
            refine q_get (v := .ref (ad 3)) C0 hH 0 rfl hc_1 3 (by decide) k_57 rfl d_Form_literalOf_40 ?_
            refine lv_iload_n hx hb d_Form_literalOf_43 rfl (lv_at hl 1 rfl) ?_
            refine lv_bipush (v := 6) hx hb d_Form_literalOf_44 (by decide) ?_
            refine lv_imul hx hb d_Form_literalOf_46 ?_
            refine lv_iload_n hx hb d_Form_literalOf_47 rfl (lv_at hl 2 rfl) ?_
            refine lv_iadd hx hb d_Form_literalOf_48 ?_
            obtain ⟨hi, h⟩ := h
            refine q_ald (f := fo.literals) C0 hH 2 rfl hi d_Form_literalOf_49 ?_
            exact q_reti C0 hH () rfl h d_Form_literalOf_50
          · have h := h.2 c
            refine lv_bipush (v := (-9)) hx hb d_Form_literalOf_36 (by decide) ?_
            exact q_reti C0 hH () rfl h d_Form_literalOf_38
theorem d_PC_at_0 : decode b_PC_at 0 = .ok (.iload_n 1, 1) := by decide +kernel
theorem d_PC_at_1 : decode b_PC_at 1 = .ok (.ifCond .lt 21, 3) := by decide +kernel
theorem d_PC_at_4 : decode b_PC_at 4 = .ok (.iload_n 1, 1) := by decide +kernel
theorem d_PC_at_5 : decode b_PC_at 5 = .ok (.aload_n 0, 1) := by decide +kernel
theorem d_PC_at_6 : decode b_PC_at 6 = .ok (.getfield 12, 3) := by decide +kernel
theorem d_PC_at_9 : decode b_PC_at 9 = .ok (.getfield 41, 3) := by decide +kernel
theorem d_PC_at_12 : decode b_PC_at 12 = .ok (.getfield 45, 3) := by decide +kernel
theorem d_PC_at_15 : decode b_PC_at 15 = .ok (.if_icmp .ge 7, 3) := by decide +kernel
theorem d_PC_at_18 : decode b_PC_at 18 = .ok (.iload_n 2, 1) := by decide +kernel
theorem d_PC_at_19 : decode b_PC_at 19 = .ok (.ifCond .ge 5, 3) := by decide +kernel
theorem d_PC_at_22 : decode b_PC_at 22 = .ok (.iconst (-1), 1) := by decide +kernel
theorem d_PC_at_23 : decode b_PC_at 23 = .ok (.ireturn, 1) := by decide +kernel
theorem d_PC_at_24 : decode b_PC_at 24 = .ok (.aload_n 0, 1) := by decide +kernel
theorem d_PC_at_25 : decode b_PC_at 25 = .ok (.getfield 12, 3) := by decide +kernel
theorem d_PC_at_28 : decode b_PC_at 28 = .ok (.iload_n 1, 1) := by decide +kernel
theorem d_PC_at_29 : decode b_PC_at 29 = .ok (.iload_n 2, 1) := by decide +kernel
theorem d_PC_at_30 : decode b_PC_at 30 = .ok (.invokevirtual 79, 3) := by decide +kernel
theorem d_PC_at_33 : decode b_PC_at 33 = .ok (.ireturn, 1) := by decide +kernel
set_option maxHeartbeats 4000000 in
set_option maxRecDepth 100000 in
theorem c_PC_at (l : Launch) (dC : Nat → ClassId) (dI : Nat → Nat → Nat) (cA : ClassId) (ad : Nat → Nat) (x1 : Int32) (x2 : Int32) (fo : tForm) (fr : tRows) (Q : Int32 → Prop) (sz : Nat) (h : w_PC_at x1 x2 fo fr Q) :
    q_Mi l y_PC_at b_PC_at 3 (some .int) 1 22 [.ref (ad 0), .int x1, .int x2] dC dI cA ([c_PC ad, c_FO ad cA fo, c_FR ad cA fr].flatten) (fun _ : Unit => [c_PC ad, c_FO ad cA fo, c_FR ad cA fr].flatten) sz (fun r _ => Q r) := by
  refine q_meti (plainFor_of_name (by decide +kernel)) (Nat.le_of_ble_eq_true rfl) (fun {p e s m below meth c ls} C0 hl hH => ?_)
  obtain ⟨hx, hb, -⟩ := id C0
  have hA : ∀ q, s.heap.size ≤ q → va_A ([c_PC ad, c_FO ad cA fo, c_FR ad cA fr].flatten) s.heap.size q := q_nA
  have hl : lv_has ls 3 [(0, .ref (ad 0)), (1, .int x1), (2, .int x2)] := hl
  unfold w_PC_at at h
  refine lv_iload_n hx hb d_PC_at_0 rfl (lv_at hl 1 rfl) ?_
  refine lv_if_lt (tgt := 22) hx hb d_PC_at_1 (by decide) (fun c => ?_) (fun c => ?_)
  · have h := h.1 c
    refine lv_iconst (v := (-1)) hx hb d_PC_at_22 (by decide) ?_
    exact q_reti C0 hH () rfl h d_PC_at_23
  · have h := h.2 c
    refine lv_iload_n hx hb d_PC_at_4 rfl (lv_at hl 1 rfl) ?_
    refine lv_aload_n hx hb d_PC_at_5 rfl (lv_at hl 0 rfl) ?_
    refine q_get (v := .ref (ad 1)) C0 hH 0 rfl hc_0 0 (by decide) k_256 rfl d_PC_at_6 ?_
    refine q_get (v := .ref (ad 5)) C0 hH 1 rfl hc_1 5 (by decide) k_62 rfl d_PC_at_9 ?_
    refine q_get (v := .int fr.size) C0 hH 5 rfl hc_2 2 (by decide) k_38 rfl d_PC_at_12 ?_
    refine lv_icmp_ge (tgt := 22) hx hb d_PC_at_15 (by decide) (fun c => ?_) (fun c => ?_)
    · have h := h.1 c
      refine lv_iconst (v := (-1)) hx hb d_PC_at_22 (by decide) ?_
      exact q_reti C0 hH () rfl h d_PC_at_23
    · have h := h.2 c
      refine lv_iload_n hx hb d_PC_at_18 rfl (lv_at hl 2 rfl) ?_
      refine lv_if_ge (tgt := 24) hx hb d_PC_at_19 (by decide) (fun c => ?_) (fun c => ?_)
      · have h := h.1 c
        refine lv_aload_n hx hb d_PC_at_24 rfl (lv_at hl 0 rfl) ?_
        refine q_get (v := .ref (ad 1)) C0 hH 0 rfl hc_0 0 (by decide) k_256 rfl d_PC_at_25 ?_
        refine lv_iload_n hx hb d_PC_at_28 rfl (lv_at hl 1 rfl) ?_
        refine lv_iload_n hx hb d_PC_at_29 rfl (lv_at hl 2 rfl) ?_
        refine q_calli (rest := []) (ws' := fun _ : Unit => [c_PC ad, c_FO ad cA fo, c_FR ad cA fr].flatten) C0 hH hA (c_Form_literalOf l dC dI cA ad x1 x2 fo fr _ _ h) Y_Form_literalOf k_317 1 rfl hc_1 (q_pg [1, 2] [0] [0, 1, 2] 3 2 rfl (by decide) rfl (fun _ => rfl) rfl (by decide) (fun _ => rfl)) ⟨Nat.le_of_ble_eq_true rfl, Nat.le_of_ble_eq_true rfl⟩ rfl rfl (Nat.le_of_ble_eq_true rfl) hl.1 d_PC_at_30 ⟨Nat.le_refl 0, Nat.le_refl 0⟩ (fun r_1 u_1 H locs h hH => ?_)
        try dsimp only at h
        have hH : q_H dC dI (va_A ([c_PC ad, c_FO ad cA fo, c_FR ad cA fr].flatten) s.heap.size) s.heap H locs ([c_PC ad, c_FO ad cA fo, c_FR ad cA fr].flatten) := hH
        exact q_reti C0 hH () rfl h d_PC_at_33
      · have h := h.2 c
        refine lv_iconst (v := (-1)) hx hb d_PC_at_22 (by decide) ?_
        exact q_reti C0 hH () rfl h d_PC_at_23
theorem d_Math_min_0 : decode b_Math_min 0 = .ok (.iload_n 0, 1) := by decide +kernel
theorem d_Math_min_1 : decode b_Math_min 1 = .ok (.iload_n 1, 1) := by decide +kernel
theorem d_Math_min_2 : decode b_Math_min 2 = .ok (.if_icmp .gt 7, 3) := by decide +kernel
theorem d_Math_min_5 : decode b_Math_min 5 = .ok (.iload_n 0, 1) := by decide +kernel
theorem d_Math_min_6 : decode b_Math_min 6 = .ok (.goto 4, 3) := by decide +kernel
theorem d_Math_min_9 : decode b_Math_min 9 = .ok (.iload_n 1, 1) := by decide +kernel
theorem d_Math_min_10 : decode b_Math_min 10 = .ok (.ireturn, 1) := by decide +kernel
set_option maxHeartbeats 4000000 in
set_option maxRecDepth 100000 in
theorem c_Math_min (l : Launch) (dC : Nat → ClassId) (dI : Nat → Nat → Nat) (cA : ClassId) (ad : Nat → Nat) (x0 : Int32) (x1 : Int32) (Q : Int32 → Prop) (sz : Nat) (h : w_Math_min x0 x1 Q) :
    q_Mi l y_Math_min b_Math_min 2 (some .int) 0 0 [.int x0, .int x1] dC dI cA ([]) (fun _ : Unit => []) sz (fun r _ => Q r) := by
  refine q_meti (by decide +kernel) (Nat.le_of_ble_eq_true rfl) (fun {p e s m below meth c ls} C0 hl hH => ?_)
  obtain ⟨hx, hb, -⟩ := id C0
  have hA : ∀ q, s.heap.size ≤ q → va_A ([]) s.heap.size q := q_nA
  have hl : lv_has ls 2 [(0, .int x0), (1, .int x1)] := hl
  unfold w_Math_min at h
  refine lv_iload_n hx hb d_Math_min_0 rfl (lv_at hl 0 rfl) ?_
  refine lv_iload_n hx hb d_Math_min_1 rfl (lv_at hl 1 rfl) ?_
  refine lv_icmp_gt (tgt := 9) hx hb d_Math_min_2 (by decide) (fun c => ?_) (fun c => ?_)
  · have h := h.1 c
    refine lv_iload_n hx hb d_Math_min_9 rfl (lv_at hl 1 rfl) ?_
    exact q_reti C0 hH () rfl h d_Math_min_10
  · have h := h.2 c
    refine lv_iload_n hx hb d_Math_min_5 rfl (lv_at hl 0 rfl) ?_
    refine lv_goto (tgt := 10) hx hb d_Math_min_6 (by decide) ?_
    exact q_reti C0 hH () rfl h d_Math_min_10
theorem d_Math_max_0 : decode b_Math_max 0 = .ok (.iload_n 0, 1) := by decide +kernel
theorem d_Math_max_1 : decode b_Math_max 1 = .ok (.iload_n 1, 1) := by decide +kernel
theorem d_Math_max_2 : decode b_Math_max 2 = .ok (.if_icmp .lt 7, 3) := by decide +kernel
theorem d_Math_max_5 : decode b_Math_max 5 = .ok (.iload_n 0, 1) := by decide +kernel
theorem d_Math_max_6 : decode b_Math_max 6 = .ok (.goto 4, 3) := by decide +kernel
theorem d_Math_max_9 : decode b_Math_max 9 = .ok (.iload_n 1, 1) := by decide +kernel
theorem d_Math_max_10 : decode b_Math_max 10 = .ok (.ireturn, 1) := by decide +kernel
set_option maxHeartbeats 4000000 in
set_option maxRecDepth 100000 in
theorem c_Math_max (l : Launch) (dC : Nat → ClassId) (dI : Nat → Nat → Nat) (cA : ClassId) (ad : Nat → Nat) (x0 : Int32) (x1 : Int32) (Q : Int32 → Prop) (sz : Nat) (h : w_Math_max x0 x1 Q) :
    q_Mi l y_Math_max b_Math_max 2 (some .int) 0 0 [.int x0, .int x1] dC dI cA ([]) (fun _ : Unit => []) sz (fun r _ => Q r) := by
  refine q_meti (by decide +kernel) (Nat.le_of_ble_eq_true rfl) (fun {p e s m below meth c ls} C0 hl hH => ?_)
  obtain ⟨hx, hb, -⟩ := id C0
  have hA : ∀ q, s.heap.size ≤ q → va_A ([]) s.heap.size q := q_nA
  have hl : lv_has ls 2 [(0, .int x0), (1, .int x1)] := hl
  unfold w_Math_max at h
  refine lv_iload_n hx hb d_Math_max_0 rfl (lv_at hl 0 rfl) ?_
  refine lv_iload_n hx hb d_Math_max_1 rfl (lv_at hl 1 rfl) ?_
  refine lv_icmp_lt (tgt := 9) hx hb d_Math_max_2 (by decide) (fun c => ?_) (fun c => ?_)
  · have h := h.1 c
    refine lv_iload_n hx hb d_Math_max_9 rfl (lv_at hl 1 rfl) ?_
    exact q_reti C0 hH () rfl h d_Math_max_10
  · have h := h.2 c
    refine lv_iload_n hx hb d_Math_max_5 rfl (lv_at hl 0 rfl) ?_
    refine lv_goto (tgt := 10) hx hb d_Math_max_6 (by decide) ?_
    exact q_reti C0 hH () rfl h d_Math_max_10
theorem d_Rows_clear_0 : decode b_Rows_clear 0 = .ok (.aload_n 0, 1) := by decide +kernel
theorem d_Rows_clear_1 : decode b_Rows_clear 1 = .ok (.iconst 0, 1) := by decide +kernel
theorem d_Rows_clear_2 : decode b_Rows_clear 2 = .ok (.putfield 16, 3) := by decide +kernel
theorem d_Rows_clear_5 : decode b_Rows_clear 5 = .ok (.aload_n 0, 1) := by decide +kernel
theorem d_Rows_clear_6 : decode b_Rows_clear 6 = .ok (.iconst 0, 1) := by decide +kernel
theorem d_Rows_clear_7 : decode b_Rows_clear 7 = .ok (.putfield 20, 3) := by decide +kernel
theorem d_Rows_clear_10 : decode b_Rows_clear 10 = .ok (.return_, 1) := by decide +kernel
set_option maxHeartbeats 4000000 in
set_option maxRecDepth 100000 in
theorem c_Rows_clear_lr (l : Launch) (dC : Nat → ClassId) (dI : Nat → Nat → Nat) (cA : ClassId) (ad : Nat → Nat) (lr : tRows) (Q : tRows → Prop) (sz : Nat) (h : w_Rows_clear lr Q) :
    q_Mv l y_Rows_clear b_Rows_clear 1 0 0 [.ref (ad 8)] dC dI cA ([c_LR ad cA lr].flatten) (fun u : tRows => [c_LR ad cA u].flatten) sz (fun u => Q u) := by
  refine q_metv (plainFor_of_name (by decide +kernel)) (Nat.le_of_ble_eq_true rfl) (fun {p e s m below meth c ls} C0 hl hH => ?_)
  obtain ⟨hx, hb, -⟩ := id C0
  have hA : ∀ q, s.heap.size ≤ q → va_A ([c_LR ad cA lr].flatten) s.heap.size q := q_nA
  have hl : lv_has ls 1 [(0, .ref (ad 8))] := hl
  unfold w_Rows_clear at h
  refine lv_aload_n hx hb d_Rows_clear_0 rfl (lv_at hl 0 rfl) ?_
  refine lv_iconst (v := 0) hx hb d_Rows_clear_1 (by decide) ?_
  refine q_puti (ws' := [c_LR ad cA (tRows.mk lr.wantTrue lr.wantFalse 0 lr.oldest lr.room)].flatten) C0 hH 0 rfl hc_2 2 (by decide) k_36 rfl rfl (Nat.le_of_ble_eq_true rfl) rfl d_Rows_clear_2 (fun H locs hH => ?_)
  refine lv_aload_n hx hb d_Rows_clear_5 rfl (lv_at hl 0 rfl) ?_
  refine lv_iconst (v := 0) hx hb d_Rows_clear_6 (by decide) ?_
  refine q_puti (ws' := [c_LR ad cA (tRows.mk lr.wantTrue lr.wantFalse 0 0 lr.room)].flatten) C0 hH 0 rfl hc_2 3 (by decide) k_41 rfl rfl (Nat.le_of_ble_eq_true rfl) rfl d_Rows_clear_7 (fun H locs hH => ?_)
  exact q_retv C0 hH (tRows.mk lr.wantTrue lr.wantFalse 0 0 lr.room) rfl h d_Rows_clear_10
theorem d_Trail_clear_0 : decode b_Trail_clear 0 = .ok (.aload_n 0, 1) := by decide +kernel
theorem d_Trail_clear_1 : decode b_Trail_clear 1 = .ok (.iconst 0, 1) := by decide +kernel
theorem d_Trail_clear_2 : decode b_Trail_clear 2 = .ok (.putfield 24, 3) := by decide +kernel
theorem d_Trail_clear_5 : decode b_Trail_clear 5 = .ok (.aload_n 0, 1) := by decide +kernel
theorem d_Trail_clear_6 : decode b_Trail_clear 6 = .ok (.iconst 0, 1) := by decide +kernel
theorem d_Trail_clear_7 : decode b_Trail_clear 7 = .ok (.putfield 28, 3) := by decide +kernel
theorem d_Trail_clear_10 : decode b_Trail_clear 10 = .ok (.aload_n 0, 1) := by decide +kernel
theorem d_Trail_clear_11 : decode b_Trail_clear 11 = .ok (.iconst 0, 1) := by decide +kernel
theorem d_Trail_clear_12 : decode b_Trail_clear 12 = .ok (.putfield 31, 3) := by decide +kernel
theorem d_Trail_clear_15 : decode b_Trail_clear 15 = .ok (.aload_n 0, 1) := by decide +kernel
theorem d_Trail_clear_16 : decode b_Trail_clear 16 = .ok (.iconst 0, 1) := by decide +kernel
theorem d_Trail_clear_17 : decode b_Trail_clear 17 = .ok (.putfield 34, 3) := by decide +kernel
theorem d_Trail_clear_20 : decode b_Trail_clear 20 = .ok (.return_, 1) := by decide +kernel
set_option maxHeartbeats 4000000 in
set_option maxRecDepth 100000 in
theorem c_Trail_clear (l : Launch) (dC : Nat → ClassId) (dI : Nat → Nat → Nat) (cA : ClassId) (ad : Nat → Nat) (tr : tTrail) (Q : tTrail → Prop) (sz : Nat) (h : w_Trail_clear tr Q) :
    q_Mv l y_Trail_clear b_Trail_clear 1 0 0 [.ref (ad 15)] dC dI cA ([c_TR ad cA tr].flatten) (fun u : tTrail => [c_TR ad cA u].flatten) sz (fun u => Q u) := by
  refine q_metv (plainFor_of_name (by decide +kernel)) (Nat.le_of_ble_eq_true rfl) (fun {p e s m below meth c ls} C0 hl hH => ?_)
  obtain ⟨hx, hb, -⟩ := id C0
  have hA : ∀ q, s.heap.size ≤ q → va_A ([c_TR ad cA tr].flatten) s.heap.size q := q_nA
  have hl : lv_has ls 1 [(0, .ref (ad 15))] := hl
  unfold w_Trail_clear at h
  refine lv_aload_n hx hb d_Trail_clear_0 rfl (lv_at hl 0 rfl) ?_
  refine lv_iconst (v := 0) hx hb d_Trail_clear_1 (by decide) ?_
  refine q_puti (ws' := [c_TR ad cA (tTrail.mk 0 tr.falses tr.length tr.level tr.order tr.whyTrue tr.whyFalse tr.ahead)].flatten) C0 hH 0 rfl hc_5 0 (by decide) k_97 rfl rfl (Nat.le_of_ble_eq_true rfl) rfl d_Trail_clear_2 (fun H locs hH => ?_)
  refine lv_aload_n hx hb d_Trail_clear_5 rfl (lv_at hl 0 rfl) ?_
  refine lv_iconst (v := 0) hx hb d_Trail_clear_6 (by decide) ?_
  refine q_puti (ws' := [c_TR ad cA (tTrail.mk 0 0 tr.length tr.level tr.order tr.whyTrue tr.whyFalse tr.ahead)].flatten) C0 hH 0 rfl hc_5 1 (by decide) k_99 rfl rfl (Nat.le_of_ble_eq_true rfl) rfl d_Trail_clear_7 (fun H locs hH => ?_)
  refine lv_aload_n hx hb d_Trail_clear_10 rfl (lv_at hl 0 rfl) ?_
  refine lv_iconst (v := 0) hx hb d_Trail_clear_11 (by decide) ?_
  refine q_puti (ws' := [c_TR ad cA (tTrail.mk 0 0 0 tr.level tr.order tr.whyTrue tr.whyFalse tr.ahead)].flatten) C0 hH 0 rfl hc_5 2 (by decide) k_101 rfl rfl (Nat.le_of_ble_eq_true rfl) rfl d_Trail_clear_12 (fun H locs hH => ?_)
  refine lv_aload_n hx hb d_Trail_clear_15 rfl (lv_at hl 0 rfl) ?_
  refine lv_iconst (v := 0) hx hb d_Trail_clear_16 (by decide) ?_
  refine q_puti (ws' := [c_TR ad cA (tTrail.mk 0 0 0 0 tr.order tr.whyTrue tr.whyFalse tr.ahead)].flatten) C0 hH 0 rfl hc_5 3 (by decide) k_103 rfl rfl (Nat.le_of_ble_eq_true rfl) rfl d_Trail_clear_17 (fun H locs hH => ?_)
  exact q_retv C0 hH (tTrail.mk 0 0 0 0 tr.order tr.whyTrue tr.whyFalse tr.ahead) rfl h d_Trail_clear_20
theorem d_Sear_begin_0 : decode b_Sear_begin 0 = .ok (.aload_n 0, 1) := by decide +kernel
theorem d_Sear_begin_1 : decode b_Sear_begin 1 = .ok (.iconst 0, 1) := by decide +kernel
theorem d_Sear_begin_2 : decode b_Sear_begin 2 = .ok (.iload_n 1, 1) := by decide +kernel
theorem d_Sear_begin_3 : decode b_Sear_begin 3 = .ok (.aload_n 0, 1) := by decide +kernel
theorem d_Sear_begin_4 : decode b_Sear_begin 4 = .ok (.getfield 31, 3) := by decide +kernel
theorem d_Sear_begin_7 : decode b_Sear_begin 7 = .ok (.getfield 35, 3) := by decide +kernel
theorem d_Sear_begin_10 : decode b_Sear_begin 10 = .ok (.getfield 40, 3) := by decide +kernel
theorem d_Sear_begin_13 : decode b_Sear_begin 13 = .ok (.invokestatic 44, 3) := by decide +kernel
theorem d_Sear_begin_16 : decode b_Sear_begin 16 = .ok (.invokestatic 50, 3) := by decide +kernel
theorem d_Sear_begin_19 : decode b_Sear_begin 19 = .ok (.putfield 53, 3) := by decide +kernel
theorem d_Sear_begin_22 : decode b_Sear_begin 22 = .ok (.aload_n 0, 1) := by decide +kernel
theorem d_Sear_begin_23 : decode b_Sear_begin 23 = .ok (.getfield 14, 3) := by decide +kernel
theorem d_Sear_begin_26 : decode b_Sear_begin 26 = .ok (.invokevirtual 56, 3) := by decide +kernel
theorem d_Sear_begin_29 : decode b_Sear_begin 29 = .ok (.aload_n 0, 1) := by decide +kernel
theorem d_Sear_begin_30 : decode b_Sear_begin 30 = .ok (.getfield 23, 3) := by decide +kernel
theorem d_Sear_begin_33 : decode b_Sear_begin 33 = .ok (.invokevirtual 59, 3) := by decide +kernel
theorem d_Sear_begin_36 : decode b_Sear_begin 36 = .ok (.aload_n 0, 1) := by decide +kernel
theorem d_Sear_begin_37 : decode b_Sear_begin 37 = .ok (.iconst 0, 1) := by decide +kernel
theorem d_Sear_begin_38 : decode b_Sear_begin 38 = .ok (.putfield 60, 3) := by decide +kernel
theorem d_Sear_begin_41 : decode b_Sear_begin 41 = .ok (.return_, 1) := by decide +kernel
set_option maxHeartbeats 4000000 in
set_option maxRecDepth 100000 in
theorem c_Sear_begin (l : Launch) (dC : Nat → ClassId) (dI : Nat → Nat → Nat) (cA : ClassId) (ad : Nat → Nat) (x1 : Int32) (fo : tForm) (fr : tRows) (lr : tRows) (se : tSear) (sk : tClash) (sw : (Nat → Int32)) (tr : tTrail) (Q : tRows → tSear → tTrail → Prop) (sz : Nat) (h : w_Sear_begin x1 fr lr se tr Q) :
    q_Mv l y_Sear_begin b_Sear_begin 2 1 21 [.ref (ad 13), .int x1] dC dI cA ([c_FO ad cA fo, c_FR ad cA fr, c_LR ad cA lr, c_SE ad cA se sk sw, c_TR ad cA tr].flatten) (fun u : tRows × tSear × tTrail => [c_FO ad cA fo, c_FR ad cA fr, c_LR ad cA u.1, c_SE ad cA u.2.1 sk sw, c_TR ad cA u.2.2].flatten) sz (fun u => Q u.1 u.2.1 u.2.2) := by
  refine q_metv (plainFor_of_name (by decide +kernel)) (Nat.le_of_ble_eq_true rfl) (fun {p e s m below meth c ls} C0 hl hH => ?_)
  obtain ⟨hx, hb, -⟩ := id C0
  have hA : ∀ q, s.heap.size ≤ q → va_A ([c_FO ad cA fo, c_FR ad cA fr, c_LR ad cA lr, c_SE ad cA se sk sw, c_TR ad cA tr].flatten) s.heap.size q := q_nA
  have hl : lv_has ls 2 [(0, .ref (ad 13)), (1, .int x1)] := hl
  unfold w_Sear_begin at h
  refine lv_aload_n hx hb d_Sear_begin_0 rfl (lv_at hl 0 rfl) ?_
  refine lv_iconst (v := 0) hx hb d_Sear_begin_1 (by decide) ?_
  refine lv_iload_n hx hb d_Sear_begin_2 rfl (lv_at hl 1 rfl) ?_
  refine lv_aload_n hx hb d_Sear_begin_3 rfl (lv_at hl 0 rfl) ?_
  refine q_get (v := .ref (ad 1)) C0 hH 10 rfl hc_4 0 (by decide) k_130 rfl d_Sear_begin_4 ?_
  refine q_get (v := .ref (ad 5)) C0 hH 0 rfl hc_1 5 (by decide) k_61 rfl d_Sear_begin_7 ?_
  refine q_get (v := .int fr.size) C0 hH 4 rfl hc_2 2 (by decide) k_37 rfl d_Sear_begin_10 ?_
  refine q_calls (rest := [.int 0, .ref (ad 13)]) C0 hH hA (c_Math_min l dC dI cA ad x1 fr.size _ _ h) Y_Math_min k_337 ⟨Nat.le_of_ble_eq_true rfl, Nat.le_of_ble_eq_true rfl⟩ rfl rfl (Nat.le_of_ble_eq_true rfl) hl.1 d_Sear_begin_13 ⟨Nat.le_refl 0, Nat.le_refl 0⟩ (fun r_1 H locs h hH => ?_)
  try dsimp only at h
  refine q_calls (rest := [.ref (ad 13)]) C0 hH hA (c_Math_max l dC dI cA ad 0 r_1 _ _ h) Y_Math_max k_340 ⟨Nat.le_of_ble_eq_true rfl, Nat.le_of_ble_eq_true rfl⟩ rfl rfl (Nat.le_of_ble_eq_true rfl) hl.1 d_Sear_begin_16 ⟨Nat.le_refl 0, Nat.le_refl 0⟩ (fun r_2 H locs h hH => ?_)
  try dsimp only at h
  refine q_puti (ws' := [c_FO ad cA fo, c_FR ad cA fr, c_LR ad cA lr, c_SE ad cA (tSear.mk r_2 se.ended) sk sw, c_TR ad cA tr].flatten) C0 hH 10 rfl hc_4 4 (by decide) k_134 rfl rfl (Nat.le_of_ble_eq_true rfl) rfl d_Sear_begin_19 (fun H locs hH => ?_)
  refine lv_aload_n hx hb d_Sear_begin_22 rfl (lv_at hl 0 rfl) ?_
  refine q_get (v := .ref (ad 8)) C0 hH 10 rfl hc_4 1 (by decide) k_131 rfl d_Sear_begin_23 ?_
  refine q_callv (rest := []) (ws' := fun u : tRows => [c_FO ad cA fo, c_FR ad cA fr, c_LR ad cA u, c_SE ad cA (tSear.mk r_2 se.ended) sk sw, c_TR ad cA tr].flatten) C0 hH hA (c_Rows_clear_lr l dC dI cA ad lr _ _ h) Y_Rows_clear k_343 7 rfl hc_2 (q_pg [2] [0, 1, 3, 4] [0, 1, 4, 2, 3] 5 1 rfl (by decide) rfl (fun _ => rfl) rfl (by decide) (fun _ => rfl)) ⟨Nat.le_of_ble_eq_true rfl, Nat.le_of_ble_eq_true rfl⟩ rfl rfl (Nat.le_of_ble_eq_true rfl) hl.1 d_Sear_begin_26 ⟨Nat.le_refl 0, Nat.le_refl 0⟩ (fun u_3 H locs h hH => ?_)
  obtain ⟨lr_3, rfl⟩ : ∃ z, z = u_3 := ⟨_, rfl⟩
  try dsimp only at h
  have hH : q_H dC dI (va_A ([c_FO ad cA fo, c_FR ad cA fr, c_LR ad cA lr, c_SE ad cA se sk sw, c_TR ad cA tr].flatten) s.heap.size) s.heap H locs ([c_FO ad cA fo, c_FR ad cA fr, c_LR ad cA lr_3, c_SE ad cA (tSear.mk r_2 se.ended) sk sw, c_TR ad cA tr].flatten) := hH
  refine lv_aload_n hx hb d_Sear_begin_29 rfl (lv_at hl 0 rfl) ?_
  refine q_get (v := .ref (ad 15)) C0 hH 10 rfl hc_4 2 (by decide) k_132 rfl d_Sear_begin_30 ?_
  refine q_callv (rest := []) (ws' := fun u : tTrail => [c_FO ad cA fo, c_FR ad cA fr, c_LR ad cA lr_3, c_SE ad cA (tSear.mk r_2 se.ended) sk sw, c_TR ad cA u].flatten) C0 hH hA (c_Trail_clear l dC dI cA ad tr _ _ h) Y_Trail_clear k_347 12 rfl hc_5 (q_pg [4] [0, 1, 2, 3] [0, 1, 2, 3, 4] 5 1 rfl (by decide) rfl (fun _ => rfl) rfl (by decide) (fun _ => rfl)) ⟨Nat.le_of_ble_eq_true rfl, Nat.le_of_ble_eq_true rfl⟩ rfl rfl (Nat.le_of_ble_eq_true rfl) hl.1 d_Sear_begin_33 ⟨Nat.le_refl 0, Nat.le_refl 0⟩ (fun u_4 H locs h hH => ?_)
  obtain ⟨tr_4, rfl⟩ : ∃ z, z = u_4 := ⟨_, rfl⟩
  try dsimp only at h
  have hH : q_H dC dI (va_A ([c_FO ad cA fo, c_FR ad cA fr, c_LR ad cA lr, c_SE ad cA se sk sw, c_TR ad cA tr].flatten) s.heap.size) s.heap H locs ([c_FO ad cA fo, c_FR ad cA fr, c_LR ad cA lr_3, c_SE ad cA (tSear.mk r_2 se.ended) sk sw, c_TR ad cA tr_4].flatten) := hH
  refine lv_aload_n hx hb d_Sear_begin_36 rfl (lv_at hl 0 rfl) ?_
  refine lv_iconst (v := 0) hx hb d_Sear_begin_37 (by decide) ?_
  refine q_putz (ws' := [c_FO ad cA fo, c_FR ad cA fr, c_LR ad cA lr_3, c_SE ad cA (tSear.mk r_2 0) sk sw, c_TR ad cA tr_4].flatten) C0 hH 10 rfl hc_4 7 (by decide) k_137 rfl rfl (Or.inl rfl) (Nat.le_of_ble_eq_true rfl) rfl d_Sear_begin_38 (fun H locs hH => ?_)
  exact q_retv C0 hH (lr_3, (tSear.mk r_2 0), tr_4) rfl h d_Sear_begin_41
theorem d_Mods_begin_0 : decode b_Mods_begin 0 = .ok (.aload_n 0, 1) := by decide +kernel
theorem d_Mods_begin_1 : decode b_Mods_begin 1 = .ok (.getfield 28, 3) := by decide +kernel
theorem d_Mods_begin_4 : decode b_Mods_begin 4 = .ok (.ifCond .ne 45, 3) := by decide +kernel
theorem d_Mods_begin_7 : decode b_Mods_begin 7 = .ok (.aload_n 0, 1) := by decide +kernel
theorem d_Mods_begin_8 : decode b_Mods_begin 8 = .ok (.iconst 1, 1) := by decide +kernel
theorem d_Mods_begin_9 : decode b_Mods_begin 9 = .ok (.putfield 28, 3) := by decide +kernel
theorem d_Mods_begin_12 : decode b_Mods_begin 12 = .ok (.aload_n 0, 1) := by decide +kernel
theorem d_Mods_begin_13 : decode b_Mods_begin 13 = .ok (.iconst 0, 1) := by decide +kernel
theorem d_Mods_begin_14 : decode b_Mods_begin 14 = .ok (.putfield 32, 3) := by decide +kernel
theorem d_Mods_begin_17 : decode b_Mods_begin 17 = .ok (.aload_n 0, 1) := by decide +kernel
theorem d_Mods_begin_18 : decode b_Mods_begin 18 = .ok (.iconst 0, 1) := by decide +kernel
theorem d_Mods_begin_19 : decode b_Mods_begin 19 = .ok (.putfield 35, 3) := by decide +kernel
theorem d_Mods_begin_22 : decode b_Mods_begin 22 = .ok (.aload_n 0, 1) := by decide +kernel
theorem d_Mods_begin_23 : decode b_Mods_begin 23 = .ok (.iconst 0, 1) := by decide +kernel
theorem d_Mods_begin_24 : decode b_Mods_begin 24 = .ok (.putfield 39, 3) := by decide +kernel
theorem d_Mods_begin_27 : decode b_Mods_begin 27 = .ok (.aload_n 0, 1) := by decide +kernel
theorem d_Mods_begin_28 : decode b_Mods_begin 28 = .ok (.iconst 0, 1) := by decide +kernel
theorem d_Mods_begin_29 : decode b_Mods_begin 29 = .ok (.putfield 42, 3) := by decide +kernel
theorem d_Mods_begin_32 : decode b_Mods_begin 32 = .ok (.aload_n 0, 1) := by decide +kernel
theorem d_Mods_begin_33 : decode b_Mods_begin 33 = .ok (.getfield 24, 3) := by decide +kernel
theorem d_Mods_begin_36 : decode b_Mods_begin 36 = .ok (.aload_n 0, 1) := by decide +kernel
theorem d_Mods_begin_37 : decode b_Mods_begin 37 = .ok (.getfield 15, 3) := by decide +kernel
theorem d_Mods_begin_40 : decode b_Mods_begin 40 = .ok (.getfield 45, 3) := by decide +kernel
theorem d_Mods_begin_43 : decode b_Mods_begin 43 = .ok (.getfield 50, 3) := by decide +kernel
theorem d_Mods_begin_46 : decode b_Mods_begin 46 = .ok (.invokevirtual 53, 3) := by decide +kernel
theorem d_Mods_begin_49 : decode b_Mods_begin 49 = .ok (.return_, 1) := by decide +kernel
set_option maxHeartbeats 4000000 in
set_option maxRecDepth 100000 in
theorem c_Mods_begin (l : Launch) (dC : Nat → ClassId) (dI : Nat → Nat → Nat) (cA : ClassId) (ad : Nat → Nat) (fo : tForm) (fr : tRows) (lr : tRows) (mo : tMods) (se : tSear) (sk : tClash) (sw : (Nat → Int32)) (tr : tTrail) (Q : tRows → tMods → tSear → tTrail → Prop) (sz : Nat) (h : w_Mods_begin fr lr mo se tr Q) :
    q_Mv l y_Mods_begin b_Mods_begin 1 2 42 [.ref (ad 11)] dC dI cA ([c_FO ad cA fo, c_FR ad cA fr, c_LR ad cA lr, c_MO ad cA mo, c_SE ad cA se sk sw, c_TR ad cA tr].flatten) (fun u : tRows × tMods × tSear × tTrail => [c_FO ad cA fo, c_FR ad cA fr, c_LR ad cA u.1, c_MO ad cA u.2.1, c_SE ad cA u.2.2.1 sk sw, c_TR ad cA u.2.2.2].flatten) sz (fun u => Q u.1 u.2.1 u.2.2.1 u.2.2.2) := by
  refine q_metv (plainFor_of_name (by decide +kernel)) (Nat.le_of_ble_eq_true rfl) (fun {p e s m below meth c ls} C0 hl hH => ?_)
  obtain ⟨hx, hb, -⟩ := id C0
  have hA : ∀ q, s.heap.size ≤ q → va_A ([c_FO ad cA fo, c_FR ad cA fr, c_LR ad cA lr, c_MO ad cA mo, c_SE ad cA se sk sw, c_TR ad cA tr].flatten) s.heap.size q := q_nA
  have hl : lv_has ls 1 [(0, .ref (ad 11))] := hl
  unfold w_Mods_begin at h
  refine lv_aload_n hx hb d_Mods_begin_0 rfl (lv_at hl 0 rfl) ?_
  refine q_get (v := .int mo.begun) C0 hH 10 rfl hc_3 6 (by decide) k_162 rfl d_Mods_begin_1 ?_
  refine lv_if_ne (tgt := 49) hx hb d_Mods_begin_4 (by decide) (fun c => ?_) (fun c => ?_)
  · have h := h.1 c
    exact q_retv C0 hH (lr, mo, se, tr) rfl h d_Mods_begin_49
  · have h := h.2 c
    refine lv_aload_n hx hb d_Mods_begin_7 rfl (lv_at hl 0 rfl) ?_
    refine lv_iconst (v := 1) hx hb d_Mods_begin_8 (by decide) ?_
    refine q_putz (ws' := [c_FO ad cA fo, c_FR ad cA fr, c_LR ad cA lr, c_MO ad cA (tMods.mk mo.rows mo.size mo.seenTrue mo.seenFalse 1 mo.complete), c_SE ad cA se sk sw, c_TR ad cA tr].flatten) C0 hH 10 rfl hc_3 6 (by decide) k_162 rfl rfl (Or.inr rfl) (Nat.le_of_ble_eq_true rfl) rfl d_Mods_begin_9 (fun H locs hH => ?_)
    refine lv_aload_n hx hb d_Mods_begin_12 rfl (lv_at hl 0 rfl) ?_
    refine lv_iconst (v := 0) hx hb d_Mods_begin_13 (by decide) ?_
    refine q_putz (ws' := [c_FO ad cA fo, c_FR ad cA fr, c_LR ad cA lr, c_MO ad cA (tMods.mk mo.rows mo.size mo.seenTrue mo.seenFalse 1 0), c_SE ad cA se sk sw, c_TR ad cA tr].flatten) C0 hH 10 rfl hc_3 7 (by decide) k_163 rfl rfl (Or.inl rfl) (Nat.le_of_ble_eq_true rfl) rfl d_Mods_begin_14 (fun H locs hH => ?_)
    refine lv_aload_n hx hb d_Mods_begin_17 rfl (lv_at hl 0 rfl) ?_
    refine lv_iconst (v := 0) hx hb d_Mods_begin_18 (by decide) ?_
    refine q_puti (ws' := [c_FO ad cA fo, c_FR ad cA fr, c_LR ad cA lr, c_MO ad cA (tMods.mk mo.rows 0 mo.seenTrue mo.seenFalse 1 0), c_SE ad cA se sk sw, c_TR ad cA tr].flatten) C0 hH 10 rfl hc_3 3 (by decide) k_158 rfl rfl (Nat.le_of_ble_eq_true rfl) rfl d_Mods_begin_19 (fun H locs hH => ?_)
    refine lv_aload_n hx hb d_Mods_begin_22 rfl (lv_at hl 0 rfl) ?_
    refine lv_iconst (v := 0) hx hb d_Mods_begin_23 (by decide) ?_
    refine q_puti (ws' := [c_FO ad cA fo, c_FR ad cA fr, c_LR ad cA lr, c_MO ad cA (tMods.mk mo.rows 0 0 mo.seenFalse 1 0), c_SE ad cA se sk sw, c_TR ad cA tr].flatten) C0 hH 10 rfl hc_3 4 (by decide) k_160 rfl rfl (Nat.le_of_ble_eq_true rfl) rfl d_Mods_begin_24 (fun H locs hH => ?_)
    refine lv_aload_n hx hb d_Mods_begin_27 rfl (lv_at hl 0 rfl) ?_
    refine lv_iconst (v := 0) hx hb d_Mods_begin_28 (by decide) ?_
    refine q_puti (ws' := [c_FO ad cA fo, c_FR ad cA fr, c_LR ad cA lr, c_MO ad cA (tMods.mk mo.rows 0 0 0 1 0), c_SE ad cA se sk sw, c_TR ad cA tr].flatten) C0 hH 10 rfl hc_3 5 (by decide) k_161 rfl rfl (Nat.le_of_ble_eq_true rfl) rfl d_Mods_begin_29 (fun H locs hH => ?_)
    refine lv_aload_n hx hb d_Mods_begin_32 rfl (lv_at hl 0 rfl) ?_
    refine q_get (v := .ref (ad 13)) C0 hH 10 rfl hc_3 1 (by decide) k_156 rfl d_Mods_begin_33 ?_
    refine lv_aload_n hx hb d_Mods_begin_36 rfl (lv_at hl 0 rfl) ?_
    refine q_get (v := .ref (ad 1)) C0 hH 10 rfl hc_3 0 (by decide) k_155 rfl d_Mods_begin_37 ?_
    refine q_get (v := .ref (ad 5)) C0 hH 0 rfl hc_1 5 (by decide) k_63 rfl d_Mods_begin_40 ?_
    refine q_get (v := .int fr.size) C0 hH 4 rfl hc_2 2 (by decide) k_39 rfl d_Mods_begin_43 ?_
    refine q_callv (rest := []) (ws' := fun u : tRows × tSear × tTrail => [c_FO ad cA fo, c_FR ad cA fr, c_LR ad cA u.1, c_MO ad cA (tMods.mk mo.rows 0 0 0 1 0), c_SE ad cA u.2.1 sk sw, c_TR ad cA u.2.2].flatten) C0 hH hA (c_Sear_begin l dC dI cA ad fr.size fo fr lr se sk sw tr _ _ h) Y_Sear_begin k_333 12 rfl hc_4 (q_pg [0, 1, 2, 4, 5] [3] [1, 2, 3, 0, 4, 5] 6 5 rfl (by decide) rfl (fun _ => rfl) rfl (by decide) (fun _ => rfl)) ⟨Nat.le_of_ble_eq_true rfl, Nat.le_of_ble_eq_true rfl⟩ rfl rfl (Nat.le_of_ble_eq_true rfl) hl.1 d_Mods_begin_46 ⟨Nat.le_refl 0, Nat.le_refl 0⟩ (fun u_1 H locs h hH => ?_)
    obtain ⟨lr_1, se_1, tr_1⟩ := u_1
    try dsimp only at h
    have hH : q_H dC dI (va_A ([c_FO ad cA fo, c_FR ad cA fr, c_LR ad cA lr, c_MO ad cA mo, c_SE ad cA se sk sw, c_TR ad cA tr].flatten) s.heap.size) s.heap H locs ([c_FO ad cA fo, c_FR ad cA fr, c_LR ad cA lr_1, c_MO ad cA (tMods.mk mo.rows 0 0 0 1 0), c_SE ad cA se_1 sk sw, c_TR ad cA tr_1].flatten) := hH
    exact q_retv C0 hH (lr_1, (tMods.mk mo.rows 0 0 0 1 0), se_1, tr_1) rfl h d_Mods_begin_49
theorem d_Int_bitCount_0 : decode b_Int_bitCount 0 = .ok (.iload_n 0, 1) := by decide +kernel
theorem d_Int_bitCount_1 : decode b_Int_bitCount 1 = .ok (.iload_n 0, 1) := by decide +kernel
theorem d_Int_bitCount_2 : decode b_Int_bitCount 2 = .ok (.iconst 1, 1) := by decide +kernel
theorem d_Int_bitCount_3 : decode b_Int_bitCount 3 = .ok (.iushr, 1) := by decide +kernel
theorem d_Int_bitCount_4 : decode b_Int_bitCount 4 = .ok (.ldc_w 265, 3) := by decide +kernel
theorem d_Int_bitCount_7 : decode b_Int_bitCount 7 = .ok (.iand, 1) := by decide +kernel
theorem d_Int_bitCount_8 : decode b_Int_bitCount 8 = .ok (.isub, 1) := by decide +kernel
theorem d_Int_bitCount_9 : decode b_Int_bitCount 9 = .ok (.istore_n 0, 1) := by decide +kernel
theorem d_Int_bitCount_10 : decode b_Int_bitCount 10 = .ok (.iload_n 0, 1) := by decide +kernel
theorem d_Int_bitCount_11 : decode b_Int_bitCount 11 = .ok (.ldc_w 266, 3) := by decide +kernel
theorem d_Int_bitCount_14 : decode b_Int_bitCount 14 = .ok (.iand, 1) := by decide +kernel
theorem d_Int_bitCount_15 : decode b_Int_bitCount 15 = .ok (.iload_n 0, 1) := by decide +kernel
theorem d_Int_bitCount_16 : decode b_Int_bitCount 16 = .ok (.iconst 2, 1) := by decide +kernel
theorem d_Int_bitCount_17 : decode b_Int_bitCount 17 = .ok (.iushr, 1) := by decide +kernel
theorem d_Int_bitCount_18 : decode b_Int_bitCount 18 = .ok (.ldc_w 266, 3) := by decide +kernel
theorem d_Int_bitCount_21 : decode b_Int_bitCount 21 = .ok (.iand, 1) := by decide +kernel
theorem d_Int_bitCount_22 : decode b_Int_bitCount 22 = .ok (.iadd, 1) := by decide +kernel
theorem d_Int_bitCount_23 : decode b_Int_bitCount 23 = .ok (.istore_n 0, 1) := by decide +kernel
theorem d_Int_bitCount_24 : decode b_Int_bitCount 24 = .ok (.iload_n 0, 1) := by decide +kernel
theorem d_Int_bitCount_25 : decode b_Int_bitCount 25 = .ok (.iload_n 0, 1) := by decide +kernel
theorem d_Int_bitCount_26 : decode b_Int_bitCount 26 = .ok (.iconst 4, 1) := by decide +kernel
theorem d_Int_bitCount_27 : decode b_Int_bitCount 27 = .ok (.iushr, 1) := by decide +kernel
theorem d_Int_bitCount_28 : decode b_Int_bitCount 28 = .ok (.iadd, 1) := by decide +kernel
theorem d_Int_bitCount_29 : decode b_Int_bitCount 29 = .ok (.ldc_w 267, 3) := by decide +kernel
theorem d_Int_bitCount_32 : decode b_Int_bitCount 32 = .ok (.iand, 1) := by decide +kernel
theorem d_Int_bitCount_33 : decode b_Int_bitCount 33 = .ok (.istore_n 0, 1) := by decide +kernel
theorem d_Int_bitCount_34 : decode b_Int_bitCount 34 = .ok (.iload_n 0, 1) := by decide +kernel
theorem d_Int_bitCount_35 : decode b_Int_bitCount 35 = .ok (.iload_n 0, 1) := by decide +kernel
theorem d_Int_bitCount_36 : decode b_Int_bitCount 36 = .ok (.bipush 8, 2) := by decide +kernel
theorem d_Int_bitCount_38 : decode b_Int_bitCount 38 = .ok (.iushr, 1) := by decide +kernel
theorem d_Int_bitCount_39 : decode b_Int_bitCount 39 = .ok (.iadd, 1) := by decide +kernel
theorem d_Int_bitCount_40 : decode b_Int_bitCount 40 = .ok (.istore_n 0, 1) := by decide +kernel
theorem d_Int_bitCount_41 : decode b_Int_bitCount 41 = .ok (.iload_n 0, 1) := by decide +kernel
theorem d_Int_bitCount_42 : decode b_Int_bitCount 42 = .ok (.iload_n 0, 1) := by decide +kernel
theorem d_Int_bitCount_43 : decode b_Int_bitCount 43 = .ok (.bipush 16, 2) := by decide +kernel
theorem d_Int_bitCount_45 : decode b_Int_bitCount 45 = .ok (.iushr, 1) := by decide +kernel
theorem d_Int_bitCount_46 : decode b_Int_bitCount 46 = .ok (.iadd, 1) := by decide +kernel
theorem d_Int_bitCount_47 : decode b_Int_bitCount 47 = .ok (.istore_n 0, 1) := by decide +kernel
theorem d_Int_bitCount_48 : decode b_Int_bitCount 48 = .ok (.iload_n 0, 1) := by decide +kernel
theorem d_Int_bitCount_49 : decode b_Int_bitCount 49 = .ok (.bipush 63, 2) := by decide +kernel
theorem d_Int_bitCount_51 : decode b_Int_bitCount 51 = .ok (.iand, 1) := by decide +kernel
theorem d_Int_bitCount_52 : decode b_Int_bitCount 52 = .ok (.ireturn, 1) := by decide +kernel
set_option maxHeartbeats 4000000 in
set_option maxRecDepth 100000 in
theorem c_Int_bitCount (l : Launch) (dC : Nat → ClassId) (dI : Nat → Nat → Nat) (cA : ClassId) (ad : Nat → Nat) (x0 : Int32) (Q : Int32 → Prop) (sz : Nat) (h : w_Int_bitCount x0 Q) :
    q_Mi l y_Int_bitCount b_Int_bitCount 1 (some .int) 0 0 [.int x0] dC dI cA ([]) (fun _ : Unit => []) sz (fun r _ => Q r) := by
  refine q_meti (by decide +kernel) (Nat.le_of_ble_eq_true rfl) (fun {p e s m below meth c ls} C0 hl hH => ?_)
  obtain ⟨hx, hb, -⟩ := id C0
  have hA : ∀ q, s.heap.size ≤ q → va_A ([]) s.heap.size q := q_nA
  have hl : lv_has ls 1 [(0, .int x0)] := hl
  unfold w_Int_bitCount at h
  refine lv_iload_n hx hb d_Int_bitCount_0 rfl (lv_at hl 0 rfl) ?_
  refine lv_iload_n hx hb d_Int_bitCount_1 rfl (lv_at hl 0 rfl) ?_
  refine lv_iconst (v := 1) hx hb d_Int_bitCount_2 (by decide) ?_
  refine lv_iushr (v := (q_ushr x0 (1 : Int32))) hx hb d_Int_bitCount_3 rfl ?_
  refine lv_ldcw (v := 1431655765) hx hb C0.2.2.2.1 (q_hts C0 k_363) d_Int_bitCount_4 ?_
  refine lv_iand hx hb d_Int_bitCount_7 ?_
  refine lv_isub hx hb d_Int_bitCount_8 ?_
  refine lv_istore_n (lv' := [(0, .int (x0 - ((q_ushr x0 (1 : Int32)) &&& (1431655765))))]) hx hb d_Int_bitCount_9 rfl hl (by decide) rfl (fun ls hl => ?_)
  refine lv_iload_n hx hb d_Int_bitCount_10 rfl (lv_at hl 0 rfl) ?_
  refine lv_ldcw (v := 858993459) hx hb C0.2.2.2.1 (q_hts C0 k_364) d_Int_bitCount_11 ?_
  refine lv_iand hx hb d_Int_bitCount_14 ?_
  refine lv_iload_n hx hb d_Int_bitCount_15 rfl (lv_at hl 0 rfl) ?_
  refine lv_iconst (v := 2) hx hb d_Int_bitCount_16 (by decide) ?_
  refine lv_iushr (v := (q_ushr (x0 - ((q_ushr x0 (1 : Int32)) &&& (1431655765))) (2 : Int32))) hx hb d_Int_bitCount_17 rfl ?_
  refine lv_ldcw (v := 858993459) hx hb C0.2.2.2.1 (q_hts C0 k_364) d_Int_bitCount_18 ?_
  refine lv_iand hx hb d_Int_bitCount_21 ?_
  refine lv_iadd hx hb d_Int_bitCount_22 ?_
  refine lv_istore_n (lv' := [(0, .int (((x0 - ((q_ushr x0 (1 : Int32)) &&& (1431655765))) &&& (858993459)) + ((q_ushr (x0 - ((q_ushr x0 (1 : Int32)) &&& (1431655765))) (2 : Int32)) &&& (858993459))))]) hx hb d_Int_bitCount_23 rfl hl (by decide) rfl (fun ls hl => ?_)
  refine lv_iload_n hx hb d_Int_bitCount_24 rfl (lv_at hl 0 rfl) ?_
  refine lv_iload_n hx hb d_Int_bitCount_25 rfl (lv_at hl 0 rfl) ?_
  refine lv_iconst (v := 4) hx hb d_Int_bitCount_26 (by decide) ?_
  refine lv_iushr (v := (q_ushr (((x0 - ((q_ushr x0 (1 : Int32)) &&& (1431655765))) &&& (858993459)) + ((q_ushr (x0 - ((q_ushr x0 (1 : Int32)) &&& (1431655765))) (2 : Int32)) &&& (858993459))) (4 : Int32))) hx hb d_Int_bitCount_27 rfl ?_
  refine lv_iadd hx hb d_Int_bitCount_28 ?_
  refine lv_ldcw (v := 252645135) hx hb C0.2.2.2.1 (q_hts C0 k_365) d_Int_bitCount_29 ?_
  refine lv_iand hx hb d_Int_bitCount_32 ?_
  refine lv_istore_n (lv' := [(0, .int (((((x0 - ((q_ushr x0 (1 : Int32)) &&& (1431655765))) &&& (858993459)) + ((q_ushr (x0 - ((q_ushr x0 (1 : Int32)) &&& (1431655765))) (2 : Int32)) &&& (858993459))) + (q_ushr (((x0 - ((q_ushr x0 (1 : Int32)) &&& (1431655765))) &&& (858993459)) + ((q_ushr (x0 - ((q_ushr x0 (1 : Int32)) &&& (1431655765))) (2 : Int32)) &&& (858993459))) (4 : Int32))) &&& (252645135)))]) hx hb d_Int_bitCount_33 rfl hl (by decide) rfl (fun ls hl => ?_)
  refine lv_iload_n hx hb d_Int_bitCount_34 rfl (lv_at hl 0 rfl) ?_
  refine lv_iload_n hx hb d_Int_bitCount_35 rfl (lv_at hl 0 rfl) ?_
  refine lv_bipush (v := 8) hx hb d_Int_bitCount_36 (by decide) ?_
  refine lv_iushr (v := (q_ushr (((((x0 - ((q_ushr x0 (1 : Int32)) &&& (1431655765))) &&& (858993459)) + ((q_ushr (x0 - ((q_ushr x0 (1 : Int32)) &&& (1431655765))) (2 : Int32)) &&& (858993459))) + (q_ushr (((x0 - ((q_ushr x0 (1 : Int32)) &&& (1431655765))) &&& (858993459)) + ((q_ushr (x0 - ((q_ushr x0 (1 : Int32)) &&& (1431655765))) (2 : Int32)) &&& (858993459))) (4 : Int32))) &&& (252645135)) (8 : Int32))) hx hb d_Int_bitCount_38 rfl ?_
  refine lv_iadd hx hb d_Int_bitCount_39 ?_
  refine lv_istore_n (lv' := [(0, .int ((((((x0 - ((q_ushr x0 (1 : Int32)) &&& (1431655765))) &&& (858993459)) + ((q_ushr (x0 - ((q_ushr x0 (1 : Int32)) &&& (1431655765))) (2 : Int32)) &&& (858993459))) + (q_ushr (((x0 - ((q_ushr x0 (1 : Int32)) &&& (1431655765))) &&& (858993459)) + ((q_ushr (x0 - ((q_ushr x0 (1 : Int32)) &&& (1431655765))) (2 : Int32)) &&& (858993459))) (4 : Int32))) &&& (252645135)) + (q_ushr (((((x0 - ((q_ushr x0 (1 : Int32)) &&& (1431655765))) &&& (858993459)) + ((q_ushr (x0 - ((q_ushr x0 (1 : Int32)) &&& (1431655765))) (2 : Int32)) &&& (858993459))) + (q_ushr (((x0 - ((q_ushr x0 (1 : Int32)) &&& (1431655765))) &&& (858993459)) + ((q_ushr (x0 - ((q_ushr x0 (1 : Int32)) &&& (1431655765))) (2 : Int32)) &&& (858993459))) (4 : Int32))) &&& (252645135)) (8 : Int32))))]) hx hb d_Int_bitCount_40 rfl hl (by decide) rfl (fun ls hl => ?_)
  refine lv_iload_n hx hb d_Int_bitCount_41 rfl (lv_at hl 0 rfl) ?_
  refine lv_iload_n hx hb d_Int_bitCount_42 rfl (lv_at hl 0 rfl) ?_
  refine lv_bipush (v := 16) hx hb d_Int_bitCount_43 (by decide) ?_
  refine lv_iushr (v := (q_ushr ((((((x0 - ((q_ushr x0 (1 : Int32)) &&& (1431655765))) &&& (858993459)) + ((q_ushr (x0 - ((q_ushr x0 (1 : Int32)) &&& (1431655765))) (2 : Int32)) &&& (858993459))) + (q_ushr (((x0 - ((q_ushr x0 (1 : Int32)) &&& (1431655765))) &&& (858993459)) + ((q_ushr (x0 - ((q_ushr x0 (1 : Int32)) &&& (1431655765))) (2 : Int32)) &&& (858993459))) (4 : Int32))) &&& (252645135)) + (q_ushr (((((x0 - ((q_ushr x0 (1 : Int32)) &&& (1431655765))) &&& (858993459)) + ((q_ushr (x0 - ((q_ushr x0 (1 : Int32)) &&& (1431655765))) (2 : Int32)) &&& (858993459))) + (q_ushr (((x0 - ((q_ushr x0 (1 : Int32)) &&& (1431655765))) &&& (858993459)) + ((q_ushr (x0 - ((q_ushr x0 (1 : Int32)) &&& (1431655765))) (2 : Int32)) &&& (858993459))) (4 : Int32))) &&& (252645135)) (8 : Int32))) (16 : Int32))) hx hb d_Int_bitCount_45 rfl ?_
  refine lv_iadd hx hb d_Int_bitCount_46 ?_
  refine lv_istore_n (lv' := [(0, .int (((((((x0 - ((q_ushr x0 (1 : Int32)) &&& (1431655765))) &&& (858993459)) + ((q_ushr (x0 - ((q_ushr x0 (1 : Int32)) &&& (1431655765))) (2 : Int32)) &&& (858993459))) + (q_ushr (((x0 - ((q_ushr x0 (1 : Int32)) &&& (1431655765))) &&& (858993459)) + ((q_ushr (x0 - ((q_ushr x0 (1 : Int32)) &&& (1431655765))) (2 : Int32)) &&& (858993459))) (4 : Int32))) &&& (252645135)) + (q_ushr (((((x0 - ((q_ushr x0 (1 : Int32)) &&& (1431655765))) &&& (858993459)) + ((q_ushr (x0 - ((q_ushr x0 (1 : Int32)) &&& (1431655765))) (2 : Int32)) &&& (858993459))) + (q_ushr (((x0 - ((q_ushr x0 (1 : Int32)) &&& (1431655765))) &&& (858993459)) + ((q_ushr (x0 - ((q_ushr x0 (1 : Int32)) &&& (1431655765))) (2 : Int32)) &&& (858993459))) (4 : Int32))) &&& (252645135)) (8 : Int32))) + (q_ushr ((((((x0 - ((q_ushr x0 (1 : Int32)) &&& (1431655765))) &&& (858993459)) + ((q_ushr (x0 - ((q_ushr x0 (1 : Int32)) &&& (1431655765))) (2 : Int32)) &&& (858993459))) + (q_ushr (((x0 - ((q_ushr x0 (1 : Int32)) &&& (1431655765))) &&& (858993459)) + ((q_ushr (x0 - ((q_ushr x0 (1 : Int32)) &&& (1431655765))) (2 : Int32)) &&& (858993459))) (4 : Int32))) &&& (252645135)) + (q_ushr (((((x0 - ((q_ushr x0 (1 : Int32)) &&& (1431655765))) &&& (858993459)) + ((q_ushr (x0 - ((q_ushr x0 (1 : Int32)) &&& (1431655765))) (2 : Int32)) &&& (858993459))) + (q_ushr (((x0 - ((q_ushr x0 (1 : Int32)) &&& (1431655765))) &&& (858993459)) + ((q_ushr (x0 - ((q_ushr x0 (1 : Int32)) &&& (1431655765))) (2 : Int32)) &&& (858993459))) (4 : Int32))) &&& (252645135)) (8 : Int32))) (16 : Int32))))]) hx hb d_Int_bitCount_47 rfl hl (by decide) rfl (fun ls hl => ?_)
  refine lv_iload_n hx hb d_Int_bitCount_48 rfl (lv_at hl 0 rfl) ?_
  refine lv_bipush (v := 63) hx hb d_Int_bitCount_49 (by decide) ?_
  refine lv_iand hx hb d_Int_bitCount_51 ?_
  exact q_reti C0 hH () rfl h d_Int_bitCount_52
theorem d_Trail_back_0 : decode b_Trail_back 0 = .ok (.iload_n 1, 1) := by decide +kernel
theorem d_Trail_back_1 : decode b_Trail_back 1 = .ok (.ifCond .lt 11, 3) := by decide +kernel
theorem d_Trail_back_4 : decode b_Trail_back 4 = .ok (.iload_n 1, 1) := by decide +kernel
theorem d_Trail_back_5 : decode b_Trail_back 5 = .ok (.aload_n 0, 1) := by decide +kernel
theorem d_Trail_back_6 : decode b_Trail_back 6 = .ok (.getfield 34, 3) := by decide +kernel
theorem d_Trail_back_9 : decode b_Trail_back 9 = .ok (.if_icmp .lt 4, 3) := by decide +kernel
theorem d_Trail_back_12 : decode b_Trail_back 12 = .ok (.return_, 1) := by decide +kernel
theorem d_Trail_back_13 : decode b_Trail_back 13 = .ok (.aload_n 0, 1) := by decide +kernel
theorem d_Trail_back_14 : decode b_Trail_back 14 = .ok (.getfield 21, 3) := by decide +kernel
theorem d_Trail_back_17 : decode b_Trail_back 17 = .ok (.iload_n 1, 1) := by decide +kernel
theorem d_Trail_back_18 : decode b_Trail_back 18 = .ok (.iconst 1, 1) := by decide +kernel
theorem d_Trail_back_19 : decode b_Trail_back 19 = .ok (.iadd, 1) := by decide +kernel
theorem d_Trail_back_20 : decode b_Trail_back 20 = .ok (.iaload, 1) := by decide +kernel
theorem d_Trail_back_21 : decode b_Trail_back 21 = .ok (.istore_n 2, 1) := by decide +kernel
theorem d_Trail_back_22 : decode b_Trail_back 22 = .ok (.aload_n 0, 1) := by decide +kernel
theorem d_Trail_back_23 : decode b_Trail_back 23 = .ok (.dup, 1) := by decide +kernel
theorem d_Trail_back_24 : decode b_Trail_back 24 = .ok (.getfield 24, 3) := by decide +kernel
theorem d_Trail_back_27 : decode b_Trail_back 27 = .ok (.iload_n 2, 1) := by decide +kernel
theorem d_Trail_back_28 : decode b_Trail_back 28 = .ok (.iand, 1) := by decide +kernel
theorem d_Trail_back_29 : decode b_Trail_back 29 = .ok (.putfield 24, 3) := by decide +kernel
theorem d_Trail_back_32 : decode b_Trail_back 32 = .ok (.aload_n 0, 1) := by decide +kernel
theorem d_Trail_back_33 : decode b_Trail_back 33 = .ok (.dup, 1) := by decide +kernel
theorem d_Trail_back_34 : decode b_Trail_back 34 = .ok (.getfield 28, 3) := by decide +kernel
theorem d_Trail_back_37 : decode b_Trail_back 37 = .ok (.iload_n 2, 1) := by decide +kernel
theorem d_Trail_back_38 : decode b_Trail_back 38 = .ok (.iand, 1) := by decide +kernel
theorem d_Trail_back_39 : decode b_Trail_back 39 = .ok (.putfield 28, 3) := by decide +kernel
theorem d_Trail_back_42 : decode b_Trail_back 42 = .ok (.aload_n 0, 1) := by decide +kernel
theorem d_Trail_back_43 : decode b_Trail_back 43 = .ok (.iload_n 2, 1) := by decide +kernel
theorem d_Trail_back_44 : decode b_Trail_back 44 = .ok (.invokestatic 41, 3) := by decide +kernel
theorem d_Trail_back_47 : decode b_Trail_back 47 = .ok (.putfield 31, 3) := by decide +kernel
theorem d_Trail_back_50 : decode b_Trail_back 50 = .ok (.aload_n 0, 1) := by decide +kernel
theorem d_Trail_back_51 : decode b_Trail_back 51 = .ok (.iload_n 1, 1) := by decide +kernel
theorem d_Trail_back_52 : decode b_Trail_back 52 = .ok (.putfield 34, 3) := by decide +kernel
theorem d_Trail_back_55 : decode b_Trail_back 55 = .ok (.return_, 1) := by decide +kernel
set_option maxHeartbeats 4000000 in
set_option maxRecDepth 100000 in
theorem c_Trail_back (l : Launch) (dC : Nat → ClassId) (dI : Nat → Nat → Nat) (cA : ClassId) (ad : Nat → Nat) (x1 : Int32) (tr : tTrail) (Q : tTrail → Prop) (sz : Nat) (h : w_Trail_back x1 tr Q) :
    q_Mv l y_Trail_back b_Trail_back 3 1 20 [.ref (ad 15), .int x1] dC dI cA ([c_TR ad cA tr].flatten) (fun u : tTrail => [c_TR ad cA u].flatten) sz (fun u => Q u) := by
  refine q_metv (plainFor_of_name (by decide +kernel)) (Nat.le_of_ble_eq_true rfl) (fun {p e s m below meth c ls} C0 hl hH => ?_)
  obtain ⟨hx, hb, -⟩ := id C0
  have hA : ∀ q, s.heap.size ≤ q → va_A ([c_TR ad cA tr].flatten) s.heap.size q := q_nA
  have hl : lv_has ls 3 [(0, .ref (ad 15)), (1, .int x1)] := hl
  unfold w_Trail_back at h
  refine lv_iload_n hx hb d_Trail_back_0 rfl (lv_at hl 1 rfl) ?_
  refine lv_if_lt (tgt := 12) hx hb d_Trail_back_1 (by decide) (fun c => ?_) (fun c => ?_)
  · have h := h.1 c
    exact q_retv C0 hH tr rfl h d_Trail_back_12
  · have h := h.2 c
    refine lv_iload_n hx hb d_Trail_back_4 rfl (lv_at hl 1 rfl) ?_
    refine lv_aload_n hx hb d_Trail_back_5 rfl (lv_at hl 0 rfl) ?_
    refine q_get (v := .int tr.level) C0 hH 0 rfl hc_5 3 (by decide) k_103 rfl d_Trail_back_6 ?_
    refine lv_icmp_lt (tgt := 13) hx hb d_Trail_back_9 (by decide) (fun c => ?_) (fun c => ?_)
    · have h := h.1 c
      refine lv_aload_n hx hb d_Trail_back_13 rfl (lv_at hl 0 rfl) ?_
      refine q_get (v := .ref (ad 19)) C0 hH 0 rfl hc_5 7 (by decide) k_111 rfl d_Trail_back_14 ?_
      refine lv_iload_n hx hb d_Trail_back_17 rfl (lv_at hl 1 rfl) ?_
      refine lv_iconst (v := 1) hx hb d_Trail_back_18 (by decide) ?_
      refine lv_iadd hx hb d_Trail_back_19 ?_
      obtain ⟨hi, h⟩ := h
      refine q_ald (f := tr.ahead) C0 hH 4 rfl hi d_Trail_back_20 ?_
      refine lv_istore_n (lv' := [(2, .int (tr.ahead (x1 + 1).toNatClampNeg)), (0, .ref (ad 15)), (1, .int x1)]) hx hb d_Trail_back_21 rfl hl (by decide) rfl (fun ls hl => ?_)
      refine lv_aload_n hx hb d_Trail_back_22 rfl (lv_at hl 1 rfl) ?_
      refine lv_dup hx hb d_Trail_back_23 rfl ?_
      refine q_get (v := .int tr.trues) C0 hH 0 rfl hc_5 0 (by decide) k_97 rfl d_Trail_back_24 ?_
      refine lv_iload_n hx hb d_Trail_back_27 rfl (lv_at hl 0 rfl) ?_
      refine lv_iand hx hb d_Trail_back_28 ?_
      refine q_puti (ws' := [c_TR ad cA (tTrail.mk (tr.trues &&& (tr.ahead (x1 + 1).toNatClampNeg)) tr.falses tr.length tr.level tr.order tr.whyTrue tr.whyFalse tr.ahead)].flatten) C0 hH 0 rfl hc_5 0 (by decide) k_97 rfl rfl (Nat.le_of_ble_eq_true rfl) rfl d_Trail_back_29 (fun H locs hH => ?_)
      refine lv_aload_n hx hb d_Trail_back_32 rfl (lv_at hl 1 rfl) ?_
      refine lv_dup hx hb d_Trail_back_33 rfl ?_
      refine q_get (v := .int tr.falses) C0 hH 0 rfl hc_5 1 (by decide) k_99 rfl d_Trail_back_34 ?_
      refine lv_iload_n hx hb d_Trail_back_37 rfl (lv_at hl 0 rfl) ?_
      refine lv_iand hx hb d_Trail_back_38 ?_
      refine q_puti (ws' := [c_TR ad cA (tTrail.mk (tr.trues &&& (tr.ahead (x1 + 1).toNatClampNeg)) (tr.falses &&& (tr.ahead (x1 + 1).toNatClampNeg)) tr.length tr.level tr.order tr.whyTrue tr.whyFalse tr.ahead)].flatten) C0 hH 0 rfl hc_5 1 (by decide) k_99 rfl rfl (Nat.le_of_ble_eq_true rfl) rfl d_Trail_back_39 (fun H locs hH => ?_)
      refine lv_aload_n hx hb d_Trail_back_42 rfl (lv_at hl 1 rfl) ?_
      refine lv_iload_n hx hb d_Trail_back_43 rfl (lv_at hl 0 rfl) ?_
      refine q_calls (rest := [.ref (ad 15)]) C0 hH hA (c_Int_bitCount l dC dI cA ad (tr.ahead (x1 + 1).toNatClampNeg) _ _ h) Y_Int_bitCount k_360 ⟨Nat.le_of_ble_eq_true rfl, Nat.le_of_ble_eq_true rfl⟩ rfl rfl (Nat.le_of_ble_eq_true rfl) hl.1 d_Trail_back_44 ⟨Nat.le_refl 0, Nat.le_refl 0⟩ (fun r_1 H locs h hH => ?_)
      try dsimp only at h
      refine q_puti (ws' := [c_TR ad cA (tTrail.mk (tr.trues &&& (tr.ahead (x1 + 1).toNatClampNeg)) (tr.falses &&& (tr.ahead (x1 + 1).toNatClampNeg)) r_1 tr.level tr.order tr.whyTrue tr.whyFalse tr.ahead)].flatten) C0 hH 0 rfl hc_5 2 (by decide) k_101 rfl rfl (Nat.le_of_ble_eq_true rfl) rfl d_Trail_back_47 (fun H locs hH => ?_)
      refine lv_aload_n hx hb d_Trail_back_50 rfl (lv_at hl 1 rfl) ?_
      refine lv_iload_n hx hb d_Trail_back_51 rfl (lv_at hl 2 rfl) ?_
      refine q_puti (ws' := [c_TR ad cA (tTrail.mk (tr.trues &&& (tr.ahead (x1 + 1).toNatClampNeg)) (tr.falses &&& (tr.ahead (x1 + 1).toNatClampNeg)) r_1 x1 tr.order tr.whyTrue tr.whyFalse tr.ahead)].flatten) C0 hH 0 rfl hc_5 3 (by decide) k_103 rfl rfl (Nat.le_of_ble_eq_true rfl) rfl d_Trail_back_52 (fun H locs hH => ?_)
      exact q_retv C0 hH (tTrail.mk (tr.trues &&& (tr.ahead (x1 + 1).toNatClampNeg)) (tr.falses &&& (tr.ahead (x1 + 1).toNatClampNeg)) r_1 x1 tr.order tr.whyTrue tr.whyFalse tr.ahead) rfl h d_Trail_back_55
    · have h := h.2 c
      exact q_retv C0 hH tr rfl h d_Trail_back_12
theorem d_Sear_areSeveral_0 : decode b_Sear_areSeveral 0 = .ok (.iload_n 0, 1) := by decide +kernel
theorem d_Sear_areSeveral_1 : decode b_Sear_areSeveral 1 = .ok (.iload_n 0, 1) := by decide +kernel
theorem d_Sear_areSeveral_2 : decode b_Sear_areSeveral 2 = .ok (.iconst 1, 1) := by decide +kernel
theorem d_Sear_areSeveral_3 : decode b_Sear_areSeveral 3 = .ok (.isub, 1) := by decide +kernel
theorem d_Sear_areSeveral_4 : decode b_Sear_areSeveral 4 = .ok (.iand, 1) := by decide +kernel
theorem d_Sear_areSeveral_5 : decode b_Sear_areSeveral 5 = .ok (.ifCond .eq 7, 3) := by decide +kernel
theorem d_Sear_areSeveral_8 : decode b_Sear_areSeveral 8 = .ok (.iconst 1, 1) := by decide +kernel
theorem d_Sear_areSeveral_9 : decode b_Sear_areSeveral 9 = .ok (.goto 4, 3) := by decide +kernel
theorem d_Sear_areSeveral_12 : decode b_Sear_areSeveral 12 = .ok (.iconst 0, 1) := by decide +kernel
theorem d_Sear_areSeveral_13 : decode b_Sear_areSeveral 13 = .ok (.ireturn, 1) := by decide +kernel
set_option maxHeartbeats 4000000 in
set_option maxRecDepth 100000 in
theorem c_Sear_areSeveral (l : Launch) (dC : Nat → ClassId) (dI : Nat → Nat → Nat) (cA : ClassId) (ad : Nat → Nat) (x0 : Int32) (Q : Int32 → Prop) (sz : Nat) (h : w_Sear_areSeveral x0 Q) :
    q_Mi l y_Sear_areSeveral b_Sear_areSeveral 1 (some .boolean) 0 0 [.int x0] dC dI cA ([]) (fun _ : Unit => []) sz (fun r _ => Q r) := by
  refine q_meti (plainFor_of_name (by decide +kernel)) (Nat.le_of_ble_eq_true rfl) (fun {p e s m below meth c ls} C0 hl hH => ?_)
  obtain ⟨hx, hb, -⟩ := id C0
  have hA : ∀ q, s.heap.size ≤ q → va_A ([]) s.heap.size q := q_nA
  have hl : lv_has ls 1 [(0, .int x0)] := hl
  unfold w_Sear_areSeveral at h
  refine lv_iload_n hx hb d_Sear_areSeveral_0 rfl (lv_at hl 0 rfl) ?_
  refine lv_iload_n hx hb d_Sear_areSeveral_1 rfl (lv_at hl 0 rfl) ?_
  refine lv_iconst (v := 1) hx hb d_Sear_areSeveral_2 (by decide) ?_
  refine lv_isub hx hb d_Sear_areSeveral_3 ?_
  refine lv_iand hx hb d_Sear_areSeveral_4 ?_
  refine lv_if_eq (tgt := 12) hx hb d_Sear_areSeveral_5 (by decide) (fun c => ?_) (fun c => ?_)
  · have h := h.1 c
    refine lv_iconst (v := 0) hx hb d_Sear_areSeveral_12 (by decide) ?_
    exact q_retz C0 hH () rfl (Or.inl rfl) h d_Sear_areSeveral_13
  · have h := h.2 c
    refine lv_iconst (v := 1) hx hb d_Sear_areSeveral_8 (by decide) ?_
    refine lv_goto (tgt := 13) hx hb d_Sear_areSeveral_9 (by decide) ?_
    exact q_retz C0 hH () rfl (Or.inr rfl) h d_Sear_areSeveral_13
