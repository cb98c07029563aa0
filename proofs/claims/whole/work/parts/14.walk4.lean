theorem d_PC_culprit_0 : decode b_PC_culprit 0 = .ok (.aload_n 0, 1) := by decide +kernel
theorem d_PC_culprit_1 : decode b_PC_culprit 1 = .ok (.getfield 21, 3) := by decide +kernel
theorem d_PC_culprit_4 : decode b_PC_culprit 4 = .ok (.iconst 0, 1) := by decide +kernel
theorem d_PC_culprit_5 : decode b_PC_culprit 5 = .ok (.invokevirtual 83, 3) := by decide +kernel
theorem d_PC_culprit_8 : decode b_PC_culprit 8 = .ok (.ifCond .eq 8, 3) := by decide +kernel
theorem d_PC_culprit_11 : decode b_PC_culprit 11 = .ok (.bipush (-9), 2) := by decide +kernel
theorem d_PC_culprit_13 : decode b_PC_culprit 13 = .ok (.goto 10, 3) := by decide +kernel
theorem d_PC_culprit_16 : decode b_PC_culprit 16 = .ok (.aload_n 0, 1) := by decide +kernel
theorem d_PC_culprit_17 : decode b_PC_culprit 17 = .ok (.getfield 21, 3) := by decide +kernel
theorem d_PC_culprit_20 : decode b_PC_culprit 20 = .ok (.invokevirtual 96, 3) := by decide +kernel
theorem d_PC_culprit_23 : decode b_PC_culprit 23 = .ok (.ireturn, 1) := by decide +kernel
set_option maxHeartbeats 4000000 in
set_option maxRecDepth 100000 in
theorem c_PC_culprit (l : Launch) (dC : Nat → ClassId) (dI : Nat → Nat → Nat) (cA : ClassId) (ad : Nat → Nat) (fo : tForm) (fr : tRows) (lr : tRows) (mo : tMods) (se : tSear) (sk : tClash) (sw : (Nat → Int32)) (tr : tTrail) (Q : Int32 → tRows → tMods → tSear → tClash → (Nat → Int32) → tTrail → Prop) (sz : Nat) (h : w_PC_culprit fo fr lr mo se sk sw tr Q) :
    q_Mi l y_PC_culprit b_PC_culprit 1 (some .int) 6 144 [.ref (ad 0)] dC dI cA ([c_PC ad, c_FO ad cA fo, c_FR ad cA fr, c_LR ad cA lr, c_MO ad cA mo, c_SE ad cA se sk sw, c_TR ad cA tr].flatten) (fun u : tRows × tMods × tSear × tClash × (Nat → Int32) × tTrail => [c_PC ad, c_FO ad cA fo, c_FR ad cA fr, c_LR ad cA u.1, c_MO ad cA u.2.1, c_SE ad cA u.2.2.1 u.2.2.2.1 u.2.2.2.2.1, c_TR ad cA u.2.2.2.2.2].flatten) sz (fun r u => Q r u.1 u.2.1 u.2.2.1 u.2.2.2.1 u.2.2.2.2.1 u.2.2.2.2.2) := by
  refine q_meti (plainFor_of_name (by decide +kernel)) (Nat.le_of_ble_eq_true rfl) (fun {p e s m below meth c ls} C0 hl hH => ?_)
  obtain ⟨hx, hb, -⟩ := id C0
  have hA : ∀ q, s.heap.size ≤ q → va_A ([c_PC ad, c_FO ad cA fo, c_FR ad cA fr, c_LR ad cA lr, c_MO ad cA mo, c_SE ad cA se sk sw, c_TR ad cA tr].flatten) s.heap.size q := q_nA
  have hl : lv_has ls 1 [(0, .ref (ad 0))] := hl
  unfold w_PC_culprit at h
  refine lv_aload_n hx hb d_PC_culprit_0 rfl (lv_at hl 0 rfl) ?_
  refine q_get (v := .ref (ad 11)) C0 hH 0 rfl hc_0 1 (by decide) k_257 rfl d_PC_culprit_1 ?_
  refine lv_iconst (v := 0) hx hb d_PC_culprit_4 (by decide) ?_
  refine q_calli (rest := []) (ws' := fun u : tRows × tMods × tSear × tClash × (Nat → Int32) × tTrail => [c_PC ad, c_FO ad cA fo, c_FR ad cA fr, c_LR ad cA u.1, c_MO ad cA u.2.1, c_SE ad cA u.2.2.1 u.2.2.2.1 u.2.2.2.2.1, c_TR ad cA u.2.2.2.2.2].flatten) C0 hH hA (c_Mods_allow l dC dI cA ad 0 fo fr lr mo se sk sw tr _ _ h) Y_Mods_allow k_325 11 rfl hc_3 (q_pg [1, 2, 3, 4, 5, 6] [0] [0, 1, 2, 3, 4, 5, 6] 7 6 rfl (by decide) rfl (fun _ => rfl) rfl (by decide) (fun _ => rfl)) ⟨Nat.le_of_ble_eq_true rfl, Nat.le_of_ble_eq_true rfl⟩ rfl rfl (Nat.le_of_ble_eq_true rfl) hl.1 d_PC_culprit_5 ⟨Nat.le_refl 0, Nat.le_refl 0⟩ (fun r_1 u_1 H locs h hH => ?_)
  obtain ⟨lr_1, mo_1, se_1, sk_1, sw_1, tr_1⟩ := u_1
  try dsimp only at h
  have hH : q_H dC dI (va_A ([c_PC ad, c_FO ad cA fo, c_FR ad cA fr, c_LR ad cA lr, c_MO ad cA mo, c_SE ad cA se sk sw, c_TR ad cA tr].flatten) s.heap.size) s.heap H locs ([c_PC ad, c_FO ad cA fo, c_FR ad cA fr, c_LR ad cA lr_1, c_MO ad cA mo_1, c_SE ad cA se_1 sk_1 sw_1, c_TR ad cA tr_1].flatten) := hH
  refine lv_if_eq (tgt := 16) hx hb d_PC_culprit_8 (by decide) (fun c => ?_) (fun c => ?_)
  · have h := h.1 c
    refine lv_aload_n hx hb d_PC_culprit_16 rfl (lv_at hl 0 rfl) ?_
    refine q_get (v := .ref (ad 11)) C0 hH 0 rfl hc_0 1 (by decide) k_257 rfl d_PC_culprit_17 ?_
    refine q_calli (rest := []) (ws' := fun u : tRows × tSear × tClash × (Nat → Int32) × tTrail => [c_PC ad, c_FO ad cA fo, c_FR ad cA fr, c_LR ad cA u.1, c_MO ad cA mo_1, c_SE ad cA u.2.1 u.2.2.1 u.2.2.2.1, c_TR ad cA u.2.2.2.2].flatten) C0 hH hA (c_Mods_firstWithout l dC dI cA ad fo fr lr_1 mo_1 se_1 sk_1 sw_1 tr_1 _ _ h) Y_Mods_firstWithout k_459 11 rfl hc_3 (q_pg [1, 2, 3, 4, 5, 6] [0] [0, 1, 2, 3, 4, 5, 6] 7 6 rfl (by decide) rfl (fun _ => rfl) rfl (by decide) (fun _ => rfl)) ⟨Nat.le_of_ble_eq_true rfl, Nat.le_of_ble_eq_true rfl⟩ rfl rfl (Nat.le_of_ble_eq_true rfl) hl.1 d_PC_culprit_20 ⟨Nat.le_refl 0, Nat.le_refl 0⟩ (fun r_2 u_2 H locs h hH => ?_)
    obtain ⟨lr_2, se_2, sk_2, sw_2, tr_2⟩ := u_2
    try dsimp only at h
    have hH : q_H dC dI (va_A ([c_PC ad, c_FO ad cA fo, c_FR ad cA fr, c_LR ad cA lr, c_MO ad cA mo, c_SE ad cA se sk sw, c_TR ad cA tr].flatten) s.heap.size) s.heap H locs ([c_PC ad, c_FO ad cA fo, c_FR ad cA fr, c_LR ad cA lr_2, c_MO ad cA mo_1, c_SE ad cA se_2 sk_2 sw_2, c_TR ad cA tr_2].flatten) := hH
    exact q_reti C0 hH (lr_2, mo_1, se_2, sk_2, sw_2, tr_2) rfl h d_PC_culprit_23
  · have h := h.2 c
    refine lv_bipush (v := (-9)) hx hb d_PC_culprit_11 (by decide) ?_
    refine lv_goto (tgt := 23) hx hb d_PC_culprit_13 (by decide) ?_
    exact q_reti C0 hH (lr_1, mo_1, se_1, sk_1, sw_1, tr_1) rfl h d_PC_culprit_23
theorem d_Task_restart_0 : decode b_Task_restart 0 = .ok (.aload_n 0, 1) := by decide +kernel
theorem d_Task_restart_1 : decode b_Task_restart 1 = .ok (.iload_n 1, 1) := by decide +kernel
theorem d_Task_restart_2 : decode b_Task_restart 2 = .ok (.putfield 24, 3) := by decide +kernel
theorem d_Task_restart_5 : decode b_Task_restart 5 = .ok (.aload_n 0, 1) := by decide +kernel
theorem d_Task_restart_6 : decode b_Task_restart 6 = .ok (.iconst 0, 1) := by decide +kernel
theorem d_Task_restart_7 : decode b_Task_restart 7 = .ok (.putfield 28, 3) := by decide +kernel
theorem d_Task_restart_10 : decode b_Task_restart 10 = .ok (.aload_n 0, 1) := by decide +kernel
theorem d_Task_restart_11 : decode b_Task_restart 11 = .ok (.iconst 0, 1) := by decide +kernel
theorem d_Task_restart_12 : decode b_Task_restart 12 = .ok (.putfield 31, 3) := by decide +kernel
theorem d_Task_restart_15 : decode b_Task_restart 15 = .ok (.aload_n 0, 1) := by decide +kernel
theorem d_Task_restart_16 : decode b_Task_restart 16 = .ok (.iconst 0, 1) := by decide +kernel
theorem d_Task_restart_17 : decode b_Task_restart 17 = .ok (.putfield 34, 3) := by decide +kernel
theorem d_Task_restart_20 : decode b_Task_restart 20 = .ok (.aload_n 0, 1) := by decide +kernel
theorem d_Task_restart_21 : decode b_Task_restart 21 = .ok (.iconst 0, 1) := by decide +kernel
theorem d_Task_restart_22 : decode b_Task_restart 22 = .ok (.putfield 37, 3) := by decide +kernel
theorem d_Task_restart_25 : decode b_Task_restart 25 = .ok (.return_, 1) := by decide +kernel
set_option maxHeartbeats 4000000 in
set_option maxRecDepth 100000 in
theorem c_Task_restart (l : Launch) (dC : Nat → ClassId) (dI : Nat → Nat → Nat) (cA : ClassId) (ad : Nat → Nat) (x1 : Int32) (ta : tTask) (tw : tWays) (Q : tTask → tWays → Prop) (sz : Nat) (h : w_Task_restart x1 ta tw Q) :
    q_Mv l y_Task_restart b_Task_restart 2 0 0 [.ref (ad 20), .int x1] dC dI cA ([c_TA ad cA ta tw].flatten) (fun u : tTask × tWays => [c_TA ad cA u.1 u.2].flatten) sz (fun u => Q u.1 u.2) := by
  refine q_metv (plainFor_of_name (by decide +kernel)) (Nat.le_of_ble_eq_true rfl) (fun {p e s m below meth c ls} C0 hl hH => ?_)
  obtain ⟨hx, hb, -⟩ := id C0
  have hA : ∀ q, s.heap.size ≤ q → va_A ([c_TA ad cA ta tw].flatten) s.heap.size q := q_nA
  have hl : lv_has ls 2 [(0, .ref (ad 20)), (1, .int x1)] := hl
  unfold w_Task_restart at h
  refine lv_aload_n hx hb d_Task_restart_0 rfl (lv_at hl 0 rfl) ?_
  refine lv_iload_n hx hb d_Task_restart_1 rfl (lv_at hl 1 rfl) ?_
  refine q_puti (ws' := [c_TA ad cA (tTask.mk x1 ta.actionCount ta.beginning ta.goal ta.asks ta.adds ta.takes) tw].flatten) C0 hH 0 rfl hc_6 0 (by decide) k_187 rfl rfl (Nat.le_of_ble_eq_true rfl) rfl d_Task_restart_2 (fun H locs hH => ?_)
  refine lv_aload_n hx hb d_Task_restart_5 rfl (lv_at hl 0 rfl) ?_
  refine lv_iconst (v := 0) hx hb d_Task_restart_6 (by decide) ?_
  refine q_puti (ws' := [c_TA ad cA (tTask.mk x1 0 ta.beginning ta.goal ta.asks ta.adds ta.takes) tw].flatten) C0 hH 0 rfl hc_6 1 (by decide) k_190 rfl rfl (Nat.le_of_ble_eq_true rfl) rfl d_Task_restart_7 (fun H locs hH => ?_)
  refine lv_aload_n hx hb d_Task_restart_10 rfl (lv_at hl 0 rfl) ?_
  refine lv_iconst (v := 0) hx hb d_Task_restart_11 (by decide) ?_
  refine q_puti (ws' := [c_TA ad cA (tTask.mk x1 0 0 ta.goal ta.asks ta.adds ta.takes) tw].flatten) C0 hH 0 rfl hc_6 2 (by decide) k_193 rfl rfl (Nat.le_of_ble_eq_true rfl) rfl d_Task_restart_12 (fun H locs hH => ?_)
  refine lv_aload_n hx hb d_Task_restart_15 rfl (lv_at hl 0 rfl) ?_
  refine lv_iconst (v := 0) hx hb d_Task_restart_16 (by decide) ?_
  refine q_puti (ws' := [c_TA ad cA (tTask.mk x1 0 0 0 ta.asks ta.adds ta.takes) tw].flatten) C0 hH 0 rfl hc_6 3 (by decide) k_196 rfl rfl (Nat.le_of_ble_eq_true rfl) rfl d_Task_restart_17 (fun H locs hH => ?_)
  refine lv_aload_n hx hb d_Task_restart_20 rfl (lv_at hl 0 rfl) ?_
  refine lv_iconst (v := 0) hx hb d_Task_restart_21 (by decide) ?_
  refine q_putz (ws' := [c_TA ad cA (tTask.mk x1 0 0 0 ta.asks ta.adds ta.takes) (tWays.mk tw.ways 0)].flatten) C0 hH 0 rfl hc_6 8 (by decide) k_206 rfl rfl (Or.inl rfl) (Nat.le_of_ble_eq_true rfl) rfl d_Task_restart_22 (fun H locs hH => ?_)
  exact q_retv C0 hH ((tTask.mk x1 0 0 0 ta.asks ta.adds ta.takes), (tWays.mk tw.ways 0)) rfl h d_Task_restart_25
theorem d_Code_forget_0 : decode b_Code_forget 0 = .ok (.aload_n 0, 1) := by decide +kernel
theorem d_Code_forget_1 : decode b_Code_forget 1 = .ok (.iconst 0, 1) := by decide +kernel
theorem d_Code_forget_2 : decode b_Code_forget 2 = .ok (.putfield 22, 3) := by decide +kernel
theorem d_Code_forget_5 : decode b_Code_forget 5 = .ok (.return_, 1) := by decide +kernel
set_option maxHeartbeats 4000000 in
set_option maxRecDepth 100000 in
theorem c_Code_forget (l : Launch) (dC : Nat → ClassId) (dI : Nat → Nat → Nat) (cA : ClassId) (ad : Nat → Nat) (co : tCode) (ct : tTold) (Q : tTold → Prop) (sz : Nat) (h : w_Code_forget ct Q) :
    q_Mv l y_Code_forget b_Code_forget 1 0 0 [.ref (ad 25)] dC dI cA ([c_CO ad cA co ct].flatten) (fun u : tTold => [c_CO ad cA co u].flatten) sz (fun u => Q u) := by
  refine q_metv (plainFor_of_name (by decide +kernel)) (Nat.le_of_ble_eq_true rfl) (fun {p e s m below meth c ls} C0 hl hH => ?_)
  obtain ⟨hx, hb, -⟩ := id C0
  have hA : ∀ q, s.heap.size ≤ q → va_A ([c_CO ad cA co ct].flatten) s.heap.size q := q_nA
  have hl : lv_has ls 1 [(0, .ref (ad 25))] := hl
  unfold w_Code_forget at h
  refine lv_aload_n hx hb d_Code_forget_0 rfl (lv_at hl 0 rfl) ?_
  refine lv_iconst (v := 0) hx hb d_Code_forget_1 (by decide) ?_
  refine q_putz (ws' := [c_CO ad cA co (tTold.mk ct.steps 0)].flatten) C0 hH 0 rfl hc_7 6 (by decide) k_240 rfl rfl (Or.inl rfl) (Nat.le_of_ble_eq_true rfl) rfl d_Code_forget_2 (fun H locs hH => ?_)
  exact q_retv C0 hH (tTold.mk ct.steps 0) rfl h d_Code_forget_5
theorem d_PC_facts_0 : decode b_PC_facts 0 = .ok (.iload_n 1, 1) := by decide +kernel
theorem d_PC_facts_1 : decode b_PC_facts 1 = .ok (.ifCond .lt 9, 3) := by decide +kernel
theorem d_PC_facts_4 : decode b_PC_facts 4 = .ok (.iload_n 1, 1) := by decide +kernel
theorem d_PC_facts_5 : decode b_PC_facts 5 = .ok (.bipush 6, 2) := by decide +kernel
theorem d_PC_facts_7 : decode b_PC_facts 7 = .ok (.if_icmp .le 5, 3) := by decide +kernel
theorem d_PC_facts_10 : decode b_PC_facts 10 = .ok (.iconst (-1), 1) := by decide +kernel
theorem d_PC_facts_11 : decode b_PC_facts 11 = .ok (.ireturn, 1) := by decide +kernel
theorem d_PC_facts_12 : decode b_PC_facts 12 = .ok (.aload_n 0, 1) := by decide +kernel
theorem d_PC_facts_13 : decode b_PC_facts 13 = .ok (.getfield 28, 3) := by decide +kernel
theorem d_PC_facts_16 : decode b_PC_facts 16 = .ok (.getfield 100, 3) := by decide +kernel
theorem d_PC_facts_19 : decode b_PC_facts 19 = .ok (.istore_n 2, 1) := by decide +kernel
theorem d_PC_facts_20 : decode b_PC_facts 20 = .ok (.aload_n 0, 1) := by decide +kernel
theorem d_PC_facts_21 : decode b_PC_facts 21 = .ok (.getfield 28, 3) := by decide +kernel
theorem d_PC_facts_24 : decode b_PC_facts 24 = .ok (.iload_n 1, 1) := by decide +kernel
theorem d_PC_facts_25 : decode b_PC_facts 25 = .ok (.invokevirtual 103, 3) := by decide +kernel
theorem d_PC_facts_28 : decode b_PC_facts 28 = .ok (.aload_n 0, 1) := by decide +kernel
theorem d_PC_facts_29 : decode b_PC_facts 29 = .ok (.getfield 37, 3) := by decide +kernel
theorem d_PC_facts_32 : decode b_PC_facts 32 = .ok (.invokevirtual 107, 3) := by decide +kernel
theorem d_PC_facts_35 : decode b_PC_facts 35 = .ok (.iload_n 2, 1) := by decide +kernel
theorem d_PC_facts_36 : decode b_PC_facts 36 = .ok (.ireturn, 1) := by decide +kernel
set_option maxHeartbeats 4000000 in
set_option maxRecDepth 100000 in
theorem c_PC_facts (l : Launch) (dC : Nat → ClassId) (dI : Nat → Nat → Nat) (cA : ClassId) (ad : Nat → Nat) (x1 : Int32) (ta : tTask) (tw : tWays) (co : tCode) (ct : tTold) (Q : Int32 → tTask → tWays → tTold → Prop) (sz : Nat) (h : w_PC_facts x1 ta tw ct Q) :
    q_Mi l y_PC_facts b_PC_facts 3 (some .int) 1 21 [.ref (ad 0), .int x1] dC dI cA ([c_PC ad, c_TA ad cA ta tw, c_CO ad cA co ct].flatten) (fun u : tTask × tWays × tTold => [c_PC ad, c_TA ad cA u.1 u.2.1, c_CO ad cA co u.2.2].flatten) sz (fun r u => Q r u.1 u.2.1 u.2.2) := by
  refine q_meti (plainFor_of_name (by decide +kernel)) (Nat.le_of_ble_eq_true rfl) (fun {p e s m below meth c ls} C0 hl hH => ?_)
  obtain ⟨hx, hb, -⟩ := id C0
  have hA : ∀ q, s.heap.size ≤ q → va_A ([c_PC ad, c_TA ad cA ta tw, c_CO ad cA co ct].flatten) s.heap.size q := q_nA
  have hl : lv_has ls 3 [(0, .ref (ad 0)), (1, .int x1)] := hl
  unfold w_PC_facts at h
  refine lv_iload_n hx hb d_PC_facts_0 rfl (lv_at hl 1 rfl) ?_
  refine lv_if_lt (tgt := 10) hx hb d_PC_facts_1 (by decide) (fun c => ?_) (fun c => ?_)
  · have h := h.1 c
    refine lv_iconst (v := (-1)) hx hb d_PC_facts_10 (by decide) ?_
    exact q_reti C0 hH (ta, tw, ct) rfl h d_PC_facts_11
  · have h := h.2 c
    refine lv_iload_n hx hb d_PC_facts_4 rfl (lv_at hl 1 rfl) ?_
    refine lv_bipush (v := 6) hx hb d_PC_facts_5 (by decide) ?_
    refine lv_icmp_le (tgt := 12) hx hb d_PC_facts_7 (by decide) (fun c => ?_) (fun c => ?_)
    · have h := h.1 c
      refine lv_aload_n hx hb d_PC_facts_12 rfl (lv_at hl 0 rfl) ?_
      refine q_get (v := .ref (ad 20)) C0 hH 0 rfl hc_0 2 (by decide) k_258 rfl d_PC_facts_13 ?_
      refine q_get (v := .int ta.factCount) C0 hH 1 rfl hc_6 0 (by decide) k_189 rfl d_PC_facts_16 ?_
      refine lv_istore_n (lv' := [(2, .int ta.factCount), (0, .ref (ad 0)), (1, .int x1)]) hx hb d_PC_facts_19 rfl hl (by decide) rfl (fun ls hl => ?_)
      refine lv_aload_n hx hb d_PC_facts_20 rfl (lv_at hl 1 rfl) ?_
      refine q_get (v := .ref (ad 20)) C0 hH 0 rfl hc_0 2 (by decide) k_258 rfl d_PC_facts_21 ?_
      refine lv_iload_n hx hb d_PC_facts_24 rfl (lv_at hl 2 rfl) ?_
      refine q_callv (rest := []) (ws' := fun u : tTask × tWays => [c_PC ad, c_TA ad cA u.1 u.2, c_CO ad cA co ct].flatten) C0 hH hA (c_Task_restart l dC dI cA ad x1 ta tw _ _ h) Y_Task_restart k_471 1 rfl hc_6 (q_pg [1] [0, 2] [0, 2, 1] 3 1 rfl (by decide) rfl (fun _ => rfl) rfl (by decide) (fun _ => rfl)) ⟨Nat.le_of_ble_eq_true rfl, Nat.le_of_ble_eq_true rfl⟩ rfl rfl (Nat.le_of_ble_eq_true rfl) hl.1 d_PC_facts_25 ⟨Nat.le_refl 0, Nat.le_refl 0⟩ (fun u_1 H locs h hH => ?_)
      obtain ⟨ta_1, tw_1⟩ := u_1
      try dsimp only at h
      have hH : q_H dC dI (va_A ([c_PC ad, c_TA ad cA ta tw, c_CO ad cA co ct].flatten) s.heap.size) s.heap H locs ([c_PC ad, c_TA ad cA ta_1 tw_1, c_CO ad cA co ct].flatten) := hH
      refine lv_aload_n hx hb d_PC_facts_28 rfl (lv_at hl 1 rfl) ?_
      refine q_get (v := .ref (ad 25)) C0 hH 0 rfl hc_0 3 (by decide) k_259 rfl d_PC_facts_29 ?_
      refine q_callv (rest := []) (ws' := fun u : tTold => [c_PC ad, c_TA ad cA ta_1 tw_1, c_CO ad cA co u].flatten) C0 hH hA (c_Code_forget l dC dI cA ad co ct _ _ h) Y_Code_forget k_475 6 rfl hc_7 (q_pg [2] [0, 1] [0, 1, 2] 3 1 rfl (by decide) rfl (fun _ => rfl) rfl (by decide) (fun _ => rfl)) ⟨Nat.le_of_ble_eq_true rfl, Nat.le_of_ble_eq_true rfl⟩ rfl rfl (Nat.le_of_ble_eq_true rfl) hl.1 d_PC_facts_32 ⟨Nat.le_refl 0, Nat.le_refl 0⟩ (fun u_2 H locs h hH => ?_)
      obtain ⟨ct_2, rfl⟩ : ∃ z, z = u_2 := ⟨_, rfl⟩
      try dsimp only at h
      have hH : q_H dC dI (va_A ([c_PC ad, c_TA ad cA ta tw, c_CO ad cA co ct].flatten) s.heap.size) s.heap H locs ([c_PC ad, c_TA ad cA ta_1 tw_1, c_CO ad cA co ct_2].flatten) := hH
      refine lv_iload_n hx hb d_PC_facts_35 rfl (lv_at hl 0 rfl) ?_
      exact q_reti C0 hH (ta_1, tw_1, ct_2) rfl h d_PC_facts_36
    · have h := h.2 c
      refine lv_iconst (v := (-1)) hx hb d_PC_facts_10 (by decide) ?_
      exact q_reti C0 hH (ta, tw, ct) rfl h d_PC_facts_11
theorem d_PC_areFacts_0 : decode b_PC_areFacts 0 = .ok (.iload_n 1, 1) := by decide +kernel
theorem d_PC_areFacts_1 : decode b_PC_areFacts 1 = .ok (.ifCond .lt 20, 3) := by decide +kernel
theorem d_PC_areFacts_4 : decode b_PC_areFacts 4 = .ok (.iload_n 1, 1) := by decide +kernel
theorem d_PC_areFacts_5 : decode b_PC_areFacts 5 = .ok (.iconst 1, 1) := by decide +kernel
theorem d_PC_areFacts_6 : decode b_PC_areFacts 6 = .ok (.aload_n 0, 1) := by decide +kernel
theorem d_PC_areFacts_7 : decode b_PC_areFacts 7 = .ok (.getfield 28, 3) := by decide +kernel
theorem d_PC_areFacts_10 : decode b_PC_areFacts 10 = .ok (.getfield 100, 3) := by decide +kernel
theorem d_PC_areFacts_13 : decode b_PC_areFacts 13 = .ok (.ishl, 1) := by decide +kernel
theorem d_PC_areFacts_14 : decode b_PC_areFacts 14 = .ok (.if_icmp .ge 7, 3) := by decide +kernel
theorem d_PC_areFacts_17 : decode b_PC_areFacts 17 = .ok (.iconst 1, 1) := by decide +kernel
theorem d_PC_areFacts_18 : decode b_PC_areFacts 18 = .ok (.goto 4, 3) := by decide +kernel
theorem d_PC_areFacts_21 : decode b_PC_areFacts 21 = .ok (.iconst 0, 1) := by decide +kernel
theorem d_PC_areFacts_22 : decode b_PC_areFacts 22 = .ok (.ireturn, 1) := by decide +kernel
set_option maxHeartbeats 4000000 in
set_option maxRecDepth 100000 in
theorem c_PC_areFacts (l : Launch) (dC : Nat → ClassId) (dI : Nat → Nat → Nat) (cA : ClassId) (ad : Nat → Nat) (x1 : Int32) (ta : tTask) (tw : tWays) (Q : Int32 → Prop) (sz : Nat) (h : w_PC_areFacts x1 ta Q) :
    q_Mi l y_PC_areFacts b_PC_areFacts 2 (some .boolean) 0 0 [.ref (ad 0), .int x1] dC dI cA ([c_PC ad, c_TA ad cA ta tw].flatten) (fun _ : Unit => [c_PC ad, c_TA ad cA ta tw].flatten) sz (fun r _ => Q r) := by
  refine q_meti (plainFor_of_name (by decide +kernel)) (Nat.le_of_ble_eq_true rfl) (fun {p e s m below meth c ls} C0 hl hH => ?_)
  obtain ⟨hx, hb, -⟩ := id C0
  have hA : ∀ q, s.heap.size ≤ q → va_A ([c_PC ad, c_TA ad cA ta tw].flatten) s.heap.size q := q_nA
  have hl : lv_has ls 2 [(0, .ref (ad 0)), (1, .int x1)] := hl
  unfold w_PC_areFacts at h
  refine lv_iload_n hx hb d_PC_areFacts_0 rfl (lv_at hl 1 rfl) ?_
  refine lv_if_lt (tgt := 21) hx hb d_PC_areFacts_1 (by decide) (fun c => ?_) (fun c => ?_)
  · have h := h.1 c
    refine lv_iconst (v := 0) hx hb d_PC_areFacts_21 (by decide) ?_
    exact q_retz C0 hH () rfl (Or.inl rfl) h d_PC_areFacts_22
  · have h := h.2 c
    refine lv_iload_n hx hb d_PC_areFacts_4 rfl (lv_at hl 1 rfl) ?_
    refine lv_iconst (v := 1) hx hb d_PC_areFacts_5 (by decide) ?_
    refine lv_aload_n hx hb d_PC_areFacts_6 rfl (lv_at hl 0 rfl) ?_
    refine q_get (v := .ref (ad 20)) C0 hH 0 rfl hc_0 2 (by decide) k_258 rfl d_PC_areFacts_7 ?_
    refine q_get (v := .int ta.factCount) C0 hH 1 rfl hc_6 0 (by decide) k_189 rfl d_PC_areFacts_10 ?_
    refine lv_ishl hx hb d_PC_areFacts_13 ?_
    refine lv_icmp_ge (tgt := 21) hx hb d_PC_areFacts_14 (by decide) (fun c => ?_) (fun c => ?_)
    · have h := h.1 c
      refine lv_iconst (v := 0) hx hb d_PC_areFacts_21 (by decide) ?_
      exact q_retz C0 hH () rfl (Or.inl rfl) h d_PC_areFacts_22
    · have h := h.2 c
      refine lv_iconst (v := 1) hx hb d_PC_areFacts_17 (by decide) ?_
      refine lv_goto (tgt := 22) hx hb d_PC_areFacts_18 (by decide) ?_
      exact q_retz C0 hH () rfl (Or.inr rfl) h d_PC_areFacts_22
theorem d_Task_addAction_0 : decode b_Task_addAction 0 = .ok (.aload_n 0, 1) := by decide +kernel
theorem d_Task_addAction_1 : decode b_Task_addAction 1 = .ok (.getfield 28, 3) := by decide +kernel
theorem d_Task_addAction_4 : decode b_Task_addAction 4 = .ok (.istore 4, 2) := by decide +kernel
theorem d_Task_addAction_6 : decode b_Task_addAction 6 = .ok (.iload 4, 2) := by decide +kernel
theorem d_Task_addAction_8 : decode b_Task_addAction 8 = .ok (.iconst 5, 1) := by decide +kernel
theorem d_Task_addAction_9 : decode b_Task_addAction 9 = .ok (.if_icmp .ge 46, 3) := by decide +kernel
theorem d_Task_addAction_12 : decode b_Task_addAction 12 = .ok (.aload_n 0, 1) := by decide +kernel
theorem d_Task_addAction_13 : decode b_Task_addAction 13 = .ok (.getfield 9, 3) := by decide +kernel
theorem d_Task_addAction_16 : decode b_Task_addAction 16 = .ok (.iload 4, 2) := by decide +kernel
theorem d_Task_addAction_18 : decode b_Task_addAction 18 = .ok (.iload_n 1, 1) := by decide +kernel
theorem d_Task_addAction_19 : decode b_Task_addAction 19 = .ok (.iastore, 1) := by decide +kernel
theorem d_Task_addAction_20 : decode b_Task_addAction 20 = .ok (.aload_n 0, 1) := by decide +kernel
theorem d_Task_addAction_21 : decode b_Task_addAction 21 = .ok (.getfield 15, 3) := by decide +kernel
theorem d_Task_addAction_24 : decode b_Task_addAction 24 = .ok (.iload 4, 2) := by decide +kernel
theorem d_Task_addAction_26 : decode b_Task_addAction 26 = .ok (.iload_n 2, 1) := by decide +kernel
theorem d_Task_addAction_27 : decode b_Task_addAction 27 = .ok (.iastore, 1) := by decide +kernel
theorem d_Task_addAction_28 : decode b_Task_addAction 28 = .ok (.aload_n 0, 1) := by decide +kernel
theorem d_Task_addAction_29 : decode b_Task_addAction 29 = .ok (.getfield 18, 3) := by decide +kernel
theorem d_Task_addAction_32 : decode b_Task_addAction 32 = .ok (.iload 4, 2) := by decide +kernel
theorem d_Task_addAction_34 : decode b_Task_addAction 34 = .ok (.iload_n 3, 1) := by decide +kernel
theorem d_Task_addAction_35 : decode b_Task_addAction 35 = .ok (.iload_n 2, 1) := by decide +kernel
theorem d_Task_addAction_36 : decode b_Task_addAction 36 = .ok (.iconst (-1), 1) := by decide +kernel
theorem d_Task_addAction_37 : decode b_Task_addAction 37 = .ok (.ixor, 1) := by decide +kernel
theorem d_Task_addAction_38 : decode b_Task_addAction 38 = .ok (.iand, 1) := by decide +kernel
theorem d_Task_addAction_39 : decode b_Task_addAction 39 = .ok (.iastore, 1) := by decide +kernel
theorem d_Task_addAction_40 : decode b_Task_addAction 40 = .ok (.aload_n 0, 1) := by decide +kernel
theorem d_Task_addAction_41 : decode b_Task_addAction 41 = .ok (.dup, 1) := by decide +kernel
theorem d_Task_addAction_42 : decode b_Task_addAction 42 = .ok (.getfield 28, 3) := by decide +kernel
theorem d_Task_addAction_45 : decode b_Task_addAction 45 = .ok (.iconst 1, 1) := by decide +kernel
theorem d_Task_addAction_46 : decode b_Task_addAction 46 = .ok (.iadd, 1) := by decide +kernel
theorem d_Task_addAction_47 : decode b_Task_addAction 47 = .ok (.putfield 28, 3) := by decide +kernel
theorem d_Task_addAction_50 : decode b_Task_addAction 50 = .ok (.aload_n 0, 1) := by decide +kernel
theorem d_Task_addAction_51 : decode b_Task_addAction 51 = .ok (.iconst 0, 1) := by decide +kernel
theorem d_Task_addAction_52 : decode b_Task_addAction 52 = .ok (.putfield 37, 3) := by decide +kernel
theorem d_Task_addAction_55 : decode b_Task_addAction 55 = .ok (.iload 4, 2) := by decide +kernel
theorem d_Task_addAction_57 : decode b_Task_addAction 57 = .ok (.ireturn, 1) := by decide +kernel
set_option maxHeartbeats 4000000 in
set_option maxRecDepth 100000 in
theorem c_Task_addAction (l : Launch) (dC : Nat → ClassId) (dI : Nat → Nat → Nat) (cA : ClassId) (ad : Nat → Nat) (x1 : Int32) (x2 : Int32) (x3 : Int32) (ta : tTask) (tw : tWays) (Q : Int32 → tTask → tWays → Prop) (sz : Nat) (h : w_Task_addAction x1 x2 x3 ta tw Q) :
    q_Mi l y_Task_addAction b_Task_addAction 5 (some .int) 0 0 [.ref (ad 20), .int x1, .int x2, .int x3] dC dI cA ([c_TA ad cA ta tw].flatten) (fun u : tTask × tWays => [c_TA ad cA u.1 u.2].flatten) sz (fun r u => Q r u.1 u.2) := by
  refine q_meti (plainFor_of_name (by decide +kernel)) (Nat.le_of_ble_eq_true rfl) (fun {p e s m below meth c ls} C0 hl hH => ?_)
  obtain ⟨hx, hb, -⟩ := id C0
  have hA : ∀ q, s.heap.size ≤ q → va_A ([c_TA ad cA ta tw].flatten) s.heap.size q := q_nA
  have hl : lv_has ls 5 [(0, .ref (ad 20)), (1, .int x1), (2, .int x2), (3, .int x3)] := hl
  unfold w_Task_addAction at h
  refine lv_aload_n hx hb d_Task_addAction_0 rfl (lv_at hl 0 rfl) ?_
  refine q_get (v := .int ta.actionCount) C0 hH 0 rfl hc_6 1 (by decide) k_190 rfl d_Task_addAction_1 ?_
  refine lv_istore (lv' := [(4, .int ta.actionCount), (0, .ref (ad 20)), (1, .int x1), (2, .int x2), (3, .int x3)]) hx hb d_Task_addAction_4 hl (by decide) rfl (fun ls hl => ?_)
  refine lv_iload hx hb d_Task_addAction_6 (lv_at hl 0 rfl) ?_
  refine lv_iconst (v := 5) hx hb d_Task_addAction_8 (by decide) ?_
  refine lv_icmp_ge (tgt := 55) hx hb d_Task_addAction_9 (by decide) (fun c => ?_) (fun c => ?_)
  · have h := h.1 c
    refine lv_iload hx hb d_Task_addAction_55 (lv_at hl 0 rfl) ?_
    exact q_reti C0 hH (ta, tw) rfl h d_Task_addAction_57
  · have h := h.2 c
    refine lv_aload_n hx hb d_Task_addAction_12 rfl (lv_at hl 1 rfl) ?_
    refine q_get (v := .ref (ad 21)) C0 hH 0 rfl hc_6 4 (by decide) k_199 rfl d_Task_addAction_13 ?_
    refine lv_iload hx hb d_Task_addAction_16 (lv_at hl 0 rfl) ?_
    refine lv_iload_n hx hb d_Task_addAction_18 rfl (lv_at hl 2 rfl) ?_
    obtain ⟨hi, h⟩ := h
    refine q_ast (ws' := [c_TA ad cA (tTask.mk ta.factCount ta.actionCount ta.beginning ta.goal (upd ta.asks ta.actionCount.toNatClampNeg x1) ta.adds ta.takes) tw].flatten) (f := ta.asks) C0 hH 1 rfl hi rfl d_Task_addAction_19 (fun H locs hH => ?_)
    refine lv_aload_n hx hb d_Task_addAction_20 rfl (lv_at hl 1 rfl) ?_
    refine q_get (v := .ref (ad 22)) C0 hH 0 rfl hc_6 5 (by decide) k_201 rfl d_Task_addAction_21 ?_
    refine lv_iload hx hb d_Task_addAction_24 (lv_at hl 0 rfl) ?_
    refine lv_iload_n hx hb d_Task_addAction_26 rfl (lv_at hl 3 rfl) ?_
    obtain ⟨hi, h⟩ := h
    refine q_ast (ws' := [c_TA ad cA (tTask.mk ta.factCount ta.actionCount ta.beginning ta.goal (upd ta.asks ta.actionCount.toNatClampNeg x1) (upd ta.adds ta.actionCount.toNatClampNeg x2) ta.takes) tw].flatten) (f := ta.adds) C0 hH 2 rfl hi rfl d_Task_addAction_27 (fun H locs hH => ?_)
    refine lv_aload_n hx hb d_Task_addAction_28 rfl (lv_at hl 1 rfl) ?_
    refine q_get (v := .ref (ad 23)) C0 hH 0 rfl hc_6 6 (by decide) k_203 rfl d_Task_addAction_29 ?_
    refine lv_iload hx hb d_Task_addAction_32 (lv_at hl 0 rfl) ?_
    refine lv_iload_n hx hb d_Task_addAction_34 rfl (lv_at hl 4 rfl) ?_
    refine lv_iload_n hx hb d_Task_addAction_35 rfl (lv_at hl 3 rfl) ?_
    refine lv_iconst (v := (-1)) hx hb d_Task_addAction_36 (by decide) ?_
    refine lv_ixor hx hb d_Task_addAction_37 ?_
    refine lv_iand hx hb d_Task_addAction_38 ?_
    obtain ⟨hi, h⟩ := h
    refine q_ast (ws' := [c_TA ad cA (tTask.mk ta.factCount ta.actionCount ta.beginning ta.goal (upd ta.asks ta.actionCount.toNatClampNeg x1) (upd ta.adds ta.actionCount.toNatClampNeg x2) (upd ta.takes ta.actionCount.toNatClampNeg (x3 &&& (x2 ^^^ (-1))))) tw].flatten) (f := ta.takes) C0 hH 3 rfl hi rfl d_Task_addAction_39 (fun H locs hH => ?_)
    refine lv_aload_n hx hb d_Task_addAction_40 rfl (lv_at hl 1 rfl) ?_
    refine lv_dup hx hb d_Task_addAction_41 rfl ?_
    refine q_get (v := .int ta.actionCount) C0 hH 0 rfl hc_6 1 (by decide) k_190 rfl d_Task_addAction_42 ?_
    refine lv_iconst (v := 1) hx hb d_Task_addAction_45 (by decide) ?_
    refine lv_iadd hx hb d_Task_addAction_46 ?_
    refine q_puti (ws' := [c_TA ad cA (tTask.mk ta.factCount (ta.actionCount + 1) ta.beginning ta.goal (upd ta.asks ta.actionCount.toNatClampNeg x1) (upd ta.adds ta.actionCount.toNatClampNeg x2) (upd ta.takes ta.actionCount.toNatClampNeg (x3 &&& (x2 ^^^ (-1))))) tw].flatten) C0 hH 0 rfl hc_6 1 (by decide) k_190 rfl rfl (Nat.le_of_ble_eq_true rfl) rfl d_Task_addAction_47 (fun H locs hH => ?_)
    refine lv_aload_n hx hb d_Task_addAction_50 rfl (lv_at hl 1 rfl) ?_
    refine lv_iconst (v := 0) hx hb d_Task_addAction_51 (by decide) ?_
    refine q_putz (ws' := [c_TA ad cA (tTask.mk ta.factCount (ta.actionCount + 1) ta.beginning ta.goal (upd ta.asks ta.actionCount.toNatClampNeg x1) (upd ta.adds ta.actionCount.toNatClampNeg x2) (upd ta.takes ta.actionCount.toNatClampNeg (x3 &&& (x2 ^^^ (-1))))) (tWays.mk tw.ways 0)].flatten) C0 hH 0 rfl hc_6 8 (by decide) k_206 rfl rfl (Or.inl rfl) (Nat.le_of_ble_eq_true rfl) rfl d_Task_addAction_52 (fun H locs hH => ?_)
    refine lv_iload hx hb d_Task_addAction_55 (lv_at hl 0 rfl) ?_
    exact q_reti C0 hH ((tTask.mk ta.factCount (ta.actionCount + 1) ta.beginning ta.goal (upd ta.asks ta.actionCount.toNatClampNeg x1) (upd ta.adds ta.actionCount.toNatClampNeg x2) (upd ta.takes ta.actionCount.toNatClampNeg (x3 &&& (x2 ^^^ (-1))))), (tWays.mk tw.ways 0)) rfl h d_Task_addAction_57
theorem d_PC_action_0 : decode b_PC_action 0 = .ok (.aload_n 0, 1) := by decide +kernel
theorem d_PC_action_1 : decode b_PC_action 1 = .ok (.iload_n 1, 1) := by decide +kernel
theorem d_PC_action_2 : decode b_PC_action 2 = .ok (.invokevirtual 108, 3) := by decide +kernel
theorem d_PC_action_5 : decode b_PC_action 5 = .ok (.ifCond .eq 19, 3) := by decide +kernel
theorem d_PC_action_8 : decode b_PC_action 8 = .ok (.aload_n 0, 1) := by decide +kernel
theorem d_PC_action_9 : decode b_PC_action 9 = .ok (.iload_n 2, 1) := by decide +kernel
theorem d_PC_action_10 : decode b_PC_action 10 = .ok (.invokevirtual 108, 3) := by decide +kernel
theorem d_PC_action_13 : decode b_PC_action 13 = .ok (.ifCond .eq 11, 3) := by decide +kernel
theorem d_PC_action_16 : decode b_PC_action 16 = .ok (.aload_n 0, 1) := by decide +kernel
theorem d_PC_action_17 : decode b_PC_action 17 = .ok (.iload_n 3, 1) := by decide +kernel
theorem d_PC_action_18 : decode b_PC_action 18 = .ok (.invokevirtual 108, 3) := by decide +kernel
theorem d_PC_action_21 : decode b_PC_action 21 = .ok (.ifCond .ne 5, 3) := by decide +kernel
theorem d_PC_action_24 : decode b_PC_action 24 = .ok (.iconst (-1), 1) := by decide +kernel
theorem d_PC_action_25 : decode b_PC_action 25 = .ok (.ireturn, 1) := by decide +kernel
theorem d_PC_action_26 : decode b_PC_action 26 = .ok (.aload_n 0, 1) := by decide +kernel
theorem d_PC_action_27 : decode b_PC_action 27 = .ok (.getfield 28, 3) := by decide +kernel
theorem d_PC_action_30 : decode b_PC_action 30 = .ok (.getfield 111, 3) := by decide +kernel
theorem d_PC_action_33 : decode b_PC_action 33 = .ok (.iconst 5, 1) := by decide +kernel
theorem d_PC_action_34 : decode b_PC_action 34 = .ok (.if_icmp .lt 6, 3) := by decide +kernel
theorem d_PC_action_37 : decode b_PC_action 37 = .ok (.bipush (-3), 2) := by decide +kernel
theorem d_PC_action_39 : decode b_PC_action 39 = .ok (.ireturn, 1) := by decide +kernel
theorem d_PC_action_40 : decode b_PC_action 40 = .ok (.aload_n 0, 1) := by decide +kernel
theorem d_PC_action_41 : decode b_PC_action 41 = .ok (.getfield 37, 3) := by decide +kernel
theorem d_PC_action_44 : decode b_PC_action 44 = .ok (.invokevirtual 107, 3) := by decide +kernel
theorem d_PC_action_47 : decode b_PC_action 47 = .ok (.aload_n 0, 1) := by decide +kernel
theorem d_PC_action_48 : decode b_PC_action 48 = .ok (.getfield 28, 3) := by decide +kernel
theorem d_PC_action_51 : decode b_PC_action 51 = .ok (.iload_n 1, 1) := by decide +kernel
theorem d_PC_action_52 : decode b_PC_action 52 = .ok (.iload_n 2, 1) := by decide +kernel
theorem d_PC_action_53 : decode b_PC_action 53 = .ok (.iload_n 3, 1) := by decide +kernel
theorem d_PC_action_54 : decode b_PC_action 54 = .ok (.invokevirtual 114, 3) := by decide +kernel
theorem d_PC_action_57 : decode b_PC_action 57 = .ok (.ireturn, 1) := by decide +kernel
set_option maxHeartbeats 4000000 in
set_option maxRecDepth 100000 in
theorem c_PC_action (l : Launch) (dC : Nat → ClassId) (dI : Nat → Nat → Nat) (cA : ClassId) (ad : Nat → Nat) (x1 : Int32) (x2 : Int32) (x3 : Int32) (ta : tTask) (tw : tWays) (co : tCode) (ct : tTold) (Q : Int32 → tTask → tWays → tTold → Prop) (sz : Nat) (h : w_PC_action x1 x2 x3 ta tw ct Q) :
    q_Mi l y_PC_action b_PC_action 4 (some .int) 1 24 [.ref (ad 0), .int x1, .int x2, .int x3] dC dI cA ([c_PC ad, c_TA ad cA ta tw, c_CO ad cA co ct].flatten) (fun u : tTask × tWays × tTold => [c_PC ad, c_TA ad cA u.1 u.2.1, c_CO ad cA co u.2.2].flatten) sz (fun r u => Q r u.1 u.2.1 u.2.2) := by
  refine q_meti (plainFor_of_name (by decide +kernel)) (Nat.le_of_ble_eq_true rfl) (fun {p e s m below meth c ls} C0 hl hH => ?_)
  obtain ⟨hx, hb, -⟩ := id C0
  have hA : ∀ q, s.heap.size ≤ q → va_A ([c_PC ad, c_TA ad cA ta tw, c_CO ad cA co ct].flatten) s.heap.size q := q_nA
  have hl : lv_has ls 4 [(0, .ref (ad 0)), (1, .int x1), (2, .int x2), (3, .int x3)] := hl
  unfold w_PC_action at h
  refine lv_aload_n hx hb d_PC_action_0 rfl (lv_at hl 0 rfl) ?_
  refine lv_iload_n hx hb d_PC_action_1 rfl (lv_at hl 1 rfl) ?_
  refine q_calli (rest := []) (ws' := fun _ : Unit => [c_PC ad, c_TA ad cA ta tw, c_CO ad cA co ct].flatten) C0 hH hA (c_PC_areFacts l dC dI cA ad x1 ta tw _ _ h) Y_PC_areFacts k_483 0 rfl hc_0 (q_pg [0, 1] [2] [1, 2, 0] 3 2 rfl (by decide) rfl (fun _ => rfl) rfl (by decide) (fun _ => rfl)) ⟨Nat.le_of_ble_eq_true rfl, Nat.le_of_ble_eq_true rfl⟩ rfl rfl (Nat.le_of_ble_eq_true rfl) hl.1 d_PC_action_2 ⟨Nat.le_refl 0, Nat.le_refl 0⟩ (fun r_1 u_1 H locs h hH => ?_)
  try dsimp only at h
  have hH : q_H dC dI (va_A ([c_PC ad, c_TA ad cA ta tw, c_CO ad cA co ct].flatten) s.heap.size) s.heap H locs ([c_PC ad, c_TA ad cA ta tw, c_CO ad cA co ct].flatten) := hH
  refine lv_if_eq (tgt := 24) hx hb d_PC_action_5 (by decide) (fun c => ?_) (fun c => ?_)
  · have h := h.1 c
    refine lv_iconst (v := (-1)) hx hb d_PC_action_24 (by decide) ?_
    exact q_reti C0 hH (ta, tw, ct) rfl h d_PC_action_25
  · have h := h.2 c
    refine lv_aload_n hx hb d_PC_action_8 rfl (lv_at hl 0 rfl) ?_
    refine lv_iload_n hx hb d_PC_action_9 rfl (lv_at hl 2 rfl) ?_
    refine q_calli (rest := []) (ws' := fun _ : Unit => [c_PC ad, c_TA ad cA ta tw, c_CO ad cA co ct].flatten) C0 hH hA (c_PC_areFacts l dC dI cA ad x2 ta tw _ _ h) Y_PC_areFacts k_483 0 rfl hc_0 (q_pg [0, 1] [2] [1, 2, 0] 3 2 rfl (by decide) rfl (fun _ => rfl) rfl (by decide) (fun _ => rfl)) ⟨Nat.le_of_ble_eq_true rfl, Nat.le_of_ble_eq_true rfl⟩ rfl rfl (Nat.le_of_ble_eq_true rfl) hl.1 d_PC_action_10 ⟨Nat.le_refl 0, Nat.le_refl 0⟩ (fun r_2 u_2 H locs h hH => ?_)
    try dsimp only at h
    have hH : q_H dC dI (va_A ([c_PC ad, c_TA ad cA ta tw, c_CO ad cA co ct].flatten) s.heap.size) s.heap H locs ([c_PC ad, c_TA ad cA ta tw, c_CO ad cA co ct].flatten) := hH
    refine lv_if_eq (tgt := 24) hx hb d_PC_action_13 (by decide) (fun c => ?_) (fun c => ?_)
    · have h := h.1 c
      refine lv_iconst (v := (-1)) hx hb d_PC_action_24 (by decide) ?_
      exact q_reti C0 hH (ta, tw, ct) rfl h d_PC_action_25
    · have h := h.2 c
      refine lv_aload_n hx hb d_PC_action_16 rfl (lv_at hl 0 rfl) ?_
      refine lv_iload_n hx hb d_PC_action_17 rfl (lv_at hl 3 rfl) ?_
      refine q_calli (rest := []) (ws' := fun _ : Unit => [c_PC ad, c_TA ad cA ta tw, c_CO ad cA co ct].flatten) C0 hH hA (c_PC_areFacts l dC dI cA ad x3 ta tw _ _ h) Y_PC_areFacts k_483 0 rfl hc_0 (q_pg [0, 1] [2] [1, 2, 0] 3 2 rfl (by decide) rfl (fun _ => rfl) rfl (by decide) (fun _ => rfl)) ⟨Nat.le_of_ble_eq_true rfl, Nat.le_of_ble_eq_true rfl⟩ rfl rfl (Nat.le_of_ble_eq_true rfl) hl.1 d_PC_action_18 ⟨Nat.le_refl 0, Nat.le_refl 0⟩ (fun r_3 u_3 H locs h hH => ?_)
      try dsimp only at h
      have hH : q_H dC dI (va_A ([c_PC ad, c_TA ad cA ta tw, c_CO ad cA co ct].flatten) s.heap.size) s.heap H locs ([c_PC ad, c_TA ad cA ta tw, c_CO ad cA co ct].flatten) := hH
      refine lv_if_ne (tgt := 26) hx hb d_PC_action_21 (by decide) (fun c => ?_) (fun c => ?_)
      · have h := h.1 c
        refine lv_aload_n hx hb d_PC_action_26 rfl (lv_at hl 0 rfl) ?_
        refine q_get (v := .ref (ad 20)) C0 hH 0 rfl hc_0 2 (by decide) k_258 rfl d_PC_action_27 ?_
        refine q_get (v := .int ta.actionCount) C0 hH 1 rfl hc_6 1 (by decide) k_192 rfl d_PC_action_30 ?_
        refine lv_iconst (v := 5) hx hb d_PC_action_33 (by decide) ?_
        refine lv_icmp_lt (tgt := 40) hx hb d_PC_action_34 (by decide) (fun c => ?_) (fun c => ?_)
        · have h := h.1 c
          refine lv_aload_n hx hb d_PC_action_40 rfl (lv_at hl 0 rfl) ?_
          refine q_get (v := .ref (ad 25)) C0 hH 0 rfl hc_0 3 (by decide) k_259 rfl d_PC_action_41 ?_
          refine q_callv (rest := []) (ws' := fun u : tTold => [c_PC ad, c_TA ad cA ta tw, c_CO ad cA co u].flatten) C0 hH hA (c_Code_forget l dC dI cA ad co ct _ _ h) Y_Code_forget k_475 6 rfl hc_7 (q_pg [2] [0, 1] [0, 1, 2] 3 1 rfl (by decide) rfl (fun _ => rfl) rfl (by decide) (fun _ => rfl)) ⟨Nat.le_of_ble_eq_true rfl, Nat.le_of_ble_eq_true rfl⟩ rfl rfl (Nat.le_of_ble_eq_true rfl) hl.1 d_PC_action_44 ⟨Nat.le_refl 0, Nat.le_refl 0⟩ (fun u_4 H locs h hH => ?_)
          obtain ⟨ct_4, rfl⟩ : ∃ z, z = u_4 := ⟨_, rfl⟩
          try dsimp only at h
          have hH : q_H dC dI (va_A ([c_PC ad, c_TA ad cA ta tw, c_CO ad cA co ct].flatten) s.heap.size) s.heap H locs ([c_PC ad, c_TA ad cA ta tw, c_CO ad cA co ct_4].flatten) := hH
          refine lv_aload_n hx hb d_PC_action_47 rfl (lv_at hl 0 rfl) ?_
          refine q_get (v := .ref (ad 20)) C0 hH 0 rfl hc_0 2 (by decide) k_258 rfl d_PC_action_48 ?_
          refine lv_iload_n hx hb d_PC_action_51 rfl (lv_at hl 1 rfl) ?_
          refine lv_iload_n hx hb d_PC_action_52 rfl (lv_at hl 2 rfl) ?_
          refine lv_iload_n hx hb d_PC_action_53 rfl (lv_at hl 3 rfl) ?_
          refine q_calli (rest := []) (ws' := fun u : tTask × tWays => [c_PC ad, c_TA ad cA u.1 u.2, c_CO ad cA co ct_4].flatten) C0 hH hA (c_Task_addAction l dC dI cA ad x1 x2 x3 ta tw _ _ h) Y_Task_addAction k_487 1 rfl hc_6 (q_pg [1] [0, 2] [0, 2, 1] 3 1 rfl (by decide) rfl (fun _ => rfl) rfl (by decide) (fun _ => rfl)) ⟨Nat.le_of_ble_eq_true rfl, Nat.le_of_ble_eq_true rfl⟩ rfl rfl (Nat.le_of_ble_eq_true rfl) hl.1 d_PC_action_54 ⟨Nat.le_refl 0, Nat.le_refl 0⟩ (fun r_5 u_5 H locs h hH => ?_)
          obtain ⟨ta_5, tw_5⟩ := u_5
          try dsimp only at h
          have hH : q_H dC dI (va_A ([c_PC ad, c_TA ad cA ta tw, c_CO ad cA co ct].flatten) s.heap.size) s.heap H locs ([c_PC ad, c_TA ad cA ta_5 tw_5, c_CO ad cA co ct_4].flatten) := hH
          exact q_reti C0 hH (ta_5, tw_5, ct_4) rfl h d_PC_action_57
        · have h := h.2 c
          refine lv_bipush (v := (-3)) hx hb d_PC_action_37 (by decide) ?_
          exact q_reti C0 hH (ta, tw, ct) rfl h d_PC_action_39
      · have h := h.2 c
        refine lv_iconst (v := (-1)) hx hb d_PC_action_24 (by decide) ?_
        exact q_reti C0 hH (ta, tw, ct) rfl h d_PC_action_25
theorem d_Task_begin_0 : decode b_Task_begin 0 = .ok (.aload_n 0, 1) := by decide +kernel
theorem d_Task_begin_1 : decode b_Task_begin 1 = .ok (.getfield 31, 3) := by decide +kernel
theorem d_Task_begin_4 : decode b_Task_begin 4 = .ok (.istore_n 2, 1) := by decide +kernel
theorem d_Task_begin_5 : decode b_Task_begin 5 = .ok (.aload_n 0, 1) := by decide +kernel
theorem d_Task_begin_6 : decode b_Task_begin 6 = .ok (.iload_n 1, 1) := by decide +kernel
theorem d_Task_begin_7 : decode b_Task_begin 7 = .ok (.putfield 31, 3) := by decide +kernel
theorem d_Task_begin_10 : decode b_Task_begin 10 = .ok (.iload_n 2, 1) := by decide +kernel
theorem d_Task_begin_11 : decode b_Task_begin 11 = .ok (.ireturn, 1) := by decide +kernel
set_option maxHeartbeats 4000000 in
set_option maxRecDepth 100000 in
theorem c_Task_begin (l : Launch) (dC : Nat → ClassId) (dI : Nat → Nat → Nat) (cA : ClassId) (ad : Nat → Nat) (x1 : Int32) (ta : tTask) (tw : tWays) (Q : Int32 → tTask → Prop) (sz : Nat) (h : w_Task_begin x1 ta Q) :
    q_Mi l y_Task_begin b_Task_begin 3 (some .int) 0 0 [.ref (ad 20), .int x1] dC dI cA ([c_TA ad cA ta tw].flatten) (fun u : tTask => [c_TA ad cA u tw].flatten) sz (fun r u => Q r u) := by
  refine q_meti (plainFor_of_name (by decide +kernel)) (Nat.le_of_ble_eq_true rfl) (fun {p e s m below meth c ls} C0 hl hH => ?_)
  obtain ⟨hx, hb, -⟩ := id C0
  have hA : ∀ q, s.heap.size ≤ q → va_A ([c_TA ad cA ta tw].flatten) s.heap.size q := q_nA
  have hl : lv_has ls 3 [(0, .ref (ad 20)), (1, .int x1)] := hl
  unfold w_Task_begin at h
  refine lv_aload_n hx hb d_Task_begin_0 rfl (lv_at hl 0 rfl) ?_
  refine q_get (v := .int ta.beginning) C0 hH 0 rfl hc_6 2 (by decide) k_193 rfl d_Task_begin_1 ?_
  refine lv_istore_n (lv' := [(2, .int ta.beginning), (0, .ref (ad 20)), (1, .int x1)]) hx hb d_Task_begin_4 rfl hl (by decide) rfl (fun ls hl => ?_)
  refine lv_aload_n hx hb d_Task_begin_5 rfl (lv_at hl 1 rfl) ?_
  refine lv_iload_n hx hb d_Task_begin_6 rfl (lv_at hl 2 rfl) ?_
  refine q_puti (ws' := [c_TA ad cA (tTask.mk ta.factCount ta.actionCount x1 ta.goal ta.asks ta.adds ta.takes) tw].flatten) C0 hH 0 rfl hc_6 2 (by decide) k_193 rfl rfl (Nat.le_of_ble_eq_true rfl) rfl d_Task_begin_7 (fun H locs hH => ?_)
  refine lv_iload_n hx hb d_Task_begin_10 rfl (lv_at hl 0 rfl) ?_
  exact q_reti C0 hH (tTask.mk ta.factCount ta.actionCount x1 ta.goal ta.asks ta.adds ta.takes) rfl h d_Task_begin_11
theorem d_Task_aim_0 : decode b_Task_aim 0 = .ok (.aload_n 0, 1) := by decide +kernel
theorem d_Task_aim_1 : decode b_Task_aim 1 = .ok (.getfield 34, 3) := by decide +kernel
theorem d_Task_aim_4 : decode b_Task_aim 4 = .ok (.istore_n 2, 1) := by decide +kernel
theorem d_Task_aim_5 : decode b_Task_aim 5 = .ok (.aload_n 0, 1) := by decide +kernel
theorem d_Task_aim_6 : decode b_Task_aim 6 = .ok (.iload_n 1, 1) := by decide +kernel
theorem d_Task_aim_7 : decode b_Task_aim 7 = .ok (.putfield 34, 3) := by decide +kernel
theorem d_Task_aim_10 : decode b_Task_aim 10 = .ok (.aload_n 0, 1) := by decide +kernel
theorem d_Task_aim_11 : decode b_Task_aim 11 = .ok (.iconst 0, 1) := by decide +kernel
theorem d_Task_aim_12 : decode b_Task_aim 12 = .ok (.putfield 37, 3) := by decide +kernel
theorem d_Task_aim_15 : decode b_Task_aim 15 = .ok (.iload_n 2, 1) := by decide +kernel
theorem d_Task_aim_16 : decode b_Task_aim 16 = .ok (.ireturn, 1) := by decide +kernel
set_option maxHeartbeats 4000000 in
set_option maxRecDepth 100000 in
theorem c_Task_aim (l : Launch) (dC : Nat → ClassId) (dI : Nat → Nat → Nat) (cA : ClassId) (ad : Nat → Nat) (x1 : Int32) (ta : tTask) (tw : tWays) (Q : Int32 → tTask → tWays → Prop) (sz : Nat) (h : w_Task_aim x1 ta tw Q) :
    q_Mi l y_Task_aim b_Task_aim 3 (some .int) 0 0 [.ref (ad 20), .int x1] dC dI cA ([c_TA ad cA ta tw].flatten) (fun u : tTask × tWays => [c_TA ad cA u.1 u.2].flatten) sz (fun r u => Q r u.1 u.2) := by
  refine q_meti (plainFor_of_name (by decide +kernel)) (Nat.le_of_ble_eq_true rfl) (fun {p e s m below meth c ls} C0 hl hH => ?_)
  obtain ⟨hx, hb, -⟩ := id C0
  have hA : ∀ q, s.heap.size ≤ q → va_A ([c_TA ad cA ta tw].flatten) s.heap.size q := q_nA
  have hl : lv_has ls 3 [(0, .ref (ad 20)), (1, .int x1)] := hl
  unfold w_Task_aim at h
  refine lv_aload_n hx hb d_Task_aim_0 rfl (lv_at hl 0 rfl) ?_
  refine q_get (v := .int ta.goal) C0 hH 0 rfl hc_6 3 (by decide) k_196 rfl d_Task_aim_1 ?_
  refine lv_istore_n (lv' := [(2, .int ta.goal), (0, .ref (ad 20)), (1, .int x1)]) hx hb d_Task_aim_4 rfl hl (by decide) rfl (fun ls hl => ?_)
  refine lv_aload_n hx hb d_Task_aim_5 rfl (lv_at hl 1 rfl) ?_
  refine lv_iload_n hx hb d_Task_aim_6 rfl (lv_at hl 2 rfl) ?_
  refine q_puti (ws' := [c_TA ad cA (tTask.mk ta.factCount ta.actionCount ta.beginning x1 ta.asks ta.adds ta.takes) tw].flatten) C0 hH 0 rfl hc_6 3 (by decide) k_196 rfl rfl (Nat.le_of_ble_eq_true rfl) rfl d_Task_aim_7 (fun H locs hH => ?_)
  refine lv_aload_n hx hb d_Task_aim_10 rfl (lv_at hl 1 rfl) ?_
  refine lv_iconst (v := 0) hx hb d_Task_aim_11 (by decide) ?_
  refine q_putz (ws' := [c_TA ad cA (tTask.mk ta.factCount ta.actionCount ta.beginning x1 ta.asks ta.adds ta.takes) (tWays.mk tw.ways 0)].flatten) C0 hH 0 rfl hc_6 8 (by decide) k_206 rfl rfl (Or.inl rfl) (Nat.le_of_ble_eq_true rfl) rfl d_Task_aim_12 (fun H locs hH => ?_)
  refine lv_iload_n hx hb d_Task_aim_15 rfl (lv_at hl 0 rfl) ?_
  exact q_reti C0 hH ((tTask.mk ta.factCount ta.actionCount ta.beginning x1 ta.asks ta.adds ta.takes), (tWays.mk tw.ways 0)) rfl h d_Task_aim_16
theorem d_PC_set_0 : decode b_PC_set 0 = .ok (.iload_n 1, 1) := by decide +kernel
theorem d_PC_set_1 : decode b_PC_set 1 = .ok (.ifCond .lt 16, 3) := by decide +kernel
theorem d_PC_set_4 : decode b_PC_set 4 = .ok (.iload_n 1, 1) := by decide +kernel
theorem d_PC_set_5 : decode b_PC_set 5 = .ok (.iconst 1, 1) := by decide +kernel
theorem d_PC_set_6 : decode b_PC_set 6 = .ok (.if_icmp .gt 11, 3) := by decide +kernel
theorem d_PC_set_9 : decode b_PC_set 9 = .ok (.aload_n 0, 1) := by decide +kernel
theorem d_PC_set_10 : decode b_PC_set 10 = .ok (.iload_n 2, 1) := by decide +kernel
theorem d_PC_set_11 : decode b_PC_set 11 = .ok (.invokevirtual 108, 3) := by decide +kernel
theorem d_PC_set_14 : decode b_PC_set 14 = .ok (.ifCond .ne 5, 3) := by decide +kernel
theorem d_PC_set_17 : decode b_PC_set 17 = .ok (.iconst (-1), 1) := by decide +kernel
theorem d_PC_set_18 : decode b_PC_set 18 = .ok (.ireturn, 1) := by decide +kernel
theorem d_PC_set_19 : decode b_PC_set 19 = .ok (.aload_n 0, 1) := by decide +kernel
theorem d_PC_set_20 : decode b_PC_set 20 = .ok (.getfield 37, 3) := by decide +kernel
theorem d_PC_set_23 : decode b_PC_set 23 = .ok (.invokevirtual 107, 3) := by decide +kernel
theorem d_PC_set_26 : decode b_PC_set 26 = .ok (.iload_n 1, 1) := by decide +kernel
theorem d_PC_set_27 : decode b_PC_set 27 = .ok (.ifCond .ne 14, 3) := by decide +kernel
theorem d_PC_set_30 : decode b_PC_set 30 = .ok (.aload_n 0, 1) := by decide +kernel
theorem d_PC_set_31 : decode b_PC_set 31 = .ok (.getfield 28, 3) := by decide +kernel
theorem d_PC_set_34 : decode b_PC_set 34 = .ok (.iload_n 2, 1) := by decide +kernel
theorem d_PC_set_35 : decode b_PC_set 35 = .ok (.invokevirtual 118, 3) := by decide +kernel
theorem d_PC_set_38 : decode b_PC_set 38 = .ok (.goto 11, 3) := by decide +kernel
theorem d_PC_set_41 : decode b_PC_set 41 = .ok (.aload_n 0, 1) := by decide +kernel
theorem d_PC_set_42 : decode b_PC_set 42 = .ok (.getfield 28, 3) := by decide +kernel
theorem d_PC_set_45 : decode b_PC_set 45 = .ok (.iload_n 2, 1) := by decide +kernel
theorem d_PC_set_46 : decode b_PC_set 46 = .ok (.invokevirtual 121, 3) := by decide +kernel
theorem d_PC_set_49 : decode b_PC_set 49 = .ok (.ireturn, 1) := by decide +kernel
set_option maxHeartbeats 4000000 in
set_option maxRecDepth 100000 in
theorem c_PC_set (l : Launch) (dC : Nat → ClassId) (dI : Nat → Nat → Nat) (cA : ClassId) (ad : Nat → Nat) (x1 : Int32) (x2 : Int32) (ta : tTask) (tw : tWays) (co : tCode) (ct : tTold) (Q : Int32 → tTask → tWays → tTold → Prop) (sz : Nat) (h : w_PC_set x1 x2 ta tw ct Q) :
    q_Mi l y_PC_set b_PC_set 3 (some .int) 1 22 [.ref (ad 0), .int x1, .int x2] dC dI cA ([c_PC ad, c_TA ad cA ta tw, c_CO ad cA co ct].flatten) (fun u : tTask × tWays × tTold => [c_PC ad, c_TA ad cA u.1 u.2.1, c_CO ad cA co u.2.2].flatten) sz (fun r u => Q r u.1 u.2.1 u.2.2) := by
  refine q_meti (plainFor_of_name (by decide +kernel)) (Nat.le_of_ble_eq_true rfl) (fun {p e s m below meth c ls} C0 hl hH => ?_)
  obtain ⟨hx, hb, -⟩ := id C0
  have hA : ∀ q, s.heap.size ≤ q → va_A ([c_PC ad, c_TA ad cA ta tw, c_CO ad cA co ct].flatten) s.heap.size q := q_nA
  have hl : lv_has ls 3 [(0, .ref (ad 0)), (1, .int x1), (2, .int x2)] := hl
  unfold w_PC_set at h
  refine lv_iload_n hx hb d_PC_set_0 rfl (lv_at hl 1 rfl) ?_
  refine lv_if_lt (tgt := 17) hx hb d_PC_set_1 (by decide) (fun c => ?_) (fun c => ?_)
  · have h := h.1 c
    refine lv_iconst (v := (-1)) hx hb d_PC_set_17 (by decide) ?_
    exact q_reti C0 hH (ta, tw, ct) rfl h d_PC_set_18
  · have h := h.2 c
    refine lv_iload_n hx hb d_PC_set_4 rfl (lv_at hl 1 rfl) ?_
    refine lv_iconst (v := 1) hx hb d_PC_set_5 (by decide) ?_
    refine lv_icmp_gt (tgt := 17) hx hb d_PC_set_6 (by decide) (fun c => ?_) (fun c => ?_)
    · have h := h.1 c
      refine lv_iconst (v := (-1)) hx hb d_PC_set_17 (by decide) ?_
      exact q_reti C0 hH (ta, tw, ct) rfl h d_PC_set_18
    · have h := h.2 c
      refine lv_aload_n hx hb d_PC_set_9 rfl (lv_at hl 0 rfl) ?_
      refine lv_iload_n hx hb d_PC_set_10 rfl (lv_at hl 2 rfl) ?_
      refine q_calli (rest := []) (ws' := fun _ : Unit => [c_PC ad, c_TA ad cA ta tw, c_CO ad cA co ct].flatten) C0 hH hA (c_PC_areFacts l dC dI cA ad x2 ta tw _ _ h) Y_PC_areFacts k_483 0 rfl hc_0 (q_pg [0, 1] [2] [1, 2, 0] 3 2 rfl (by decide) rfl (fun _ => rfl) rfl (by decide) (fun _ => rfl)) ⟨Nat.le_of_ble_eq_true rfl, Nat.le_of_ble_eq_true rfl⟩ rfl rfl (Nat.le_of_ble_eq_true rfl) hl.1 d_PC_set_11 ⟨Nat.le_refl 0, Nat.le_refl 0⟩ (fun r_1 u_1 H locs h hH => ?_)
      try dsimp only at h
      have hH : q_H dC dI (va_A ([c_PC ad, c_TA ad cA ta tw, c_CO ad cA co ct].flatten) s.heap.size) s.heap H locs ([c_PC ad, c_TA ad cA ta tw, c_CO ad cA co ct].flatten) := hH
      refine lv_if_ne (tgt := 19) hx hb d_PC_set_14 (by decide) (fun c => ?_) (fun c => ?_)
      · have h := h.1 c
        refine lv_aload_n hx hb d_PC_set_19 rfl (lv_at hl 0 rfl) ?_
        refine q_get (v := .ref (ad 25)) C0 hH 0 rfl hc_0 3 (by decide) k_259 rfl d_PC_set_20 ?_
        refine q_callv (rest := []) (ws' := fun u : tTold => [c_PC ad, c_TA ad cA ta tw, c_CO ad cA co u].flatten) C0 hH hA (c_Code_forget l dC dI cA ad co ct _ _ h) Y_Code_forget k_475 6 rfl hc_7 (q_pg [2] [0, 1] [0, 1, 2] 3 1 rfl (by decide) rfl (fun _ => rfl) rfl (by decide) (fun _ => rfl)) ⟨Nat.le_of_ble_eq_true rfl, Nat.le_of_ble_eq_true rfl⟩ rfl rfl (Nat.le_of_ble_eq_true rfl) hl.1 d_PC_set_23 ⟨Nat.le_refl 0, Nat.le_refl 0⟩ (fun u_2 H locs h hH => ?_)
        obtain ⟨ct_2, rfl⟩ : ∃ z, z = u_2 := ⟨_, rfl⟩
        try dsimp only at h
        have hH : q_H dC dI (va_A ([c_PC ad, c_TA ad cA ta tw, c_CO ad cA co ct].flatten) s.heap.size) s.heap H locs ([c_PC ad, c_TA ad cA ta tw, c_CO ad cA co ct_2].flatten) := hH
        refine lv_iload_n hx hb d_PC_set_26 rfl (lv_at hl 1 rfl) ?_
        refine lv_if_ne (tgt := 41) hx hb d_PC_set_27 (by decide) (fun c => ?_) (fun c => ?_)
        · have h := h.1 c
          refine lv_aload_n hx hb d_PC_set_41 rfl (lv_at hl 0 rfl) ?_
          refine q_get (v := .ref (ad 20)) C0 hH 0 rfl hc_0 2 (by decide) k_258 rfl d_PC_set_42 ?_
          refine lv_iload_n hx hb d_PC_set_45 rfl (lv_at hl 2 rfl) ?_
          refine q_calli (rest := []) (ws' := fun u : tTask × tWays => [c_PC ad, c_TA ad cA u.1 u.2, c_CO ad cA co ct_2].flatten) C0 hH hA (c_Task_aim l dC dI cA ad x2 ta tw _ _ h) Y_Task_aim k_499 1 rfl hc_6 (q_pg [1] [0, 2] [0, 2, 1] 3 1 rfl (by decide) rfl (fun _ => rfl) rfl (by decide) (fun _ => rfl)) ⟨Nat.le_of_ble_eq_true rfl, Nat.le_of_ble_eq_true rfl⟩ rfl rfl (Nat.le_of_ble_eq_true rfl) hl.1 d_PC_set_46 ⟨Nat.le_refl 0, Nat.le_refl 0⟩ (fun r_3 u_3 H locs h hH => ?_)
          obtain ⟨ta_3, tw_3⟩ := u_3
          try dsimp only at h
          have hH : q_H dC dI (va_A ([c_PC ad, c_TA ad cA ta tw, c_CO ad cA co ct].flatten) s.heap.size) s.heap H locs ([c_PC ad, c_TA ad cA ta_3 tw_3, c_CO ad cA co ct_2].flatten) := hH
          exact q_reti C0 hH (ta_3, tw_3, ct_2) rfl h d_PC_set_49
        · have h := h.2 c
          refine lv_aload_n hx hb d_PC_set_30 rfl (lv_at hl 0 rfl) ?_
          refine q_get (v := .ref (ad 20)) C0 hH 0 rfl hc_0 2 (by decide) k_258 rfl d_PC_set_31 ?_
          refine lv_iload_n hx hb d_PC_set_34 rfl (lv_at hl 2 rfl) ?_
          refine q_calli (rest := []) (ws' := fun u : tTask => [c_PC ad, c_TA ad cA u tw, c_CO ad cA co ct_2].flatten) C0 hH hA (c_Task_begin l dC dI cA ad x2 ta tw _ _ h) Y_Task_begin k_495 1 rfl hc_6 (q_pg [1] [0, 2] [0, 2, 1] 3 1 rfl (by decide) rfl (fun _ => rfl) rfl (by decide) (fun _ => rfl)) ⟨Nat.le_of_ble_eq_true rfl, Nat.le_of_ble_eq_true rfl⟩ rfl rfl (Nat.le_of_ble_eq_true rfl) hl.1 d_PC_set_35 ⟨Nat.le_refl 0, Nat.le_refl 0⟩ (fun r_4 u_4 H locs h hH => ?_)
          obtain ⟨ta_4, rfl⟩ : ∃ z, z = u_4 := ⟨_, rfl⟩
          try dsimp only at h
          have hH : q_H dC dI (va_A ([c_PC ad, c_TA ad cA ta tw, c_CO ad cA co ct].flatten) s.heap.size) s.heap H locs ([c_PC ad, c_TA ad cA ta_4 tw, c_CO ad cA co ct_2].flatten) := hH
          refine lv_goto (tgt := 49) hx hb d_PC_set_38 (by decide) ?_
          exact q_reti C0 hH (ta_4, tw, ct_2) rfl h d_PC_set_49
      · have h := h.2 c
        refine lv_iconst (v := (-1)) hx hb d_PC_set_17 (by decide) ?_
        exact q_reti C0 hH (ta, tw, ct) rfl h d_PC_set_18
theorem d_PC_isLength_0 : decode b_PC_isLength 0 = .ok (.iload_n 0, 1) := by decide +kernel
theorem d_PC_isLength_1 : decode b_PC_isLength 1 = .ok (.ifCond .lt 12, 3) := by decide +kernel
theorem d_PC_isLength_4 : decode b_PC_isLength 4 = .ok (.iload_n 0, 1) := by decide +kernel
theorem d_PC_isLength_5 : decode b_PC_isLength 5 = .ok (.iconst 5, 1) := by decide +kernel
theorem d_PC_isLength_6 : decode b_PC_isLength 6 = .ok (.if_icmp .gt 7, 3) := by decide +kernel
theorem d_PC_isLength_9 : decode b_PC_isLength 9 = .ok (.iconst 1, 1) := by decide +kernel
theorem d_PC_isLength_10 : decode b_PC_isLength 10 = .ok (.goto 4, 3) := by decide +kernel
theorem d_PC_isLength_13 : decode b_PC_isLength 13 = .ok (.iconst 0, 1) := by decide +kernel
theorem d_PC_isLength_14 : decode b_PC_isLength 14 = .ok (.ireturn, 1) := by decide +kernel
set_option maxHeartbeats 4000000 in
set_option maxRecDepth 100000 in
theorem c_PC_isLength (l : Launch) (dC : Nat → ClassId) (dI : Nat → Nat → Nat) (cA : ClassId) (ad : Nat → Nat) (x0 : Int32) (Q : Int32 → Prop) (sz : Nat) (h : w_PC_isLength x0 Q) :
    q_Mi l y_PC_isLength b_PC_isLength 1 (some .boolean) 0 0 [.int x0] dC dI cA ([]) (fun _ : Unit => []) sz (fun r _ => Q r) := by
  refine q_meti (plainFor_of_name (by decide +kernel)) (Nat.le_of_ble_eq_true rfl) (fun {p e s m below meth c ls} C0 hl hH => ?_)
  obtain ⟨hx, hb, -⟩ := id C0
  have hA : ∀ q, s.heap.size ≤ q → va_A ([]) s.heap.size q := q_nA
  have hl : lv_has ls 1 [(0, .int x0)] := hl
  unfold w_PC_isLength at h
  refine lv_iload_n hx hb d_PC_isLength_0 rfl (lv_at hl 0 rfl) ?_
  refine lv_if_lt (tgt := 13) hx hb d_PC_isLength_1 (by decide) (fun c => ?_) (fun c => ?_)
  · have h := h.1 c
    refine lv_iconst (v := 0) hx hb d_PC_isLength_13 (by decide) ?_
    exact q_retz C0 hH () rfl (Or.inl rfl) h d_PC_isLength_14
  · have h := h.2 c
    refine lv_iload_n hx hb d_PC_isLength_4 rfl (lv_at hl 0 rfl) ?_
    refine lv_iconst (v := 5) hx hb d_PC_isLength_5 (by decide) ?_
    refine lv_icmp_gt (tgt := 13) hx hb d_PC_isLength_6 (by decide) (fun c => ?_) (fun c => ?_)
    · have h := h.1 c
      refine lv_iconst (v := 0) hx hb d_PC_isLength_13 (by decide) ?_
      exact q_retz C0 hH () rfl (Or.inl rfl) h d_PC_isLength_14
    · have h := h.2 c
      refine lv_iconst (v := 1) hx hb d_PC_isLength_9 (by decide) ?_
      refine lv_goto (tgt := 14) hx hb d_PC_isLength_10 (by decide) ?_
      exact q_retz C0 hH () rfl (Or.inr rfl) h d_PC_isLength_14
theorem d_Task_waysCounted_0 : decode b_Task_waysCounted 0 = .ok (.iload_n 1, 1) := by decide +kernel
theorem d_Task_waysCounted_1 : decode b_Task_waysCounted 1 = .ok (.ifCond .lt 18, 3) := by decide +kernel
theorem d_Task_waysCounted_4 : decode b_Task_waysCounted 4 = .ok (.iload_n 1, 1) := by decide +kernel
theorem d_Task_waysCounted_5 : decode b_Task_waysCounted 5 = .ok (.iconst 5, 1) := by decide +kernel
theorem d_Task_waysCounted_6 : decode b_Task_waysCounted 6 = .ok (.if_icmp .gt 13, 3) := by decide +kernel
theorem d_Task_waysCounted_9 : decode b_Task_waysCounted 9 = .ok (.iload_n 2, 1) := by decide +kernel
theorem d_Task_waysCounted_10 : decode b_Task_waysCounted 10 = .ok (.ifCond .lt 9, 3) := by decide +kernel
theorem d_Task_waysCounted_13 : decode b_Task_waysCounted 13 = .ok (.iload_n 2, 1) := by decide +kernel
theorem d_Task_waysCounted_14 : decode b_Task_waysCounted 14 = .ok (.bipush 64, 2) := by decide +kernel
theorem d_Task_waysCounted_16 : decode b_Task_waysCounted 16 = .ok (.if_icmp .lt 5, 3) := by decide +kernel
theorem d_Task_waysCounted_19 : decode b_Task_waysCounted 19 = .ok (.iconst 0, 1) := by decide +kernel
theorem d_Task_waysCounted_20 : decode b_Task_waysCounted 20 = .ok (.ireturn, 1) := by decide +kernel
theorem d_Task_waysCounted_21 : decode b_Task_waysCounted 21 = .ok (.aload_n 0, 1) := by decide +kernel
theorem d_Task_waysCounted_22 : decode b_Task_waysCounted 22 = .ok (.getfield 21, 3) := by decide +kernel
theorem d_Task_waysCounted_25 : decode b_Task_waysCounted 25 = .ok (.iload_n 1, 1) := by decide +kernel
theorem d_Task_waysCounted_26 : decode b_Task_waysCounted 26 = .ok (.bipush 64, 2) := by decide +kernel
theorem d_Task_waysCounted_28 : decode b_Task_waysCounted 28 = .ok (.imul, 1) := by decide +kernel
theorem d_Task_waysCounted_29 : decode b_Task_waysCounted 29 = .ok (.iload_n 2, 1) := by decide +kernel
theorem d_Task_waysCounted_30 : decode b_Task_waysCounted 30 = .ok (.iadd, 1) := by decide +kernel
theorem d_Task_waysCounted_31 : decode b_Task_waysCounted 31 = .ok (.iaload, 1) := by decide +kernel
theorem d_Task_waysCounted_32 : decode b_Task_waysCounted 32 = .ok (.ireturn, 1) := by decide +kernel
set_option maxHeartbeats 4000000 in
set_option maxRecDepth 100000 in
theorem c_Task_waysCounted (l : Launch) (dC : Nat → ClassId) (dI : Nat → Nat → Nat) (cA : ClassId) (ad : Nat → Nat) (x1 : Int32) (x2 : Int32) (ta : tTask) (tw : tWays) (Q : Int32 → Prop) (sz : Nat) (h : w_Task_waysCounted x1 x2 tw Q) :
    q_Mi l y_Task_waysCounted b_Task_waysCounted 3 (some .int) 0 0 [.ref (ad 20), .int x1, .int x2] dC dI cA ([c_TA ad cA ta tw].flatten) (fun _ : Unit => [c_TA ad cA ta tw].flatten) sz (fun r _ => Q r) := by
  refine q_meti (plainFor_of_name (by decide +kernel)) (Nat.le_of_ble_eq_true rfl) (fun {p e s m below meth c ls} C0 hl hH => ?_)
  obtain ⟨hx, hb, -⟩ := id C0
  have hA : ∀ q, s.heap.size ≤ q → va_A ([c_TA ad cA ta tw].flatten) s.heap.size q := q_nA
  have hl : lv_has ls 3 [(0, .ref (ad 20)), (1, .int x1), (2, .int x2)] := hl
  unfold w_Task_waysCounted at h
  refine lv_iload_n hx hb d_Task_waysCounted_0 rfl (lv_at hl 1 rfl) ?_
  refine lv_if_lt (tgt := 19) hx hb d_Task_waysCounted_1 (by decide) (fun c => ?_) (fun c => ?_)
  · have h := h.1 c
    refine lv_iconst (v := 0) hx hb d_Task_waysCounted_19 (by decide) ?_
    exact q_reti C0 hH () rfl h d_Task_waysCounted_20
  · have h := h.2 c
    refine lv_iload_n hx hb d_Task_waysCounted_4 rfl (lv_at hl 1 rfl) ?_
    refine lv_iconst (v := 5) hx hb d_Task_waysCounted_5 (by decide) ?_
    refine lv_icmp_gt (tgt := 19) hx hb d_Task_waysCounted_6 (by decide) (fun c => ?_) (fun c => ?_)
    · have h := h.1 c
      refine lv_iconst (v := 0) hx hb d_Task_waysCounted_19 (by decide) ?_
      exact q_reti C0 hH () rfl h d_Task_waysCounted_20
    · have h := h.2 c
      refine lv_iload_n hx hb d_Task_waysCounted_9 rfl (lv_at hl 2 rfl) ?_
      refine lv_if_lt (tgt := 19) hx hb d_Task_waysCounted_10 (by decide) (fun c => ?_) (fun c => ?_)
      · have h := h.1 c
        refine lv_iconst (v := 0) hx hb d_Task_waysCounted_19 (by decide) ?_
        exact q_reti C0 hH () rfl h d_Task_waysCounted_20
      · have h := h.2 c
        refine lv_iload_n hx hb d_Task_waysCounted_13 rfl (lv_at hl 2 rfl) ?_
        refine lv_bipush (v := 64) hx hb d_Task_waysCounted_14 (by decide) ?_
        refine lv_icmp_lt (tgt := 21) hx hb d_Task_waysCounted_16 (by decide) (fun c => ?_) (fun c => ?_)
        · have h := h.1 c
          refine lv_aload_n hx hb d_Task_waysCounted_21 rfl (lv_at hl 0 rfl) ?_
          refine q_get (v := .ref (ad 24)) C0 hH 0 rfl hc_6 7 (by decide) k_205 rfl d_Task_waysCounted_22 ?_
          refine lv_iload_n hx hb d_Task_waysCounted_25 rfl (lv_at hl 1 rfl) ?_
          refine lv_bipush (v := 64) hx hb d_Task_waysCounted_26 (by decide) ?_
          refine lv_imul hx hb d_Task_waysCounted_28 ?_
          refine lv_iload_n hx hb d_Task_waysCounted_29 rfl (lv_at hl 2 rfl) ?_
          refine lv_iadd hx hb d_Task_waysCounted_30 ?_
          obtain ⟨hi, h⟩ := h
          refine q_ald (f := tw.ways) C0 hH 4 rfl hi d_Task_waysCounted_31 ?_
          exact q_reti C0 hH () rfl h d_Task_waysCounted_32
        · have h := h.2 c
          refine lv_iconst (v := 0) hx hb d_Task_waysCounted_19 (by decide) ?_
          exact q_reti C0 hH () rfl h d_Task_waysCounted_20
theorem d_Task_after_0 : decode b_Task_after 0 = .ok (.iload_n 1, 1) := by decide +kernel
theorem d_Task_after_1 : decode b_Task_after 1 = .ok (.ifCond .lt 24, 3) := by decide +kernel
theorem d_Task_after_4 : decode b_Task_after 4 = .ok (.iload_n 1, 1) := by decide +kernel
theorem d_Task_after_5 : decode b_Task_after 5 = .ok (.aload_n 0, 1) := by decide +kernel
theorem d_Task_after_6 : decode b_Task_after 6 = .ok (.getfield 28, 3) := by decide +kernel
theorem d_Task_after_9 : decode b_Task_after 9 = .ok (.if_icmp .ge 16, 3) := by decide +kernel
theorem d_Task_after_12 : decode b_Task_after 12 = .ok (.aload_n 0, 1) := by decide +kernel
theorem d_Task_after_13 : decode b_Task_after 13 = .ok (.getfield 9, 3) := by decide +kernel
theorem d_Task_after_16 : decode b_Task_after 16 = .ok (.iload_n 1, 1) := by decide +kernel
theorem d_Task_after_17 : decode b_Task_after 17 = .ok (.iaload, 1) := by decide +kernel
theorem d_Task_after_18 : decode b_Task_after 18 = .ok (.iload_n 2, 1) := by decide +kernel
theorem d_Task_after_19 : decode b_Task_after 19 = .ok (.iconst (-1), 1) := by decide +kernel
theorem d_Task_after_20 : decode b_Task_after 20 = .ok (.ixor, 1) := by decide +kernel
theorem d_Task_after_21 : decode b_Task_after 21 = .ok (.iand, 1) := by decide +kernel
theorem d_Task_after_22 : decode b_Task_after 22 = .ok (.ifCond .eq 5, 3) := by decide +kernel
theorem d_Task_after_25 : decode b_Task_after 25 = .ok (.iconst (-1), 1) := by decide +kernel
theorem d_Task_after_26 : decode b_Task_after 26 = .ok (.ireturn, 1) := by decide +kernel
theorem d_Task_after_27 : decode b_Task_after 27 = .ok (.iload_n 2, 1) := by decide +kernel
theorem d_Task_after_28 : decode b_Task_after 28 = .ok (.aload_n 0, 1) := by decide +kernel
theorem d_Task_after_29 : decode b_Task_after 29 = .ok (.getfield 15, 3) := by decide +kernel
theorem d_Task_after_32 : decode b_Task_after 32 = .ok (.iload_n 1, 1) := by decide +kernel
theorem d_Task_after_33 : decode b_Task_after 33 = .ok (.iaload, 1) := by decide +kernel
theorem d_Task_after_34 : decode b_Task_after 34 = .ok (.ior, 1) := by decide +kernel
theorem d_Task_after_35 : decode b_Task_after 35 = .ok (.aload_n 0, 1) := by decide +kernel
theorem d_Task_after_36 : decode b_Task_after 36 = .ok (.getfield 18, 3) := by decide +kernel
theorem d_Task_after_39 : decode b_Task_after 39 = .ok (.iload_n 1, 1) := by decide +kernel
theorem d_Task_after_40 : decode b_Task_after 40 = .ok (.iaload, 1) := by decide +kernel
theorem d_Task_after_41 : decode b_Task_after 41 = .ok (.iconst (-1), 1) := by decide +kernel
theorem d_Task_after_42 : decode b_Task_after 42 = .ok (.ixor, 1) := by decide +kernel
theorem d_Task_after_43 : decode b_Task_after 43 = .ok (.iand, 1) := by decide +kernel
theorem d_Task_after_44 : decode b_Task_after 44 = .ok (.ireturn, 1) := by decide +kernel
set_option maxHeartbeats 4000000 in
set_option maxRecDepth 100000 in
theorem c_Task_after (l : Launch) (dC : Nat → ClassId) (dI : Nat → Nat → Nat) (cA : ClassId) (ad : Nat → Nat) (x1 : Int32) (x2 : Int32) (ta : tTask) (tw : tWays) (Q : Int32 → Prop) (sz : Nat) (h : w_Task_after x1 x2 ta Q) :
    q_Mi l y_Task_after b_Task_after 3 (some .int) 0 0 [.ref (ad 20), .int x1, .int x2] dC dI cA ([c_TA ad cA ta tw].flatten) (fun _ : Unit => [c_TA ad cA ta tw].flatten) sz (fun r _ => Q r) := by
  refine q_meti (plainFor_of_name (by decide +kernel)) (Nat.le_of_ble_eq_true rfl) (fun {p e s m below meth c ls} C0 hl hH => ?_)
  obtain ⟨hx, hb, -⟩ := id C0
  have hA : ∀ q, s.heap.size ≤ q → va_A ([c_TA ad cA ta tw].flatten) s.heap.size q := q_nA
  have hl : lv_has ls 3 [(0, .ref (ad 20)), (1, .int x1), (2, .int x2)] := hl
  unfold w_Task_after at h
  refine lv_iload_n hx hb d_Task_after_0 rfl (lv_at hl 1 rfl) ?_
  refine lv_if_lt (tgt := 25) hx hb d_Task_after_1 (by decide) (fun c => ?_) (fun c => ?_)
  · have h := h.1 c
    refine lv_iconst (v := (-1)) hx hb d_Task_after_25 (by decide) ?_
    exact q_reti C0 hH () rfl h d_Task_after_26
  · have h := h.2 c
    refine lv_iload_n hx hb d_Task_after_4 rfl (lv_at hl 1 rfl) ?_
    refine lv_aload_n hx hb d_Task_after_5 rfl (lv_at hl 0 rfl) ?_
    refine q_get (v := .int ta.actionCount) C0 hH 0 rfl hc_6 1 (by decide) k_190 rfl d_Task_after_6 ?_
    refine lv_icmp_ge (tgt := 25) hx hb d_Task_after_9 (by decide) (fun c => ?_) (fun c => ?_)
    · have h := h.1 c
      refine lv_iconst (v := (-1)) hx hb d_Task_after_25 (by decide) ?_
      exact q_reti C0 hH () rfl h d_Task_after_26
    · have h := h.2 c
      refine lv_aload_n hx hb d_Task_after_12 rfl (lv_at hl 0 rfl) ?_
      refine q_get (v := .ref (ad 21)) C0 hH 0 rfl hc_6 4 (by decide) k_199 rfl d_Task_after_13 ?_
      refine lv_iload_n hx hb d_Task_after_16 rfl (lv_at hl 1 rfl) ?_
      obtain ⟨hi, h⟩ := h
      refine q_ald (f := ta.asks) C0 hH 1 rfl hi d_Task_after_17 ?_
      refine lv_iload_n hx hb d_Task_after_18 rfl (lv_at hl 2 rfl) ?_
      refine lv_iconst (v := (-1)) hx hb d_Task_after_19 (by decide) ?_
      refine lv_ixor hx hb d_Task_after_20 ?_
      refine lv_iand hx hb d_Task_after_21 ?_
      refine lv_if_eq (tgt := 27) hx hb d_Task_after_22 (by decide) (fun c => ?_) (fun c => ?_)
      · have h := h.1 c
        refine lv_iload_n hx hb d_Task_after_27 rfl (lv_at hl 2 rfl) ?_
        refine lv_aload_n hx hb d_Task_after_28 rfl (lv_at hl 0 rfl) ?_
        refine q_get (v := .ref (ad 22)) C0 hH 0 rfl hc_6 5 (by decide) k_201 rfl d_Task_after_29 ?_
        refine lv_iload_n hx hb d_Task_after_32 rfl (lv_at hl 1 rfl) ?_
        obtain ⟨hi, h⟩ := h
        refine q_ald (f := ta.adds) C0 hH 2 rfl hi d_Task_after_33 ?_
        refine lv_ior hx hb d_Task_after_34 ?_
        refine lv_aload_n hx hb d_Task_after_35 rfl (lv_at hl 0 rfl) ?_
        refine q_get (v := .ref (ad 23)) C0 hH 0 rfl hc_6 6 (by decide) k_203 rfl d_Task_after_36 ?_
        refine lv_iload_n hx hb d_Task_after_39 rfl (lv_at hl 1 rfl) ?_
        obtain ⟨hi, h⟩ := h
        refine q_ald (f := ta.takes) C0 hH 3 rfl hi d_Task_after_40 ?_
        refine lv_iconst (v := (-1)) hx hb d_Task_after_41 (by decide) ?_
        refine lv_ixor hx hb d_Task_after_42 ?_
        refine lv_iand hx hb d_Task_after_43 ?_
        exact q_reti C0 hH () rfl h d_Task_after_44
      · have h := h.2 c
        refine lv_iconst (v := (-1)) hx hb d_Task_after_25 (by decide) ?_
        exact q_reti C0 hH () rfl h d_Task_after_26
theorem d_Task_countWays_0 : decode b_Task_countWays 0 = .ok (.iconst 1, 1) := by decide +kernel
theorem d_Task_countWays_1 : decode b_Task_countWays 1 = .ok (.aload_n 0, 1) := by decide +kernel
theorem d_Task_countWays_2 : decode b_Task_countWays 2 = .ok (.getfield 24, 3) := by decide +kernel
theorem d_Task_countWays_5 : decode b_Task_countWays 5 = .ok (.ishl, 1) := by decide +kernel
theorem d_Task_countWays_6 : decode b_Task_countWays 6 = .ok (.istore_n 1, 1) := by decide +kernel
theorem d_Task_countWays_7 : decode b_Task_countWays 7 = .ok (.iconst 0, 1) := by decide +kernel
theorem d_Task_countWays_8 : decode b_Task_countWays 8 = .ok (.istore_n 2, 1) := by decide +kernel
theorem d_Task_countWays_9 : decode b_Task_countWays 9 = .ok (.iload_n 2, 1) := by decide +kernel
theorem d_Task_countWays_10 : decode b_Task_countWays 10 = .ok (.iload_n 1, 1) := by decide +kernel
theorem d_Task_countWays_11 : decode b_Task_countWays 11 = .ok (.if_icmp .ge 37, 3) := by decide +kernel
theorem d_Task_countWays_14 : decode b_Task_countWays 14 = .ok (.iload_n 2, 1) := by decide +kernel
theorem d_Task_countWays_15 : decode b_Task_countWays 15 = .ok (.bipush 64, 2) := by decide +kernel
theorem d_Task_countWays_17 : decode b_Task_countWays 17 = .ok (.if_icmp .ge 31, 3) := by decide +kernel
theorem d_Task_countWays_20 : decode b_Task_countWays 20 = .ok (.aload_n 0, 1) := by decide +kernel
theorem d_Task_countWays_21 : decode b_Task_countWays 21 = .ok (.getfield 21, 3) := by decide +kernel
theorem d_Task_countWays_24 : decode b_Task_countWays 24 = .ok (.iload_n 2, 1) := by decide +kernel
theorem d_Task_countWays_25 : decode b_Task_countWays 25 = .ok (.aload_n 0, 1) := by decide +kernel
theorem d_Task_countWays_26 : decode b_Task_countWays 26 = .ok (.getfield 34, 3) := by decide +kernel
theorem d_Task_countWays_29 : decode b_Task_countWays 29 = .ok (.iload_n 2, 1) := by decide +kernel
theorem d_Task_countWays_30 : decode b_Task_countWays 30 = .ok (.iconst (-1), 1) := by decide +kernel
theorem d_Task_countWays_31 : decode b_Task_countWays 31 = .ok (.ixor, 1) := by decide +kernel
theorem d_Task_countWays_32 : decode b_Task_countWays 32 = .ok (.iand, 1) := by decide +kernel
theorem d_Task_countWays_33 : decode b_Task_countWays 33 = .ok (.ifCond .ne 7, 3) := by decide +kernel
theorem d_Task_countWays_36 : decode b_Task_countWays 36 = .ok (.iconst 1, 1) := by decide +kernel
theorem d_Task_countWays_37 : decode b_Task_countWays 37 = .ok (.goto 4, 3) := by decide +kernel
theorem d_Task_countWays_40 : decode b_Task_countWays 40 = .ok (.iconst 0, 1) := by decide +kernel
theorem d_Task_countWays_41 : decode b_Task_countWays 41 = .ok (.iastore, 1) := by decide +kernel
theorem d_Task_countWays_42 : decode b_Task_countWays 42 = .ok (.iinc 2 1, 3) := by decide +kernel
theorem d_Task_countWays_45 : decode b_Task_countWays 45 = .ok (.goto (-36), 3) := by decide +kernel
theorem d_Task_countWays_48 : decode b_Task_countWays 48 = .ok (.iconst 1, 1) := by decide +kernel
theorem d_Task_countWays_49 : decode b_Task_countWays 49 = .ok (.istore_n 2, 1) := by decide +kernel
theorem d_Task_countWays_50 : decode b_Task_countWays 50 = .ok (.iload_n 2, 1) := by decide +kernel
theorem d_Task_countWays_51 : decode b_Task_countWays 51 = .ok (.iconst 5, 1) := by decide +kernel
theorem d_Task_countWays_52 : decode b_Task_countWays 52 = .ok (.if_icmp .gt 93, 3) := by decide +kernel
theorem d_Task_countWays_55 : decode b_Task_countWays 55 = .ok (.iconst 0, 1) := by decide +kernel
theorem d_Task_countWays_56 : decode b_Task_countWays 56 = .ok (.istore_n 3, 1) := by decide +kernel
theorem d_Task_countWays_57 : decode b_Task_countWays 57 = .ok (.iload_n 3, 1) := by decide +kernel
theorem d_Task_countWays_58 : decode b_Task_countWays 58 = .ok (.iload_n 1, 1) := by decide +kernel
theorem d_Task_countWays_59 : decode b_Task_countWays 59 = .ok (.if_icmp .ge 80, 3) := by decide +kernel
theorem d_Task_countWays_62 : decode b_Task_countWays 62 = .ok (.iload_n 3, 1) := by decide +kernel
theorem d_Task_countWays_63 : decode b_Task_countWays 63 = .ok (.bipush 64, 2) := by decide +kernel
theorem d_Task_countWays_65 : decode b_Task_countWays 65 = .ok (.if_icmp .ge 74, 3) := by decide +kernel
theorem d_Task_countWays_68 : decode b_Task_countWays 68 = .ok (.aload_n 0, 1) := by decide +kernel
theorem d_Task_countWays_69 : decode b_Task_countWays 69 = .ok (.iload_n 2, 1) := by decide +kernel
theorem d_Task_countWays_70 : decode b_Task_countWays 70 = .ok (.iconst 1, 1) := by decide +kernel
theorem d_Task_countWays_71 : decode b_Task_countWays 71 = .ok (.isub, 1) := by decide +kernel
theorem d_Task_countWays_72 : decode b_Task_countWays 72 = .ok (.iload_n 3, 1) := by decide +kernel
theorem d_Task_countWays_73 : decode b_Task_countWays 73 = .ok (.invokevirtual 44, 3) := by decide +kernel
theorem d_Task_countWays_76 : decode b_Task_countWays 76 = .ok (.istore 4, 2) := by decide +kernel
theorem d_Task_countWays_78 : decode b_Task_countWays 78 = .ok (.iconst 0, 1) := by decide +kernel
theorem d_Task_countWays_79 : decode b_Task_countWays 79 = .ok (.istore 5, 2) := by decide +kernel
theorem d_Task_countWays_81 : decode b_Task_countWays 81 = .ok (.iload 5, 2) := by decide +kernel
theorem d_Task_countWays_83 : decode b_Task_countWays 83 = .ok (.aload_n 0, 1) := by decide +kernel
theorem d_Task_countWays_84 : decode b_Task_countWays 84 = .ok (.getfield 28, 3) := by decide +kernel
theorem d_Task_countWays_87 : decode b_Task_countWays 87 = .ok (.if_icmp .ge 28, 3) := by decide +kernel
theorem d_Task_countWays_90 : decode b_Task_countWays 90 = .ok (.iload 4, 2) := by decide +kernel
theorem d_Task_countWays_92 : decode b_Task_countWays 92 = .ok (.aload_n 0, 1) := by decide +kernel
theorem d_Task_countWays_93 : decode b_Task_countWays 93 = .ok (.iload_n 2, 1) := by decide +kernel
theorem d_Task_countWays_94 : decode b_Task_countWays 94 = .ok (.iconst 1, 1) := by decide +kernel
theorem d_Task_countWays_95 : decode b_Task_countWays 95 = .ok (.isub, 1) := by decide +kernel
theorem d_Task_countWays_96 : decode b_Task_countWays 96 = .ok (.aload_n 0, 1) := by decide +kernel
theorem d_Task_countWays_97 : decode b_Task_countWays 97 = .ok (.iload 5, 2) := by decide +kernel
theorem d_Task_countWays_99 : decode b_Task_countWays 99 = .ok (.iload_n 3, 1) := by decide +kernel
theorem d_Task_countWays_100 : decode b_Task_countWays 100 = .ok (.invokevirtual 48, 3) := by decide +kernel
theorem d_Task_countWays_103 : decode b_Task_countWays 103 = .ok (.invokevirtual 44, 3) := by decide +kernel
theorem d_Task_countWays_106 : decode b_Task_countWays 106 = .ok (.iadd, 1) := by decide +kernel
theorem d_Task_countWays_107 : decode b_Task_countWays 107 = .ok (.istore 4, 2) := by decide +kernel
theorem d_Task_countWays_109 : decode b_Task_countWays 109 = .ok (.iinc 5 1, 3) := by decide +kernel
theorem d_Task_countWays_112 : decode b_Task_countWays 112 = .ok (.goto (-31), 3) := by decide +kernel
theorem d_Task_countWays_115 : decode b_Task_countWays 115 = .ok (.aload_n 0, 1) := by decide +kernel
theorem d_Task_countWays_116 : decode b_Task_countWays 116 = .ok (.getfield 21, 3) := by decide +kernel
theorem d_Task_countWays_119 : decode b_Task_countWays 119 = .ok (.iload_n 2, 1) := by decide +kernel
theorem d_Task_countWays_120 : decode b_Task_countWays 120 = .ok (.bipush 64, 2) := by decide +kernel
theorem d_Task_countWays_122 : decode b_Task_countWays 122 = .ok (.imul, 1) := by decide +kernel
theorem d_Task_countWays_123 : decode b_Task_countWays 123 = .ok (.iload_n 3, 1) := by decide +kernel
theorem d_Task_countWays_124 : decode b_Task_countWays 124 = .ok (.iadd, 1) := by decide +kernel
theorem d_Task_countWays_125 : decode b_Task_countWays 125 = .ok (.iload 4, 2) := by decide +kernel
theorem d_Task_countWays_127 : decode b_Task_countWays 127 = .ok (.bipush 60, 2) := by decide +kernel
theorem d_Task_countWays_129 : decode b_Task_countWays 129 = .ok (.invokestatic 51, 3) := by decide +kernel
theorem d_Task_countWays_132 : decode b_Task_countWays 132 = .ok (.iastore, 1) := by decide +kernel
theorem d_Task_countWays_133 : decode b_Task_countWays 133 = .ok (.iinc 3 1, 3) := by decide +kernel
theorem d_Task_countWays_136 : decode b_Task_countWays 136 = .ok (.goto (-79), 3) := by decide +kernel
theorem d_Task_countWays_139 : decode b_Task_countWays 139 = .ok (.iinc 2 1, 3) := by decide +kernel
theorem d_Task_countWays_142 : decode b_Task_countWays 142 = .ok (.goto (-92), 3) := by decide +kernel
theorem d_Task_countWays_145 : decode b_Task_countWays 145 = .ok (.return_, 1) := by decide +kernel
set_option maxHeartbeats 4000000 in
set_option maxRecDepth 100000 in
theorem x_Task_countWays_L81 {p : Program} {e : Env} {s : State} {m : MethodId} {args : Array Value} {below : List Frame} {meth : Method} {c : Code} {l : Launch} {dC : Nat → ClassId} {dI : Nat → Nat → Nat} {cA : ClassId} {ad : Nat → Nat} {w0 : va_W} (C0 : q_C p s m args meth c b_Task_countWays 6 none "PlanClauses$Task" dC dI cA) (hA : ∀ q, s.heap.size ≤ q → va_A w0 s.heap.size q) (x1 : Int32) (x2 : Int32) (x3 : Int32) (ta : tTask) (tw : tWays) {Q : tWays → Prop} {K115 : Int32 → Prop}
    (hK115 : ∀ (x4 : Int32) (H : Heap) (locs : List Loc) (ls : Array Slot), K115 x4 → lv_has ls 6 [(0, .ref (ad 20)), (1, .int x1), (2, .int x2), (3, .int x3), (4, .int x4)] → q_H dC dI (va_A w0 s.heap.size) s.heap H locs ([c_TA ad cA ta tw].flatten) → W p l e (q_R 1 22) s m args below meth c H locs 0 0 (q_Zv below args s dC dI cA w0 (fun u : tWays => [c_TA ad cA ta u].flatten) (fun u => Q u)) (F0 m 115 ls [])) :
    ∀ (nn : Nat) (x4 : Int32) (x5 : Int32) (H : Heap) (locs : List Loc) (ls : Array Slot), w_Task_countWays_L81 x1 x2 x3 ta tw K115 nn x4 x5 → lv_has ls 6 [(0, .ref (ad 20)), (1, .int x1), (2, .int x2), (3, .int x3), (4, .int x4), (5, .int x5)] → q_H dC dI (va_A w0 s.heap.size) s.heap H locs ([c_TA ad cA ta tw].flatten) → W p l e (q_R 1 22) s m args below meth c H locs 0 0 (q_Zv below args s dC dI cA w0 (fun u : tWays => [c_TA ad cA ta u].flatten) (fun u => Q u)) (F0 m 81 ls []) := by
  obtain ⟨hx, hb, -⟩ := id C0
  intro nn
  induction nn with
  | zero =>
    intro x4 x5 H locs ls h
    exact (show False from h).elim
  | succ nn ih =>
    intro x4 x5 H locs ls h hl hH
    rw [w_Task_countWays_L81] at h
    refine lv_iload hx hb d_Task_countWays_81 (lv_at hl 5 rfl) ?_
    refine lv_aload_n hx hb d_Task_countWays_83 rfl (lv_at hl 0 rfl) ?_
    refine q_get (v := .int ta.actionCount) C0 hH 0 rfl hc_6 1 (by decide) k_190 rfl d_Task_countWays_84 ?_
    refine lv_icmp_ge (tgt := 115) hx hb d_Task_countWays_87 (by decide) (fun c => ?_) (fun c => ?_)
    · have h := h.1 c
      exact hK115 x4 _ _ _ h (lv_sub hl [0, 1, 2, 3, 4] rfl) hH
    · have h := h.2 c
      refine lv_iload hx hb d_Task_countWays_90 (lv_at hl 4 rfl) ?_
      refine lv_aload_n hx hb d_Task_countWays_92 rfl (lv_at hl 0 rfl) ?_
      refine lv_iload_n hx hb d_Task_countWays_93 rfl (lv_at hl 2 rfl) ?_
      refine lv_iconst (v := 1) hx hb d_Task_countWays_94 (by decide) ?_
      refine lv_isub hx hb d_Task_countWays_95 ?_
      refine lv_aload_n hx hb d_Task_countWays_96 rfl (lv_at hl 0 rfl) ?_
      refine lv_iload hx hb d_Task_countWays_97 (lv_at hl 5 rfl) ?_
      refine lv_iload_n hx hb d_Task_countWays_99 rfl (lv_at hl 3 rfl) ?_
      refine q_calli (rest := [.int (x2 - 1), .ref (ad 20), .int x4]) (ws' := fun _ : Unit => [c_TA ad cA ta tw].flatten) C0 hH hA (c_Task_after l dC dI cA ad x5 x3 ta tw _ _ h) Y_Task_after k_522 0 rfl hc_6 (q_pg [0] [] [0] 1 1 rfl (by decide) rfl (fun _ => rfl) rfl (by decide) (fun _ => rfl)) ⟨Nat.le_of_ble_eq_true rfl, Nat.le_of_ble_eq_true rfl⟩ rfl rfl (Nat.le_of_ble_eq_true rfl) hl.1 d_Task_countWays_100 ⟨Nat.le_refl 0, Nat.le_refl 0⟩ (fun r_1 u_1 H locs h hH => ?_)
      try dsimp only at h
      have hH : q_H dC dI (va_A w0 s.heap.size) s.heap H locs ([c_TA ad cA ta tw].flatten) := hH
      refine q_calli (rest := [.int x4]) (ws' := fun _ : Unit => [c_TA ad cA ta tw].flatten) C0 hH hA (c_Task_waysCounted l dC dI cA ad (x2 - 1) r_1 ta tw _ _ h) Y_Task_waysCounted k_518 0 rfl hc_6 (q_pg [0] [] [0] 1 1 rfl (by decide) rfl (fun _ => rfl) rfl (by decide) (fun _ => rfl)) ⟨Nat.le_of_ble_eq_true rfl, Nat.le_of_ble_eq_true rfl⟩ rfl rfl (Nat.le_of_ble_eq_true rfl) hl.1 d_Task_countWays_103 ⟨Nat.le_refl 0, Nat.le_refl 0⟩ (fun r_2 u_2 H locs h hH => ?_)
      try dsimp only at h
      have hH : q_H dC dI (va_A w0 s.heap.size) s.heap H locs ([c_TA ad cA ta tw].flatten) := hH
      refine lv_iadd hx hb d_Task_countWays_106 ?_
      refine lv_istore (lv' := [(4, .int (x4 + r_2)), (0, .ref (ad 20)), (1, .int x1), (2, .int x2), (3, .int x3), (5, .int x5)]) hx hb d_Task_countWays_107 hl (by decide) rfl (fun ls hl => ?_)
      refine lv_iinc (v := (x5 + 1)) (lv' := [(5, .int (x5 + 1)), (4, .int (x4 + r_2)), (0, .ref (ad 20)), (1, .int x1), (2, .int x2), (3, .int x3)]) hx hb d_Task_countWays_109 hl (k := 5) rfl rfl (by decide) rfl (fun ls hl => ?_)
      refine lv_goto (tgt := 81) hx hb d_Task_countWays_112 (by decide) ?_
      exact ih (x4 + r_2) (x5 + 1) _ _ _ h (lv_sub hl [2, 3, 4, 5, 1, 0] rfl) hH
set_option maxHeartbeats 4000000 in
set_option maxRecDepth 100000 in
theorem x_Task_countWays_L57 {p : Program} {e : Env} {s : State} {m : MethodId} {args : Array Value} {below : List Frame} {meth : Method} {c : Code} {l : Launch} {dC : Nat → ClassId} {dI : Nat → Nat → Nat} {cA : ClassId} {ad : Nat → Nat} {w0 : va_W} (C0 : q_C p s m args meth c b_Task_countWays 6 none "PlanClauses$Task" dC dI cA) (hA : ∀ q, s.heap.size ≤ q → va_A w0 s.heap.size q) (x1 : Int32) (x2 : Int32) (ta : tTask) {Q : tWays → Prop} {K139 : tWays → Prop}
    (hK139 : ∀ (tw : tWays) (H : Heap) (locs : List Loc) (ls : Array Slot), K139 tw → lv_has ls 6 [(0, .ref (ad 20)), (1, .int x1), (2, .int x2)] → q_H dC dI (va_A w0 s.heap.size) s.heap H locs ([c_TA ad cA ta tw].flatten) → W p l e (q_R 1 22) s m args below meth c H locs 0 0 (q_Zv below args s dC dI cA w0 (fun u : tWays => [c_TA ad cA ta u].flatten) (fun u => Q u)) (F0 m 139 ls [])) :
    ∀ (nn : Nat) (x3 : Int32) (tw : tWays) (H : Heap) (locs : List Loc) (ls : Array Slot), w_Task_countWays_L57 x1 x2 ta K139 nn x3 tw → lv_has ls 6 [(0, .ref (ad 20)), (1, .int x1), (2, .int x2), (3, .int x3)] → q_H dC dI (va_A w0 s.heap.size) s.heap H locs ([c_TA ad cA ta tw].flatten) → W p l e (q_R 1 22) s m args below meth c H locs 0 0 (q_Zv below args s dC dI cA w0 (fun u : tWays => [c_TA ad cA ta u].flatten) (fun u => Q u)) (F0 m 57 ls []) := by
  obtain ⟨hx, hb, -⟩ := id C0
  intro nn
  induction nn with
  | zero =>
    intro x3 tw H locs ls h
    exact (show False from h).elim
  | succ nn ih =>
    intro x3 tw H locs ls h hl hH
    rw [w_Task_countWays_L57] at h
    refine lv_iload_n hx hb d_Task_countWays_57 rfl (lv_at hl 3 rfl) ?_
    refine lv_iload_n hx hb d_Task_countWays_58 rfl (lv_at hl 1 rfl) ?_
    refine lv_icmp_ge (tgt := 139) hx hb d_Task_countWays_59 (by decide) (fun c => ?_) (fun c => ?_)
    · have h := h.1 c
      exact hK139 tw _ _ _ h (lv_sub hl [0, 1, 2] rfl) hH
    · have h := h.2 c
      refine lv_iload_n hx hb d_Task_countWays_62 rfl (lv_at hl 3 rfl) ?_
      refine lv_bipush (v := 64) hx hb d_Task_countWays_63 (by decide) ?_
      refine lv_icmp_ge (tgt := 139) hx hb d_Task_countWays_65 (by decide) (fun c => ?_) (fun c => ?_)
      · have h := h.1 c
        exact hK139 tw _ _ _ h (lv_sub hl [0, 1, 2] rfl) hH
      · have h := h.2 c
        refine lv_aload_n hx hb d_Task_countWays_68 rfl (lv_at hl 0 rfl) ?_
        refine lv_iload_n hx hb d_Task_countWays_69 rfl (lv_at hl 2 rfl) ?_
        refine lv_iconst (v := 1) hx hb d_Task_countWays_70 (by decide) ?_
        refine lv_isub hx hb d_Task_countWays_71 ?_
        refine lv_iload_n hx hb d_Task_countWays_72 rfl (lv_at hl 3 rfl) ?_
        refine q_calli (rest := []) (ws' := fun _ : Unit => [c_TA ad cA ta tw].flatten) C0 hH hA (c_Task_waysCounted l dC dI cA ad (x2 - 1) x3 ta tw _ _ h) Y_Task_waysCounted k_518 0 rfl hc_6 (q_pg [0] [] [0] 1 1 rfl (by decide) rfl (fun _ => rfl) rfl (by decide) (fun _ => rfl)) ⟨Nat.le_of_ble_eq_true rfl, Nat.le_of_ble_eq_true rfl⟩ rfl rfl (Nat.le_of_ble_eq_true rfl) hl.1 d_Task_countWays_73 ⟨Nat.le_refl 0, Nat.le_refl 0⟩ (fun r_1 u_1 H locs h hH => ?_)
        try dsimp only at h
        have hH : q_H dC dI (va_A w0 s.heap.size) s.heap H locs ([c_TA ad cA ta tw].flatten) := hH
        refine lv_istore (lv' := [(4, .int r_1), (0, .ref (ad 20)), (1, .int x1), (2, .int x2), (3, .int x3)]) hx hb d_Task_countWays_76 hl (by decide) rfl (fun ls hl => ?_)
        refine lv_iconst (v := 0) hx hb d_Task_countWays_78 (by decide) ?_
        refine lv_istore (lv' := [(5, .int 0), (4, .int r_1), (0, .ref (ad 20)), (1, .int x1), (2, .int x2), (3, .int x3)]) hx hb d_Task_countWays_79 hl (by decide) rfl (fun ls hl => ?_)
        obtain ⟨nn, h⟩ := h
        refine x_Task_countWays_L81 C0 hA x1 x2 x3 ta tw ?_ nn r_1 0 _ _ _ h (lv_sub hl [2, 3, 4, 5, 1, 0] rfl) hH
        · intro x4_2 H locs ls h hl hH
          try dsimp only at h
          refine lv_aload_n hx hb d_Task_countWays_115 rfl (lv_at hl 0 rfl) ?_
          refine q_get (v := .ref (ad 24)) C0 hH 0 rfl hc_6 7 (by decide) k_205 rfl d_Task_countWays_116 ?_
          refine lv_iload_n hx hb d_Task_countWays_119 rfl (lv_at hl 2 rfl) ?_
          refine lv_bipush (v := 64) hx hb d_Task_countWays_120 (by decide) ?_
          refine lv_imul hx hb d_Task_countWays_122 ?_
          refine lv_iload_n hx hb d_Task_countWays_123 rfl (lv_at hl 3 rfl) ?_
          refine lv_iadd hx hb d_Task_countWays_124 ?_
          refine lv_iload hx hb d_Task_countWays_125 (lv_at hl 4 rfl) ?_
          refine lv_bipush (v := 60) hx hb d_Task_countWays_127 (by decide) ?_
          refine q_calls (rest := [.int ((x2 * 64) + x3), .ref (ad 24)]) C0 hH hA (c_Math_min l dC dI cA ad x4_2 60 _ _ h) Y_Math_min k_526 ⟨Nat.le_of_ble_eq_true rfl, Nat.le_of_ble_eq_true rfl⟩ rfl rfl (Nat.le_of_ble_eq_true rfl) hl.1 d_Task_countWays_129 ⟨Nat.le_refl 0, Nat.le_refl 0⟩ (fun r_3 H locs h hH => ?_)
          try dsimp only at h
          obtain ⟨hi, h⟩ := h
          refine q_ast (ws' := [c_TA ad cA ta (tWays.mk (upd tw.ways ((x2 * 64) + x3).toNatClampNeg r_3) tw.counted)].flatten) (f := tw.ways) C0 hH 4 rfl hi rfl d_Task_countWays_132 (fun H locs hH => ?_)
          refine lv_iinc (v := (x3 + 1)) (lv' := [(3, .int (x3 + 1)), (0, .ref (ad 20)), (1, .int x1), (2, .int x2), (4, .int x4_2)]) hx hb d_Task_countWays_133 hl (k := 3) rfl rfl (by decide) rfl (fun ls hl => ?_)
          refine lv_goto (tgt := 57) hx hb d_Task_countWays_136 (by decide) ?_
          exact ih (x3 + 1) (tWays.mk (upd tw.ways ((x2 * 64) + x3).toNatClampNeg r_3) tw.counted) _ _ _ h (lv_sub hl [1, 2, 3, 0] rfl) hH
set_option maxHeartbeats 4000000 in
set_option maxRecDepth 100000 in
theorem x_Task_countWays_L50 {p : Program} {e : Env} {s : State} {m : MethodId} {args : Array Value} {below : List Frame} {meth : Method} {c : Code} {l : Launch} {dC : Nat → ClassId} {dI : Nat → Nat → Nat} {cA : ClassId} {ad : Nat → Nat} {w0 : va_W} (C0 : q_C p s m args meth c b_Task_countWays 6 none "PlanClauses$Task" dC dI cA) (hA : ∀ q, s.heap.size ≤ q → va_A w0 s.heap.size q) (x1 : Int32) (ta : tTask) {Q : tWays → Prop} {K145 : tWays → Prop}
    (hK145 : ∀ (tw : tWays) (H : Heap) (locs : List Loc) (ls : Array Slot), K145 tw → lv_has ls 6 [] → q_H dC dI (va_A w0 s.heap.size) s.heap H locs ([c_TA ad cA ta tw].flatten) → W p l e (q_R 1 22) s m args below meth c H locs 0 0 (q_Zv below args s dC dI cA w0 (fun u : tWays => [c_TA ad cA ta u].flatten) (fun u => Q u)) (F0 m 145 ls [])) :
    ∀ (nn : Nat) (x2 : Int32) (tw : tWays) (H : Heap) (locs : List Loc) (ls : Array Slot), w_Task_countWays_L50 x1 ta K145 nn x2 tw → lv_has ls 6 [(0, .ref (ad 20)), (1, .int x1), (2, .int x2)] → q_H dC dI (va_A w0 s.heap.size) s.heap H locs ([c_TA ad cA ta tw].flatten) → W p l e (q_R 1 22) s m args below meth c H locs 0 0 (q_Zv below args s dC dI cA w0 (fun u : tWays => [c_TA ad cA ta u].flatten) (fun u => Q u)) (F0 m 50 ls []) := by
  obtain ⟨hx, hb, -⟩ := id C0
  intro nn
  induction nn with
  | zero =>
    intro x2 tw H locs ls h
    exact (show False from h).elim
  | succ nn ih =>
    intro x2 tw H locs ls h hl hH
    rw [w_Task_countWays_L50] at h
    refine lv_iload_n hx hb d_Task_countWays_50 rfl (lv_at hl 2 rfl) ?_
    refine lv_iconst (v := 5) hx hb d_Task_countWays_51 (by decide) ?_
    refine lv_icmp_gt (tgt := 145) hx hb d_Task_countWays_52 (by decide) (fun c => ?_) (fun c => ?_)
    · have h := h.1 c
      exact hK145 tw _ _ _ h (lv_sub hl [] rfl) hH
    · have h := h.2 c
      refine lv_iconst (v := 0) hx hb d_Task_countWays_55 (by decide) ?_
      refine lv_istore_n (lv' := [(3, .int 0), (0, .ref (ad 20)), (1, .int x1), (2, .int x2)]) hx hb d_Task_countWays_56 rfl hl (by decide) rfl (fun ls hl => ?_)
      obtain ⟨nn, h⟩ := h
      refine x_Task_countWays_L57 C0 hA x1 x2 ta ?_ nn 0 tw _ _ _ h (lv_sub hl [1, 2, 3, 0] rfl) hH
      · intro tw_1 H locs ls h hl hH
        try dsimp only at h
        refine lv_iinc (v := (x2 + 1)) (lv' := [(2, .int (x2 + 1)), (0, .ref (ad 20)), (1, .int x1)]) hx hb d_Task_countWays_139 hl (k := 2) rfl rfl (by decide) rfl (fun ls hl => ?_)
        refine lv_goto (tgt := 50) hx hb d_Task_countWays_142 (by decide) ?_
        exact ih (x2 + 1) tw_1 _ _ _ h (lv_sub hl [1, 2, 0] rfl) hH
set_option maxHeartbeats 4000000 in
set_option maxRecDepth 100000 in
theorem x_Task_countWays_L9 {p : Program} {e : Env} {s : State} {m : MethodId} {args : Array Value} {below : List Frame} {meth : Method} {c : Code} {l : Launch} {dC : Nat → ClassId} {dI : Nat → Nat → Nat} {cA : ClassId} {ad : Nat → Nat} {w0 : va_W} (C0 : q_C p s m args meth c b_Task_countWays 6 none "PlanClauses$Task" dC dI cA) (hA : ∀ q, s.heap.size ≤ q → va_A w0 s.heap.size q) (x1 : Int32) (ta : tTask) {Q : tWays → Prop} {K48 : tWays → Prop}
    (hK48 : ∀ (tw : tWays) (H : Heap) (locs : List Loc) (ls : Array Slot), K48 tw → lv_has ls 6 [(0, .ref (ad 20)), (1, .int x1)] → q_H dC dI (va_A w0 s.heap.size) s.heap H locs ([c_TA ad cA ta tw].flatten) → W p l e (q_R 1 22) s m args below meth c H locs 0 0 (q_Zv below args s dC dI cA w0 (fun u : tWays => [c_TA ad cA ta u].flatten) (fun u => Q u)) (F0 m 48 ls [])) :
    ∀ (nn : Nat) (x2 : Int32) (tw : tWays) (H : Heap) (locs : List Loc) (ls : Array Slot), w_Task_countWays_L9 x1 ta K48 nn x2 tw → lv_has ls 6 [(0, .ref (ad 20)), (1, .int x1), (2, .int x2)] → q_H dC dI (va_A w0 s.heap.size) s.heap H locs ([c_TA ad cA ta tw].flatten) → W p l e (q_R 1 22) s m args below meth c H locs 0 0 (q_Zv below args s dC dI cA w0 (fun u : tWays => [c_TA ad cA ta u].flatten) (fun u => Q u)) (F0 m 9 ls []) := by
  obtain ⟨hx, hb, -⟩ := id C0
  intro nn
  induction nn with
  | zero =>
    intro x2 tw H locs ls h
    exact (show False from h).elim
  | succ nn ih =>
    intro x2 tw H locs ls h hl hH
    rw [w_Task_countWays_L9] at h
    refine lv_iload_n hx hb d_Task_countWays_9 rfl (lv_at hl 2 rfl) ?_
    refine lv_iload_n hx hb d_Task_countWays_10 rfl (lv_at hl 1 rfl) ?_
    refine lv_icmp_ge (tgt := 48) hx hb d_Task_countWays_11 (by decide) (fun c => ?_) (fun c => ?_)
    · have h := h.1 c
      exact hK48 tw _ _ _ h (lv_sub hl [0, 1] rfl) hH
    · have h := h.2 c
      refine lv_iload_n hx hb d_Task_countWays_14 rfl (lv_at hl 2 rfl) ?_
      refine lv_bipush (v := 64) hx hb d_Task_countWays_15 (by decide) ?_
      refine lv_icmp_ge (tgt := 48) hx hb d_Task_countWays_17 (by decide) (fun c => ?_) (fun c => ?_)
      · have h := h.1 c
        exact hK48 tw _ _ _ h (lv_sub hl [0, 1] rfl) hH
      · have h := h.2 c
        refine lv_aload_n hx hb d_Task_countWays_20 rfl (lv_at hl 0 rfl) ?_
        refine q_get (v := .ref (ad 24)) C0 hH 0 rfl hc_6 7 (by decide) k_205 rfl d_Task_countWays_21 ?_
        refine lv_iload_n hx hb d_Task_countWays_24 rfl (lv_at hl 2 rfl) ?_
        refine lv_aload_n hx hb d_Task_countWays_25 rfl (lv_at hl 0 rfl) ?_
        refine q_get (v := .int ta.goal) C0 hH 0 rfl hc_6 3 (by decide) k_196 rfl d_Task_countWays_26 ?_
        refine lv_iload_n hx hb d_Task_countWays_29 rfl (lv_at hl 2 rfl) ?_
        refine lv_iconst (v := (-1)) hx hb d_Task_countWays_30 (by decide) ?_
        refine lv_ixor hx hb d_Task_countWays_31 ?_
        refine lv_iand hx hb d_Task_countWays_32 ?_
        refine lv_if_ne (tgt := 40) hx hb d_Task_countWays_33 (by decide) (fun c => ?_) (fun c => ?_)
        · have h := h.1 c
          refine lv_iconst (v := 0) hx hb d_Task_countWays_40 (by decide) ?_
          obtain ⟨hi, h⟩ := h
          refine q_ast (ws' := [c_TA ad cA ta (tWays.mk (upd tw.ways x2.toNatClampNeg 0) tw.counted)].flatten) (f := tw.ways) C0 hH 4 rfl hi rfl d_Task_countWays_41 (fun H locs hH => ?_)
          refine lv_iinc (v := (x2 + 1)) (lv' := [(2, .int (x2 + 1)), (0, .ref (ad 20)), (1, .int x1)]) hx hb d_Task_countWays_42 hl (k := 2) rfl rfl (by decide) rfl (fun ls hl => ?_)
          refine lv_goto (tgt := 9) hx hb d_Task_countWays_45 (by decide) ?_
          exact ih (x2 + 1) (tWays.mk (upd tw.ways x2.toNatClampNeg 0) tw.counted) _ _ _ h (lv_sub hl [1, 2, 0] rfl) hH
        · have h := h.2 c
          refine lv_iconst (v := 1) hx hb d_Task_countWays_36 (by decide) ?_
          refine lv_goto (tgt := 41) hx hb d_Task_countWays_37 (by decide) ?_
          obtain ⟨hi, h⟩ := h
          refine q_ast (ws' := [c_TA ad cA ta (tWays.mk (upd tw.ways x2.toNatClampNeg 1) tw.counted)].flatten) (f := tw.ways) C0 hH 4 rfl hi rfl d_Task_countWays_41 (fun H locs hH => ?_)
          refine lv_iinc (v := (x2 + 1)) (lv' := [(2, .int (x2 + 1)), (0, .ref (ad 20)), (1, .int x1)]) hx hb d_Task_countWays_42 hl (k := 2) rfl rfl (by decide) rfl (fun ls hl => ?_)
          refine lv_goto (tgt := 9) hx hb d_Task_countWays_45 (by decide) ?_
          exact ih (x2 + 1) (tWays.mk (upd tw.ways x2.toNatClampNeg 1) tw.counted) _ _ _ h (lv_sub hl [1, 2, 0] rfl) hH
set_option maxHeartbeats 4000000 in
set_option maxRecDepth 100000 in
theorem c_Task_countWays (l : Launch) (dC : Nat → ClassId) (dI : Nat → Nat → Nat) (cA : ClassId) (ad : Nat → Nat) (ta : tTask) (tw : tWays) (Q : tWays → Prop) (sz : Nat) (h : w_Task_countWays ta tw Q) :
    q_Mv l y_Task_countWays b_Task_countWays 6 1 22 [.ref (ad 20)] dC dI cA ([c_TA ad cA ta tw].flatten) (fun u : tWays => [c_TA ad cA ta u].flatten) sz (fun u => Q u) := by
  refine q_metv (plainFor_of_name (by decide +kernel)) (Nat.le_of_ble_eq_true rfl) (fun {p e s m below meth c ls} C0 hl hH => ?_)
  obtain ⟨hx, hb, -⟩ := id C0
  have hA : ∀ q, s.heap.size ≤ q → va_A ([c_TA ad cA ta tw].flatten) s.heap.size q := q_nA
  have hl : lv_has ls 6 [(0, .ref (ad 20))] := hl
  unfold w_Task_countWays at h
  refine lv_iconst (v := 1) hx hb d_Task_countWays_0 (by decide) ?_
  refine lv_aload_n hx hb d_Task_countWays_1 rfl (lv_at hl 0 rfl) ?_
  refine q_get (v := .int ta.factCount) C0 hH 0 rfl hc_6 0 (by decide) k_187 rfl d_Task_countWays_2 ?_
  refine lv_ishl hx hb d_Task_countWays_5 ?_
  refine lv_istore_n (lv' := [(1, .int ((1 : Int32) <<< (ta.factCount &&& 31))), (0, .ref (ad 20))]) hx hb d_Task_countWays_6 rfl hl (by decide) rfl (fun ls hl => ?_)
  refine lv_iconst (v := 0) hx hb d_Task_countWays_7 (by decide) ?_
  refine lv_istore_n (lv' := [(2, .int 0), (1, .int ((1 : Int32) <<< (ta.factCount &&& 31))), (0, .ref (ad 20))]) hx hb d_Task_countWays_8 rfl hl (by decide) rfl (fun ls hl => ?_)
  obtain ⟨nn, h⟩ := h
  refine x_Task_countWays_L9 C0 hA ((1 : Int32) <<< (ta.factCount &&& 31)) ta ?_ nn 0 tw _ _ _ h (lv_sub hl [2, 1, 0] rfl) hH
  · intro tw_1 H locs ls h hl hH
    try dsimp only at h
    refine lv_iconst (v := 1) hx hb d_Task_countWays_48 (by decide) ?_
    refine lv_istore_n (lv' := [(2, .int 1), (0, .ref (ad 20)), (1, .int ((1 : Int32) <<< (ta.factCount &&& 31)))]) hx hb d_Task_countWays_49 rfl hl (by decide) rfl (fun ls hl => ?_)
    obtain ⟨nn, h⟩ := h
    refine x_Task_countWays_L50 C0 hA ((1 : Int32) <<< (ta.factCount &&& 31)) ta ?_ nn 1 tw_1 _ _ _ h (lv_sub hl [1, 2, 0] rfl) hH
    · intro tw_2 H locs ls h hl hH
      try dsimp only at h
      exact q_retv C0 hH tw_2 rfl h d_Task_countWays_145
theorem d_Task_ways_0 : decode b_Task_ways 0 = .ok (.aload_n 0, 1) := by decide +kernel
theorem d_Task_ways_1 : decode b_Task_ways 1 = .ok (.getfield 37, 3) := by decide +kernel
theorem d_Task_ways_4 : decode b_Task_ways 4 = .ok (.ifCond .ne 12, 3) := by decide +kernel
theorem d_Task_ways_7 : decode b_Task_ways 7 = .ok (.aload_n 0, 1) := by decide +kernel
theorem d_Task_ways_8 : decode b_Task_ways 8 = .ok (.invokevirtual 41, 3) := by decide +kernel
theorem d_Task_ways_11 : decode b_Task_ways 11 = .ok (.aload_n 0, 1) := by decide +kernel
theorem d_Task_ways_12 : decode b_Task_ways 12 = .ok (.iconst 1, 1) := by decide +kernel
theorem d_Task_ways_13 : decode b_Task_ways 13 = .ok (.putfield 37, 3) := by decide +kernel
theorem d_Task_ways_16 : decode b_Task_ways 16 = .ok (.aload_n 0, 1) := by decide +kernel
theorem d_Task_ways_17 : decode b_Task_ways 17 = .ok (.iload_n 1, 1) := by decide +kernel
theorem d_Task_ways_18 : decode b_Task_ways 18 = .ok (.iload_n 2, 1) := by decide +kernel
theorem d_Task_ways_19 : decode b_Task_ways 19 = .ok (.invokevirtual 44, 3) := by decide +kernel
theorem d_Task_ways_22 : decode b_Task_ways 22 = .ok (.ireturn, 1) := by decide +kernel
set_option maxHeartbeats 4000000 in
set_option maxRecDepth 100000 in
theorem c_Task_ways (l : Launch) (dC : Nat → ClassId) (dI : Nat → Nat → Nat) (cA : ClassId) (ad : Nat → Nat) (x1 : Int32) (x2 : Int32) (ta : tTask) (tw : tWays) (Q : Int32 → tWays → Prop) (sz : Nat) (h : w_Task_ways x1 x2 ta tw Q) :
    q_Mi l y_Task_ways b_Task_ways 3 (some .int) 2 47 [.ref (ad 20), .int x1, .int x2] dC dI cA ([c_TA ad cA ta tw].flatten) (fun u : tWays => [c_TA ad cA ta u].flatten) sz (fun r u => Q r u) := by
  refine q_meti (plainFor_of_name (by decide +kernel)) (Nat.le_of_ble_eq_true rfl) (fun {p e s m below meth c ls} C0 hl hH => ?_)
  obtain ⟨hx, hb, -⟩ := id C0
  have hA : ∀ q, s.heap.size ≤ q → va_A ([c_TA ad cA ta tw].flatten) s.heap.size q := q_nA
  have hl : lv_has ls 3 [(0, .ref (ad 20)), (1, .int x1), (2, .int x2)] := hl
  unfold w_Task_ways at h
  refine lv_aload_n hx hb d_Task_ways_0 rfl (lv_at hl 0 rfl) ?_
  refine q_get (v := .int tw.counted) C0 hH 0 rfl hc_6 8 (by decide) k_206 rfl d_Task_ways_1 ?_
  refine lv_if_ne (tgt := 16) hx hb d_Task_ways_4 (by decide) (fun c => ?_) (fun c => ?_)
  · have h := h.1 c
    refine lv_aload_n hx hb d_Task_ways_16 rfl (lv_at hl 0 rfl) ?_
    refine lv_iload_n hx hb d_Task_ways_17 rfl (lv_at hl 1 rfl) ?_
    refine lv_iload_n hx hb d_Task_ways_18 rfl (lv_at hl 2 rfl) ?_
    refine q_calli (rest := []) (ws' := fun _ : Unit => [c_TA ad cA ta tw].flatten) C0 hH hA (c_Task_waysCounted l dC dI cA ad x1 x2 ta tw _ _ h) Y_Task_waysCounted k_518 0 rfl hc_6 (q_pg [0] [] [0] 1 1 rfl (by decide) rfl (fun _ => rfl) rfl (by decide) (fun _ => rfl)) ⟨Nat.le_of_ble_eq_true rfl, Nat.le_of_ble_eq_true rfl⟩ rfl rfl (Nat.le_of_ble_eq_true rfl) hl.1 d_Task_ways_19 ⟨Nat.le_refl 0, Nat.le_refl 0⟩ (fun r_1 u_1 H locs h hH => ?_)
    try dsimp only at h
    have hH : q_H dC dI (va_A ([c_TA ad cA ta tw].flatten) s.heap.size) s.heap H locs ([c_TA ad cA ta tw].flatten) := hH
    exact q_reti C0 hH tw rfl h d_Task_ways_22
  · have h := h.2 c
    refine lv_aload_n hx hb d_Task_ways_7 rfl (lv_at hl 0 rfl) ?_
    refine q_callv (rest := []) (ws' := fun u : tWays => [c_TA ad cA ta u].flatten) C0 hH hA (c_Task_countWays l dC dI cA ad ta tw _ _ h) Y_Task_countWays k_514 0 rfl hc_6 (q_pg [0] [] [0] 1 1 rfl (by decide) rfl (fun _ => rfl) rfl (by decide) (fun _ => rfl)) ⟨Nat.le_of_ble_eq_true rfl, Nat.le_of_ble_eq_true rfl⟩ rfl rfl (Nat.le_of_ble_eq_true rfl) hl.1 d_Task_ways_8 ⟨Nat.le_refl 0, Nat.le_refl 0⟩ (fun u_2 H locs h hH => ?_)
    obtain ⟨tw_2, rfl⟩ : ∃ z, z = u_2 := ⟨_, rfl⟩
    try dsimp only at h
    have hH : q_H dC dI (va_A ([c_TA ad cA ta tw].flatten) s.heap.size) s.heap H locs ([c_TA ad cA ta tw_2].flatten) := hH
    refine lv_aload_n hx hb d_Task_ways_11 rfl (lv_at hl 0 rfl) ?_
    refine lv_iconst (v := 1) hx hb d_Task_ways_12 (by decide) ?_
    refine q_putz (ws' := [c_TA ad cA ta (tWays.mk tw_2.ways 1)].flatten) C0 hH 0 rfl hc_6 8 (by decide) k_206 rfl rfl (Or.inr rfl) (Nat.le_of_ble_eq_true rfl) rfl d_Task_ways_13 (fun H locs hH => ?_)
    refine lv_aload_n hx hb d_Task_ways_16 rfl (lv_at hl 0 rfl) ?_
    refine lv_iload_n hx hb d_Task_ways_17 rfl (lv_at hl 1 rfl) ?_
    refine lv_iload_n hx hb d_Task_ways_18 rfl (lv_at hl 2 rfl) ?_
    refine q_calli (rest := []) (ws' := fun _ : Unit => [c_TA ad cA ta (tWays.mk tw_2.ways 1)].flatten) C0 hH hA (c_Task_waysCounted l dC dI cA ad x1 x2 ta (tWays.mk tw_2.ways 1) _ _ h) Y_Task_waysCounted k_518 0 rfl hc_6 (q_pg [0] [] [0] 1 1 rfl (by decide) rfl (fun _ => rfl) rfl (by decide) (fun _ => rfl)) ⟨Nat.le_of_ble_eq_true rfl, Nat.le_of_ble_eq_true rfl⟩ rfl rfl (Nat.le_of_ble_eq_true rfl) hl.1 d_Task_ways_19 ⟨Nat.le_refl 0, Nat.le_refl 0⟩ (fun r_3 u_3 H locs h hH => ?_)
    try dsimp only at h
    have hH : q_H dC dI (va_A ([c_TA ad cA ta tw].flatten) s.heap.size) s.heap H locs ([c_TA ad cA ta (tWays.mk tw_2.ways 1)].flatten) := hH
    exact q_reti C0 hH (tWays.mk tw_2.ways 1) rfl h d_Task_ways_22
theorem d_PC_plan_0 : decode b_PC_plan 0 = .ok (.iload_n 1, 1) := by decide +kernel
theorem d_PC_plan_1 : decode b_PC_plan 1 = .ok (.invokestatic 124, 3) := by decide +kernel
theorem d_PC_plan_4 : decode b_PC_plan 4 = .ok (.ifCond .ne 5, 3) := by decide +kernel
theorem d_PC_plan_7 : decode b_PC_plan 7 = .ok (.iconst (-1), 1) := by decide +kernel
theorem d_PC_plan_8 : decode b_PC_plan 8 = .ok (.ireturn, 1) := by decide +kernel
theorem d_PC_plan_9 : decode b_PC_plan 9 = .ok (.aload_n 0, 1) := by decide +kernel
theorem d_PC_plan_10 : decode b_PC_plan 10 = .ok (.getfield 28, 3) := by decide +kernel
theorem d_PC_plan_13 : decode b_PC_plan 13 = .ok (.iload_n 1, 1) := by decide +kernel
theorem d_PC_plan_14 : decode b_PC_plan 14 = .ok (.aload_n 0, 1) := by decide +kernel
theorem d_PC_plan_15 : decode b_PC_plan 15 = .ok (.getfield 28, 3) := by decide +kernel
theorem d_PC_plan_18 : decode b_PC_plan 18 = .ok (.getfield 127, 3) := by decide +kernel
theorem d_PC_plan_21 : decode b_PC_plan 21 = .ok (.invokevirtual 130, 3) := by decide +kernel
theorem d_PC_plan_24 : decode b_PC_plan 24 = .ok (.ifCond .le 7, 3) := by decide +kernel
theorem d_PC_plan_27 : decode b_PC_plan 27 = .ok (.iconst 1, 1) := by decide +kernel
theorem d_PC_plan_28 : decode b_PC_plan 28 = .ok (.goto 4, 3) := by decide +kernel
theorem d_PC_plan_31 : decode b_PC_plan 31 = .ok (.iconst 0, 1) := by decide +kernel
theorem d_PC_plan_32 : decode b_PC_plan 32 = .ok (.ireturn, 1) := by decide +kernel
set_option maxHeartbeats 4000000 in
set_option maxRecDepth 100000 in
theorem c_PC_plan (l : Launch) (dC : Nat → ClassId) (dI : Nat → Nat → Nat) (cA : ClassId) (ad : Nat → Nat) (x1 : Int32) (ta : tTask) (tw : tWays) (Q : Int32 → tWays → Prop) (sz : Nat) (h : w_PC_plan x1 ta tw Q) :
    q_Mi l y_PC_plan b_PC_plan 2 (some .int) 3 69 [.ref (ad 0), .int x1] dC dI cA ([c_PC ad, c_TA ad cA ta tw].flatten) (fun u : tWays => [c_PC ad, c_TA ad cA ta u].flatten) sz (fun r u => Q r u) := by
  refine q_meti (plainFor_of_name (by decide +kernel)) (Nat.le_of_ble_eq_true rfl) (fun {p e s m below meth c ls} C0 hl hH => ?_)
  obtain ⟨hx, hb, -⟩ := id C0
  have hA : ∀ q, s.heap.size ≤ q → va_A ([c_PC ad, c_TA ad cA ta tw].flatten) s.heap.size q := q_nA
  have hl : lv_has ls 2 [(0, .ref (ad 0)), (1, .int x1)] := hl
  unfold w_PC_plan at h
  refine lv_iload_n hx hb d_PC_plan_0 rfl (lv_at hl 1 rfl) ?_
  refine q_calls (rest := []) C0 hH hA (c_PC_isLength l dC dI cA ad x1 _ _ h) Y_PC_isLength k_507 ⟨Nat.le_of_ble_eq_true rfl, Nat.le_of_ble_eq_true rfl⟩ rfl rfl (Nat.le_of_ble_eq_true rfl) hl.1 d_PC_plan_1 ⟨Nat.le_refl 0, Nat.le_refl 0⟩ (fun r_1 H locs h hH => ?_)
  try dsimp only at h
  refine lv_if_ne (tgt := 9) hx hb d_PC_plan_4 (by decide) (fun c => ?_) (fun c => ?_)
  · have h := h.1 c
    refine lv_aload_n hx hb d_PC_plan_9 rfl (lv_at hl 0 rfl) ?_
    refine q_get (v := .ref (ad 20)) C0 hH 0 rfl hc_0 2 (by decide) k_258 rfl d_PC_plan_10 ?_
    refine lv_iload_n hx hb d_PC_plan_13 rfl (lv_at hl 1 rfl) ?_
    refine lv_aload_n hx hb d_PC_plan_14 rfl (lv_at hl 0 rfl) ?_
    refine q_get (v := .ref (ad 20)) C0 hH 0 rfl hc_0 2 (by decide) k_258 rfl d_PC_plan_15 ?_
    refine q_get (v := .int ta.beginning) C0 hH 1 rfl hc_6 2 (by decide) k_195 rfl d_PC_plan_18 ?_
    refine q_calli (rest := []) (ws' := fun u : tWays => [c_PC ad, c_TA ad cA ta u].flatten) C0 hH hA (c_Task_ways l dC dI cA ad x1 ta.beginning ta tw _ _ h) Y_Task_ways k_510 1 rfl hc_6 (q_pg [1] [0] [0, 1] 2 1 rfl (by decide) rfl (fun _ => rfl) rfl (by decide) (fun _ => rfl)) ⟨Nat.le_of_ble_eq_true rfl, Nat.le_of_ble_eq_true rfl⟩ rfl rfl (Nat.le_of_ble_eq_true rfl) hl.1 d_PC_plan_21 ⟨Nat.le_refl 0, Nat.le_refl 0⟩ (fun r_2 u_2 H locs h hH => ?_)
    obtain ⟨tw_2, rfl⟩ : ∃ z, z = u_2 := ⟨_, rfl⟩
    try dsimp only at h
    have hH : q_H dC dI (va_A ([c_PC ad, c_TA ad cA ta tw].flatten) s.heap.size) s.heap H locs ([c_PC ad, c_TA ad cA ta tw_2].flatten) := hH
    refine lv_if_le (tgt := 31) hx hb d_PC_plan_24 (by decide) (fun c => ?_) (fun c => ?_)
    · have h := h.1 c
      refine lv_iconst (v := 0) hx hb d_PC_plan_31 (by decide) ?_
      exact q_reti C0 hH tw_2 rfl h d_PC_plan_32
    · have h := h.2 c
      refine lv_iconst (v := 1) hx hb d_PC_plan_27 (by decide) ?_
      refine lv_goto (tgt := 32) hx hb d_PC_plan_28 (by decide) ?_
      exact q_reti C0 hH tw_2 rfl h d_PC_plan_32
  · have h := h.2 c
    refine lv_iconst (v := (-1)) hx hb d_PC_plan_7 (by decide) ?_
    exact q_reti C0 hH tw rfl h d_PC_plan_8
theorem d_Task_choice_0 : decode b_Task_choice 0 = .ok (.iconst 0, 1) := by decide +kernel
theorem d_Task_choice_1 : decode b_Task_choice 1 = .ok (.istore_n 3, 1) := by decide +kernel
theorem d_Task_choice_2 : decode b_Task_choice 2 = .ok (.iload_n 3, 1) := by decide +kernel
theorem d_Task_choice_3 : decode b_Task_choice 3 = .ok (.aload_n 0, 1) := by decide +kernel
theorem d_Task_choice_4 : decode b_Task_choice 4 = .ok (.getfield 28, 3) := by decide +kernel
theorem d_Task_choice_7 : decode b_Task_choice 7 = .ok (.if_icmp .ge 27, 3) := by decide +kernel
theorem d_Task_choice_10 : decode b_Task_choice 10 = .ok (.aload_n 0, 1) := by decide +kernel
theorem d_Task_choice_11 : decode b_Task_choice 11 = .ok (.iload_n 1, 1) := by decide +kernel
theorem d_Task_choice_12 : decode b_Task_choice 12 = .ok (.iconst 1, 1) := by decide +kernel
theorem d_Task_choice_13 : decode b_Task_choice 13 = .ok (.isub, 1) := by decide +kernel
theorem d_Task_choice_14 : decode b_Task_choice 14 = .ok (.aload_n 0, 1) := by decide +kernel
theorem d_Task_choice_15 : decode b_Task_choice 15 = .ok (.iload_n 3, 1) := by decide +kernel
theorem d_Task_choice_16 : decode b_Task_choice 16 = .ok (.iload_n 2, 1) := by decide +kernel
theorem d_Task_choice_17 : decode b_Task_choice 17 = .ok (.invokevirtual 48, 3) := by decide +kernel
theorem d_Task_choice_20 : decode b_Task_choice 20 = .ok (.invokevirtual 56, 3) := by decide +kernel
theorem d_Task_choice_23 : decode b_Task_choice 23 = .ok (.ifCond .le 5, 3) := by decide +kernel
theorem d_Task_choice_26 : decode b_Task_choice 26 = .ok (.iload_n 3, 1) := by decide +kernel
theorem d_Task_choice_27 : decode b_Task_choice 27 = .ok (.ireturn, 1) := by decide +kernel
theorem d_Task_choice_28 : decode b_Task_choice 28 = .ok (.iinc 3 1, 3) := by decide +kernel
theorem d_Task_choice_31 : decode b_Task_choice 31 = .ok (.goto (-29), 3) := by decide +kernel
theorem d_Task_choice_34 : decode b_Task_choice 34 = .ok (.bipush (-7), 2) := by decide +kernel
theorem d_Task_choice_36 : decode b_Task_choice 36 = .ok (.ireturn, 1) := by decide +kernel
set_option maxHeartbeats 4000000 in
set_option maxRecDepth 100000 in
theorem x_Task_choice_L2 {p : Program} {e : Env} {s : State} {m : MethodId} {args : Array Value} {below : List Frame} {meth : Method} {c : Code} {l : Launch} {dC : Nat → ClassId} {dI : Nat → Nat → Nat} {cA : ClassId} {ad : Nat → Nat} {w0 : va_W} (C0 : q_C p s m args meth c b_Task_choice 4 (some .int) "PlanClauses$Task" dC dI cA) (hA : ∀ q, s.heap.size ≤ q → va_A w0 s.heap.size q) (x1 : Int32) (x2 : Int32) (ta : tTask) {Q : Int32 → tWays → Prop} {K34 : tWays → Prop}
    (hK34 : ∀ (tw : tWays) (H : Heap) (locs : List Loc) (ls : Array Slot), K34 tw → lv_has ls 4 [] → q_H dC dI (va_A w0 s.heap.size) s.heap H locs ([c_TA ad cA ta tw].flatten) → W p l e (q_R 3 69) s m args below meth c H locs 0 0 (q_Zi below args s dC dI cA w0 (fun u : tWays => [c_TA ad cA ta u].flatten) (fun r u => Q r u)) (F0 m 34 ls [])) :
    ∀ (nn : Nat) (x3 : Int32) (tw : tWays) (H : Heap) (locs : List Loc) (ls : Array Slot), w_Task_choice_L2 x1 x2 ta K34 Q nn x3 tw → lv_has ls 4 [(0, .ref (ad 20)), (1, .int x1), (2, .int x2), (3, .int x3)] → q_H dC dI (va_A w0 s.heap.size) s.heap H locs ([c_TA ad cA ta tw].flatten) → W p l e (q_R 3 69) s m args below meth c H locs 0 0 (q_Zi below args s dC dI cA w0 (fun u : tWays => [c_TA ad cA ta u].flatten) (fun r u => Q r u)) (F0 m 2 ls []) := by
  obtain ⟨hx, hb, -⟩ := id C0
  intro nn
  induction nn with
  | zero =>
    intro x3 tw H locs ls h
    exact (show False from h).elim
  | succ nn ih =>
    intro x3 tw H locs ls h hl hH
    rw [w_Task_choice_L2] at h
    refine lv_iload_n hx hb d_Task_choice_2 rfl (lv_at hl 3 rfl) ?_
    refine lv_aload_n hx hb d_Task_choice_3 rfl (lv_at hl 0 rfl) ?_
    refine q_get (v := .int ta.actionCount) C0 hH 0 rfl hc_6 1 (by decide) k_190 rfl d_Task_choice_4 ?_
    refine lv_icmp_ge (tgt := 34) hx hb d_Task_choice_7 (by decide) (fun c => ?_) (fun c => ?_)
    · have h := h.1 c
      exact hK34 tw _ _ _ h (lv_sub hl [] rfl) hH
    · have h := h.2 c
      refine lv_aload_n hx hb d_Task_choice_10 rfl (lv_at hl 0 rfl) ?_
      refine lv_iload_n hx hb d_Task_choice_11 rfl (lv_at hl 1 rfl) ?_
      refine lv_iconst (v := 1) hx hb d_Task_choice_12 (by decide) ?_
      refine lv_isub hx hb d_Task_choice_13 ?_
      refine lv_aload_n hx hb d_Task_choice_14 rfl (lv_at hl 0 rfl) ?_
      refine lv_iload_n hx hb d_Task_choice_15 rfl (lv_at hl 3 rfl) ?_
      refine lv_iload_n hx hb d_Task_choice_16 rfl (lv_at hl 2 rfl) ?_
      refine q_calli (rest := [.int (x1 - 1), .ref (ad 20)]) (ws' := fun _ : Unit => [c_TA ad cA ta tw].flatten) C0 hH hA (c_Task_after l dC dI cA ad x3 x2 ta tw _ _ h) Y_Task_after k_522 0 rfl hc_6 (q_pg [0] [] [0] 1 1 rfl (by decide) rfl (fun _ => rfl) rfl (by decide) (fun _ => rfl)) ⟨Nat.le_of_ble_eq_true rfl, Nat.le_of_ble_eq_true rfl⟩ rfl rfl (Nat.le_of_ble_eq_true rfl) hl.1 d_Task_choice_17 ⟨Nat.le_refl 0, Nat.le_refl 0⟩ (fun r_1 u_1 H locs h hH => ?_)
      try dsimp only at h
      have hH : q_H dC dI (va_A w0 s.heap.size) s.heap H locs ([c_TA ad cA ta tw].flatten) := hH
      refine q_calli (rest := []) (ws' := fun u : tWays => [c_TA ad cA ta u].flatten) C0 hH hA (c_Task_ways l dC dI cA ad (x1 - 1) r_1 ta tw _ _ h) Y_Task_ways k_539 0 rfl hc_6 (q_pg [0] [] [0] 1 1 rfl (by decide) rfl (fun _ => rfl) rfl (by decide) (fun _ => rfl)) ⟨Nat.le_of_ble_eq_true rfl, Nat.le_of_ble_eq_true rfl⟩ rfl rfl (Nat.le_of_ble_eq_true rfl) hl.1 d_Task_choice_20 ⟨Nat.le_refl 0, Nat.le_refl 0⟩ (fun r_2 u_2 H locs h hH => ?_)
      obtain ⟨tw_2, rfl⟩ : ∃ z, z = u_2 := ⟨_, rfl⟩
      try dsimp only at h
      have hH : q_H dC dI (va_A w0 s.heap.size) s.heap H locs ([c_TA ad cA ta tw_2].flatten) := hH
      refine lv_if_le (tgt := 28) hx hb d_Task_choice_23 (by decide) (fun c => ?_) (fun c => ?_)
      · have h := h.1 c
        refine lv_iinc (v := (x3 + 1)) (lv' := [(3, .int (x3 + 1)), (0, .ref (ad 20)), (1, .int x1), (2, .int x2)]) hx hb d_Task_choice_28 hl (k := 3) rfl rfl (by decide) rfl (fun ls hl => ?_)
        refine lv_goto (tgt := 2) hx hb d_Task_choice_31 (by decide) ?_
        exact ih (x3 + 1) tw_2 _ _ _ h (lv_sub hl [1, 2, 3, 0] rfl) hH
      · have h := h.2 c
        refine lv_iload_n hx hb d_Task_choice_26 rfl (lv_at hl 3 rfl) ?_
        exact q_reti C0 hH tw_2 rfl h d_Task_choice_27
set_option maxHeartbeats 4000000 in
set_option maxRecDepth 100000 in
theorem c_Task_choice (l : Launch) (dC : Nat → ClassId) (dI : Nat → Nat → Nat) (cA : ClassId) (ad : Nat → Nat) (x1 : Int32) (x2 : Int32) (ta : tTask) (tw : tWays) (Q : Int32 → tWays → Prop) (sz : Nat) (h : w_Task_choice x1 x2 ta tw Q) :
    q_Mi l y_Task_choice b_Task_choice 4 (some .int) 3 69 [.ref (ad 20), .int x1, .int x2] dC dI cA ([c_TA ad cA ta tw].flatten) (fun u : tWays => [c_TA ad cA ta u].flatten) sz (fun r u => Q r u) := by
  refine q_meti (plainFor_of_name (by decide +kernel)) (Nat.le_of_ble_eq_true rfl) (fun {p e s m below meth c ls} C0 hl hH => ?_)
  obtain ⟨hx, hb, -⟩ := id C0
  have hA : ∀ q, s.heap.size ≤ q → va_A ([c_TA ad cA ta tw].flatten) s.heap.size q := q_nA
  have hl : lv_has ls 4 [(0, .ref (ad 20)), (1, .int x1), (2, .int x2)] := hl
  unfold w_Task_choice at h
  refine lv_iconst (v := 0) hx hb d_Task_choice_0 (by decide) ?_
  refine lv_istore_n (lv' := [(3, .int 0), (0, .ref (ad 20)), (1, .int x1), (2, .int x2)]) hx hb d_Task_choice_1 rfl hl (by decide) rfl (fun ls hl => ?_)
  obtain ⟨nn, h⟩ := h
  refine x_Task_choice_L2 C0 hA x1 x2 ta ?_ nn 0 tw _ _ _ h (lv_sub hl [1, 2, 3, 0] rfl) hH
  · intro tw_1 H locs ls h hl hH
    try dsimp only at h
    refine lv_bipush (v := (-7)) hx hb d_Task_choice_34 (by decide) ?_
    exact q_reti C0 hH tw_1 rfl h d_Task_choice_36
theorem d_Task_stateAhead_0 : decode b_Task_stateAhead 0 = .ok (.aload_n 0, 1) := by decide +kernel
theorem d_Task_stateAhead_1 : decode b_Task_stateAhead 1 = .ok (.getfield 31, 3) := by decide +kernel
theorem d_Task_stateAhead_4 : decode b_Task_stateAhead 4 = .ok (.istore_n 3, 1) := by decide +kernel
theorem d_Task_stateAhead_5 : decode b_Task_stateAhead 5 = .ok (.iconst 0, 1) := by decide +kernel
theorem d_Task_stateAhead_6 : decode b_Task_stateAhead 6 = .ok (.istore 4, 2) := by decide +kernel
theorem d_Task_stateAhead_8 : decode b_Task_stateAhead 8 = .ok (.iload 4, 2) := by decide +kernel
theorem d_Task_stateAhead_10 : decode b_Task_stateAhead 10 = .ok (.iload_n 2, 1) := by decide +kernel
theorem d_Task_stateAhead_11 : decode b_Task_stateAhead 11 = .ok (.if_icmp .ge 41, 3) := by decide +kernel
theorem d_Task_stateAhead_14 : decode b_Task_stateAhead 14 = .ok (.iload 4, 2) := by decide +kernel
theorem d_Task_stateAhead_16 : decode b_Task_stateAhead 16 = .ok (.iload_n 1, 1) := by decide +kernel
theorem d_Task_stateAhead_17 : decode b_Task_stateAhead 17 = .ok (.if_icmp .ge 35, 3) := by decide +kernel
theorem d_Task_stateAhead_20 : decode b_Task_stateAhead 20 = .ok (.aload_n 0, 1) := by decide +kernel
theorem d_Task_stateAhead_21 : decode b_Task_stateAhead 21 = .ok (.iload_n 1, 1) := by decide +kernel
theorem d_Task_stateAhead_22 : decode b_Task_stateAhead 22 = .ok (.iload 4, 2) := by decide +kernel
theorem d_Task_stateAhead_24 : decode b_Task_stateAhead 24 = .ok (.isub, 1) := by decide +kernel
theorem d_Task_stateAhead_25 : decode b_Task_stateAhead 25 = .ok (.iload_n 3, 1) := by decide +kernel
theorem d_Task_stateAhead_26 : decode b_Task_stateAhead 26 = .ok (.invokevirtual 58, 3) := by decide +kernel
theorem d_Task_stateAhead_29 : decode b_Task_stateAhead 29 = .ok (.istore 5, 2) := by decide +kernel
theorem d_Task_stateAhead_31 : decode b_Task_stateAhead 31 = .ok (.iload 5, 2) := by decide +kernel
theorem d_Task_stateAhead_33 : decode b_Task_stateAhead 33 = .ok (.bipush (-7), 2) := by decide +kernel
theorem d_Task_stateAhead_35 : decode b_Task_stateAhead 35 = .ok (.if_icmp .eq 11, 3) := by decide +kernel
theorem d_Task_stateAhead_38 : decode b_Task_stateAhead 38 = .ok (.aload_n 0, 1) := by decide +kernel
theorem d_Task_stateAhead_39 : decode b_Task_stateAhead 39 = .ok (.iload 5, 2) := by decide +kernel
theorem d_Task_stateAhead_41 : decode b_Task_stateAhead 41 = .ok (.iload_n 3, 1) := by decide +kernel
theorem d_Task_stateAhead_42 : decode b_Task_stateAhead 42 = .ok (.invokevirtual 48, 3) := by decide +kernel
theorem d_Task_stateAhead_45 : decode b_Task_stateAhead 45 = .ok (.istore_n 3, 1) := by decide +kernel
theorem d_Task_stateAhead_46 : decode b_Task_stateAhead 46 = .ok (.iinc 4 1, 3) := by decide +kernel
theorem d_Task_stateAhead_49 : decode b_Task_stateAhead 49 = .ok (.goto (-41), 3) := by decide +kernel
theorem d_Task_stateAhead_52 : decode b_Task_stateAhead 52 = .ok (.iload_n 3, 1) := by decide +kernel
theorem d_Task_stateAhead_53 : decode b_Task_stateAhead 53 = .ok (.ireturn, 1) := by decide +kernel
set_option maxHeartbeats 4000000 in
set_option maxRecDepth 100000 in
theorem x_Task_stateAhead_L8 {p : Program} {e : Env} {s : State} {m : MethodId} {args : Array Value} {below : List Frame} {meth : Method} {c : Code} {l : Launch} {dC : Nat → ClassId} {dI : Nat → Nat → Nat} {cA : ClassId} {ad : Nat → Nat} {w0 : va_W} (C0 : q_C p s m args meth c b_Task_stateAhead 6 (some .int) "PlanClauses$Task" dC dI cA) (hA : ∀ q, s.heap.size ≤ q → va_A w0 s.heap.size q) (x1 : Int32) (x2 : Int32) (ta : tTask) {Q : Int32 → tWays → Prop} {K52 : Int32 → tWays → Prop}
    (hK52 : ∀ (x3 : Int32) (tw : tWays) (H : Heap) (locs : List Loc) (ls : Array Slot), K52 x3 tw → lv_has ls 6 [(3, .int x3)] → q_H dC dI (va_A w0 s.heap.size) s.heap H locs ([c_TA ad cA ta tw].flatten) → W p l e (q_R 4 92) s m args below meth c H locs 0 0 (q_Zi below args s dC dI cA w0 (fun u : tWays => [c_TA ad cA ta u].flatten) (fun r u => Q r u)) (F0 m 52 ls [])) :
    ∀ (nn : Nat) (x3 : Int32) (x4 : Int32) (tw : tWays) (H : Heap) (locs : List Loc) (ls : Array Slot), w_Task_stateAhead_L8 x1 x2 ta K52 nn x3 x4 tw → lv_has ls 6 [(0, .ref (ad 20)), (1, .int x1), (2, .int x2), (3, .int x3), (4, .int x4)] → q_H dC dI (va_A w0 s.heap.size) s.heap H locs ([c_TA ad cA ta tw].flatten) → W p l e (q_R 4 92) s m args below meth c H locs 0 0 (q_Zi below args s dC dI cA w0 (fun u : tWays => [c_TA ad cA ta u].flatten) (fun r u => Q r u)) (F0 m 8 ls []) := by
  obtain ⟨hx, hb, -⟩ := id C0
  intro nn
  induction nn with
  | zero =>
    intro x3 x4 tw H locs ls h
    exact (show False from h).elim
  | succ nn ih =>
    intro x3 x4 tw H locs ls h hl hH
    rw [w_Task_stateAhead_L8] at h
    refine lv_iload hx hb d_Task_stateAhead_8 (lv_at hl 4 rfl) ?_
    refine lv_iload_n hx hb d_Task_stateAhead_10 rfl (lv_at hl 2 rfl) ?_
    refine lv_icmp_ge (tgt := 52) hx hb d_Task_stateAhead_11 (by decide) (fun c => ?_) (fun c => ?_)
    · have h := h.1 c
      exact hK52 x3 tw _ _ _ h (lv_sub hl [3] rfl) hH
    · have h := h.2 c
      refine lv_iload hx hb d_Task_stateAhead_14 (lv_at hl 4 rfl) ?_
      refine lv_iload_n hx hb d_Task_stateAhead_16 rfl (lv_at hl 1 rfl) ?_
      refine lv_icmp_ge (tgt := 52) hx hb d_Task_stateAhead_17 (by decide) (fun c => ?_) (fun c => ?_)
      · have h := h.1 c
        exact hK52 x3 tw _ _ _ h (lv_sub hl [3] rfl) hH
      · have h := h.2 c
        refine lv_aload_n hx hb d_Task_stateAhead_20 rfl (lv_at hl 0 rfl) ?_
        refine lv_iload_n hx hb d_Task_stateAhead_21 rfl (lv_at hl 1 rfl) ?_
        refine lv_iload hx hb d_Task_stateAhead_22 (lv_at hl 4 rfl) ?_
        refine lv_isub hx hb d_Task_stateAhead_24 ?_
        refine lv_iload_n hx hb d_Task_stateAhead_25 rfl (lv_at hl 3 rfl) ?_
        refine q_calli (rest := []) (ws' := fun u : tWays => [c_TA ad cA ta u].flatten) C0 hH hA (c_Task_choice l dC dI cA ad (x1 - x4) x3 ta tw _ _ h) Y_Task_choice k_535 0 rfl hc_6 (q_pg [0] [] [0] 1 1 rfl (by decide) rfl (fun _ => rfl) rfl (by decide) (fun _ => rfl)) ⟨Nat.le_of_ble_eq_true rfl, Nat.le_of_ble_eq_true rfl⟩ rfl rfl (Nat.le_of_ble_eq_true rfl) hl.1 d_Task_stateAhead_26 ⟨Nat.le_refl 0, Nat.le_refl 0⟩ (fun r_1 u_1 H locs h hH => ?_)
        obtain ⟨tw_1, rfl⟩ : ∃ z, z = u_1 := ⟨_, rfl⟩
        try dsimp only at h
        have hH : q_H dC dI (va_A w0 s.heap.size) s.heap H locs ([c_TA ad cA ta tw_1].flatten) := hH
        refine lv_istore (lv' := [(5, .int r_1), (0, .ref (ad 20)), (1, .int x1), (2, .int x2), (3, .int x3), (4, .int x4)]) hx hb d_Task_stateAhead_29 hl (by decide) rfl (fun ls hl => ?_)
        refine lv_iload hx hb d_Task_stateAhead_31 (lv_at hl 0 rfl) ?_
        refine lv_bipush (v := (-7)) hx hb d_Task_stateAhead_33 (by decide) ?_
        refine lv_icmp_eq (tgt := 46) hx hb d_Task_stateAhead_35 (by decide) (fun c => ?_) (fun c => ?_)
        · have h := h.1 c
          refine lv_iinc (v := (x4 + 1)) (lv' := [(4, .int (x4 + 1)), (5, .int r_1), (0, .ref (ad 20)), (1, .int x1), (2, .int x2), (3, .int x3)]) hx hb d_Task_stateAhead_46 hl (k := 5) rfl rfl (by decide) rfl (fun ls hl => ?_)
          refine lv_goto (tgt := 8) hx hb d_Task_stateAhead_49 (by decide) ?_
          exact ih x3 (x4 + 1) tw_1 _ _ _ h (lv_sub hl [2, 3, 4, 5, 0] rfl) hH
        · have h := h.2 c
          refine lv_aload_n hx hb d_Task_stateAhead_38 rfl (lv_at hl 1 rfl) ?_
          refine lv_iload hx hb d_Task_stateAhead_39 (lv_at hl 0 rfl) ?_
          refine lv_iload_n hx hb d_Task_stateAhead_41 rfl (lv_at hl 4 rfl) ?_
          refine q_calli (rest := []) (ws' := fun _ : Unit => [c_TA ad cA ta tw_1].flatten) C0 hH hA (c_Task_after l dC dI cA ad r_1 x3 ta tw_1 _ _ h) Y_Task_after k_522 0 rfl hc_6 (q_pg [0] [] [0] 1 1 rfl (by decide) rfl (fun _ => rfl) rfl (by decide) (fun _ => rfl)) ⟨Nat.le_of_ble_eq_true rfl, Nat.le_of_ble_eq_true rfl⟩ rfl rfl (Nat.le_of_ble_eq_true rfl) hl.1 d_Task_stateAhead_42 ⟨Nat.le_refl 0, Nat.le_refl 0⟩ (fun r_2 u_2 H locs h hH => ?_)
          try dsimp only at h
          have hH : q_H dC dI (va_A w0 s.heap.size) s.heap H locs ([c_TA ad cA ta tw_1].flatten) := hH
          refine lv_istore_n (lv' := [(3, .int r_2), (5, .int r_1), (0, .ref (ad 20)), (1, .int x1), (2, .int x2), (4, .int x4)]) hx hb d_Task_stateAhead_45 rfl hl (by decide) rfl (fun ls hl => ?_)
          refine lv_iinc (v := (x4 + 1)) (lv' := [(4, .int (x4 + 1)), (3, .int r_2), (5, .int r_1), (0, .ref (ad 20)), (1, .int x1), (2, .int x2)]) hx hb d_Task_stateAhead_46 hl (k := 5) rfl rfl (by decide) rfl (fun ls hl => ?_)
          refine lv_goto (tgt := 8) hx hb d_Task_stateAhead_49 (by decide) ?_
          exact ih r_2 (x4 + 1) tw_1 _ _ _ h (lv_sub hl [3, 4, 5, 1, 0] rfl) hH
set_option maxHeartbeats 4000000 in
set_option maxRecDepth 100000 in
theorem c_Task_stateAhead (l : Launch) (dC : Nat → ClassId) (dI : Nat → Nat → Nat) (cA : ClassId) (ad : Nat → Nat) (x1 : Int32) (x2 : Int32) (ta : tTask) (tw : tWays) (Q : Int32 → tWays → Prop) (sz : Nat) (h : w_Task_stateAhead x1 x2 ta tw Q) :
    q_Mi l y_Task_stateAhead b_Task_stateAhead 6 (some .int) 4 92 [.ref (ad 20), .int x1, .int x2] dC dI cA ([c_TA ad cA ta tw].flatten) (fun u : tWays => [c_TA ad cA ta u].flatten) sz (fun r u => Q r u) := by
  refine q_meti (plainFor_of_name (by decide +kernel)) (Nat.le_of_ble_eq_true rfl) (fun {p e s m below meth c ls} C0 hl hH => ?_)
  obtain ⟨hx, hb, -⟩ := id C0
  have hA : ∀ q, s.heap.size ≤ q → va_A ([c_TA ad cA ta tw].flatten) s.heap.size q := q_nA
  have hl : lv_has ls 6 [(0, .ref (ad 20)), (1, .int x1), (2, .int x2)] := hl
  unfold w_Task_stateAhead at h
  refine lv_aload_n hx hb d_Task_stateAhead_0 rfl (lv_at hl 0 rfl) ?_
  refine q_get (v := .int ta.beginning) C0 hH 0 rfl hc_6 2 (by decide) k_193 rfl d_Task_stateAhead_1 ?_
  refine lv_istore_n (lv' := [(3, .int ta.beginning), (0, .ref (ad 20)), (1, .int x1), (2, .int x2)]) hx hb d_Task_stateAhead_4 rfl hl (by decide) rfl (fun ls hl => ?_)
  refine lv_iconst (v := 0) hx hb d_Task_stateAhead_5 (by decide) ?_
  refine lv_istore (lv' := [(4, .int 0), (3, .int ta.beginning), (0, .ref (ad 20)), (1, .int x1), (2, .int x2)]) hx hb d_Task_stateAhead_6 hl (by decide) rfl (fun ls hl => ?_)
  obtain ⟨nn, h⟩ := h
  refine x_Task_stateAhead_L8 C0 hA x1 x2 ta ?_ nn ta.beginning 0 tw _ _ _ h (lv_sub hl [2, 3, 4, 1, 0] rfl) hH
  · intro x3_1 tw_1 H locs ls h hl hH
    try dsimp only at h
    refine lv_iload_n hx hb d_Task_stateAhead_52 rfl (lv_at hl 0 rfl) ?_
    exact q_reti C0 hH tw_1 rfl h d_Task_stateAhead_53
theorem d_PC_step_0 : decode b_PC_step 0 = .ok (.iload_n 1, 1) := by decide +kernel
theorem d_PC_step_1 : decode b_PC_step 1 = .ok (.invokestatic 124, 3) := by decide +kernel
theorem d_PC_step_4 : decode b_PC_step 4 = .ok (.ifCond .eq 12, 3) := by decide +kernel
theorem d_PC_step_7 : decode b_PC_step 7 = .ok (.iload_n 2, 1) := by decide +kernel
theorem d_PC_step_8 : decode b_PC_step 8 = .ok (.ifCond .lt 8, 3) := by decide +kernel
theorem d_PC_step_11 : decode b_PC_step 11 = .ok (.iload_n 2, 1) := by decide +kernel
theorem d_PC_step_12 : decode b_PC_step 12 = .ok (.iload_n 1, 1) := by decide +kernel
theorem d_PC_step_13 : decode b_PC_step 13 = .ok (.if_icmp .lt 5, 3) := by decide +kernel
theorem d_PC_step_16 : decode b_PC_step 16 = .ok (.iconst (-1), 1) := by decide +kernel
theorem d_PC_step_17 : decode b_PC_step 17 = .ok (.ireturn, 1) := by decide +kernel
theorem d_PC_step_18 : decode b_PC_step 18 = .ok (.aload_n 0, 1) := by decide +kernel
theorem d_PC_step_19 : decode b_PC_step 19 = .ok (.getfield 28, 3) := by decide +kernel
theorem d_PC_step_22 : decode b_PC_step 22 = .ok (.iload_n 1, 1) := by decide +kernel
theorem d_PC_step_23 : decode b_PC_step 23 = .ok (.aload_n 0, 1) := by decide +kernel
theorem d_PC_step_24 : decode b_PC_step 24 = .ok (.getfield 28, 3) := by decide +kernel
theorem d_PC_step_27 : decode b_PC_step 27 = .ok (.getfield 127, 3) := by decide +kernel
theorem d_PC_step_30 : decode b_PC_step 30 = .ok (.invokevirtual 130, 3) := by decide +kernel
theorem d_PC_step_33 : decode b_PC_step 33 = .ok (.ifCond .ne 6, 3) := by decide +kernel
theorem d_PC_step_36 : decode b_PC_step 36 = .ok (.bipush (-9), 2) := by decide +kernel
theorem d_PC_step_38 : decode b_PC_step 38 = .ok (.ireturn, 1) := by decide +kernel
theorem d_PC_step_39 : decode b_PC_step 39 = .ok (.aload_n 0, 1) := by decide +kernel
theorem d_PC_step_40 : decode b_PC_step 40 = .ok (.getfield 28, 3) := by decide +kernel
theorem d_PC_step_43 : decode b_PC_step 43 = .ok (.iload_n 1, 1) := by decide +kernel
theorem d_PC_step_44 : decode b_PC_step 44 = .ok (.iload_n 2, 1) := by decide +kernel
theorem d_PC_step_45 : decode b_PC_step 45 = .ok (.isub, 1) := by decide +kernel
theorem d_PC_step_46 : decode b_PC_step 46 = .ok (.aload_n 0, 1) := by decide +kernel
theorem d_PC_step_47 : decode b_PC_step 47 = .ok (.getfield 28, 3) := by decide +kernel
theorem d_PC_step_50 : decode b_PC_step 50 = .ok (.iload_n 1, 1) := by decide +kernel
theorem d_PC_step_51 : decode b_PC_step 51 = .ok (.iload_n 2, 1) := by decide +kernel
theorem d_PC_step_52 : decode b_PC_step 52 = .ok (.invokevirtual 133, 3) := by decide +kernel
theorem d_PC_step_55 : decode b_PC_step 55 = .ok (.invokevirtual 136, 3) := by decide +kernel
theorem d_PC_step_58 : decode b_PC_step 58 = .ok (.ireturn, 1) := by decide +kernel
set_option maxHeartbeats 4000000 in
set_option maxRecDepth 100000 in
theorem c_PC_step (l : Launch) (dC : Nat → ClassId) (dI : Nat → Nat → Nat) (cA : ClassId) (ad : Nat → Nat) (x1 : Int32) (x2 : Int32) (ta : tTask) (tw : tWays) (Q : Int32 → tWays → Prop) (sz : Nat) (h : w_PC_step x1 x2 ta tw Q) :
    q_Mi l y_PC_step b_PC_step 3 (some .int) 5 117 [.ref (ad 0), .int x1, .int x2] dC dI cA ([c_PC ad, c_TA ad cA ta tw].flatten) (fun u : tWays => [c_PC ad, c_TA ad cA ta u].flatten) sz (fun r u => Q r u) := by
  refine q_meti (plainFor_of_name (by decide +kernel)) (Nat.le_of_ble_eq_true rfl) (fun {p e s m below meth c ls} C0 hl hH => ?_)
  obtain ⟨hx, hb, -⟩ := id C0
  have hA : ∀ q, s.heap.size ≤ q → va_A ([c_PC ad, c_TA ad cA ta tw].flatten) s.heap.size q := q_nA
  have hl : lv_has ls 3 [(0, .ref (ad 0)), (1, .int x1), (2, .int x2)] := hl
  unfold w_PC_step at h
  refine lv_iload_n hx hb d_PC_step_0 rfl (lv_at hl 1 rfl) ?_
  refine q_calls (rest := []) C0 hH hA (c_PC_isLength l dC dI cA ad x1 _ _ h) Y_PC_isLength k_507 ⟨Nat.le_of_ble_eq_true rfl, Nat.le_of_ble_eq_true rfl⟩ rfl rfl (Nat.le_of_ble_eq_true rfl) hl.1 d_PC_step_1 ⟨Nat.le_refl 0, Nat.le_refl 0⟩ (fun r_1 H locs h hH => ?_)
  try dsimp only at h
  refine lv_if_eq (tgt := 16) hx hb d_PC_step_4 (by decide) (fun c => ?_) (fun c => ?_)
  · have h := h.1 c
    refine lv_iconst (v := (-1)) hx hb d_PC_step_16 (by decide) ?_
    exact q_reti C0 hH tw rfl h d_PC_step_17
  · have h := h.2 c
    refine lv_iload_n hx hb d_PC_step_7 rfl (lv_at hl 2 rfl) ?_
    refine lv_if_lt (tgt := 16) hx hb d_PC_step_8 (by decide) (fun c => ?_) (fun c => ?_)
    · have h := h.1 c
      refine lv_iconst (v := (-1)) hx hb d_PC_step_16 (by decide) ?_
      exact q_reti C0 hH tw rfl h d_PC_step_17
    · have h := h.2 c
      refine lv_iload_n hx hb d_PC_step_11 rfl (lv_at hl 2 rfl) ?_
      refine lv_iload_n hx hb d_PC_step_12 rfl (lv_at hl 1 rfl) ?_
      refine lv_icmp_lt (tgt := 18) hx hb d_PC_step_13 (by decide) (fun c => ?_) (fun c => ?_)
      · have h := h.1 c
        refine lv_aload_n hx hb d_PC_step_18 rfl (lv_at hl 0 rfl) ?_
        refine q_get (v := .ref (ad 20)) C0 hH 0 rfl hc_0 2 (by decide) k_258 rfl d_PC_step_19 ?_
        refine lv_iload_n hx hb d_PC_step_22 rfl (lv_at hl 1 rfl) ?_
        refine lv_aload_n hx hb d_PC_step_23 rfl (lv_at hl 0 rfl) ?_
        refine q_get (v := .ref (ad 20)) C0 hH 0 rfl hc_0 2 (by decide) k_258 rfl d_PC_step_24 ?_
        refine q_get (v := .int ta.beginning) C0 hH 1 rfl hc_6 2 (by decide) k_195 rfl d_PC_step_27 ?_
        refine q_calli (rest := []) (ws' := fun u : tWays => [c_PC ad, c_TA ad cA ta u].flatten) C0 hH hA (c_Task_ways l dC dI cA ad x1 ta.beginning ta tw _ _ h) Y_Task_ways k_510 1 rfl hc_6 (q_pg [1] [0] [0, 1] 2 1 rfl (by decide) rfl (fun _ => rfl) rfl (by decide) (fun _ => rfl)) ⟨Nat.le_of_ble_eq_true rfl, Nat.le_of_ble_eq_true rfl⟩ rfl rfl (Nat.le_of_ble_eq_true rfl) hl.1 d_PC_step_30 ⟨Nat.le_refl 0, Nat.le_refl 0⟩ (fun r_2 u_2 H locs h hH => ?_)
        obtain ⟨tw_2, rfl⟩ : ∃ z, z = u_2 := ⟨_, rfl⟩
        try dsimp only at h
        have hH : q_H dC dI (va_A ([c_PC ad, c_TA ad cA ta tw].flatten) s.heap.size) s.heap H locs ([c_PC ad, c_TA ad cA ta tw_2].flatten) := hH
        refine lv_if_ne (tgt := 39) hx hb d_PC_step_33 (by decide) (fun c => ?_) (fun c => ?_)
        · have h := h.1 c
          refine lv_aload_n hx hb d_PC_step_39 rfl (lv_at hl 0 rfl) ?_
          refine q_get (v := .ref (ad 20)) C0 hH 0 rfl hc_0 2 (by decide) k_258 rfl d_PC_step_40 ?_
          refine lv_iload_n hx hb d_PC_step_43 rfl (lv_at hl 1 rfl) ?_
          refine lv_iload_n hx hb d_PC_step_44 rfl (lv_at hl 2 rfl) ?_
          refine lv_isub hx hb d_PC_step_45 ?_
          refine lv_aload_n hx hb d_PC_step_46 rfl (lv_at hl 0 rfl) ?_
          refine q_get (v := .ref (ad 20)) C0 hH 0 rfl hc_0 2 (by decide) k_258 rfl d_PC_step_47 ?_
          refine lv_iload_n hx hb d_PC_step_50 rfl (lv_at hl 1 rfl) ?_
          refine lv_iload_n hx hb d_PC_step_51 rfl (lv_at hl 2 rfl) ?_
          refine q_calli (rest := [.int (x1 - x2), .ref (ad 20)]) (ws' := fun u : tWays => [c_PC ad, c_TA ad cA ta u].flatten) C0 hH hA (c_Task_stateAhead l dC dI cA ad x1 x2 ta tw_2 _ _ h) Y_Task_stateAhead k_531 1 rfl hc_6 (q_pg [1] [0] [0, 1] 2 1 rfl (by decide) rfl (fun _ => rfl) rfl (by decide) (fun _ => rfl)) ⟨Nat.le_of_ble_eq_true rfl, Nat.le_of_ble_eq_true rfl⟩ rfl rfl (Nat.le_of_ble_eq_true rfl) hl.1 d_PC_step_52 ⟨Nat.le_refl 0, Nat.le_refl 0⟩ (fun r_3 u_3 H locs h hH => ?_)
          obtain ⟨tw_3, rfl⟩ : ∃ z, z = u_3 := ⟨_, rfl⟩
          try dsimp only at h
          have hH : q_H dC dI (va_A ([c_PC ad, c_TA ad cA ta tw].flatten) s.heap.size) s.heap H locs ([c_PC ad, c_TA ad cA ta tw_3].flatten) := hH
          refine q_calli (rest := []) (ws' := fun u : tWays => [c_PC ad, c_TA ad cA ta u].flatten) C0 hH hA (c_Task_choice l dC dI cA ad (x1 - x2) r_3 ta tw_3 _ _ h) Y_Task_choice k_540 1 rfl hc_6 (q_pg [1] [0] [0, 1] 2 1 rfl (by decide) rfl (fun _ => rfl) rfl (by decide) (fun _ => rfl)) ⟨Nat.le_of_ble_eq_true rfl, Nat.le_of_ble_eq_true rfl⟩ rfl rfl (Nat.le_of_ble_eq_true rfl) hl.1 d_PC_step_55 ⟨Nat.le_refl 0, Nat.le_refl 0⟩ (fun r_4 u_4 H locs h hH => ?_)
          obtain ⟨tw_4, rfl⟩ : ∃ z, z = u_4 := ⟨_, rfl⟩
          try dsimp only at h
          have hH : q_H dC dI (va_A ([c_PC ad, c_TA ad cA ta tw].flatten) s.heap.size) s.heap H locs ([c_PC ad, c_TA ad cA ta tw_4].flatten) := hH
          exact q_reti C0 hH tw_4 rfl h d_PC_step_58
        · have h := h.2 c
          refine lv_bipush (v := (-9)) hx hb d_PC_step_36 (by decide) ?_
          exact q_reti C0 hH tw_2 rfl h d_PC_step_38
      · have h := h.2 c
        refine lv_iconst (v := (-1)) hx hb d_PC_step_16 (by decide) ?_
        exact q_reti C0 hH tw rfl h d_PC_step_17
theorem d_PC_state_0 : decode b_PC_state 0 = .ok (.iload_n 1, 1) := by decide +kernel
theorem d_PC_state_1 : decode b_PC_state 1 = .ok (.invokestatic 124, 3) := by decide +kernel
theorem d_PC_state_4 : decode b_PC_state 4 = .ok (.ifCond .eq 12, 3) := by decide +kernel
theorem d_PC_state_7 : decode b_PC_state 7 = .ok (.iload_n 2, 1) := by decide +kernel
theorem d_PC_state_8 : decode b_PC_state 8 = .ok (.ifCond .lt 8, 3) := by decide +kernel
theorem d_PC_state_11 : decode b_PC_state 11 = .ok (.iload_n 2, 1) := by decide +kernel
theorem d_PC_state_12 : decode b_PC_state 12 = .ok (.iload_n 1, 1) := by decide +kernel
theorem d_PC_state_13 : decode b_PC_state 13 = .ok (.if_icmp .le 5, 3) := by decide +kernel
theorem d_PC_state_16 : decode b_PC_state 16 = .ok (.iconst (-1), 1) := by decide +kernel
theorem d_PC_state_17 : decode b_PC_state 17 = .ok (.ireturn, 1) := by decide +kernel
theorem d_PC_state_18 : decode b_PC_state 18 = .ok (.aload_n 0, 1) := by decide +kernel
theorem d_PC_state_19 : decode b_PC_state 19 = .ok (.getfield 28, 3) := by decide +kernel
theorem d_PC_state_22 : decode b_PC_state 22 = .ok (.iload_n 1, 1) := by decide +kernel
theorem d_PC_state_23 : decode b_PC_state 23 = .ok (.aload_n 0, 1) := by decide +kernel
theorem d_PC_state_24 : decode b_PC_state 24 = .ok (.getfield 28, 3) := by decide +kernel
theorem d_PC_state_27 : decode b_PC_state 27 = .ok (.getfield 127, 3) := by decide +kernel
theorem d_PC_state_30 : decode b_PC_state 30 = .ok (.invokevirtual 130, 3) := by decide +kernel
theorem d_PC_state_33 : decode b_PC_state 33 = .ok (.ifCond .ne 6, 3) := by decide +kernel
theorem d_PC_state_36 : decode b_PC_state 36 = .ok (.bipush (-9), 2) := by decide +kernel
theorem d_PC_state_38 : decode b_PC_state 38 = .ok (.ireturn, 1) := by decide +kernel
theorem d_PC_state_39 : decode b_PC_state 39 = .ok (.aload_n 0, 1) := by decide +kernel
theorem d_PC_state_40 : decode b_PC_state 40 = .ok (.getfield 28, 3) := by decide +kernel
theorem d_PC_state_43 : decode b_PC_state 43 = .ok (.iload_n 1, 1) := by decide +kernel
theorem d_PC_state_44 : decode b_PC_state 44 = .ok (.iload_n 2, 1) := by decide +kernel
theorem d_PC_state_45 : decode b_PC_state 45 = .ok (.invokevirtual 133, 3) := by decide +kernel
theorem d_PC_state_48 : decode b_PC_state 48 = .ok (.ireturn, 1) := by decide +kernel
set_option maxHeartbeats 4000000 in
set_option maxRecDepth 100000 in
theorem c_PC_state (l : Launch) (dC : Nat → ClassId) (dI : Nat → Nat → Nat) (cA : ClassId) (ad : Nat → Nat) (x1 : Int32) (x2 : Int32) (ta : tTask) (tw : tWays) (Q : Int32 → tWays → Prop) (sz : Nat) (h : w_PC_state x1 x2 ta tw Q) :
    q_Mi l y_PC_state b_PC_state 3 (some .int) 5 117 [.ref (ad 0), .int x1, .int x2] dC dI cA ([c_PC ad, c_TA ad cA ta tw].flatten) (fun u : tWays => [c_PC ad, c_TA ad cA ta u].flatten) sz (fun r u => Q r u) := by
  refine q_meti (plainFor_of_name (by decide +kernel)) (Nat.le_of_ble_eq_true rfl) (fun {p e s m below meth c ls} C0 hl hH => ?_)
  obtain ⟨hx, hb, -⟩ := id C0
  have hA : ∀ q, s.heap.size ≤ q → va_A ([c_PC ad, c_TA ad cA ta tw].flatten) s.heap.size q := q_nA
  have hl : lv_has ls 3 [(0, .ref (ad 0)), (1, .int x1), (2, .int x2)] := hl
  unfold w_PC_state at h
  refine lv_iload_n hx hb d_PC_state_0 rfl (lv_at hl 1 rfl) ?_
  refine q_calls (rest := []) C0 hH hA (c_PC_isLength l dC dI cA ad x1 _ _ h) Y_PC_isLength k_507 ⟨Nat.le_of_ble_eq_true rfl, Nat.le_of_ble_eq_true rfl⟩ rfl rfl (Nat.le_of_ble_eq_true rfl) hl.1 d_PC_state_1 ⟨Nat.le_refl 0, Nat.le_refl 0⟩ (fun r_1 H locs h hH => ?_)
  try dsimp only at h
  refine lv_if_eq (tgt := 16) hx hb d_PC_state_4 (by decide) (fun c => ?_) (fun c => ?_)
  · have h := h.1 c
    refine lv_iconst (v := (-1)) hx hb d_PC_state_16 (by decide) ?_
    exact q_reti C0 hH tw rfl h d_PC_state_17
  · have h := h.2 c
    refine lv_iload_n hx hb d_PC_state_7 rfl (lv_at hl 2 rfl) ?_
    refine lv_if_lt (tgt := 16) hx hb d_PC_state_8 (by decide) (fun c => ?_) (fun c => ?_)
    · have h := h.1 c
      refine lv_iconst (v := (-1)) hx hb d_PC_state_16 (by decide) ?_
      exact q_reti C0 hH tw rfl h d_PC_state_17
    · have h := h.2 c
      refine lv_iload_n hx hb d_PC_state_11 rfl (lv_at hl 2 rfl) ?_
      refine lv_iload_n hx hb d_PC_state_12 rfl (lv_at hl 1 rfl) ?_
      refine lv_icmp_le (tgt := 18) hx hb d_PC_state_13 (by decide) (fun c => ?_) (fun c => ?_)
      · have h := h.1 c
        refine lv_aload_n hx hb d_PC_state_18 rfl (lv_at hl 0 rfl) ?_
        refine q_get (v := .ref (ad 20)) C0 hH 0 rfl hc_0 2 (by decide) k_258 rfl d_PC_state_19 ?_
        refine lv_iload_n hx hb d_PC_state_22 rfl (lv_at hl 1 rfl) ?_
        refine lv_aload_n hx hb d_PC_state_23 rfl (lv_at hl 0 rfl) ?_
        refine q_get (v := .ref (ad 20)) C0 hH 0 rfl hc_0 2 (by decide) k_258 rfl d_PC_state_24 ?_
        refine q_get (v := .int ta.beginning) C0 hH 1 rfl hc_6 2 (by decide) k_195 rfl d_PC_state_27 ?_
        refine q_calli (rest := []) (ws' := fun u : tWays => [c_PC ad, c_TA ad cA ta u].flatten) C0 hH hA (c_Task_ways l dC dI cA ad x1 ta.beginning ta tw _ _ h) Y_Task_ways k_510 1 rfl hc_6 (q_pg [1] [0] [0, 1] 2 1 rfl (by decide) rfl (fun _ => rfl) rfl (by decide) (fun _ => rfl)) ⟨Nat.le_of_ble_eq_true rfl, Nat.le_of_ble_eq_true rfl⟩ rfl rfl (Nat.le_of_ble_eq_true rfl) hl.1 d_PC_state_30 ⟨Nat.le_refl 0, Nat.le_refl 0⟩ (fun r_2 u_2 H locs h hH => ?_)
        obtain ⟨tw_2, rfl⟩ : ∃ z, z = u_2 := ⟨_, rfl⟩
        try dsimp only at h
        have hH : q_H dC dI (va_A ([c_PC ad, c_TA ad cA ta tw].flatten) s.heap.size) s.heap H locs ([c_PC ad, c_TA ad cA ta tw_2].flatten) := hH
        refine lv_if_ne (tgt := 39) hx hb d_PC_state_33 (by decide) (fun c => ?_) (fun c => ?_)
        · have h := h.1 c
          refine lv_aload_n hx hb d_PC_state_39 rfl (lv_at hl 0 rfl) ?_
          refine q_get (v := .ref (ad 20)) C0 hH 0 rfl hc_0 2 (by decide) k_258 rfl d_PC_state_40 ?_
          refine lv_iload_n hx hb d_PC_state_43 rfl (lv_at hl 1 rfl) ?_
          refine lv_iload_n hx hb d_PC_state_44 rfl (lv_at hl 2 rfl) ?_
          refine q_calli (rest := []) (ws' := fun u : tWays => [c_PC ad, c_TA ad cA ta u].flatten) C0 hH hA (c_Task_stateAhead l dC dI cA ad x1 x2 ta tw_2 _ _ h) Y_Task_stateAhead k_531 1 rfl hc_6 (q_pg [1] [0] [0, 1] 2 1 rfl (by decide) rfl (fun _ => rfl) rfl (by decide) (fun _ => rfl)) ⟨Nat.le_of_ble_eq_true rfl, Nat.le_of_ble_eq_true rfl⟩ rfl rfl (Nat.le_of_ble_eq_true rfl) hl.1 d_PC_state_45 ⟨Nat.le_refl 0, Nat.le_refl 0⟩ (fun r_3 u_3 H locs h hH => ?_)
          obtain ⟨tw_3, rfl⟩ : ∃ z, z = u_3 := ⟨_, rfl⟩
          try dsimp only at h
          have hH : q_H dC dI (va_A ([c_PC ad, c_TA ad cA ta tw].flatten) s.heap.size) s.heap H locs ([c_PC ad, c_TA ad cA ta tw_3].flatten) := hH
          exact q_reti C0 hH tw_3 rfl h d_PC_state_48
        · have h := h.2 c
          refine lv_bipush (v := (-9)) hx hb d_PC_state_36 (by decide) ?_
          exact q_reti C0 hH tw_2 rfl h d_PC_state_38
      · have h := h.2 c
        refine lv_iconst (v := (-1)) hx hb d_PC_state_16 (by decide) ?_
        exact q_reti C0 hH tw rfl h d_PC_state_17
