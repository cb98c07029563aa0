theorem d_Ref_step_0 : decode b_Ref_step 0 = .ok (.iload_n 1, 1) := by decide +kernel
theorem d_Ref_step_1 : decode b_Ref_step 1 = .ok (.invokestatic 140, 3) := by decide +kernel
theorem d_Ref_step_4 : decode b_Ref_step 4 = .ok (.ifCond .eq 14, 3) := by decide +kernel
theorem d_Ref_step_7 : decode b_Ref_step 7 = .ok (.iload_n 2, 1) := by decide +kernel
theorem d_Ref_step_8 : decode b_Ref_step 8 = .ok (.iconst 0, 1) := by decide +kernel
theorem d_Ref_step_9 : decode b_Ref_step 9 = .ok (.iload_n 1, 1) := by decide +kernel
theorem d_Ref_step_10 : decode b_Ref_step 10 = .ok (.iconst 1, 1) := by decide +kernel
theorem d_Ref_step_11 : decode b_Ref_step 11 = .ok (.isub, 1) := by decide +kernel
theorem d_Ref_step_12 : decode b_Ref_step 12 = .ok (.invokestatic 59, 3) := by decide +kernel
theorem d_Ref_step_15 : decode b_Ref_step 15 = .ok (.ifCond .ne 5, 3) := by decide +kernel
theorem d_Ref_step_18 : decode b_Ref_step 18 = .ok (.iconst (-1), 1) := by decide +kernel
theorem d_Ref_step_19 : decode b_Ref_step 19 = .ok (.ireturn, 1) := by decide +kernel
theorem d_Ref_step_20 : decode b_Ref_step 20 = .ok (.aload_n 0, 1) := by decide +kernel
theorem d_Ref_step_21 : decode b_Ref_step 21 = .ok (.iload_n 1, 1) := by decide +kernel
theorem d_Ref_step_22 : decode b_Ref_step 22 = .ok (.invokevirtual 143, 3) := by decide +kernel
theorem d_Ref_step_25 : decode b_Ref_step 25 = .ok (.ifCond .ne 6, 3) := by decide +kernel
theorem d_Ref_step_28 : decode b_Ref_step 28 = .ok (.bipush (-9), 2) := by decide +kernel
theorem d_Ref_step_30 : decode b_Ref_step 30 = .ok (.ireturn, 1) := by decide +kernel
theorem d_Ref_step_31 : decode b_Ref_step 31 = .ok (.aload_n 0, 1) := by decide +kernel
theorem d_Ref_step_32 : decode b_Ref_step 32 = .ok (.iload_n 1, 1) := by decide +kernel
theorem d_Ref_step_33 : decode b_Ref_step 33 = .ok (.iload_n 2, 1) := by decide +kernel
theorem d_Ref_step_34 : decode b_Ref_step 34 = .ok (.iconst 1, 1) := by decide +kernel
theorem d_Ref_step_35 : decode b_Ref_step 35 = .ok (.iadd, 1) := by decide +kernel
theorem d_Ref_step_36 : decode b_Ref_step 36 = .ok (.invokevirtual 152, 3) := by decide +kernel
theorem d_Ref_step_39 : decode b_Ref_step 39 = .ok (.aload_n 0, 1) := by decide +kernel
theorem d_Ref_step_40 : decode b_Ref_step 40 = .ok (.getfield 146, 3) := by decide +kernel
theorem d_Ref_step_43 : decode b_Ref_step 43 = .ok (.aload_n 0, 1) := by decide +kernel
theorem d_Ref_step_44 : decode b_Ref_step 44 = .ok (.getfield 121, 3) := by decide +kernel
theorem d_Ref_step_47 : decode b_Ref_step 47 = .ok (.if_icmp .ne 8, 3) := by decide +kernel
theorem d_Ref_step_50 : decode b_Ref_step 50 = .ok (.bipush (-7), 2) := by decide +kernel
theorem d_Ref_step_52 : decode b_Ref_step 52 = .ok (.goto 7, 3) := by decide +kernel
theorem d_Ref_step_55 : decode b_Ref_step 55 = .ok (.aload_n 0, 1) := by decide +kernel
theorem d_Ref_step_56 : decode b_Ref_step 56 = .ok (.getfield 146, 3) := by decide +kernel
theorem d_Ref_step_59 : decode b_Ref_step 59 = .ok (.ireturn, 1) := by decide +kernel
set_option maxHeartbeats 4000000 in
set_option maxRecDepth 100000 in
theorem c_Ref_step (l : Launch) (dC : Nat → ClassId) (dI : Nat → Nat → Nat) (cA : ClassId) (ad : Nat → Nat) (x1 : Int32) (x2 : Int32) (ma : mForm) (mn : mKnow) (ms : mSat) (mb : mBack) (mt : mTask) (mw : (Nat → Int32)) (mg : mGo) (md : mCode) (Q : Int32 → (Nat → Int32) → mGo → Prop) (sz : Nat) (h : w_Ref_step x1 x2 mt mw mg Q) :
    q_Mi l y_Ref_step b_Ref_step 3 (some .int) 3 70 [.ref (ad 28), .int x1, .int x2] dC dI cA ([c_RE ad cA ma mn ms mb mt mw mg md].flatten) (fun u : (Nat → Int32) × mGo => [c_RE ad cA ma mn ms mb mt u.1 u.2 md].flatten) sz (fun r u => Q r u.1 u.2) := by
  refine q_meti (plainFor_of_name (by decide +kernel)) (Nat.le_of_ble_eq_true rfl) (fun {p e s m below meth c ls} C0 hl hH => ?_)
  obtain ⟨hx, hb, -⟩ := id C0
  have hA : ∀ q, s.heap.size ≤ q → va_A ([c_RE ad cA ma mn ms mb mt mw mg md].flatten) s.heap.size q := q_nA
  have hl : lv_has ls 3 [(0, .ref (ad 28)), (1, .int x1), (2, .int x2)] := hl
  unfold w_Ref_step at h
  refine lv_iload_n hx hb d_Ref_step_0 rfl (lv_at hl 1 rfl) ?_
  refine q_calls (rest := []) C0 hH hA (c_Ref_isLength l dC dI cA ad x1 _ _ h) Y_Ref_isLength k_828 ⟨Nat.le_of_ble_eq_true rfl, Nat.le_of_ble_eq_true rfl⟩ rfl rfl (Nat.le_of_ble_eq_true rfl) hl.1 d_Ref_step_1 ⟨Nat.le_refl 0, Nat.le_refl 0⟩ (fun r_1 H locs h hH => ?_)
  try dsimp only at h
  refine lv_if_eq (tgt := 18) hx hb d_Ref_step_4 (by decide) (fun c => ?_) (fun c => ?_)
  · have h := h.1 c
    refine lv_iconst (v := (-1)) hx hb d_Ref_step_18 (by decide) ?_
    exact q_reti C0 hH (mw, mg) rfl h d_Ref_step_19
  · have h := h.2 c
    refine lv_iload_n hx hb d_Ref_step_7 rfl (lv_at hl 2 rfl) ?_
    refine lv_iconst (v := 0) hx hb d_Ref_step_8 (by decide) ?_
    refine lv_iload_n hx hb d_Ref_step_9 rfl (lv_at hl 1 rfl) ?_
    refine lv_iconst (v := 1) hx hb d_Ref_step_10 (by decide) ?_
    refine lv_isub hx hb d_Ref_step_11 ?_
    refine q_calls (rest := []) C0 hH hA (c_Ref_in l dC dI cA ad x2 0 (x1 - 1) _ _ h) Y_Ref_in k_735 ⟨Nat.le_of_ble_eq_true rfl, Nat.le_of_ble_eq_true rfl⟩ rfl rfl (Nat.le_of_ble_eq_true rfl) hl.1 d_Ref_step_12 ⟨Nat.le_refl 0, Nat.le_refl 0⟩ (fun r_2 H locs h hH => ?_)
    try dsimp only at h
    refine lv_if_ne (tgt := 20) hx hb d_Ref_step_15 (by decide) (fun c => ?_) (fun c => ?_)
    · have h := h.1 c
      refine lv_aload_n hx hb d_Ref_step_20 rfl (lv_at hl 0 rfl) ?_
      refine lv_iload_n hx hb d_Ref_step_21 rfl (lv_at hl 1 rfl) ?_
      refine q_calli (rest := []) (ws' := fun u : (Nat → Int32) => [c_RE ad cA ma mn ms mb mt u mg md].flatten) C0 hH hA (c_Ref_plansOf l dC dI cA ad x1 ma mn ms mb mt mw mg md _ _ h) Y_Ref_plansOf k_831 0 rfl hc_8 (q_pg [0] [] [0] 1 1 rfl (by decide) rfl (fun _ => rfl) rfl (by decide) (fun _ => rfl)) ⟨Nat.le_of_ble_eq_true rfl, Nat.le_of_ble_eq_true rfl⟩ rfl rfl (Nat.le_of_ble_eq_true rfl) hl.1 d_Ref_step_22 ⟨Nat.le_refl 0, Nat.le_refl 0⟩ (fun r_3 u_3 H locs h hH => ?_)
      obtain ⟨mw_3, rfl⟩ : ∃ z, z = u_3 := ⟨_, rfl⟩
      try dsimp only at h
      have hH : q_H dC dI (va_A ([c_RE ad cA ma mn ms mb mt mw mg md].flatten) s.heap.size) s.heap H locs ([c_RE ad cA ma mn ms mb mt mw_3 mg md].flatten) := hH
      refine lv_if_ne (tgt := 31) hx hb d_Ref_step_25 (by decide) (fun c => ?_) (fun c => ?_)
      · have h := h.1 c
        refine lv_aload_n hx hb d_Ref_step_31 rfl (lv_at hl 0 rfl) ?_
        refine lv_iload_n hx hb d_Ref_step_32 rfl (lv_at hl 1 rfl) ?_
        refine lv_iload_n hx hb d_Ref_step_33 rfl (lv_at hl 2 rfl) ?_
        refine lv_iconst (v := 1) hx hb d_Ref_step_34 (by decide) ?_
        refine lv_iadd hx hb d_Ref_step_35 ?_
        refine q_callv (rest := []) (ws' := fun u : mGo => [c_RE ad cA ma mn ms mb mt mw_3 u md].flatten) C0 hH hA (c_Ref_goes l dC dI cA ad x1 (x2 + 1) ma mn ms mb mt mw_3 mg md _ _ h) Y_Ref_goes k_851 0 rfl hc_8 (q_pg [0] [] [0] 1 1 rfl (by decide) rfl (fun _ => rfl) rfl (by decide) (fun _ => rfl)) ⟨Nat.le_of_ble_eq_true rfl, Nat.le_of_ble_eq_true rfl⟩ rfl rfl (Nat.le_of_ble_eq_true rfl) hl.1 d_Ref_step_36 ⟨Nat.le_refl 0, Nat.le_refl 0⟩ (fun u_4 H locs h hH => ?_)
        obtain ⟨mg_4, rfl⟩ : ∃ z, z = u_4 := ⟨_, rfl⟩
        try dsimp only at h
        have hH : q_H dC dI (va_A ([c_RE ad cA ma mn ms mb mt mw mg md].flatten) s.heap.size) s.heap H locs ([c_RE ad cA ma mn ms mb mt mw_3 mg_4 md].flatten) := hH
        refine lv_aload_n hx hb d_Ref_step_39 rfl (lv_at hl 0 rfl) ?_
        refine q_get (v := .int mg_4.did) C0 hH 0 rfl hc_8 28 (by decide) k_650 rfl d_Ref_step_40 ?_
        refine lv_aload_n hx hb d_Ref_step_43 rfl (lv_at hl 0 rfl) ?_
        refine q_get (v := .int mt.actions) C0 hH 0 rfl hc_8 12 (by decide) k_634 rfl d_Ref_step_44 ?_
        refine lv_icmp_ne (tgt := 55) hx hb d_Ref_step_47 (by decide) (fun c => ?_) (fun c => ?_)
        · have h := h.1 c
          refine lv_aload_n hx hb d_Ref_step_55 rfl (lv_at hl 0 rfl) ?_
          refine q_get (v := .int mg_4.did) C0 hH 0 rfl hc_8 28 (by decide) k_650 rfl d_Ref_step_56 ?_
          exact q_reti C0 hH (mw_3, mg_4) rfl h d_Ref_step_59
        · have h := h.2 c
          refine lv_bipush (v := (-7)) hx hb d_Ref_step_50 (by decide) ?_
          refine lv_goto (tgt := 59) hx hb d_Ref_step_52 (by decide) ?_
          exact q_reti C0 hH (mw_3, mg_4) rfl h d_Ref_step_59
      · have h := h.2 c
        refine lv_bipush (v := (-9)) hx hb d_Ref_step_28 (by decide) ?_
        exact q_reti C0 hH (mw_3, mg) rfl h d_Ref_step_30
    · have h := h.2 c
      refine lv_iconst (v := (-1)) hx hb d_Ref_step_18 (by decide) ?_
      exact q_reti C0 hH (mw, mg) rfl h d_Ref_step_19
theorem d_Ref_state_0 : decode b_Ref_state 0 = .ok (.iload_n 1, 1) := by decide +kernel
theorem d_Ref_state_1 : decode b_Ref_state 1 = .ok (.invokestatic 140, 3) := by decide +kernel
theorem d_Ref_state_4 : decode b_Ref_state 4 = .ok (.ifCond .eq 12, 3) := by decide +kernel
theorem d_Ref_state_7 : decode b_Ref_state 7 = .ok (.iload_n 2, 1) := by decide +kernel
theorem d_Ref_state_8 : decode b_Ref_state 8 = .ok (.iconst 0, 1) := by decide +kernel
theorem d_Ref_state_9 : decode b_Ref_state 9 = .ok (.iload_n 1, 1) := by decide +kernel
theorem d_Ref_state_10 : decode b_Ref_state 10 = .ok (.invokestatic 59, 3) := by decide +kernel
theorem d_Ref_state_13 : decode b_Ref_state 13 = .ok (.ifCond .ne 5, 3) := by decide +kernel
theorem d_Ref_state_16 : decode b_Ref_state 16 = .ok (.iconst (-1), 1) := by decide +kernel
theorem d_Ref_state_17 : decode b_Ref_state 17 = .ok (.ireturn, 1) := by decide +kernel
theorem d_Ref_state_18 : decode b_Ref_state 18 = .ok (.aload_n 0, 1) := by decide +kernel
theorem d_Ref_state_19 : decode b_Ref_state 19 = .ok (.iload_n 1, 1) := by decide +kernel
theorem d_Ref_state_20 : decode b_Ref_state 20 = .ok (.invokevirtual 143, 3) := by decide +kernel
theorem d_Ref_state_23 : decode b_Ref_state 23 = .ok (.ifCond .ne 6, 3) := by decide +kernel
theorem d_Ref_state_26 : decode b_Ref_state 26 = .ok (.bipush (-9), 2) := by decide +kernel
theorem d_Ref_state_28 : decode b_Ref_state 28 = .ok (.ireturn, 1) := by decide +kernel
theorem d_Ref_state_29 : decode b_Ref_state 29 = .ok (.aload_n 0, 1) := by decide +kernel
theorem d_Ref_state_30 : decode b_Ref_state 30 = .ok (.iload_n 1, 1) := by decide +kernel
theorem d_Ref_state_31 : decode b_Ref_state 31 = .ok (.iload_n 2, 1) := by decide +kernel
theorem d_Ref_state_32 : decode b_Ref_state 32 = .ok (.invokevirtual 152, 3) := by decide +kernel
theorem d_Ref_state_35 : decode b_Ref_state 35 = .ok (.aload_n 0, 1) := by decide +kernel
theorem d_Ref_state_36 : decode b_Ref_state 36 = .ok (.getfield 149, 3) := by decide +kernel
theorem d_Ref_state_39 : decode b_Ref_state 39 = .ok (.ireturn, 1) := by decide +kernel
set_option maxHeartbeats 4000000 in
set_option maxRecDepth 100000 in
theorem c_Ref_state (l : Launch) (dC : Nat → ClassId) (dI : Nat → Nat → Nat) (cA : ClassId) (ad : Nat → Nat) (x1 : Int32) (x2 : Int32) (ma : mForm) (mn : mKnow) (ms : mSat) (mb : mBack) (mt : mTask) (mw : (Nat → Int32)) (mg : mGo) (md : mCode) (Q : Int32 → (Nat → Int32) → mGo → Prop) (sz : Nat) (h : w_Ref_state x1 x2 mt mw mg Q) :
    q_Mi l y_Ref_state b_Ref_state 3 (some .int) 3 70 [.ref (ad 28), .int x1, .int x2] dC dI cA ([c_RE ad cA ma mn ms mb mt mw mg md].flatten) (fun u : (Nat → Int32) × mGo => [c_RE ad cA ma mn ms mb mt u.1 u.2 md].flatten) sz (fun r u => Q r u.1 u.2) := by
  refine q_meti (plainFor_of_name (by decide +kernel)) (Nat.le_of_ble_eq_true rfl) (fun {p e s m below meth c ls} C0 hl hH => ?_)
  obtain ⟨hx, hb, -⟩ := id C0
  have hA : ∀ q, s.heap.size ≤ q → va_A ([c_RE ad cA ma mn ms mb mt mw mg md].flatten) s.heap.size q := q_nA
  have hl : lv_has ls 3 [(0, .ref (ad 28)), (1, .int x1), (2, .int x2)] := hl
  unfold w_Ref_state at h
  refine lv_iload_n hx hb d_Ref_state_0 rfl (lv_at hl 1 rfl) ?_
  refine q_calls (rest := []) C0 hH hA (c_Ref_isLength l dC dI cA ad x1 _ _ h) Y_Ref_isLength k_828 ⟨Nat.le_of_ble_eq_true rfl, Nat.le_of_ble_eq_true rfl⟩ rfl rfl (Nat.le_of_ble_eq_true rfl) hl.1 d_Ref_state_1 ⟨Nat.le_refl 0, Nat.le_refl 0⟩ (fun r_1 H locs h hH => ?_)
  try dsimp only at h
  refine lv_if_eq (tgt := 16) hx hb d_Ref_state_4 (by decide) (fun c => ?_) (fun c => ?_)
  · have h := h.1 c
    refine lv_iconst (v := (-1)) hx hb d_Ref_state_16 (by decide) ?_
    exact q_reti C0 hH (mw, mg) rfl h d_Ref_state_17
  · have h := h.2 c
    refine lv_iload_n hx hb d_Ref_state_7 rfl (lv_at hl 2 rfl) ?_
    refine lv_iconst (v := 0) hx hb d_Ref_state_8 (by decide) ?_
    refine lv_iload_n hx hb d_Ref_state_9 rfl (lv_at hl 1 rfl) ?_
    refine q_calls (rest := []) C0 hH hA (c_Ref_in l dC dI cA ad x2 0 x1 _ _ h) Y_Ref_in k_735 ⟨Nat.le_of_ble_eq_true rfl, Nat.le_of_ble_eq_true rfl⟩ rfl rfl (Nat.le_of_ble_eq_true rfl) hl.1 d_Ref_state_10 ⟨Nat.le_refl 0, Nat.le_refl 0⟩ (fun r_2 H locs h hH => ?_)
    try dsimp only at h
    refine lv_if_ne (tgt := 18) hx hb d_Ref_state_13 (by decide) (fun c => ?_) (fun c => ?_)
    · have h := h.1 c
      refine lv_aload_n hx hb d_Ref_state_18 rfl (lv_at hl 0 rfl) ?_
      refine lv_iload_n hx hb d_Ref_state_19 rfl (lv_at hl 1 rfl) ?_
      refine q_calli (rest := []) (ws' := fun u : (Nat → Int32) => [c_RE ad cA ma mn ms mb mt u mg md].flatten) C0 hH hA (c_Ref_plansOf l dC dI cA ad x1 ma mn ms mb mt mw mg md _ _ h) Y_Ref_plansOf k_831 0 rfl hc_8 (q_pg [0] [] [0] 1 1 rfl (by decide) rfl (fun _ => rfl) rfl (by decide) (fun _ => rfl)) ⟨Nat.le_of_ble_eq_true rfl, Nat.le_of_ble_eq_true rfl⟩ rfl rfl (Nat.le_of_ble_eq_true rfl) hl.1 d_Ref_state_20 ⟨Nat.le_refl 0, Nat.le_refl 0⟩ (fun r_3 u_3 H locs h hH => ?_)
      obtain ⟨mw_3, rfl⟩ : ∃ z, z = u_3 := ⟨_, rfl⟩
      try dsimp only at h
      have hH : q_H dC dI (va_A ([c_RE ad cA ma mn ms mb mt mw mg md].flatten) s.heap.size) s.heap H locs ([c_RE ad cA ma mn ms mb mt mw_3 mg md].flatten) := hH
      refine lv_if_ne (tgt := 29) hx hb d_Ref_state_23 (by decide) (fun c => ?_) (fun c => ?_)
      · have h := h.1 c
        refine lv_aload_n hx hb d_Ref_state_29 rfl (lv_at hl 0 rfl) ?_
        refine lv_iload_n hx hb d_Ref_state_30 rfl (lv_at hl 1 rfl) ?_
        refine lv_iload_n hx hb d_Ref_state_31 rfl (lv_at hl 2 rfl) ?_
        refine q_callv (rest := []) (ws' := fun u : mGo => [c_RE ad cA ma mn ms mb mt mw_3 u md].flatten) C0 hH hA (c_Ref_goes l dC dI cA ad x1 x2 ma mn ms mb mt mw_3 mg md _ _ h) Y_Ref_goes k_851 0 rfl hc_8 (q_pg [0] [] [0] 1 1 rfl (by decide) rfl (fun _ => rfl) rfl (by decide) (fun _ => rfl)) ⟨Nat.le_of_ble_eq_true rfl, Nat.le_of_ble_eq_true rfl⟩ rfl rfl (Nat.le_of_ble_eq_true rfl) hl.1 d_Ref_state_32 ⟨Nat.le_refl 0, Nat.le_refl 0⟩ (fun u_4 H locs h hH => ?_)
        obtain ⟨mg_4, rfl⟩ : ∃ z, z = u_4 := ⟨_, rfl⟩
        try dsimp only at h
        have hH : q_H dC dI (va_A ([c_RE ad cA ma mn ms mb mt mw mg md].flatten) s.heap.size) s.heap H locs ([c_RE ad cA ma mn ms mb mt mw_3 mg_4 md].flatten) := hH
        refine lv_aload_n hx hb d_Ref_state_35 rfl (lv_at hl 0 rfl) ?_
        refine q_get (v := .int mg_4.stood) C0 hH 0 rfl hc_8 29 (by decide) k_651 rfl d_Ref_state_36 ?_
        exact q_reti C0 hH (mw_3, mg_4) rfl h d_Ref_state_39
      · have h := h.2 c
        refine lv_bipush (v := (-9)) hx hb d_Ref_state_26 (by decide) ?_
        exact q_reti C0 hH (mw_3, mg) rfl h d_Ref_state_28
    · have h := h.2 c
      refine lv_iconst (v := (-1)) hx hb d_Ref_state_16 (by decide) ?_
      exact q_reti C0 hH (mw, mg) rfl h d_Ref_state_17
theorem d_Ref_shortest_0 : decode b_Ref_shortest 0 = .ok (.iconst 0, 1) := by decide +kernel
theorem d_Ref_shortest_1 : decode b_Ref_shortest 1 = .ok (.istore_n 1, 1) := by decide +kernel
theorem d_Ref_shortest_2 : decode b_Ref_shortest 2 = .ok (.iload_n 1, 1) := by decide +kernel
theorem d_Ref_shortest_3 : decode b_Ref_shortest 3 = .ok (.iconst 5, 1) := by decide +kernel
theorem d_Ref_shortest_4 : decode b_Ref_shortest 4 = .ok (.if_icmp .gt 19, 3) := by decide +kernel
theorem d_Ref_shortest_7 : decode b_Ref_shortest 7 = .ok (.aload_n 0, 1) := by decide +kernel
theorem d_Ref_shortest_8 : decode b_Ref_shortest 8 = .ok (.iload_n 1, 1) := by decide +kernel
theorem d_Ref_shortest_9 : decode b_Ref_shortest 9 = .ok (.invokevirtual 143, 3) := by decide +kernel
theorem d_Ref_shortest_12 : decode b_Ref_shortest 12 = .ok (.ifCond .le 5, 3) := by decide +kernel
theorem d_Ref_shortest_15 : decode b_Ref_shortest 15 = .ok (.iload_n 1, 1) := by decide +kernel
theorem d_Ref_shortest_16 : decode b_Ref_shortest 16 = .ok (.ireturn, 1) := by decide +kernel
theorem d_Ref_shortest_17 : decode b_Ref_shortest 17 = .ok (.iinc 1 1, 3) := by decide +kernel
theorem d_Ref_shortest_20 : decode b_Ref_shortest 20 = .ok (.goto (-18), 3) := by decide +kernel
theorem d_Ref_shortest_23 : decode b_Ref_shortest 23 = .ok (.bipush (-9), 2) := by decide +kernel
theorem d_Ref_shortest_25 : decode b_Ref_shortest 25 = .ok (.ireturn, 1) := by decide +kernel
set_option maxHeartbeats 4000000 in
set_option maxRecDepth 100000 in
theorem x_Ref_shortest_L2 {p : Program} {e : Env} {s : State} {m : MethodId} {args : Array Value} {below : List Frame} {meth : Method} {c : Code} {l : Launch} {dC : Nat → ClassId} {dI : Nat → Nat → Nat} {cA : ClassId} {ad : Nat → Nat} {w0 : va_W} (C0 : q_C p s m args meth c b_Ref_shortest 2 (some .int) "PlanClausesModel" dC dI cA) (hA : ∀ q, s.heap.size ≤ q → va_A w0 s.heap.size q) (ma : mForm) (mn : mKnow) (ms : mSat) (mb : mBack) (mt : mTask) (mg : mGo) (md : mCode) {Q : Int32 → (Nat → Int32) → Prop} {K23 : (Nat → Int32) → Prop}
    (hK23 : ∀ (mw : (Nat → Int32)) (H : Heap) (locs : List Loc) (ls : Array Slot), K23 mw → lv_has ls 2 [] → q_H dC dI (va_A w0 s.heap.size) s.heap H locs ([c_RE ad cA ma mn ms mb mt mw mg md].flatten) → W p l e (q_R 3 70) s m args below meth c H locs 0 0 (q_Zi below args s dC dI cA w0 (fun u : (Nat → Int32) => [c_RE ad cA ma mn ms mb mt u mg md].flatten) (fun r u => Q r u)) (F0 m 23 ls [])) :
    ∀ (nn : Nat) (x1 : Int32) (mw : (Nat → Int32)) (H : Heap) (locs : List Loc) (ls : Array Slot), w_Ref_shortest_L2 mt K23 Q nn x1 mw → lv_has ls 2 [(0, .ref (ad 28)), (1, .int x1)] → q_H dC dI (va_A w0 s.heap.size) s.heap H locs ([c_RE ad cA ma mn ms mb mt mw mg md].flatten) → W p l e (q_R 3 70) s m args below meth c H locs 0 0 (q_Zi below args s dC dI cA w0 (fun u : (Nat → Int32) => [c_RE ad cA ma mn ms mb mt u mg md].flatten) (fun r u => Q r u)) (F0 m 2 ls []) := by
  obtain ⟨hx, hb, -⟩ := id C0
  intro nn
  induction nn with
  | zero =>
    intro x1 mw H locs ls h
    exact (show False from h).elim
  | succ nn ih =>
    intro x1 mw H locs ls h hl hH
    rw [w_Ref_shortest_L2] at h
    refine lv_iload_n hx hb d_Ref_shortest_2 rfl (lv_at hl 1 rfl) ?_
    refine lv_iconst (v := 5) hx hb d_Ref_shortest_3 (by decide) ?_
    refine lv_icmp_gt (tgt := 23) hx hb d_Ref_shortest_4 (by decide) (fun c => ?_) (fun c => ?_)
    · have h := h.1 c
      exact hK23 mw _ _ _ h (lv_sub hl [] rfl) hH
    · have h := h.2 c
      refine lv_aload_n hx hb d_Ref_shortest_7 rfl (lv_at hl 0 rfl) ?_
      refine lv_iload_n hx hb d_Ref_shortest_8 rfl (lv_at hl 1 rfl) ?_
      refine q_calli (rest := []) (ws' := fun u : (Nat → Int32) => [c_RE ad cA ma mn ms mb mt u mg md].flatten) C0 hH hA (c_Ref_plansOf l dC dI cA ad x1 ma mn ms mb mt mw mg md _ _ h) Y_Ref_plansOf k_831 0 rfl hc_8 (q_pg [0] [] [0] 1 1 rfl (by decide) rfl (fun _ => rfl) rfl (by decide) (fun _ => rfl)) ⟨Nat.le_of_ble_eq_true rfl, Nat.le_of_ble_eq_true rfl⟩ rfl rfl (Nat.le_of_ble_eq_true rfl) hl.1 d_Ref_shortest_9 ⟨Nat.le_refl 0, Nat.le_refl 0⟩ (fun r_1 u_1 H locs h hH => ?_)
      obtain ⟨mw_1, rfl⟩ : ∃ z, z = u_1 := ⟨_, rfl⟩
      try dsimp only at h
      have hH : q_H dC dI (va_A w0 s.heap.size) s.heap H locs ([c_RE ad cA ma mn ms mb mt mw_1 mg md].flatten) := hH
      refine lv_if_le (tgt := 17) hx hb d_Ref_shortest_12 (by decide) (fun c => ?_) (fun c => ?_)
      · have h := h.1 c
        refine lv_iinc (v := (x1 + 1)) (lv' := [(1, .int (x1 + 1)), (0, .ref (ad 28))]) hx hb d_Ref_shortest_17 hl (k := 1) rfl rfl (by decide) rfl (fun ls hl => ?_)
        refine lv_goto (tgt := 2) hx hb d_Ref_shortest_20 (by decide) ?_
        exact ih (x1 + 1) mw_1 _ _ _ h (lv_sub hl [1, 0] rfl) hH
      · have h := h.2 c
        refine lv_iload_n hx hb d_Ref_shortest_15 rfl (lv_at hl 1 rfl) ?_
        exact q_reti C0 hH mw_1 rfl h d_Ref_shortest_16
set_option maxHeartbeats 4000000 in
set_option maxRecDepth 100000 in
theorem c_Ref_shortest (l : Launch) (dC : Nat → ClassId) (dI : Nat → Nat → Nat) (cA : ClassId) (ad : Nat → Nat) (ma : mForm) (mn : mKnow) (ms : mSat) (mb : mBack) (mt : mTask) (mw : (Nat → Int32)) (mg : mGo) (md : mCode) (Q : Int32 → (Nat → Int32) → Prop) (sz : Nat) (h : w_Ref_shortest mt mw Q) :
    q_Mi l y_Ref_shortest b_Ref_shortest 2 (some .int) 3 70 [.ref (ad 28)] dC dI cA ([c_RE ad cA ma mn ms mb mt mw mg md].flatten) (fun u : (Nat → Int32) => [c_RE ad cA ma mn ms mb mt u mg md].flatten) sz (fun r u => Q r u) := by
  refine q_meti (plainFor_of_name (by decide +kernel)) (Nat.le_of_ble_eq_true rfl) (fun {p e s m below meth c ls} C0 hl hH => ?_)
  obtain ⟨hx, hb, -⟩ := id C0
  have hA : ∀ q, s.heap.size ≤ q → va_A ([c_RE ad cA ma mn ms mb mt mw mg md].flatten) s.heap.size q := q_nA
  have hl : lv_has ls 2 [(0, .ref (ad 28))] := hl
  unfold w_Ref_shortest at h
  refine lv_iconst (v := 0) hx hb d_Ref_shortest_0 (by decide) ?_
  refine lv_istore_n (lv' := [(1, .int 0), (0, .ref (ad 28))]) hx hb d_Ref_shortest_1 rfl hl (by decide) rfl (fun ls hl => ?_)
  obtain ⟨nn, h⟩ := h
  refine x_Ref_shortest_L2 C0 hA ma mn ms mb mt mg md ?_ nn 0 mw _ _ _ h (lv_sub hl [1, 0] rfl) hH
  · intro mw_1 H locs ls h hl hH
    try dsimp only at h
    refine lv_bipush (v := (-9)) hx hb d_Ref_shortest_23 (by decide) ?_
    exact q_reti C0 hH mw_1 rfl h d_Ref_shortest_25
theorem d_Ref_plans_0 : decode b_Ref_plans 0 = .ok (.iload_n 1, 1) := by decide +kernel
theorem d_Ref_plans_1 : decode b_Ref_plans 1 = .ok (.invokestatic 140, 3) := by decide +kernel
theorem d_Ref_plans_4 : decode b_Ref_plans 4 = .ok (.ifCond .eq 11, 3) := by decide +kernel
theorem d_Ref_plans_7 : decode b_Ref_plans 7 = .ok (.aload_n 0, 1) := by decide +kernel
theorem d_Ref_plans_8 : decode b_Ref_plans 8 = .ok (.iload_n 1, 1) := by decide +kernel
theorem d_Ref_plans_9 : decode b_Ref_plans 9 = .ok (.invokevirtual 143, 3) := by decide +kernel
theorem d_Ref_plans_12 : decode b_Ref_plans 12 = .ok (.goto 4, 3) := by decide +kernel
theorem d_Ref_plans_15 : decode b_Ref_plans 15 = .ok (.iconst (-1), 1) := by decide +kernel
theorem d_Ref_plans_16 : decode b_Ref_plans 16 = .ok (.ireturn, 1) := by decide +kernel
set_option maxHeartbeats 4000000 in
set_option maxRecDepth 100000 in
theorem c_Ref_plans (l : Launch) (dC : Nat → ClassId) (dI : Nat → Nat → Nat) (cA : ClassId) (ad : Nat → Nat) (x1 : Int32) (ma : mForm) (mn : mKnow) (ms : mSat) (mb : mBack) (mt : mTask) (mw : (Nat → Int32)) (mg : mGo) (md : mCode) (Q : Int32 → (Nat → Int32) → Prop) (sz : Nat) (h : w_Ref_plans x1 mt mw Q) :
    q_Mi l y_Ref_plans b_Ref_plans 2 (some .int) 3 70 [.ref (ad 28), .int x1] dC dI cA ([c_RE ad cA ma mn ms mb mt mw mg md].flatten) (fun u : (Nat → Int32) => [c_RE ad cA ma mn ms mb mt u mg md].flatten) sz (fun r u => Q r u) := by
  refine q_meti (plainFor_of_name (by decide +kernel)) (Nat.le_of_ble_eq_true rfl) (fun {p e s m below meth c ls} C0 hl hH => ?_)
  obtain ⟨hx, hb, -⟩ := id C0
  have hA : ∀ q, s.heap.size ≤ q → va_A ([c_RE ad cA ma mn ms mb mt mw mg md].flatten) s.heap.size q := q_nA
  have hl : lv_has ls 2 [(0, .ref (ad 28)), (1, .int x1)] := hl
  unfold w_Ref_plans at h
  refine lv_iload_n hx hb d_Ref_plans_0 rfl (lv_at hl 1 rfl) ?_
  refine q_calls (rest := []) C0 hH hA (c_Ref_isLength l dC dI cA ad x1 _ _ h) Y_Ref_isLength k_828 ⟨Nat.le_of_ble_eq_true rfl, Nat.le_of_ble_eq_true rfl⟩ rfl rfl (Nat.le_of_ble_eq_true rfl) hl.1 d_Ref_plans_1 ⟨Nat.le_refl 0, Nat.le_refl 0⟩ (fun r_1 H locs h hH => ?_)
  try dsimp only at h
  refine lv_if_eq (tgt := 15) hx hb d_Ref_plans_4 (by decide) (fun c => ?_) (fun c => ?_)
  · have h := h.1 c
    refine lv_iconst (v := (-1)) hx hb d_Ref_plans_15 (by decide) ?_
    exact q_reti C0 hH mw rfl h d_Ref_plans_16
  · have h := h.2 c
    refine lv_aload_n hx hb d_Ref_plans_7 rfl (lv_at hl 0 rfl) ?_
    refine lv_iload_n hx hb d_Ref_plans_8 rfl (lv_at hl 1 rfl) ?_
    refine q_calli (rest := []) (ws' := fun u : (Nat → Int32) => [c_RE ad cA ma mn ms mb mt u mg md].flatten) C0 hH hA (c_Ref_plansOf l dC dI cA ad x1 ma mn ms mb mt mw mg md _ _ h) Y_Ref_plansOf k_831 0 rfl hc_8 (q_pg [0] [] [0] 1 1 rfl (by decide) rfl (fun _ => rfl) rfl (by decide) (fun _ => rfl)) ⟨Nat.le_of_ble_eq_true rfl, Nat.le_of_ble_eq_true rfl⟩ rfl rfl (Nat.le_of_ble_eq_true rfl) hl.1 d_Ref_plans_9 ⟨Nat.le_refl 0, Nat.le_refl 0⟩ (fun r_2 u_2 H locs h hH => ?_)
    obtain ⟨mw_2, rfl⟩ : ∃ z, z = u_2 := ⟨_, rfl⟩
    try dsimp only at h
    have hH : q_H dC dI (va_A ([c_RE ad cA ma mn ms mb mt mw mg md].flatten) s.heap.size) s.heap H locs ([c_RE ad cA ma mn ms mb mt mw_2 mg md].flatten) := hH
    refine lv_goto (tgt := 16) hx hb d_Ref_plans_12 (by decide) ?_
    exact q_reti C0 hH mw_2 rfl h d_Ref_plans_16
theorem d_Ref_factAt_0 : decode b_Ref_factAt 0 = .ok (.iconst 1, 1) := by decide +kernel
theorem d_Ref_factAt_1 : decode b_Ref_factAt 1 = .ok (.iload_n 2, 1) := by decide +kernel
theorem d_Ref_factAt_2 : decode b_Ref_factAt 2 = .ok (.aload_n 0, 1) := by decide +kernel
theorem d_Ref_factAt_3 : decode b_Ref_factAt 3 = .ok (.getfield 118, 3) := by decide +kernel
theorem d_Ref_factAt_6 : decode b_Ref_factAt 6 = .ok (.imul, 1) := by decide +kernel
theorem d_Ref_factAt_7 : decode b_Ref_factAt 7 = .ok (.iadd, 1) := by decide +kernel
theorem d_Ref_factAt_8 : decode b_Ref_factAt 8 = .ok (.iload_n 1, 1) := by decide +kernel
theorem d_Ref_factAt_9 : decode b_Ref_factAt 9 = .ok (.iadd, 1) := by decide +kernel
theorem d_Ref_factAt_10 : decode b_Ref_factAt 10 = .ok (.ireturn, 1) := by decide +kernel
set_option maxHeartbeats 4000000 in
set_option maxRecDepth 100000 in
theorem c_Ref_factAt (l : Launch) (dC : Nat → ClassId) (dI : Nat → Nat → Nat) (cA : ClassId) (ad : Nat → Nat) (x1 : Int32) (x2 : Int32) (ma : mForm) (mn : mKnow) (ms : mSat) (mb : mBack) (mt : mTask) (mw : (Nat → Int32)) (mg : mGo) (md : mCode) (Q : Int32 → Prop) (sz : Nat) (h : w_Ref_factAt x1 x2 mt Q) :
    q_Mi l y_Ref_factAt b_Ref_factAt 3 (some .int) 0 0 [.ref (ad 28), .int x1, .int x2] dC dI cA ([c_RE ad cA ma mn ms mb mt mw mg md].flatten) (fun _ : Unit => [c_RE ad cA ma mn ms mb mt mw mg md].flatten) sz (fun r _ => Q r) := by
  refine q_meti (plainFor_of_name (by decide +kernel)) (Nat.le_of_ble_eq_true rfl) (fun {p e s m below meth c ls} C0 hl hH => ?_)
  obtain ⟨hx, hb, -⟩ := id C0
  have hA : ∀ q, s.heap.size ≤ q → va_A ([c_RE ad cA ma mn ms mb mt mw mg md].flatten) s.heap.size q := q_nA
  have hl : lv_has ls 3 [(0, .ref (ad 28)), (1, .int x1), (2, .int x2)] := hl
  unfold w_Ref_factAt at h
  refine lv_iconst (v := 1) hx hb d_Ref_factAt_0 (by decide) ?_
  refine lv_iload_n hx hb d_Ref_factAt_1 rfl (lv_at hl 2 rfl) ?_
  refine lv_aload_n hx hb d_Ref_factAt_2 rfl (lv_at hl 0 rfl) ?_
  refine q_get (v := .int mt.facts) C0 hH 0 rfl hc_8 11 (by decide) k_633 rfl d_Ref_factAt_3 ?_
  refine lv_imul hx hb d_Ref_factAt_6 ?_
  refine lv_iadd hx hb d_Ref_factAt_7 ?_
  refine lv_iload_n hx hb d_Ref_factAt_8 rfl (lv_at hl 1 rfl) ?_
  refine lv_iadd hx hb d_Ref_factAt_9 ?_
  exact q_reti C0 hH () rfl h d_Ref_factAt_10
theorem d_Ref_says_0 : decode b_Ref_says 0 = .ok (.aload_n 0, 1) := by decide +kernel
theorem d_Ref_says_1 : decode b_Ref_says 1 = .ok (.getfield 156, 3) := by decide +kernel
theorem d_Ref_says_4 : decode b_Ref_says 4 = .ok (.aload_n 0, 1) := by decide +kernel
theorem d_Ref_says_5 : decode b_Ref_says 5 = .ok (.getfield 159, 3) := by decide +kernel
theorem d_Ref_says_8 : decode b_Ref_says 8 = .ok (.if_icmp .ne 13, 3) := by decide +kernel
theorem d_Ref_says_11 : decode b_Ref_says 11 = .ok (.aload_n 0, 1) := by decide +kernel
theorem d_Ref_says_12 : decode b_Ref_says 12 = .ok (.getfield 52, 3) := by decide +kernel
theorem d_Ref_says_15 : decode b_Ref_says 15 = .ok (.aload_n 0, 1) := by decide +kernel
theorem d_Ref_says_16 : decode b_Ref_says 16 = .ok (.getfield 162, 3) := by decide +kernel
theorem d_Ref_says_19 : decode b_Ref_says 19 = .ok (.iload_n 1, 1) := by decide +kernel
theorem d_Ref_says_20 : decode b_Ref_says 20 = .ok (.iastore, 1) := by decide +kernel
theorem d_Ref_says_21 : decode b_Ref_says 21 = .ok (.aload_n 0, 1) := by decide +kernel
theorem d_Ref_says_22 : decode b_Ref_says 22 = .ok (.dup, 1) := by decide +kernel
theorem d_Ref_says_23 : decode b_Ref_says 23 = .ok (.getfield 162, 3) := by decide +kernel
theorem d_Ref_says_26 : decode b_Ref_says 26 = .ok (.iconst 1, 1) := by decide +kernel
theorem d_Ref_says_27 : decode b_Ref_says 27 = .ok (.iadd, 1) := by decide +kernel
theorem d_Ref_says_28 : decode b_Ref_says 28 = .ok (.putfield 162, 3) := by decide +kernel
theorem d_Ref_says_31 : decode b_Ref_says 31 = .ok (.aload_n 0, 1) := by decide +kernel
theorem d_Ref_says_32 : decode b_Ref_says 32 = .ok (.dup, 1) := by decide +kernel
theorem d_Ref_says_33 : decode b_Ref_says 33 = .ok (.getfield 165, 3) := by decide +kernel
theorem d_Ref_says_36 : decode b_Ref_says 36 = .ok (.iconst 1, 1) := by decide +kernel
theorem d_Ref_says_37 : decode b_Ref_says 37 = .ok (.iadd, 1) := by decide +kernel
theorem d_Ref_says_38 : decode b_Ref_says 38 = .ok (.putfield 165, 3) := by decide +kernel
theorem d_Ref_says_41 : decode b_Ref_says 41 = .ok (.return_, 1) := by decide +kernel
set_option maxHeartbeats 4000000 in
set_option maxRecDepth 100000 in
theorem c_Ref_says (l : Launch) (dC : Nat → ClassId) (dI : Nat → Nat → Nat) (cA : ClassId) (ad : Nat → Nat) (x1 : Int32) (ma : mForm) (mn : mKnow) (ms : mSat) (mb : mBack) (mt : mTask) (mw : (Nat → Int32)) (mg : mGo) (md : mCode) (Q : mCode → Prop) (sz : Nat) (h : w_Ref_says x1 md Q) :
    q_Mv l y_Ref_says b_Ref_says 2 0 0 [.ref (ad 28), .int x1] dC dI cA ([c_RE ad cA ma mn ms mb mt mw mg md].flatten) (fun u : mCode => [c_RE ad cA ma mn ms mb mt mw mg u].flatten) sz (fun u => Q u) := by
  refine q_metv (plainFor_of_name (by decide +kernel)) (Nat.le_of_ble_eq_true rfl) (fun {p e s m below meth c ls} C0 hl hH => ?_)
  obtain ⟨hx, hb, -⟩ := id C0
  have hA : ∀ q, s.heap.size ≤ q → va_A ([c_RE ad cA ma mn ms mb mt mw mg md].flatten) s.heap.size q := q_nA
  have hl : lv_has ls 2 [(0, .ref (ad 28)), (1, .int x1)] := hl
  unfold w_Ref_says at h
  refine lv_aload_n hx hb d_Ref_says_0 rfl (lv_at hl 0 rfl) ?_
  refine q_get (v := .int md.codedClauses) C0 hH 0 rfl hc_8 30 (by decide) k_652 rfl d_Ref_says_1 ?_
  refine lv_aload_n hx hb d_Ref_says_4 rfl (lv_at hl 0 rfl) ?_
  refine q_get (v := .int md.wanted) C0 hH 0 rfl hc_8 32 (by decide) k_654 rfl d_Ref_says_5 ?_
  refine lv_icmp_ne (tgt := 21) hx hb d_Ref_says_8 (by decide) (fun c => ?_) (fun c => ?_)
  · have h := h.1 c
    refine lv_aload_n hx hb d_Ref_says_21 rfl (lv_at hl 0 rfl) ?_
    refine lv_dup hx hb d_Ref_says_22 rfl ?_
    refine q_get (v := .int md.inHand) C0 hH 0 rfl hc_8 35 (by decide) k_657 rfl d_Ref_says_23 ?_
    refine lv_iconst (v := 1) hx hb d_Ref_says_26 (by decide) ?_
    refine lv_iadd hx hb d_Ref_says_27 ?_
    refine q_puti (ws' := [c_RE ad cA ma mn ms mb mt mw mg (mCode.mk md.codedClauses md.codedLiterals md.wanted md.wantedSize md.kept (md.inHand + 1))].flatten) C0 hH 0 rfl hc_8 35 (by decide) k_657 rfl rfl (Nat.le_of_ble_eq_true rfl) rfl d_Ref_says_28 (fun H locs hH => ?_)
    refine lv_aload_n hx hb d_Ref_says_31 rfl (lv_at hl 0 rfl) ?_
    refine lv_dup hx hb d_Ref_says_32 rfl ?_
    refine q_get (v := .int md.codedLiterals) C0 hH 0 rfl hc_8 31 (by decide) k_653 rfl d_Ref_says_33 ?_
    refine lv_iconst (v := 1) hx hb d_Ref_says_36 (by decide) ?_
    refine lv_iadd hx hb d_Ref_says_37 ?_
    refine q_puti (ws' := [c_RE ad cA ma mn ms mb mt mw mg (mCode.mk md.codedClauses (md.codedLiterals + 1) md.wanted md.wantedSize md.kept (md.inHand + 1))].flatten) C0 hH 0 rfl hc_8 31 (by decide) k_653 rfl rfl (Nat.le_of_ble_eq_true rfl) rfl d_Ref_says_38 (fun H locs hH => ?_)
    exact q_retv C0 hH (mCode.mk md.codedClauses (md.codedLiterals + 1) md.wanted md.wantedSize md.kept (md.inHand + 1)) rfl h d_Ref_says_41
  · have h := h.2 c
    refine lv_aload_n hx hb d_Ref_says_11 rfl (lv_at hl 0 rfl) ?_
    refine q_get (v := .ref (ad 43)) C0 hH 0 rfl hc_8 34 (by decide) k_656 rfl d_Ref_says_12 ?_
    refine lv_aload_n hx hb d_Ref_says_15 rfl (lv_at hl 0 rfl) ?_
    refine q_get (v := .int md.inHand) C0 hH 0 rfl hc_8 35 (by decide) k_657 rfl d_Ref_says_16 ?_
    refine lv_iload_n hx hb d_Ref_says_19 rfl (lv_at hl 1 rfl) ?_
    obtain ⟨hi, h⟩ := h
    refine q_ast (ws' := [c_RE ad cA ma mn ms mb mt mw mg (mCode.mk md.codedClauses md.codedLiterals md.wanted md.wantedSize (upd md.kept md.inHand.toNatClampNeg x1) md.inHand)].flatten) (f := md.kept) C0 hH 15 rfl hi rfl d_Ref_says_20 (fun H locs hH => ?_)
    refine lv_aload_n hx hb d_Ref_says_21 rfl (lv_at hl 0 rfl) ?_
    refine lv_dup hx hb d_Ref_says_22 rfl ?_
    refine q_get (v := .int md.inHand) C0 hH 0 rfl hc_8 35 (by decide) k_657 rfl d_Ref_says_23 ?_
    refine lv_iconst (v := 1) hx hb d_Ref_says_26 (by decide) ?_
    refine lv_iadd hx hb d_Ref_says_27 ?_
    refine q_puti (ws' := [c_RE ad cA ma mn ms mb mt mw mg (mCode.mk md.codedClauses md.codedLiterals md.wanted md.wantedSize (upd md.kept md.inHand.toNatClampNeg x1) (md.inHand + 1))].flatten) C0 hH 0 rfl hc_8 35 (by decide) k_657 rfl rfl (Nat.le_of_ble_eq_true rfl) rfl d_Ref_says_28 (fun H locs hH => ?_)
    refine lv_aload_n hx hb d_Ref_says_31 rfl (lv_at hl 0 rfl) ?_
    refine lv_dup hx hb d_Ref_says_32 rfl ?_
    refine q_get (v := .int md.codedLiterals) C0 hH 0 rfl hc_8 31 (by decide) k_653 rfl d_Ref_says_33 ?_
    refine lv_iconst (v := 1) hx hb d_Ref_says_36 (by decide) ?_
    refine lv_iadd hx hb d_Ref_says_37 ?_
    refine q_puti (ws' := [c_RE ad cA ma mn ms mb mt mw mg (mCode.mk md.codedClauses (md.codedLiterals + 1) md.wanted md.wantedSize (upd md.kept md.inHand.toNatClampNeg x1) (md.inHand + 1))].flatten) C0 hH 0 rfl hc_8 31 (by decide) k_653 rfl rfl (Nat.le_of_ble_eq_true rfl) rfl d_Ref_says_38 (fun H locs hH => ?_)
    exact q_retv C0 hH (mCode.mk md.codedClauses (md.codedLiterals + 1) md.wanted md.wantedSize (upd md.kept md.inHand.toNatClampNeg x1) (md.inHand + 1)) rfl h d_Ref_says_41
theorem d_Ref_ends_0 : decode b_Ref_ends 0 = .ok (.aload_n 0, 1) := by decide +kernel
theorem d_Ref_ends_1 : decode b_Ref_ends 1 = .ok (.aload_n 0, 1) := by decide +kernel
theorem d_Ref_ends_2 : decode b_Ref_ends 2 = .ok (.getfield 156, 3) := by decide +kernel
theorem d_Ref_ends_5 : decode b_Ref_ends 5 = .ok (.aload_n 0, 1) := by decide +kernel
theorem d_Ref_ends_6 : decode b_Ref_ends 6 = .ok (.getfield 159, 3) := by decide +kernel
theorem d_Ref_ends_9 : decode b_Ref_ends 9 = .ok (.if_icmp .ne 10, 3) := by decide +kernel
theorem d_Ref_ends_12 : decode b_Ref_ends 12 = .ok (.aload_n 0, 1) := by decide +kernel
theorem d_Ref_ends_13 : decode b_Ref_ends 13 = .ok (.getfield 162, 3) := by decide +kernel
theorem d_Ref_ends_16 : decode b_Ref_ends 16 = .ok (.goto 7, 3) := by decide +kernel
theorem d_Ref_ends_19 : decode b_Ref_ends 19 = .ok (.aload_n 0, 1) := by decide +kernel
theorem d_Ref_ends_20 : decode b_Ref_ends 20 = .ok (.getfield 168, 3) := by decide +kernel
theorem d_Ref_ends_23 : decode b_Ref_ends 23 = .ok (.putfield 168, 3) := by decide +kernel
theorem d_Ref_ends_26 : decode b_Ref_ends 26 = .ok (.aload_n 0, 1) := by decide +kernel
theorem d_Ref_ends_27 : decode b_Ref_ends 27 = .ok (.iconst 0, 1) := by decide +kernel
theorem d_Ref_ends_28 : decode b_Ref_ends 28 = .ok (.putfield 162, 3) := by decide +kernel
theorem d_Ref_ends_31 : decode b_Ref_ends 31 = .ok (.aload_n 0, 1) := by decide +kernel
theorem d_Ref_ends_32 : decode b_Ref_ends 32 = .ok (.dup, 1) := by decide +kernel
theorem d_Ref_ends_33 : decode b_Ref_ends 33 = .ok (.getfield 156, 3) := by decide +kernel
theorem d_Ref_ends_36 : decode b_Ref_ends 36 = .ok (.iconst 1, 1) := by decide +kernel
theorem d_Ref_ends_37 : decode b_Ref_ends 37 = .ok (.iadd, 1) := by decide +kernel
theorem d_Ref_ends_38 : decode b_Ref_ends 38 = .ok (.putfield 156, 3) := by decide +kernel
theorem d_Ref_ends_41 : decode b_Ref_ends 41 = .ok (.return_, 1) := by decide +kernel
set_option maxHeartbeats 4000000 in
set_option maxRecDepth 100000 in
theorem c_Ref_ends (l : Launch) (dC : Nat → ClassId) (dI : Nat → Nat → Nat) (cA : ClassId) (ad : Nat → Nat) (ma : mForm) (mn : mKnow) (ms : mSat) (mb : mBack) (mt : mTask) (mw : (Nat → Int32)) (mg : mGo) (md : mCode) (Q : mCode → Prop) (sz : Nat) (h : w_Ref_ends md Q) :
    q_Mv l y_Ref_ends b_Ref_ends 1 0 0 [.ref (ad 28)] dC dI cA ([c_RE ad cA ma mn ms mb mt mw mg md].flatten) (fun u : mCode => [c_RE ad cA ma mn ms mb mt mw mg u].flatten) sz (fun u => Q u) := by
  refine q_metv (plainFor_of_name (by decide +kernel)) (Nat.le_of_ble_eq_true rfl) (fun {p e s m below meth c ls} C0 hl hH => ?_)
  obtain ⟨hx, hb, -⟩ := id C0
  have hA : ∀ q, s.heap.size ≤ q → va_A ([c_RE ad cA ma mn ms mb mt mw mg md].flatten) s.heap.size q := q_nA
  have hl : lv_has ls 1 [(0, .ref (ad 28))] := hl
  unfold w_Ref_ends at h
  refine lv_aload_n hx hb d_Ref_ends_0 rfl (lv_at hl 0 rfl) ?_
  refine lv_aload_n hx hb d_Ref_ends_1 rfl (lv_at hl 0 rfl) ?_
  refine q_get (v := .int md.codedClauses) C0 hH 0 rfl hc_8 30 (by decide) k_652 rfl d_Ref_ends_2 ?_
  refine lv_aload_n hx hb d_Ref_ends_5 rfl (lv_at hl 0 rfl) ?_
  refine q_get (v := .int md.wanted) C0 hH 0 rfl hc_8 32 (by decide) k_654 rfl d_Ref_ends_6 ?_
  refine lv_icmp_ne (tgt := 19) hx hb d_Ref_ends_9 (by decide) (fun c => ?_) (fun c => ?_)
  · have h := h.1 c
    refine lv_aload_n hx hb d_Ref_ends_19 rfl (lv_at hl 0 rfl) ?_
    refine q_get (v := .int md.wantedSize) C0 hH 0 rfl hc_8 33 (by decide) k_655 rfl d_Ref_ends_20 ?_
    refine q_puti (ws' := [c_RE ad cA ma mn ms mb mt mw mg (mCode.mk md.codedClauses md.codedLiterals md.wanted md.wantedSize md.kept md.inHand)].flatten) C0 hH 0 rfl hc_8 33 (by decide) k_655 rfl rfl (Nat.le_of_ble_eq_true rfl) rfl d_Ref_ends_23 (fun H locs hH => ?_)
    refine lv_aload_n hx hb d_Ref_ends_26 rfl (lv_at hl 0 rfl) ?_
    refine lv_iconst (v := 0) hx hb d_Ref_ends_27 (by decide) ?_
    refine q_puti (ws' := [c_RE ad cA ma mn ms mb mt mw mg (mCode.mk md.codedClauses md.codedLiterals md.wanted md.wantedSize md.kept 0)].flatten) C0 hH 0 rfl hc_8 35 (by decide) k_657 rfl rfl (Nat.le_of_ble_eq_true rfl) rfl d_Ref_ends_28 (fun H locs hH => ?_)
    refine lv_aload_n hx hb d_Ref_ends_31 rfl (lv_at hl 0 rfl) ?_
    refine lv_dup hx hb d_Ref_ends_32 rfl ?_
    refine q_get (v := .int md.codedClauses) C0 hH 0 rfl hc_8 30 (by decide) k_652 rfl d_Ref_ends_33 ?_
    refine lv_iconst (v := 1) hx hb d_Ref_ends_36 (by decide) ?_
    refine lv_iadd hx hb d_Ref_ends_37 ?_
    refine q_puti (ws' := [c_RE ad cA ma mn ms mb mt mw mg (mCode.mk (md.codedClauses + 1) md.codedLiterals md.wanted md.wantedSize md.kept 0)].flatten) C0 hH 0 rfl hc_8 30 (by decide) k_652 rfl rfl (Nat.le_of_ble_eq_true rfl) rfl d_Ref_ends_38 (fun H locs hH => ?_)
    exact q_retv C0 hH (mCode.mk (md.codedClauses + 1) md.codedLiterals md.wanted md.wantedSize md.kept 0) rfl h d_Ref_ends_41
  · have h := h.2 c
    refine lv_aload_n hx hb d_Ref_ends_12 rfl (lv_at hl 0 rfl) ?_
    refine q_get (v := .int md.inHand) C0 hH 0 rfl hc_8 35 (by decide) k_657 rfl d_Ref_ends_13 ?_
    refine lv_goto (tgt := 23) hx hb d_Ref_ends_16 (by decide) ?_
    refine q_puti (ws' := [c_RE ad cA ma mn ms mb mt mw mg (mCode.mk md.codedClauses md.codedLiterals md.wanted md.inHand md.kept md.inHand)].flatten) C0 hH 0 rfl hc_8 33 (by decide) k_655 rfl rfl (Nat.le_of_ble_eq_true rfl) rfl d_Ref_ends_23 (fun H locs hH => ?_)
    refine lv_aload_n hx hb d_Ref_ends_26 rfl (lv_at hl 0 rfl) ?_
    refine lv_iconst (v := 0) hx hb d_Ref_ends_27 (by decide) ?_
    refine q_puti (ws' := [c_RE ad cA ma mn ms mb mt mw mg (mCode.mk md.codedClauses md.codedLiterals md.wanted md.inHand md.kept 0)].flatten) C0 hH 0 rfl hc_8 35 (by decide) k_657 rfl rfl (Nat.le_of_ble_eq_true rfl) rfl d_Ref_ends_28 (fun H locs hH => ?_)
    refine lv_aload_n hx hb d_Ref_ends_31 rfl (lv_at hl 0 rfl) ?_
    refine lv_dup hx hb d_Ref_ends_32 rfl ?_
    refine q_get (v := .int md.codedClauses) C0 hH 0 rfl hc_8 30 (by decide) k_652 rfl d_Ref_ends_33 ?_
    refine lv_iconst (v := 1) hx hb d_Ref_ends_36 (by decide) ?_
    refine lv_iadd hx hb d_Ref_ends_37 ?_
    refine q_puti (ws' := [c_RE ad cA ma mn ms mb mt mw mg (mCode.mk (md.codedClauses + 1) md.codedLiterals md.wanted md.inHand md.kept 0)].flatten) C0 hH 0 rfl hc_8 30 (by decide) k_652 rfl rfl (Nat.le_of_ble_eq_true rfl) rfl d_Ref_ends_38 (fun H locs hH => ?_)
    exact q_retv C0 hH (mCode.mk (md.codedClauses + 1) md.codedLiterals md.wanted md.inHand md.kept 0) rfl h d_Ref_ends_41
theorem d_Ref_actionAt_0 : decode b_Ref_actionAt 0 = .ok (.iconst 1, 1) := by decide +kernel
theorem d_Ref_actionAt_1 : decode b_Ref_actionAt 1 = .ok (.iload_n 1, 1) := by decide +kernel
theorem d_Ref_actionAt_2 : decode b_Ref_actionAt 2 = .ok (.iconst 1, 1) := by decide +kernel
theorem d_Ref_actionAt_3 : decode b_Ref_actionAt 3 = .ok (.iadd, 1) := by decide +kernel
theorem d_Ref_actionAt_4 : decode b_Ref_actionAt 4 = .ok (.aload_n 0, 1) := by decide +kernel
theorem d_Ref_actionAt_5 : decode b_Ref_actionAt 5 = .ok (.getfield 118, 3) := by decide +kernel
theorem d_Ref_actionAt_8 : decode b_Ref_actionAt 8 = .ok (.imul, 1) := by decide +kernel
theorem d_Ref_actionAt_9 : decode b_Ref_actionAt 9 = .ok (.iadd, 1) := by decide +kernel
theorem d_Ref_actionAt_10 : decode b_Ref_actionAt 10 = .ok (.iload_n 3, 1) := by decide +kernel
theorem d_Ref_actionAt_11 : decode b_Ref_actionAt 11 = .ok (.aload_n 0, 1) := by decide +kernel
theorem d_Ref_actionAt_12 : decode b_Ref_actionAt 12 = .ok (.getfield 121, 3) := by decide +kernel
theorem d_Ref_actionAt_15 : decode b_Ref_actionAt 15 = .ok (.imul, 1) := by decide +kernel
theorem d_Ref_actionAt_16 : decode b_Ref_actionAt 16 = .ok (.iadd, 1) := by decide +kernel
theorem d_Ref_actionAt_17 : decode b_Ref_actionAt 17 = .ok (.iload_n 2, 1) := by decide +kernel
theorem d_Ref_actionAt_18 : decode b_Ref_actionAt 18 = .ok (.iadd, 1) := by decide +kernel
theorem d_Ref_actionAt_19 : decode b_Ref_actionAt 19 = .ok (.ireturn, 1) := by decide +kernel
set_option maxHeartbeats 4000000 in
set_option maxRecDepth 100000 in
theorem c_Ref_actionAt (l : Launch) (dC : Nat → ClassId) (dI : Nat → Nat → Nat) (cA : ClassId) (ad : Nat → Nat) (x1 : Int32) (x2 : Int32) (x3 : Int32) (ma : mForm) (mn : mKnow) (ms : mSat) (mb : mBack) (mt : mTask) (mw : (Nat → Int32)) (mg : mGo) (md : mCode) (Q : Int32 → Prop) (sz : Nat) (h : w_Ref_actionAt x1 x2 x3 mt Q) :
    q_Mi l y_Ref_actionAt b_Ref_actionAt 4 (some .int) 0 0 [.ref (ad 28), .int x1, .int x2, .int x3] dC dI cA ([c_RE ad cA ma mn ms mb mt mw mg md].flatten) (fun _ : Unit => [c_RE ad cA ma mn ms mb mt mw mg md].flatten) sz (fun r _ => Q r) := by
  refine q_meti (plainFor_of_name (by decide +kernel)) (Nat.le_of_ble_eq_true rfl) (fun {p e s m below meth c ls} C0 hl hH => ?_)
  obtain ⟨hx, hb, -⟩ := id C0
  have hA : ∀ q, s.heap.size ≤ q → va_A ([c_RE ad cA ma mn ms mb mt mw mg md].flatten) s.heap.size q := q_nA
  have hl : lv_has ls 4 [(0, .ref (ad 28)), (1, .int x1), (2, .int x2), (3, .int x3)] := hl
  unfold w_Ref_actionAt at h
  refine lv_iconst (v := 1) hx hb d_Ref_actionAt_0 (by decide) ?_
  refine lv_iload_n hx hb d_Ref_actionAt_1 rfl (lv_at hl 1 rfl) ?_
  refine lv_iconst (v := 1) hx hb d_Ref_actionAt_2 (by decide) ?_
  refine lv_iadd hx hb d_Ref_actionAt_3 ?_
  refine lv_aload_n hx hb d_Ref_actionAt_4 rfl (lv_at hl 0 rfl) ?_
  refine q_get (v := .int mt.facts) C0 hH 0 rfl hc_8 11 (by decide) k_633 rfl d_Ref_actionAt_5 ?_
  refine lv_imul hx hb d_Ref_actionAt_8 ?_
  refine lv_iadd hx hb d_Ref_actionAt_9 ?_
  refine lv_iload_n hx hb d_Ref_actionAt_10 rfl (lv_at hl 3 rfl) ?_
  refine lv_aload_n hx hb d_Ref_actionAt_11 rfl (lv_at hl 0 rfl) ?_
  refine q_get (v := .int mt.actions) C0 hH 0 rfl hc_8 12 (by decide) k_634 rfl d_Ref_actionAt_12 ?_
  refine lv_imul hx hb d_Ref_actionAt_15 ?_
  refine lv_iadd hx hb d_Ref_actionAt_16 ?_
  refine lv_iload_n hx hb d_Ref_actionAt_17 rfl (lv_at hl 2 rfl) ?_
  refine lv_iadd hx hb d_Ref_actionAt_18 ?_
  exact q_reti C0 hH () rfl h d_Ref_actionAt_19
theorem d_Ref_codesEffects_0 : decode b_Ref_codesEffects 0 = .ok (.iconst 0, 1) := by decide +kernel
theorem d_Ref_codesEffects_1 : decode b_Ref_codesEffects 1 = .ok (.istore_n 3, 1) := by decide +kernel
theorem d_Ref_codesEffects_2 : decode b_Ref_codesEffects 2 = .ok (.iload_n 3, 1) := by decide +kernel
theorem d_Ref_codesEffects_3 : decode b_Ref_codesEffects 3 = .ok (.aload_n 0, 1) := by decide +kernel
theorem d_Ref_codesEffects_4 : decode b_Ref_codesEffects 4 = .ok (.getfield 121, 3) := by decide +kernel
theorem d_Ref_codesEffects_7 : decode b_Ref_codesEffects 7 = .ok (.if_icmp .ge 114, 3) := by decide +kernel
theorem d_Ref_codesEffects_10 : decode b_Ref_codesEffects 10 = .ok (.iconst 0, 1) := by decide +kernel
theorem d_Ref_codesEffects_11 : decode b_Ref_codesEffects 11 = .ok (.istore 4, 2) := by decide +kernel
theorem d_Ref_codesEffects_13 : decode b_Ref_codesEffects 13 = .ok (.iload 4, 2) := by decide +kernel
theorem d_Ref_codesEffects_15 : decode b_Ref_codesEffects 15 = .ok (.aload_n 0, 1) := by decide +kernel
theorem d_Ref_codesEffects_16 : decode b_Ref_codesEffects 16 = .ok (.getfield 118, 3) := by decide +kernel
theorem d_Ref_codesEffects_19 : decode b_Ref_codesEffects 19 = .ok (.if_icmp .ge 96, 3) := by decide +kernel
theorem d_Ref_codesEffects_22 : decode b_Ref_codesEffects 22 = .ok (.aload_n 0, 1) := by decide +kernel
theorem d_Ref_codesEffects_23 : decode b_Ref_codesEffects 23 = .ok (.getfield 31, 3) := by decide +kernel
theorem d_Ref_codesEffects_26 : decode b_Ref_codesEffects 26 = .ok (.iload_n 3, 1) := by decide +kernel
theorem d_Ref_codesEffects_27 : decode b_Ref_codesEffects 27 = .ok (.iaload, 1) := by decide +kernel
theorem d_Ref_codesEffects_28 : decode b_Ref_codesEffects 28 = .ok (.iload 4, 2) := by decide +kernel
theorem d_Ref_codesEffects_30 : decode b_Ref_codesEffects 30 = .ok (.ishr, 1) := by decide +kernel
theorem d_Ref_codesEffects_31 : decode b_Ref_codesEffects 31 = .ok (.iconst 1, 1) := by decide +kernel
theorem d_Ref_codesEffects_32 : decode b_Ref_codesEffects 32 = .ok (.iand, 1) := by decide +kernel
theorem d_Ref_codesEffects_33 : decode b_Ref_codesEffects 33 = .ok (.iconst 1, 1) := by decide +kernel
theorem d_Ref_codesEffects_34 : decode b_Ref_codesEffects 34 = .ok (.if_icmp .eq 18, 3) := by decide +kernel
theorem d_Ref_codesEffects_37 : decode b_Ref_codesEffects 37 = .ok (.aload_n 0, 1) := by decide +kernel
theorem d_Ref_codesEffects_38 : decode b_Ref_codesEffects 38 = .ok (.getfield 34, 3) := by decide +kernel
theorem d_Ref_codesEffects_41 : decode b_Ref_codesEffects 41 = .ok (.iload_n 3, 1) := by decide +kernel
theorem d_Ref_codesEffects_42 : decode b_Ref_codesEffects 42 = .ok (.iaload, 1) := by decide +kernel
theorem d_Ref_codesEffects_43 : decode b_Ref_codesEffects 43 = .ok (.iload 4, 2) := by decide +kernel
theorem d_Ref_codesEffects_45 : decode b_Ref_codesEffects 45 = .ok (.ishr, 1) := by decide +kernel
theorem d_Ref_codesEffects_46 : decode b_Ref_codesEffects 46 = .ok (.iconst 1, 1) := by decide +kernel
theorem d_Ref_codesEffects_47 : decode b_Ref_codesEffects 47 = .ok (.iand, 1) := by decide +kernel
theorem d_Ref_codesEffects_48 : decode b_Ref_codesEffects 48 = .ok (.iconst 1, 1) := by decide +kernel
theorem d_Ref_codesEffects_49 : decode b_Ref_codesEffects 49 = .ok (.if_icmp .ne 60, 3) := by decide +kernel
theorem d_Ref_codesEffects_52 : decode b_Ref_codesEffects 52 = .ok (.aload_n 0, 1) := by decide +kernel
theorem d_Ref_codesEffects_53 : decode b_Ref_codesEffects 53 = .ok (.aload_n 0, 1) := by decide +kernel
theorem d_Ref_codesEffects_54 : decode b_Ref_codesEffects 54 = .ok (.iload_n 1, 1) := by decide +kernel
theorem d_Ref_codesEffects_55 : decode b_Ref_codesEffects 55 = .ok (.iload_n 3, 1) := by decide +kernel
theorem d_Ref_codesEffects_56 : decode b_Ref_codesEffects 56 = .ok (.iload_n 2, 1) := by decide +kernel
theorem d_Ref_codesEffects_57 : decode b_Ref_codesEffects 57 = .ok (.invokevirtual 171, 3) := by decide +kernel
theorem d_Ref_codesEffects_60 : decode b_Ref_codesEffects 60 = .ok (.ineg, 1) := by decide +kernel
theorem d_Ref_codesEffects_61 : decode b_Ref_codesEffects 61 = .ok (.invokevirtual 175, 3) := by decide +kernel
theorem d_Ref_codesEffects_64 : decode b_Ref_codesEffects 64 = .ok (.aload_n 0, 1) := by decide +kernel
theorem d_Ref_codesEffects_65 : decode b_Ref_codesEffects 65 = .ok (.aload_n 0, 1) := by decide +kernel
theorem d_Ref_codesEffects_66 : decode b_Ref_codesEffects 66 = .ok (.getfield 31, 3) := by decide +kernel
theorem d_Ref_codesEffects_69 : decode b_Ref_codesEffects 69 = .ok (.iload_n 3, 1) := by decide +kernel
theorem d_Ref_codesEffects_70 : decode b_Ref_codesEffects 70 = .ok (.iaload, 1) := by decide +kernel
theorem d_Ref_codesEffects_71 : decode b_Ref_codesEffects 71 = .ok (.iload 4, 2) := by decide +kernel
theorem d_Ref_codesEffects_73 : decode b_Ref_codesEffects 73 = .ok (.ishr, 1) := by decide +kernel
theorem d_Ref_codesEffects_74 : decode b_Ref_codesEffects 74 = .ok (.iconst 1, 1) := by decide +kernel
theorem d_Ref_codesEffects_75 : decode b_Ref_codesEffects 75 = .ok (.iand, 1) := by decide +kernel
theorem d_Ref_codesEffects_76 : decode b_Ref_codesEffects 76 = .ok (.iconst 1, 1) := by decide +kernel
theorem d_Ref_codesEffects_77 : decode b_Ref_codesEffects 77 = .ok (.if_icmp .ne 15, 3) := by decide +kernel
theorem d_Ref_codesEffects_80 : decode b_Ref_codesEffects 80 = .ok (.aload_n 0, 1) := by decide +kernel
theorem d_Ref_codesEffects_81 : decode b_Ref_codesEffects 81 = .ok (.iload 4, 2) := by decide +kernel
theorem d_Ref_codesEffects_83 : decode b_Ref_codesEffects 83 = .ok (.iload_n 2, 1) := by decide +kernel
theorem d_Ref_codesEffects_84 : decode b_Ref_codesEffects 84 = .ok (.iconst 1, 1) := by decide +kernel
theorem d_Ref_codesEffects_85 : decode b_Ref_codesEffects 85 = .ok (.iadd, 1) := by decide +kernel
theorem d_Ref_codesEffects_86 : decode b_Ref_codesEffects 86 = .ok (.invokevirtual 178, 3) := by decide +kernel
theorem d_Ref_codesEffects_89 : decode b_Ref_codesEffects 89 = .ok (.goto 13, 3) := by decide +kernel
theorem d_Ref_codesEffects_92 : decode b_Ref_codesEffects 92 = .ok (.aload_n 0, 1) := by decide +kernel
theorem d_Ref_codesEffects_93 : decode b_Ref_codesEffects 93 = .ok (.iload 4, 2) := by decide +kernel
theorem d_Ref_codesEffects_95 : decode b_Ref_codesEffects 95 = .ok (.iload_n 2, 1) := by decide +kernel
theorem d_Ref_codesEffects_96 : decode b_Ref_codesEffects 96 = .ok (.iconst 1, 1) := by decide +kernel
theorem d_Ref_codesEffects_97 : decode b_Ref_codesEffects 97 = .ok (.iadd, 1) := by decide +kernel
theorem d_Ref_codesEffects_98 : decode b_Ref_codesEffects 98 = .ok (.invokevirtual 178, 3) := by decide +kernel
theorem d_Ref_codesEffects_101 : decode b_Ref_codesEffects 101 = .ok (.ineg, 1) := by decide +kernel
theorem d_Ref_codesEffects_102 : decode b_Ref_codesEffects 102 = .ok (.invokevirtual 175, 3) := by decide +kernel
theorem d_Ref_codesEffects_105 : decode b_Ref_codesEffects 105 = .ok (.aload_n 0, 1) := by decide +kernel
theorem d_Ref_codesEffects_106 : decode b_Ref_codesEffects 106 = .ok (.invokevirtual 181, 3) := by decide +kernel
theorem d_Ref_codesEffects_109 : decode b_Ref_codesEffects 109 = .ok (.iinc 4 1, 3) := by decide +kernel
theorem d_Ref_codesEffects_112 : decode b_Ref_codesEffects 112 = .ok (.goto (-99), 3) := by decide +kernel
theorem d_Ref_codesEffects_115 : decode b_Ref_codesEffects 115 = .ok (.iinc 3 1, 3) := by decide +kernel
theorem d_Ref_codesEffects_118 : decode b_Ref_codesEffects 118 = .ok (.goto (-116), 3) := by decide +kernel
theorem d_Ref_codesEffects_121 : decode b_Ref_codesEffects 121 = .ok (.return_, 1) := by decide +kernel
set_option maxHeartbeats 4000000 in
set_option maxRecDepth 100000 in
theorem x_Ref_codesEffects_L13 {p : Program} {e : Env} {s : State} {m : MethodId} {args : Array Value} {below : List Frame} {meth : Method} {c : Code} {l : Launch} {dC : Nat → ClassId} {dI : Nat → Nat → Nat} {cA : ClassId} {ad : Nat → Nat} {w0 : va_W} (C0 : q_C p s m args meth c b_Ref_codesEffects 5 none "PlanClausesModel" dC dI cA) (hA : ∀ q, s.heap.size ≤ q → va_A w0 s.heap.size q) (x1 : Int32) (x2 : Int32) (x3 : Int32) (ma : mForm) (mn : mKnow) (ms : mSat) (mb : mBack) (mt : mTask) (mw : (Nat → Int32)) (mg : mGo) {Q : mCode → Prop} {K115 : mCode → Prop}
    (hK115 : ∀ (md : mCode) (H : Heap) (locs : List Loc) (ls : Array Slot), K115 md → lv_has ls 5 [(0, .ref (ad 28)), (1, .int x1), (2, .int x2), (3, .int x3)] → q_H dC dI (va_A w0 s.heap.size) s.heap H locs ([c_RE ad cA ma mn ms mb mt mw mg md].flatten) → W p l e (q_R 1 23) s m args below meth c H locs 0 0 (q_Zv below args s dC dI cA w0 (fun u : mCode => [c_RE ad cA ma mn ms mb mt mw mg u].flatten) (fun u => Q u)) (F0 m 115 ls [])) :
    ∀ (nn : Nat) (x4 : Int32) (md : mCode) (H : Heap) (locs : List Loc) (ls : Array Slot), w_Ref_codesEffects_L13 x1 x2 x3 mt K115 nn x4 md → lv_has ls 5 [(0, .ref (ad 28)), (1, .int x1), (2, .int x2), (3, .int x3), (4, .int x4)] → q_H dC dI (va_A w0 s.heap.size) s.heap H locs ([c_RE ad cA ma mn ms mb mt mw mg md].flatten) → W p l e (q_R 1 23) s m args below meth c H locs 0 0 (q_Zv below args s dC dI cA w0 (fun u : mCode => [c_RE ad cA ma mn ms mb mt mw mg u].flatten) (fun u => Q u)) (F0 m 13 ls []) := by
  obtain ⟨hx, hb, -⟩ := id C0
  intro nn
  induction nn with
  | zero =>
    intro x4 md H locs ls h
    exact (show False from h).elim
  | succ nn ih =>
    intro x4 md H locs ls h hl hH
    rw [w_Ref_codesEffects_L13] at h
    refine lv_iload hx hb d_Ref_codesEffects_13 (lv_at hl 4 rfl) ?_
    refine lv_aload_n hx hb d_Ref_codesEffects_15 rfl (lv_at hl 0 rfl) ?_
    refine q_get (v := .int mt.facts) C0 hH 0 rfl hc_8 11 (by decide) k_633 rfl d_Ref_codesEffects_16 ?_
    refine lv_icmp_ge (tgt := 115) hx hb d_Ref_codesEffects_19 (by decide) (fun c => ?_) (fun c => ?_)
    · have h := h.1 c
      exact hK115 md _ _ _ h (lv_sub hl [0, 1, 2, 3] rfl) hH
    · have h := h.2 c
      refine lv_aload_n hx hb d_Ref_codesEffects_22 rfl (lv_at hl 0 rfl) ?_
      refine q_get (v := .ref (ad 36)) C0 hH 0 rfl hc_8 14 (by decide) k_636 rfl d_Ref_codesEffects_23 ?_
      refine lv_iload_n hx hb d_Ref_codesEffects_26 rfl (lv_at hl 3 rfl) ?_
      obtain ⟨hi, h⟩ := h
      refine q_ald (f := mt.adds) C0 hH 8 rfl hi d_Ref_codesEffects_27 ?_
      refine lv_iload hx hb d_Ref_codesEffects_28 (lv_at hl 4 rfl) ?_
      refine lv_ishr hx hb d_Ref_codesEffects_30 ?_
      refine lv_iconst (v := 1) hx hb d_Ref_codesEffects_31 (by decide) ?_
      refine lv_iand hx hb d_Ref_codesEffects_32 ?_
      refine lv_iconst (v := 1) hx hb d_Ref_codesEffects_33 (by decide) ?_
      refine lv_icmp_eq (tgt := 52) hx hb d_Ref_codesEffects_34 (by decide) (fun c => ?_) (fun c => ?_)
      · have h := h.1 c
        refine lv_aload_n hx hb d_Ref_codesEffects_52 rfl (lv_at hl 0 rfl) ?_
        refine lv_aload_n hx hb d_Ref_codesEffects_53 rfl (lv_at hl 0 rfl) ?_
        refine lv_iload_n hx hb d_Ref_codesEffects_54 rfl (lv_at hl 1 rfl) ?_
        refine lv_iload_n hx hb d_Ref_codesEffects_55 rfl (lv_at hl 3 rfl) ?_
        refine lv_iload_n hx hb d_Ref_codesEffects_56 rfl (lv_at hl 2 rfl) ?_
        refine q_calli (rest := [.ref (ad 28)]) (ws' := fun _ : Unit => [c_RE ad cA ma mn ms mb mt mw mg md].flatten) C0 hH hA (c_Ref_actionAt l dC dI cA ad x1 x3 x2 ma mn ms mb mt mw mg md _ _ h) Y_Ref_actionAt k_887 0 rfl hc_8 (q_pg [0] [] [0] 1 1 rfl (by decide) rfl (fun _ => rfl) rfl (by decide) (fun _ => rfl)) ⟨Nat.le_of_ble_eq_true rfl, Nat.le_of_ble_eq_true rfl⟩ rfl rfl (Nat.le_of_ble_eq_true rfl) hl.1 d_Ref_codesEffects_57 ⟨Nat.le_refl 0, Nat.le_refl 0⟩ (fun r_1 u_1 H locs h hH => ?_)
        try dsimp only at h
        have hH : q_H dC dI (va_A w0 s.heap.size) s.heap H locs ([c_RE ad cA ma mn ms mb mt mw mg md].flatten) := hH
        refine lv_ineg hx hb d_Ref_codesEffects_60 ?_
        refine q_callv (rest := []) (ws' := fun u : mCode => [c_RE ad cA ma mn ms mb mt mw mg u].flatten) C0 hH hA (c_Ref_says l dC dI cA ad (-r_1) ma mn ms mb mt mw mg md _ _ h) Y_Ref_says k_875 0 rfl hc_8 (q_pg [0] [] [0] 1 1 rfl (by decide) rfl (fun _ => rfl) rfl (by decide) (fun _ => rfl)) ⟨Nat.le_of_ble_eq_true rfl, Nat.le_of_ble_eq_true rfl⟩ rfl rfl (Nat.le_of_ble_eq_true rfl) hl.1 d_Ref_codesEffects_61 ⟨Nat.le_refl 0, Nat.le_refl 0⟩ (fun u_2 H locs h hH => ?_)
        obtain ⟨md_2, rfl⟩ : ∃ z, z = u_2 := ⟨_, rfl⟩
        try dsimp only at h
        have hH : q_H dC dI (va_A w0 s.heap.size) s.heap H locs ([c_RE ad cA ma mn ms mb mt mw mg md_2].flatten) := hH
        refine lv_aload_n hx hb d_Ref_codesEffects_64 rfl (lv_at hl 0 rfl) ?_
        refine lv_aload_n hx hb d_Ref_codesEffects_65 rfl (lv_at hl 0 rfl) ?_
        refine q_get (v := .ref (ad 36)) C0 hH 0 rfl hc_8 14 (by decide) k_636 rfl d_Ref_codesEffects_66 ?_
        refine lv_iload_n hx hb d_Ref_codesEffects_69 rfl (lv_at hl 3 rfl) ?_
        obtain ⟨hi, h⟩ := h
        refine q_ald (f := mt.adds) C0 hH 8 rfl hi d_Ref_codesEffects_70 ?_
        refine lv_iload hx hb d_Ref_codesEffects_71 (lv_at hl 4 rfl) ?_
        refine lv_ishr hx hb d_Ref_codesEffects_73 ?_
        refine lv_iconst (v := 1) hx hb d_Ref_codesEffects_74 (by decide) ?_
        refine lv_iand hx hb d_Ref_codesEffects_75 ?_
        refine lv_iconst (v := 1) hx hb d_Ref_codesEffects_76 (by decide) ?_
        refine lv_icmp_ne (tgt := 92) hx hb d_Ref_codesEffects_77 (by decide) (fun c => ?_) (fun c => ?_)
        · have h := h.1 c
          refine lv_aload_n hx hb d_Ref_codesEffects_92 rfl (lv_at hl 0 rfl) ?_
          refine lv_iload hx hb d_Ref_codesEffects_93 (lv_at hl 4 rfl) ?_
          refine lv_iload_n hx hb d_Ref_codesEffects_95 rfl (lv_at hl 2 rfl) ?_
          refine lv_iconst (v := 1) hx hb d_Ref_codesEffects_96 (by decide) ?_
          refine lv_iadd hx hb d_Ref_codesEffects_97 ?_
          refine q_calli (rest := [.ref (ad 28)]) (ws' := fun _ : Unit => [c_RE ad cA ma mn ms mb mt mw mg md_2].flatten) C0 hH hA (c_Ref_factAt l dC dI cA ad x4 (x2 + 1) ma mn ms mb mt mw mg md_2 _ _ h) Y_Ref_factAt k_871 0 rfl hc_8 (q_pg [0] [] [0] 1 1 rfl (by decide) rfl (fun _ => rfl) rfl (by decide) (fun _ => rfl)) ⟨Nat.le_of_ble_eq_true rfl, Nat.le_of_ble_eq_true rfl⟩ rfl rfl (Nat.le_of_ble_eq_true rfl) hl.1 d_Ref_codesEffects_98 ⟨Nat.le_refl 0, Nat.le_refl 0⟩ (fun r_3 u_3 H locs h hH => ?_)
          try dsimp only at h
          have hH : q_H dC dI (va_A w0 s.heap.size) s.heap H locs ([c_RE ad cA ma mn ms mb mt mw mg md_2].flatten) := hH
          refine lv_ineg hx hb d_Ref_codesEffects_101 ?_
          refine q_callv (rest := []) (ws' := fun u : mCode => [c_RE ad cA ma mn ms mb mt mw mg u].flatten) C0 hH hA (c_Ref_says l dC dI cA ad (-r_3) ma mn ms mb mt mw mg md_2 _ _ h) Y_Ref_says k_875 0 rfl hc_8 (q_pg [0] [] [0] 1 1 rfl (by decide) rfl (fun _ => rfl) rfl (by decide) (fun _ => rfl)) ⟨Nat.le_of_ble_eq_true rfl, Nat.le_of_ble_eq_true rfl⟩ rfl rfl (Nat.le_of_ble_eq_true rfl) hl.1 d_Ref_codesEffects_102 ⟨Nat.le_refl 0, Nat.le_refl 0⟩ (fun u_4 H locs h hH => ?_)
          obtain ⟨md_4, rfl⟩ : ∃ z, z = u_4 := ⟨_, rfl⟩
          try dsimp only at h
          have hH : q_H dC dI (va_A w0 s.heap.size) s.heap H locs ([c_RE ad cA ma mn ms mb mt mw mg md_4].flatten) := hH
          refine lv_aload_n hx hb d_Ref_codesEffects_105 rfl (lv_at hl 0 rfl) ?_
          refine q_callv (rest := []) (ws' := fun u : mCode => [c_RE ad cA ma mn ms mb mt mw mg u].flatten) C0 hH hA (c_Ref_ends l dC dI cA ad ma mn ms mb mt mw mg md_4 _ _ h) Y_Ref_ends k_879 0 rfl hc_8 (q_pg [0] [] [0] 1 1 rfl (by decide) rfl (fun _ => rfl) rfl (by decide) (fun _ => rfl)) ⟨Nat.le_of_ble_eq_true rfl, Nat.le_of_ble_eq_true rfl⟩ rfl rfl (Nat.le_of_ble_eq_true rfl) hl.1 d_Ref_codesEffects_106 ⟨Nat.le_refl 0, Nat.le_refl 0⟩ (fun u_5 H locs h hH => ?_)
          obtain ⟨md_5, rfl⟩ : ∃ z, z = u_5 := ⟨_, rfl⟩
          try dsimp only at h
          have hH : q_H dC dI (va_A w0 s.heap.size) s.heap H locs ([c_RE ad cA ma mn ms mb mt mw mg md_5].flatten) := hH
          refine lv_iinc (v := (x4 + 1)) (lv' := [(4, .int (x4 + 1)), (0, .ref (ad 28)), (1, .int x1), (2, .int x2), (3, .int x3)]) hx hb d_Ref_codesEffects_109 hl (k := 4) rfl rfl (by decide) rfl (fun ls hl => ?_)
          refine lv_goto (tgt := 13) hx hb d_Ref_codesEffects_112 (by decide) ?_
          exact ih (x4 + 1) md_5 _ _ _ h (lv_sub hl [1, 2, 3, 4, 0] rfl) hH
        · have h := h.2 c
          refine lv_aload_n hx hb d_Ref_codesEffects_80 rfl (lv_at hl 0 rfl) ?_
          refine lv_iload hx hb d_Ref_codesEffects_81 (lv_at hl 4 rfl) ?_
          refine lv_iload_n hx hb d_Ref_codesEffects_83 rfl (lv_at hl 2 rfl) ?_
          refine lv_iconst (v := 1) hx hb d_Ref_codesEffects_84 (by decide) ?_
          refine lv_iadd hx hb d_Ref_codesEffects_85 ?_
          refine q_calli (rest := [.ref (ad 28)]) (ws' := fun _ : Unit => [c_RE ad cA ma mn ms mb mt mw mg md_2].flatten) C0 hH hA (c_Ref_factAt l dC dI cA ad x4 (x2 + 1) ma mn ms mb mt mw mg md_2 _ _ h) Y_Ref_factAt k_871 0 rfl hc_8 (q_pg [0] [] [0] 1 1 rfl (by decide) rfl (fun _ => rfl) rfl (by decide) (fun _ => rfl)) ⟨Nat.le_of_ble_eq_true rfl, Nat.le_of_ble_eq_true rfl⟩ rfl rfl (Nat.le_of_ble_eq_true rfl) hl.1 d_Ref_codesEffects_86 ⟨Nat.le_refl 0, Nat.le_refl 0⟩ (fun r_6 u_6 H locs h hH => ?_)
          try dsimp only at h
          have hH : q_H dC dI (va_A w0 s.heap.size) s.heap H locs ([c_RE ad cA ma mn ms mb mt mw mg md_2].flatten) := hH
          refine lv_goto (tgt := 102) hx hb d_Ref_codesEffects_89 (by decide) ?_
          refine q_callv (rest := []) (ws' := fun u : mCode => [c_RE ad cA ma mn ms mb mt mw mg u].flatten) C0 hH hA (c_Ref_says l dC dI cA ad r_6 ma mn ms mb mt mw mg md_2 _ _ h) Y_Ref_says k_875 0 rfl hc_8 (q_pg [0] [] [0] 1 1 rfl (by decide) rfl (fun _ => rfl) rfl (by decide) (fun _ => rfl)) ⟨Nat.le_of_ble_eq_true rfl, Nat.le_of_ble_eq_true rfl⟩ rfl rfl (Nat.le_of_ble_eq_true rfl) hl.1 d_Ref_codesEffects_102 ⟨Nat.le_refl 0, Nat.le_refl 0⟩ (fun u_7 H locs h hH => ?_)
          obtain ⟨md_7, rfl⟩ : ∃ z, z = u_7 := ⟨_, rfl⟩
          try dsimp only at h
          have hH : q_H dC dI (va_A w0 s.heap.size) s.heap H locs ([c_RE ad cA ma mn ms mb mt mw mg md_7].flatten) := hH
          refine lv_aload_n hx hb d_Ref_codesEffects_105 rfl (lv_at hl 0 rfl) ?_
          refine q_callv (rest := []) (ws' := fun u : mCode => [c_RE ad cA ma mn ms mb mt mw mg u].flatten) C0 hH hA (c_Ref_ends l dC dI cA ad ma mn ms mb mt mw mg md_7 _ _ h) Y_Ref_ends k_879 0 rfl hc_8 (q_pg [0] [] [0] 1 1 rfl (by decide) rfl (fun _ => rfl) rfl (by decide) (fun _ => rfl)) ⟨Nat.le_of_ble_eq_true rfl, Nat.le_of_ble_eq_true rfl⟩ rfl rfl (Nat.le_of_ble_eq_true rfl) hl.1 d_Ref_codesEffects_106 ⟨Nat.le_refl 0, Nat.le_refl 0⟩ (fun u_8 H locs h hH => ?_)
          obtain ⟨md_8, rfl⟩ : ∃ z, z = u_8 := ⟨_, rfl⟩
          try dsimp only at h
          have hH : q_H dC dI (va_A w0 s.heap.size) s.heap H locs ([c_RE ad cA ma mn ms mb mt mw mg md_8].flatten) := hH
          refine lv_iinc (v := (x4 + 1)) (lv' := [(4, .int (x4 + 1)), (0, .ref (ad 28)), (1, .int x1), (2, .int x2), (3, .int x3)]) hx hb d_Ref_codesEffects_109 hl (k := 4) rfl rfl (by decide) rfl (fun ls hl => ?_)
          refine lv_goto (tgt := 13) hx hb d_Ref_codesEffects_112 (by decide) ?_
          exact ih (x4 + 1) md_8 _ _ _ h (lv_sub hl [1, 2, 3, 4, 0] rfl) hH
      · have h := h.2 c
        refine lv_aload_n hx hb d_Ref_codesEffects_37 rfl (lv_at hl 0 rfl) ?_
        refine q_get (v := .ref (ad 37)) C0 hH 0 rfl hc_8 15 (by decide) k_637 rfl d_Ref_codesEffects_38 ?_
        refine lv_iload_n hx hb d_Ref_codesEffects_41 rfl (lv_at hl 3 rfl) ?_
        obtain ⟨hi, h⟩ := h
        refine q_ald (f := mt.takes) C0 hH 9 rfl hi d_Ref_codesEffects_42 ?_
        refine lv_iload hx hb d_Ref_codesEffects_43 (lv_at hl 4 rfl) ?_
        refine lv_ishr hx hb d_Ref_codesEffects_45 ?_
        refine lv_iconst (v := 1) hx hb d_Ref_codesEffects_46 (by decide) ?_
        refine lv_iand hx hb d_Ref_codesEffects_47 ?_
        refine lv_iconst (v := 1) hx hb d_Ref_codesEffects_48 (by decide) ?_
        refine lv_icmp_ne (tgt := 109) hx hb d_Ref_codesEffects_49 (by decide) (fun c => ?_) (fun c => ?_)
        · have h := h.1 c
          refine lv_iinc (v := (x4 + 1)) (lv' := [(4, .int (x4 + 1)), (0, .ref (ad 28)), (1, .int x1), (2, .int x2), (3, .int x3)]) hx hb d_Ref_codesEffects_109 hl (k := 4) rfl rfl (by decide) rfl (fun ls hl => ?_)
          refine lv_goto (tgt := 13) hx hb d_Ref_codesEffects_112 (by decide) ?_
          exact ih (x4 + 1) md _ _ _ h (lv_sub hl [1, 2, 3, 4, 0] rfl) hH
        · have h := h.2 c
          refine lv_aload_n hx hb d_Ref_codesEffects_52 rfl (lv_at hl 0 rfl) ?_
          refine lv_aload_n hx hb d_Ref_codesEffects_53 rfl (lv_at hl 0 rfl) ?_
          refine lv_iload_n hx hb d_Ref_codesEffects_54 rfl (lv_at hl 1 rfl) ?_
          refine lv_iload_n hx hb d_Ref_codesEffects_55 rfl (lv_at hl 3 rfl) ?_
          refine lv_iload_n hx hb d_Ref_codesEffects_56 rfl (lv_at hl 2 rfl) ?_
          refine q_calli (rest := [.ref (ad 28)]) (ws' := fun _ : Unit => [c_RE ad cA ma mn ms mb mt mw mg md].flatten) C0 hH hA (c_Ref_actionAt l dC dI cA ad x1 x3 x2 ma mn ms mb mt mw mg md _ _ h) Y_Ref_actionAt k_887 0 rfl hc_8 (q_pg [0] [] [0] 1 1 rfl (by decide) rfl (fun _ => rfl) rfl (by decide) (fun _ => rfl)) ⟨Nat.le_of_ble_eq_true rfl, Nat.le_of_ble_eq_true rfl⟩ rfl rfl (Nat.le_of_ble_eq_true rfl) hl.1 d_Ref_codesEffects_57 ⟨Nat.le_refl 0, Nat.le_refl 0⟩ (fun r_9 u_9 H locs h hH => ?_)
          try dsimp only at h
          have hH : q_H dC dI (va_A w0 s.heap.size) s.heap H locs ([c_RE ad cA ma mn ms mb mt mw mg md].flatten) := hH
          refine lv_ineg hx hb d_Ref_codesEffects_60 ?_
          refine q_callv (rest := []) (ws' := fun u : mCode => [c_RE ad cA ma mn ms mb mt mw mg u].flatten) C0 hH hA (c_Ref_says l dC dI cA ad (-r_9) ma mn ms mb mt mw mg md _ _ h) Y_Ref_says k_875 0 rfl hc_8 (q_pg [0] [] [0] 1 1 rfl (by decide) rfl (fun _ => rfl) rfl (by decide) (fun _ => rfl)) ⟨Nat.le_of_ble_eq_true rfl, Nat.le_of_ble_eq_true rfl⟩ rfl rfl (Nat.le_of_ble_eq_true rfl) hl.1 d_Ref_codesEffects_61 ⟨Nat.le_refl 0, Nat.le_refl 0⟩ (fun u_10 H locs h hH => ?_)
          obtain ⟨md_10, rfl⟩ : ∃ z, z = u_10 := ⟨_, rfl⟩
          try dsimp only at h
          have hH : q_H dC dI (va_A w0 s.heap.size) s.heap H locs ([c_RE ad cA ma mn ms mb mt mw mg md_10].flatten) := hH
          refine lv_aload_n hx hb d_Ref_codesEffects_64 rfl (lv_at hl 0 rfl) ?_
          refine lv_aload_n hx hb d_Ref_codesEffects_65 rfl (lv_at hl 0 rfl) ?_
          refine q_get (v := .ref (ad 36)) C0 hH 0 rfl hc_8 14 (by decide) k_636 rfl d_Ref_codesEffects_66 ?_
          refine lv_iload_n hx hb d_Ref_codesEffects_69 rfl (lv_at hl 3 rfl) ?_
          obtain ⟨hi, h⟩ := h
          refine q_ald (f := mt.adds) C0 hH 8 rfl hi d_Ref_codesEffects_70 ?_
          refine lv_iload hx hb d_Ref_codesEffects_71 (lv_at hl 4 rfl) ?_
          refine lv_ishr hx hb d_Ref_codesEffects_73 ?_
          refine lv_iconst (v := 1) hx hb d_Ref_codesEffects_74 (by decide) ?_
          refine lv_iand hx hb d_Ref_codesEffects_75 ?_
          refine lv_iconst (v := 1) hx hb d_Ref_codesEffects_76 (by decide) ?_
          refine lv_icmp_ne (tgt := 92) hx hb d_Ref_codesEffects_77 (by decide) (fun c => ?_) (fun c => ?_)
          · have h := h.1 c
            refine lv_aload_n hx hb d_Ref_codesEffects_92 rfl (lv_at hl 0 rfl) ?_
            refine lv_iload hx hb d_Ref_codesEffects_93 (lv_at hl 4 rfl) ?_
            refine lv_iload_n hx hb d_Ref_codesEffects_95 rfl (lv_at hl 2 rfl) ?_
            refine lv_iconst (v := 1) hx hb d_Ref_codesEffects_96 (by decide) ?_
            refine lv_iadd hx hb d_Ref_codesEffects_97 ?_
            refine q_calli (rest := [.ref (ad 28)]) (ws' := fun _ : Unit => [c_RE ad cA ma mn ms mb mt mw mg md_10].flatten) C0 hH hA (c_Ref_factAt l dC dI cA ad x4 (x2 + 1) ma mn ms mb mt mw mg md_10 _ _ h) Y_Ref_factAt k_871 0 rfl hc_8 (q_pg [0] [] [0] 1 1 rfl (by decide) rfl (fun _ => rfl) rfl (by decide) (fun _ => rfl)) ⟨Nat.le_of_ble_eq_true rfl, Nat.le_of_ble_eq_true rfl⟩ rfl rfl (Nat.le_of_ble_eq_true rfl) hl.1 d_Ref_codesEffects_98 ⟨Nat.le_refl 0, Nat.le_refl 0⟩ (fun r_11 u_11 H locs h hH => ?_)
            try dsimp only at h
            have hH : q_H dC dI (va_A w0 s.heap.size) s.heap H locs ([c_RE ad cA ma mn ms mb mt mw mg md_10].flatten) := hH
            refine lv_ineg hx hb d_Ref_codesEffects_101 ?_
            refine q_callv (rest := []) (ws' := fun u : mCode => [c_RE ad cA ma mn ms mb mt mw mg u].flatten) C0 hH hA (c_Ref_says l dC dI cA ad (-r_11) ma mn ms mb mt mw mg md_10 _ _ h) Y_Ref_says k_875 0 rfl hc_8 (q_pg [0] [] [0] 1 1 rfl (by decide) rfl (fun _ => rfl) rfl (by decide) (fun _ => rfl)) ⟨Nat.le_of_ble_eq_true rfl, Nat.le_of_ble_eq_true rfl⟩ rfl rfl (Nat.le_of_ble_eq_true rfl) hl.1 d_Ref_codesEffects_102 ⟨Nat.le_refl 0, Nat.le_refl 0⟩ (fun u_12 H locs h hH => ?_)
            obtain ⟨md_12, rfl⟩ : ∃ z, z = u_12 := ⟨_, rfl⟩
            try dsimp only at h
            have hH : q_H dC dI (va_A w0 s.heap.size) s.heap H locs ([c_RE ad cA ma mn ms mb mt mw mg md_12].flatten) := hH
            refine lv_aload_n hx hb d_Ref_codesEffects_105 rfl (lv_at hl 0 rfl) ?_
            refine q_callv (rest := []) (ws' := fun u : mCode => [c_RE ad cA ma mn ms mb mt mw mg u].flatten) C0 hH hA (c_Ref_ends l dC dI cA ad ma mn ms mb mt mw mg md_12 _ _ h) Y_Ref_ends k_879 0 rfl hc_8 (q_pg [0] [] [0] 1 1 rfl (by decide) rfl (fun _ => rfl) rfl (by decide) (fun _ => rfl)) ⟨Nat.le_of_ble_eq_true rfl, Nat.le_of_ble_eq_true rfl⟩ rfl rfl (Nat.le_of_ble_eq_true rfl) hl.1 d_Ref_codesEffects_106 ⟨Nat.le_refl 0, Nat.le_refl 0⟩ (fun u_13 H locs h hH => ?_)
            obtain ⟨md_13, rfl⟩ : ∃ z, z = u_13 := ⟨_, rfl⟩
            try dsimp only at h
            have hH : q_H dC dI (va_A w0 s.heap.size) s.heap H locs ([c_RE ad cA ma mn ms mb mt mw mg md_13].flatten) := hH
            refine lv_iinc (v := (x4 + 1)) (lv' := [(4, .int (x4 + 1)), (0, .ref (ad 28)), (1, .int x1), (2, .int x2), (3, .int x3)]) hx hb d_Ref_codesEffects_109 hl (k := 4) rfl rfl (by decide) rfl (fun ls hl => ?_)
            refine lv_goto (tgt := 13) hx hb d_Ref_codesEffects_112 (by decide) ?_
            exact ih (x4 + 1) md_13 _ _ _ h (lv_sub hl [1, 2, 3, 4, 0] rfl) hH
          · have h := h.2 c
            refine lv_aload_n hx hb d_Ref_codesEffects_80 rfl (lv_at hl 0 rfl) ?_
            refine lv_iload hx hb d_Ref_codesEffects_81 (lv_at hl 4 rfl) ?_
            refine lv_iload_n hx hb d_Ref_codesEffects_83 rfl (lv_at hl 2 rfl) ?_
            refine lv_iconst (v := 1) hx hb d_Ref_codesEffects_84 (by decide) ?_
            refine lv_iadd hx hb d_Ref_codesEffects_85 ?_
            refine q_calli (rest := [.ref (ad 28)]) (ws' := fun _ : Unit => [c_RE ad cA ma mn ms mb mt mw mg md_10].flatten) C0 hH hA (c_Ref_factAt l dC dI cA ad x4 (x2 + 1) ma mn ms mb mt mw mg md_10 _ _ h) Y_Ref_factAt k_871 0 rfl hc_8 (q_pg [0] [] [0] 1 1 rfl (by decide) rfl (fun _ => rfl) rfl (by decide) (fun _ => rfl)) ⟨Nat.le_of_ble_eq_true rfl, Nat.le_of_ble_eq_true rfl⟩ rfl rfl (Nat.le_of_ble_eq_true rfl) hl.1 d_Ref_codesEffects_86 ⟨Nat.le_refl 0, Nat.le_refl 0⟩ (fun r_14 u_14 H locs h hH => ?_)
            try dsimp only at h
            have hH : q_H dC dI (va_A w0 s.heap.size) s.heap H locs ([c_RE ad cA ma mn ms mb mt mw mg md_10].flatten) := hH
            refine lv_goto (tgt := 102) hx hb d_Ref_codesEffects_89 (by decide) ?_
            refine q_callv (rest := []) (ws' := fun u : mCode => [c_RE ad cA ma mn ms mb mt mw mg u].flatten) C0 hH hA (c_Ref_says l dC dI cA ad r_14 ma mn ms mb mt mw mg md_10 _ _ h) Y_Ref_says k_875 0 rfl hc_8 (q_pg [0] [] [0] 1 1 rfl (by decide) rfl (fun _ => rfl) rfl (by decide) (fun _ => rfl)) ⟨Nat.le_of_ble_eq_true rfl, Nat.le_of_ble_eq_true rfl⟩ rfl rfl (Nat.le_of_ble_eq_true rfl) hl.1 d_Ref_codesEffects_102 ⟨Nat.le_refl 0, Nat.le_refl 0⟩ (fun u_15 H locs h hH => ?_)
            obtain ⟨md_15, rfl⟩ : ∃ z, z = u_15 := ⟨_, rfl⟩
            try dsimp only at h
            have hH : q_H dC dI (va_A w0 s.heap.size) s.heap H locs ([c_RE ad cA ma mn ms mb mt mw mg md_15].flatten) := hH
            refine lv_aload_n hx hb d_Ref_codesEffects_105 rfl (lv_at hl 0 rfl) ?_
            refine q_callv (rest := []) (ws' := fun u : mCode => [c_RE ad cA ma mn ms mb mt mw mg u].flatten) C0 hH hA (c_Ref_ends l dC dI cA ad ma mn ms mb mt mw mg md_15 _ _ h) Y_Ref_ends k_879 0 rfl hc_8 (q_pg [0] [] [0] 1 1 rfl (by decide) rfl (fun _ => rfl) rfl (by decide) (fun _ => rfl)) ⟨Nat.le_of_ble_eq_true rfl, Nat.le_of_ble_eq_true rfl⟩ rfl rfl (Nat.le_of_ble_eq_true rfl) hl.1 d_Ref_codesEffects_106 ⟨Nat.le_refl 0, Nat.le_refl 0⟩ (fun u_16 H locs h hH => ?_)
            obtain ⟨md_16, rfl⟩ : ∃ z, z = u_16 := ⟨_, rfl⟩
            try dsimp only at h
            have hH : q_H dC dI (va_A w0 s.heap.size) s.heap H locs ([c_RE ad cA ma mn ms mb mt mw mg md_16].flatten) := hH
            refine lv_iinc (v := (x4 + 1)) (lv' := [(4, .int (x4 + 1)), (0, .ref (ad 28)), (1, .int x1), (2, .int x2), (3, .int x3)]) hx hb d_Ref_codesEffects_109 hl (k := 4) rfl rfl (by decide) rfl (fun ls hl => ?_)
            refine lv_goto (tgt := 13) hx hb d_Ref_codesEffects_112 (by decide) ?_
            exact ih (x4 + 1) md_16 _ _ _ h (lv_sub hl [1, 2, 3, 4, 0] rfl) hH
set_option maxHeartbeats 4000000 in
set_option maxRecDepth 100000 in
theorem x_Ref_codesEffects_L2 {p : Program} {e : Env} {s : State} {m : MethodId} {args : Array Value} {below : List Frame} {meth : Method} {c : Code} {l : Launch} {dC : Nat → ClassId} {dI : Nat → Nat → Nat} {cA : ClassId} {ad : Nat → Nat} {w0 : va_W} (C0 : q_C p s m args meth c b_Ref_codesEffects 5 none "PlanClausesModel" dC dI cA) (hA : ∀ q, s.heap.size ≤ q → va_A w0 s.heap.size q) (x1 : Int32) (x2 : Int32) (ma : mForm) (mn : mKnow) (ms : mSat) (mb : mBack) (mt : mTask) (mw : (Nat → Int32)) (mg : mGo) {Q : mCode → Prop} {K121 : mCode → Prop}
    (hK121 : ∀ (md : mCode) (H : Heap) (locs : List Loc) (ls : Array Slot), K121 md → lv_has ls 5 [] → q_H dC dI (va_A w0 s.heap.size) s.heap H locs ([c_RE ad cA ma mn ms mb mt mw mg md].flatten) → W p l e (q_R 1 23) s m args below meth c H locs 0 0 (q_Zv below args s dC dI cA w0 (fun u : mCode => [c_RE ad cA ma mn ms mb mt mw mg u].flatten) (fun u => Q u)) (F0 m 121 ls [])) :
    ∀ (nn : Nat) (x3 : Int32) (md : mCode) (H : Heap) (locs : List Loc) (ls : Array Slot), w_Ref_codesEffects_L2 x1 x2 mt K121 nn x3 md → lv_has ls 5 [(0, .ref (ad 28)), (1, .int x1), (2, .int x2), (3, .int x3)] → q_H dC dI (va_A w0 s.heap.size) s.heap H locs ([c_RE ad cA ma mn ms mb mt mw mg md].flatten) → W p l e (q_R 1 23) s m args below meth c H locs 0 0 (q_Zv below args s dC dI cA w0 (fun u : mCode => [c_RE ad cA ma mn ms mb mt mw mg u].flatten) (fun u => Q u)) (F0 m 2 ls []) := by
  obtain ⟨hx, hb, -⟩ := id C0
  intro nn
  induction nn with
  | zero =>
    intro x3 md H locs ls h
    exact (show False from h).elim
  | succ nn ih =>
    intro x3 md H locs ls h hl hH
    rw [w_Ref_codesEffects_L2] at h
    refine lv_iload_n hx hb d_Ref_codesEffects_2 rfl (lv_at hl 3 rfl) ?_
    refine lv_aload_n hx hb d_Ref_codesEffects_3 rfl (lv_at hl 0 rfl) ?_
    refine q_get (v := .int mt.actions) C0 hH 0 rfl hc_8 12 (by decide) k_634 rfl d_Ref_codesEffects_4 ?_
    refine lv_icmp_ge (tgt := 121) hx hb d_Ref_codesEffects_7 (by decide) (fun c => ?_) (fun c => ?_)
    · have h := h.1 c
      exact hK121 md _ _ _ h (lv_sub hl [] rfl) hH
    · have h := h.2 c
      refine lv_iconst (v := 0) hx hb d_Ref_codesEffects_10 (by decide) ?_
      refine lv_istore (lv' := [(4, .int 0), (0, .ref (ad 28)), (1, .int x1), (2, .int x2), (3, .int x3)]) hx hb d_Ref_codesEffects_11 hl (by decide) rfl (fun ls hl => ?_)
      obtain ⟨nn, h⟩ := h
      refine x_Ref_codesEffects_L13 C0 hA x1 x2 x3 ma mn ms mb mt mw mg ?_ nn 0 md _ _ _ h (lv_sub hl [1, 2, 3, 4, 0] rfl) hH
      · intro md_1 H locs ls h hl hH
        try dsimp only at h
        refine lv_iinc (v := (x3 + 1)) (lv' := [(3, .int (x3 + 1)), (0, .ref (ad 28)), (1, .int x1), (2, .int x2)]) hx hb d_Ref_codesEffects_115 hl (k := 3) rfl rfl (by decide) rfl (fun ls hl => ?_)
        refine lv_goto (tgt := 2) hx hb d_Ref_codesEffects_118 (by decide) ?_
        exact ih (x3 + 1) md_1 _ _ _ h (lv_sub hl [1, 2, 3, 0] rfl) hH
set_option maxHeartbeats 4000000 in
set_option maxRecDepth 100000 in
theorem c_Ref_codesEffects (l : Launch) (dC : Nat → ClassId) (dI : Nat → Nat → Nat) (cA : ClassId) (ad : Nat → Nat) (x1 : Int32) (x2 : Int32) (ma : mForm) (mn : mKnow) (ms : mSat) (mb : mBack) (mt : mTask) (mw : (Nat → Int32)) (mg : mGo) (md : mCode) (Q : mCode → Prop) (sz : Nat) (h : w_Ref_codesEffects x1 x2 mt md Q) :
    q_Mv l y_Ref_codesEffects b_Ref_codesEffects 5 1 23 [.ref (ad 28), .int x1, .int x2] dC dI cA ([c_RE ad cA ma mn ms mb mt mw mg md].flatten) (fun u : mCode => [c_RE ad cA ma mn ms mb mt mw mg u].flatten) sz (fun u => Q u) := by
  refine q_metv (plainFor_of_name (by decide +kernel)) (Nat.le_of_ble_eq_true rfl) (fun {p e s m below meth c ls} C0 hl hH => ?_)
  obtain ⟨hx, hb, -⟩ := id C0
  have hA : ∀ q, s.heap.size ≤ q → va_A ([c_RE ad cA ma mn ms mb mt mw mg md].flatten) s.heap.size q := q_nA
  have hl : lv_has ls 5 [(0, .ref (ad 28)), (1, .int x1), (2, .int x2)] := hl
  unfold w_Ref_codesEffects at h
  refine lv_iconst (v := 0) hx hb d_Ref_codesEffects_0 (by decide) ?_
  refine lv_istore_n (lv' := [(3, .int 0), (0, .ref (ad 28)), (1, .int x1), (2, .int x2)]) hx hb d_Ref_codesEffects_1 rfl hl (by decide) rfl (fun ls hl => ?_)
  obtain ⟨nn, h⟩ := h
  refine x_Ref_codesEffects_L2 C0 hA x1 x2 ma mn ms mb mt mw mg ?_ nn 0 md _ _ _ h (lv_sub hl [1, 2, 3, 0] rfl) hH
  · intro md_1 H locs ls h hl hH
    try dsimp only at h
    exact q_retv C0 hH md_1 rfl h d_Ref_codesEffects_121
theorem d_Ref_codesFrames_0 : decode b_Ref_codesFrames 0 = .ok (.iconst 0, 1) := by decide +kernel
theorem d_Ref_codesFrames_1 : decode b_Ref_codesFrames 1 = .ok (.istore_n 3, 1) := by decide +kernel
theorem d_Ref_codesFrames_2 : decode b_Ref_codesFrames 2 = .ok (.iload_n 3, 1) := by decide +kernel
theorem d_Ref_codesFrames_3 : decode b_Ref_codesFrames 3 = .ok (.aload_n 0, 1) := by decide +kernel
theorem d_Ref_codesFrames_4 : decode b_Ref_codesFrames 4 = .ok (.getfield 118, 3) := by decide +kernel
theorem d_Ref_codesFrames_7 : decode b_Ref_codesFrames 7 = .ok (.if_icmp .ge 153, 3) := by decide +kernel
theorem d_Ref_codesFrames_10 : decode b_Ref_codesFrames 10 = .ok (.aload_n 0, 1) := by decide +kernel
theorem d_Ref_codesFrames_11 : decode b_Ref_codesFrames 11 = .ok (.aload_n 0, 1) := by decide +kernel
theorem d_Ref_codesFrames_12 : decode b_Ref_codesFrames 12 = .ok (.iload_n 3, 1) := by decide +kernel
theorem d_Ref_codesFrames_13 : decode b_Ref_codesFrames 13 = .ok (.iload_n 2, 1) := by decide +kernel
theorem d_Ref_codesFrames_14 : decode b_Ref_codesFrames 14 = .ok (.invokevirtual 178, 3) := by decide +kernel
theorem d_Ref_codesFrames_17 : decode b_Ref_codesFrames 17 = .ok (.invokevirtual 175, 3) := by decide +kernel
theorem d_Ref_codesFrames_20 : decode b_Ref_codesFrames 20 = .ok (.aload_n 0, 1) := by decide +kernel
theorem d_Ref_codesFrames_21 : decode b_Ref_codesFrames 21 = .ok (.aload_n 0, 1) := by decide +kernel
theorem d_Ref_codesFrames_22 : decode b_Ref_codesFrames 22 = .ok (.iload_n 3, 1) := by decide +kernel
theorem d_Ref_codesFrames_23 : decode b_Ref_codesFrames 23 = .ok (.iload_n 2, 1) := by decide +kernel
theorem d_Ref_codesFrames_24 : decode b_Ref_codesFrames 24 = .ok (.iconst 1, 1) := by decide +kernel
theorem d_Ref_codesFrames_25 : decode b_Ref_codesFrames 25 = .ok (.iadd, 1) := by decide +kernel
theorem d_Ref_codesFrames_26 : decode b_Ref_codesFrames 26 = .ok (.invokevirtual 178, 3) := by decide +kernel
theorem d_Ref_codesFrames_29 : decode b_Ref_codesFrames 29 = .ok (.ineg, 1) := by decide +kernel
theorem d_Ref_codesFrames_30 : decode b_Ref_codesFrames 30 = .ok (.invokevirtual 175, 3) := by decide +kernel
theorem d_Ref_codesFrames_33 : decode b_Ref_codesFrames 33 = .ok (.iconst 0, 1) := by decide +kernel
theorem d_Ref_codesFrames_34 : decode b_Ref_codesFrames 34 = .ok (.istore 4, 2) := by decide +kernel
theorem d_Ref_codesFrames_36 : decode b_Ref_codesFrames 36 = .ok (.iload 4, 2) := by decide +kernel
theorem d_Ref_codesFrames_38 : decode b_Ref_codesFrames 38 = .ok (.aload_n 0, 1) := by decide +kernel
theorem d_Ref_codesFrames_39 : decode b_Ref_codesFrames 39 = .ok (.getfield 121, 3) := by decide +kernel
theorem d_Ref_codesFrames_42 : decode b_Ref_codesFrames 42 = .ok (.if_icmp .ge 36, 3) := by decide +kernel
theorem d_Ref_codesFrames_45 : decode b_Ref_codesFrames 45 = .ok (.aload_n 0, 1) := by decide +kernel
theorem d_Ref_codesFrames_46 : decode b_Ref_codesFrames 46 = .ok (.getfield 31, 3) := by decide +kernel
theorem d_Ref_codesFrames_49 : decode b_Ref_codesFrames 49 = .ok (.iload 4, 2) := by decide +kernel
theorem d_Ref_codesFrames_51 : decode b_Ref_codesFrames 51 = .ok (.iaload, 1) := by decide +kernel
theorem d_Ref_codesFrames_52 : decode b_Ref_codesFrames 52 = .ok (.iload_n 3, 1) := by decide +kernel
theorem d_Ref_codesFrames_53 : decode b_Ref_codesFrames 53 = .ok (.ishr, 1) := by decide +kernel
theorem d_Ref_codesFrames_54 : decode b_Ref_codesFrames 54 = .ok (.iconst 1, 1) := by decide +kernel
theorem d_Ref_codesFrames_55 : decode b_Ref_codesFrames 55 = .ok (.iand, 1) := by decide +kernel
theorem d_Ref_codesFrames_56 : decode b_Ref_codesFrames 56 = .ok (.iconst 1, 1) := by decide +kernel
theorem d_Ref_codesFrames_57 : decode b_Ref_codesFrames 57 = .ok (.if_icmp .ne 15, 3) := by decide +kernel
theorem d_Ref_codesFrames_60 : decode b_Ref_codesFrames 60 = .ok (.aload_n 0, 1) := by decide +kernel
theorem d_Ref_codesFrames_61 : decode b_Ref_codesFrames 61 = .ok (.aload_n 0, 1) := by decide +kernel
theorem d_Ref_codesFrames_62 : decode b_Ref_codesFrames 62 = .ok (.iload_n 1, 1) := by decide +kernel
theorem d_Ref_codesFrames_63 : decode b_Ref_codesFrames 63 = .ok (.iload 4, 2) := by decide +kernel
theorem d_Ref_codesFrames_65 : decode b_Ref_codesFrames 65 = .ok (.iload_n 2, 1) := by decide +kernel
theorem d_Ref_codesFrames_66 : decode b_Ref_codesFrames 66 = .ok (.invokevirtual 171, 3) := by decide +kernel
theorem d_Ref_codesFrames_69 : decode b_Ref_codesFrames 69 = .ok (.invokevirtual 175, 3) := by decide +kernel
theorem d_Ref_codesFrames_72 : decode b_Ref_codesFrames 72 = .ok (.iinc 4 1, 3) := by decide +kernel
theorem d_Ref_codesFrames_75 : decode b_Ref_codesFrames 75 = .ok (.goto (-39), 3) := by decide +kernel
theorem d_Ref_codesFrames_78 : decode b_Ref_codesFrames 78 = .ok (.aload_n 0, 1) := by decide +kernel
theorem d_Ref_codesFrames_79 : decode b_Ref_codesFrames 79 = .ok (.invokevirtual 181, 3) := by decide +kernel
theorem d_Ref_codesFrames_82 : decode b_Ref_codesFrames 82 = .ok (.aload_n 0, 1) := by decide +kernel
theorem d_Ref_codesFrames_83 : decode b_Ref_codesFrames 83 = .ok (.aload_n 0, 1) := by decide +kernel
theorem d_Ref_codesFrames_84 : decode b_Ref_codesFrames 84 = .ok (.iload_n 3, 1) := by decide +kernel
theorem d_Ref_codesFrames_85 : decode b_Ref_codesFrames 85 = .ok (.iload_n 2, 1) := by decide +kernel
theorem d_Ref_codesFrames_86 : decode b_Ref_codesFrames 86 = .ok (.invokevirtual 178, 3) := by decide +kernel
theorem d_Ref_codesFrames_89 : decode b_Ref_codesFrames 89 = .ok (.ineg, 1) := by decide +kernel
theorem d_Ref_codesFrames_90 : decode b_Ref_codesFrames 90 = .ok (.invokevirtual 175, 3) := by decide +kernel
theorem d_Ref_codesFrames_93 : decode b_Ref_codesFrames 93 = .ok (.aload_n 0, 1) := by decide +kernel
theorem d_Ref_codesFrames_94 : decode b_Ref_codesFrames 94 = .ok (.aload_n 0, 1) := by decide +kernel
theorem d_Ref_codesFrames_95 : decode b_Ref_codesFrames 95 = .ok (.iload_n 3, 1) := by decide +kernel
theorem d_Ref_codesFrames_96 : decode b_Ref_codesFrames 96 = .ok (.iload_n 2, 1) := by decide +kernel
theorem d_Ref_codesFrames_97 : decode b_Ref_codesFrames 97 = .ok (.iconst 1, 1) := by decide +kernel
theorem d_Ref_codesFrames_98 : decode b_Ref_codesFrames 98 = .ok (.iadd, 1) := by decide +kernel
theorem d_Ref_codesFrames_99 : decode b_Ref_codesFrames 99 = .ok (.invokevirtual 178, 3) := by decide +kernel
theorem d_Ref_codesFrames_102 : decode b_Ref_codesFrames 102 = .ok (.invokevirtual 175, 3) := by decide +kernel
theorem d_Ref_codesFrames_105 : decode b_Ref_codesFrames 105 = .ok (.iconst 0, 1) := by decide +kernel
theorem d_Ref_codesFrames_106 : decode b_Ref_codesFrames 106 = .ok (.istore 4, 2) := by decide +kernel
theorem d_Ref_codesFrames_108 : decode b_Ref_codesFrames 108 = .ok (.iload 4, 2) := by decide +kernel
theorem d_Ref_codesFrames_110 : decode b_Ref_codesFrames 110 = .ok (.aload_n 0, 1) := by decide +kernel
theorem d_Ref_codesFrames_111 : decode b_Ref_codesFrames 111 = .ok (.getfield 121, 3) := by decide +kernel
theorem d_Ref_codesFrames_114 : decode b_Ref_codesFrames 114 = .ok (.if_icmp .ge 36, 3) := by decide +kernel
theorem d_Ref_codesFrames_117 : decode b_Ref_codesFrames 117 = .ok (.aload_n 0, 1) := by decide +kernel
theorem d_Ref_codesFrames_118 : decode b_Ref_codesFrames 118 = .ok (.getfield 34, 3) := by decide +kernel
theorem d_Ref_codesFrames_121 : decode b_Ref_codesFrames 121 = .ok (.iload 4, 2) := by decide +kernel
theorem d_Ref_codesFrames_123 : decode b_Ref_codesFrames 123 = .ok (.iaload, 1) := by decide +kernel
theorem d_Ref_codesFrames_124 : decode b_Ref_codesFrames 124 = .ok (.iload_n 3, 1) := by decide +kernel
theorem d_Ref_codesFrames_125 : decode b_Ref_codesFrames 125 = .ok (.ishr, 1) := by decide +kernel
theorem d_Ref_codesFrames_126 : decode b_Ref_codesFrames 126 = .ok (.iconst 1, 1) := by decide +kernel
theorem d_Ref_codesFrames_127 : decode b_Ref_codesFrames 127 = .ok (.iand, 1) := by decide +kernel
theorem d_Ref_codesFrames_128 : decode b_Ref_codesFrames 128 = .ok (.iconst 1, 1) := by decide +kernel
theorem d_Ref_codesFrames_129 : decode b_Ref_codesFrames 129 = .ok (.if_icmp .ne 15, 3) := by decide +kernel
theorem d_Ref_codesFrames_132 : decode b_Ref_codesFrames 132 = .ok (.aload_n 0, 1) := by decide +kernel
theorem d_Ref_codesFrames_133 : decode b_Ref_codesFrames 133 = .ok (.aload_n 0, 1) := by decide +kernel
theorem d_Ref_codesFrames_134 : decode b_Ref_codesFrames 134 = .ok (.iload_n 1, 1) := by decide +kernel
theorem d_Ref_codesFrames_135 : decode b_Ref_codesFrames 135 = .ok (.iload 4, 2) := by decide +kernel
theorem d_Ref_codesFrames_137 : decode b_Ref_codesFrames 137 = .ok (.iload_n 2, 1) := by decide +kernel
theorem d_Ref_codesFrames_138 : decode b_Ref_codesFrames 138 = .ok (.invokevirtual 171, 3) := by decide +kernel
theorem d_Ref_codesFrames_141 : decode b_Ref_codesFrames 141 = .ok (.invokevirtual 175, 3) := by decide +kernel
theorem d_Ref_codesFrames_144 : decode b_Ref_codesFrames 144 = .ok (.iinc 4 1, 3) := by decide +kernel
theorem d_Ref_codesFrames_147 : decode b_Ref_codesFrames 147 = .ok (.goto (-39), 3) := by decide +kernel
theorem d_Ref_codesFrames_150 : decode b_Ref_codesFrames 150 = .ok (.aload_n 0, 1) := by decide +kernel
theorem d_Ref_codesFrames_151 : decode b_Ref_codesFrames 151 = .ok (.invokevirtual 181, 3) := by decide +kernel
theorem d_Ref_codesFrames_154 : decode b_Ref_codesFrames 154 = .ok (.iinc 3 1, 3) := by decide +kernel
theorem d_Ref_codesFrames_157 : decode b_Ref_codesFrames 157 = .ok (.goto (-155), 3) := by decide +kernel
theorem d_Ref_codesFrames_160 : decode b_Ref_codesFrames 160 = .ok (.return_, 1) := by decide +kernel
set_option maxHeartbeats 4000000 in
set_option maxRecDepth 100000 in
theorem x_Ref_codesFrames_L108 {p : Program} {e : Env} {s : State} {m : MethodId} {args : Array Value} {below : List Frame} {meth : Method} {c : Code} {l : Launch} {dC : Nat → ClassId} {dI : Nat → Nat → Nat} {cA : ClassId} {ad : Nat → Nat} {w0 : va_W} (C0 : q_C p s m args meth c b_Ref_codesFrames 5 none "PlanClausesModel" dC dI cA) (hA : ∀ q, s.heap.size ≤ q → va_A w0 s.heap.size q) (x1 : Int32) (x2 : Int32) (x3 : Int32) (ma : mForm) (mn : mKnow) (ms : mSat) (mb : mBack) (mt : mTask) (mw : (Nat → Int32)) (mg : mGo) {Q : mCode → Prop} {K150 : mCode → Prop}
    (hK150 : ∀ (md : mCode) (H : Heap) (locs : List Loc) (ls : Array Slot), K150 md → lv_has ls 5 [(0, .ref (ad 28)), (1, .int x1), (2, .int x2), (3, .int x3)] → q_H dC dI (va_A w0 s.heap.size) s.heap H locs ([c_RE ad cA ma mn ms mb mt mw mg md].flatten) → W p l e (q_R 1 23) s m args below meth c H locs 0 0 (q_Zv below args s dC dI cA w0 (fun u : mCode => [c_RE ad cA ma mn ms mb mt mw mg u].flatten) (fun u => Q u)) (F0 m 150 ls [])) :
    ∀ (nn : Nat) (x4 : Int32) (md : mCode) (H : Heap) (locs : List Loc) (ls : Array Slot), w_Ref_codesFrames_L108 x1 x2 x3 mt K150 nn x4 md → lv_has ls 5 [(0, .ref (ad 28)), (1, .int x1), (2, .int x2), (3, .int x3), (4, .int x4)] → q_H dC dI (va_A w0 s.heap.size) s.heap H locs ([c_RE ad cA ma mn ms mb mt mw mg md].flatten) → W p l e (q_R 1 23) s m args below meth c H locs 0 0 (q_Zv below args s dC dI cA w0 (fun u : mCode => [c_RE ad cA ma mn ms mb mt mw mg u].flatten) (fun u => Q u)) (F0 m 108 ls []) := by
  obtain ⟨hx, hb, -⟩ := id C0
  intro nn
  induction nn with
  | zero =>
    intro x4 md H locs ls h
    exact (show False from h).elim
  | succ nn ih =>
    intro x4 md H locs ls h hl hH
    rw [w_Ref_codesFrames_L108] at h
    refine lv_iload hx hb d_Ref_codesFrames_108 (lv_at hl 4 rfl) ?_
    refine lv_aload_n hx hb d_Ref_codesFrames_110 rfl (lv_at hl 0 rfl) ?_
    refine q_get (v := .int mt.actions) C0 hH 0 rfl hc_8 12 (by decide) k_634 rfl d_Ref_codesFrames_111 ?_
    refine lv_icmp_ge (tgt := 150) hx hb d_Ref_codesFrames_114 (by decide) (fun c => ?_) (fun c => ?_)
    · have h := h.1 c
      exact hK150 md _ _ _ h (lv_sub hl [0, 1, 2, 3] rfl) hH
    · have h := h.2 c
      refine lv_aload_n hx hb d_Ref_codesFrames_117 rfl (lv_at hl 0 rfl) ?_
      refine q_get (v := .ref (ad 37)) C0 hH 0 rfl hc_8 15 (by decide) k_637 rfl d_Ref_codesFrames_118 ?_
      refine lv_iload hx hb d_Ref_codesFrames_121 (lv_at hl 4 rfl) ?_
      obtain ⟨hi, h⟩ := h
      refine q_ald (f := mt.takes) C0 hH 9 rfl hi d_Ref_codesFrames_123 ?_
      refine lv_iload_n hx hb d_Ref_codesFrames_124 rfl (lv_at hl 3 rfl) ?_
      refine lv_ishr hx hb d_Ref_codesFrames_125 ?_
      refine lv_iconst (v := 1) hx hb d_Ref_codesFrames_126 (by decide) ?_
      refine lv_iand hx hb d_Ref_codesFrames_127 ?_
      refine lv_iconst (v := 1) hx hb d_Ref_codesFrames_128 (by decide) ?_
      refine lv_icmp_ne (tgt := 144) hx hb d_Ref_codesFrames_129 (by decide) (fun c => ?_) (fun c => ?_)
      · have h := h.1 c
        refine lv_iinc (v := (x4 + 1)) (lv' := [(4, .int (x4 + 1)), (0, .ref (ad 28)), (1, .int x1), (2, .int x2), (3, .int x3)]) hx hb d_Ref_codesFrames_144 hl (k := 4) rfl rfl (by decide) rfl (fun ls hl => ?_)
        refine lv_goto (tgt := 108) hx hb d_Ref_codesFrames_147 (by decide) ?_
        exact ih (x4 + 1) md _ _ _ h (lv_sub hl [1, 2, 3, 4, 0] rfl) hH
      · have h := h.2 c
        refine lv_aload_n hx hb d_Ref_codesFrames_132 rfl (lv_at hl 0 rfl) ?_
        refine lv_aload_n hx hb d_Ref_codesFrames_133 rfl (lv_at hl 0 rfl) ?_
        refine lv_iload_n hx hb d_Ref_codesFrames_134 rfl (lv_at hl 1 rfl) ?_
        refine lv_iload hx hb d_Ref_codesFrames_135 (lv_at hl 4 rfl) ?_
        refine lv_iload_n hx hb d_Ref_codesFrames_137 rfl (lv_at hl 2 rfl) ?_
        refine q_calli (rest := [.ref (ad 28)]) (ws' := fun _ : Unit => [c_RE ad cA ma mn ms mb mt mw mg md].flatten) C0 hH hA (c_Ref_actionAt l dC dI cA ad x1 x4 x2 ma mn ms mb mt mw mg md _ _ h) Y_Ref_actionAt k_887 0 rfl hc_8 (q_pg [0] [] [0] 1 1 rfl (by decide) rfl (fun _ => rfl) rfl (by decide) (fun _ => rfl)) ⟨Nat.le_of_ble_eq_true rfl, Nat.le_of_ble_eq_true rfl⟩ rfl rfl (Nat.le_of_ble_eq_true rfl) hl.1 d_Ref_codesFrames_138 ⟨Nat.le_refl 0, Nat.le_refl 0⟩ (fun r_1 u_1 H locs h hH => ?_)
        try dsimp only at h
        have hH : q_H dC dI (va_A w0 s.heap.size) s.heap H locs ([c_RE ad cA ma mn ms mb mt mw mg md].flatten) := hH
        refine q_callv (rest := []) (ws' := fun u : mCode => [c_RE ad cA ma mn ms mb mt mw mg u].flatten) C0 hH hA (c_Ref_says l dC dI cA ad r_1 ma mn ms mb mt mw mg md _ _ h) Y_Ref_says k_875 0 rfl hc_8 (q_pg [0] [] [0] 1 1 rfl (by decide) rfl (fun _ => rfl) rfl (by decide) (fun _ => rfl)) ⟨Nat.le_of_ble_eq_true rfl, Nat.le_of_ble_eq_true rfl⟩ rfl rfl (Nat.le_of_ble_eq_true rfl) hl.1 d_Ref_codesFrames_141 ⟨Nat.le_refl 0, Nat.le_refl 0⟩ (fun u_2 H locs h hH => ?_)
        obtain ⟨md_2, rfl⟩ : ∃ z, z = u_2 := ⟨_, rfl⟩
        try dsimp only at h
        have hH : q_H dC dI (va_A w0 s.heap.size) s.heap H locs ([c_RE ad cA ma mn ms mb mt mw mg md_2].flatten) := hH
        refine lv_iinc (v := (x4 + 1)) (lv' := [(4, .int (x4 + 1)), (0, .ref (ad 28)), (1, .int x1), (2, .int x2), (3, .int x3)]) hx hb d_Ref_codesFrames_144 hl (k := 4) rfl rfl (by decide) rfl (fun ls hl => ?_)
        refine lv_goto (tgt := 108) hx hb d_Ref_codesFrames_147 (by decide) ?_
        exact ih (x4 + 1) md_2 _ _ _ h (lv_sub hl [1, 2, 3, 4, 0] rfl) hH
set_option maxHeartbeats 4000000 in
set_option maxRecDepth 100000 in
theorem x_Ref_codesFrames_L36 {p : Program} {e : Env} {s : State} {m : MethodId} {args : Array Value} {below : List Frame} {meth : Method} {c : Code} {l : Launch} {dC : Nat → ClassId} {dI : Nat → Nat → Nat} {cA : ClassId} {ad : Nat → Nat} {w0 : va_W} (C0 : q_C p s m args meth c b_Ref_codesFrames 5 none "PlanClausesModel" dC dI cA) (hA : ∀ q, s.heap.size ≤ q → va_A w0 s.heap.size q) (x1 : Int32) (x2 : Int32) (x3 : Int32) (ma : mForm) (mn : mKnow) (ms : mSat) (mb : mBack) (mt : mTask) (mw : (Nat → Int32)) (mg : mGo) {Q : mCode → Prop} {K78 : mCode → Prop}
    (hK78 : ∀ (md : mCode) (H : Heap) (locs : List Loc) (ls : Array Slot), K78 md → lv_has ls 5 [(0, .ref (ad 28)), (1, .int x1), (2, .int x2), (3, .int x3)] → q_H dC dI (va_A w0 s.heap.size) s.heap H locs ([c_RE ad cA ma mn ms mb mt mw mg md].flatten) → W p l e (q_R 1 23) s m args below meth c H locs 0 0 (q_Zv below args s dC dI cA w0 (fun u : mCode => [c_RE ad cA ma mn ms mb mt mw mg u].flatten) (fun u => Q u)) (F0 m 78 ls [])) :
    ∀ (nn : Nat) (x4 : Int32) (md : mCode) (H : Heap) (locs : List Loc) (ls : Array Slot), w_Ref_codesFrames_L36 x1 x2 x3 mt K78 nn x4 md → lv_has ls 5 [(0, .ref (ad 28)), (1, .int x1), (2, .int x2), (3, .int x3), (4, .int x4)] → q_H dC dI (va_A w0 s.heap.size) s.heap H locs ([c_RE ad cA ma mn ms mb mt mw mg md].flatten) → W p l e (q_R 1 23) s m args below meth c H locs 0 0 (q_Zv below args s dC dI cA w0 (fun u : mCode => [c_RE ad cA ma mn ms mb mt mw mg u].flatten) (fun u => Q u)) (F0 m 36 ls []) := by
  obtain ⟨hx, hb, -⟩ := id C0
  intro nn
  induction nn with
  | zero =>
    intro x4 md H locs ls h
    exact (show False from h).elim
  | succ nn ih =>
    intro x4 md H locs ls h hl hH
    rw [w_Ref_codesFrames_L36] at h
    refine lv_iload hx hb d_Ref_codesFrames_36 (lv_at hl 4 rfl) ?_
    refine lv_aload_n hx hb d_Ref_codesFrames_38 rfl (lv_at hl 0 rfl) ?_
    refine q_get (v := .int mt.actions) C0 hH 0 rfl hc_8 12 (by decide) k_634 rfl d_Ref_codesFrames_39 ?_
    refine lv_icmp_ge (tgt := 78) hx hb d_Ref_codesFrames_42 (by decide) (fun c => ?_) (fun c => ?_)
    · have h := h.1 c
      exact hK78 md _ _ _ h (lv_sub hl [0, 1, 2, 3] rfl) hH
    · have h := h.2 c
      refine lv_aload_n hx hb d_Ref_codesFrames_45 rfl (lv_at hl 0 rfl) ?_
      refine q_get (v := .ref (ad 36)) C0 hH 0 rfl hc_8 14 (by decide) k_636 rfl d_Ref_codesFrames_46 ?_
      refine lv_iload hx hb d_Ref_codesFrames_49 (lv_at hl 4 rfl) ?_
      obtain ⟨hi, h⟩ := h
      refine q_ald (f := mt.adds) C0 hH 8 rfl hi d_Ref_codesFrames_51 ?_
      refine lv_iload_n hx hb d_Ref_codesFrames_52 rfl (lv_at hl 3 rfl) ?_
      refine lv_ishr hx hb d_Ref_codesFrames_53 ?_
      refine lv_iconst (v := 1) hx hb d_Ref_codesFrames_54 (by decide) ?_
      refine lv_iand hx hb d_Ref_codesFrames_55 ?_
      refine lv_iconst (v := 1) hx hb d_Ref_codesFrames_56 (by decide) ?_
      refine lv_icmp_ne (tgt := 72) hx hb d_Ref_codesFrames_57 (by decide) (fun c => ?_) (fun c => ?_)
      · have h := h.1 c
        refine lv_iinc (v := (x4 + 1)) (lv' := [(4, .int (x4 + 1)), (0, .ref (ad 28)), (1, .int x1), (2, .int x2), (3, .int x3)]) hx hb d_Ref_codesFrames_72 hl (k := 4) rfl rfl (by decide) rfl (fun ls hl => ?_)
        refine lv_goto (tgt := 36) hx hb d_Ref_codesFrames_75 (by decide) ?_
        exact ih (x4 + 1) md _ _ _ h (lv_sub hl [1, 2, 3, 4, 0] rfl) hH
      · have h := h.2 c
        refine lv_aload_n hx hb d_Ref_codesFrames_60 rfl (lv_at hl 0 rfl) ?_
        refine lv_aload_n hx hb d_Ref_codesFrames_61 rfl (lv_at hl 0 rfl) ?_
        refine lv_iload_n hx hb d_Ref_codesFrames_62 rfl (lv_at hl 1 rfl) ?_
        refine lv_iload hx hb d_Ref_codesFrames_63 (lv_at hl 4 rfl) ?_
        refine lv_iload_n hx hb d_Ref_codesFrames_65 rfl (lv_at hl 2 rfl) ?_
        refine q_calli (rest := [.ref (ad 28)]) (ws' := fun _ : Unit => [c_RE ad cA ma mn ms mb mt mw mg md].flatten) C0 hH hA (c_Ref_actionAt l dC dI cA ad x1 x4 x2 ma mn ms mb mt mw mg md _ _ h) Y_Ref_actionAt k_887 0 rfl hc_8 (q_pg [0] [] [0] 1 1 rfl (by decide) rfl (fun _ => rfl) rfl (by decide) (fun _ => rfl)) ⟨Nat.le_of_ble_eq_true rfl, Nat.le_of_ble_eq_true rfl⟩ rfl rfl (Nat.le_of_ble_eq_true rfl) hl.1 d_Ref_codesFrames_66 ⟨Nat.le_refl 0, Nat.le_refl 0⟩ (fun r_1 u_1 H locs h hH => ?_)
        try dsimp only at h
        have hH : q_H dC dI (va_A w0 s.heap.size) s.heap H locs ([c_RE ad cA ma mn ms mb mt mw mg md].flatten) := hH
        refine q_callv (rest := []) (ws' := fun u : mCode => [c_RE ad cA ma mn ms mb mt mw mg u].flatten) C0 hH hA (c_Ref_says l dC dI cA ad r_1 ma mn ms mb mt mw mg md _ _ h) Y_Ref_says k_875 0 rfl hc_8 (q_pg [0] [] [0] 1 1 rfl (by decide) rfl (fun _ => rfl) rfl (by decide) (fun _ => rfl)) ⟨Nat.le_of_ble_eq_true rfl, Nat.le_of_ble_eq_true rfl⟩ rfl rfl (Nat.le_of_ble_eq_true rfl) hl.1 d_Ref_codesFrames_69 ⟨Nat.le_refl 0, Nat.le_refl 0⟩ (fun u_2 H locs h hH => ?_)
        obtain ⟨md_2, rfl⟩ : ∃ z, z = u_2 := ⟨_, rfl⟩
        try dsimp only at h
        have hH : q_H dC dI (va_A w0 s.heap.size) s.heap H locs ([c_RE ad cA ma mn ms mb mt mw mg md_2].flatten) := hH
        refine lv_iinc (v := (x4 + 1)) (lv' := [(4, .int (x4 + 1)), (0, .ref (ad 28)), (1, .int x1), (2, .int x2), (3, .int x3)]) hx hb d_Ref_codesFrames_72 hl (k := 4) rfl rfl (by decide) rfl (fun ls hl => ?_)
        refine lv_goto (tgt := 36) hx hb d_Ref_codesFrames_75 (by decide) ?_
        exact ih (x4 + 1) md_2 _ _ _ h (lv_sub hl [1, 2, 3, 4, 0] rfl) hH
set_option maxHeartbeats 4000000 in
set_option maxRecDepth 100000 in
theorem x_Ref_codesFrames_L2 {p : Program} {e : Env} {s : State} {m : MethodId} {args : Array Value} {below : List Frame} {meth : Method} {c : Code} {l : Launch} {dC : Nat → ClassId} {dI : Nat → Nat → Nat} {cA : ClassId} {ad : Nat → Nat} {w0 : va_W} (C0 : q_C p s m args meth c b_Ref_codesFrames 5 none "PlanClausesModel" dC dI cA) (hA : ∀ q, s.heap.size ≤ q → va_A w0 s.heap.size q) (x1 : Int32) (x2 : Int32) (ma : mForm) (mn : mKnow) (ms : mSat) (mb : mBack) (mt : mTask) (mw : (Nat → Int32)) (mg : mGo) {Q : mCode → Prop} {K160 : mCode → Prop}
    (hK160 : ∀ (md : mCode) (H : Heap) (locs : List Loc) (ls : Array Slot), K160 md → lv_has ls 5 [] → q_H dC dI (va_A w0 s.heap.size) s.heap H locs ([c_RE ad cA ma mn ms mb mt mw mg md].flatten) → W p l e (q_R 1 23) s m args below meth c H locs 0 0 (q_Zv below args s dC dI cA w0 (fun u : mCode => [c_RE ad cA ma mn ms mb mt mw mg u].flatten) (fun u => Q u)) (F0 m 160 ls [])) :
    ∀ (nn : Nat) (x3 : Int32) (md : mCode) (H : Heap) (locs : List Loc) (ls : Array Slot), w_Ref_codesFrames_L2 x1 x2 mt K160 nn x3 md → lv_has ls 5 [(0, .ref (ad 28)), (1, .int x1), (2, .int x2), (3, .int x3)] → q_H dC dI (va_A w0 s.heap.size) s.heap H locs ([c_RE ad cA ma mn ms mb mt mw mg md].flatten) → W p l e (q_R 1 23) s m args below meth c H locs 0 0 (q_Zv below args s dC dI cA w0 (fun u : mCode => [c_RE ad cA ma mn ms mb mt mw mg u].flatten) (fun u => Q u)) (F0 m 2 ls []) := by
  obtain ⟨hx, hb, -⟩ := id C0
  intro nn
  induction nn with
  | zero =>
    intro x3 md H locs ls h
    exact (show False from h).elim
  | succ nn ih =>
    intro x3 md H locs ls h hl hH
    rw [w_Ref_codesFrames_L2] at h
    refine lv_iload_n hx hb d_Ref_codesFrames_2 rfl (lv_at hl 3 rfl) ?_
    refine lv_aload_n hx hb d_Ref_codesFrames_3 rfl (lv_at hl 0 rfl) ?_
    refine q_get (v := .int mt.facts) C0 hH 0 rfl hc_8 11 (by decide) k_633 rfl d_Ref_codesFrames_4 ?_
    refine lv_icmp_ge (tgt := 160) hx hb d_Ref_codesFrames_7 (by decide) (fun c => ?_) (fun c => ?_)
    · have h := h.1 c
      exact hK160 md _ _ _ h (lv_sub hl [] rfl) hH
    · have h := h.2 c
      refine lv_aload_n hx hb d_Ref_codesFrames_10 rfl (lv_at hl 0 rfl) ?_
      refine lv_aload_n hx hb d_Ref_codesFrames_11 rfl (lv_at hl 0 rfl) ?_
      refine lv_iload_n hx hb d_Ref_codesFrames_12 rfl (lv_at hl 3 rfl) ?_
      refine lv_iload_n hx hb d_Ref_codesFrames_13 rfl (lv_at hl 2 rfl) ?_
      refine q_calli (rest := [.ref (ad 28)]) (ws' := fun _ : Unit => [c_RE ad cA ma mn ms mb mt mw mg md].flatten) C0 hH hA (c_Ref_factAt l dC dI cA ad x3 x2 ma mn ms mb mt mw mg md _ _ h) Y_Ref_factAt k_871 0 rfl hc_8 (q_pg [0] [] [0] 1 1 rfl (by decide) rfl (fun _ => rfl) rfl (by decide) (fun _ => rfl)) ⟨Nat.le_of_ble_eq_true rfl, Nat.le_of_ble_eq_true rfl⟩ rfl rfl (Nat.le_of_ble_eq_true rfl) hl.1 d_Ref_codesFrames_14 ⟨Nat.le_refl 0, Nat.le_refl 0⟩ (fun r_1 u_1 H locs h hH => ?_)
      try dsimp only at h
      have hH : q_H dC dI (va_A w0 s.heap.size) s.heap H locs ([c_RE ad cA ma mn ms mb mt mw mg md].flatten) := hH
      refine q_callv (rest := []) (ws' := fun u : mCode => [c_RE ad cA ma mn ms mb mt mw mg u].flatten) C0 hH hA (c_Ref_says l dC dI cA ad r_1 ma mn ms mb mt mw mg md _ _ h) Y_Ref_says k_875 0 rfl hc_8 (q_pg [0] [] [0] 1 1 rfl (by decide) rfl (fun _ => rfl) rfl (by decide) (fun _ => rfl)) ⟨Nat.le_of_ble_eq_true rfl, Nat.le_of_ble_eq_true rfl⟩ rfl rfl (Nat.le_of_ble_eq_true rfl) hl.1 d_Ref_codesFrames_17 ⟨Nat.le_refl 0, Nat.le_refl 0⟩ (fun u_2 H locs h hH => ?_)
      obtain ⟨md_2, rfl⟩ : ∃ z, z = u_2 := ⟨_, rfl⟩
      try dsimp only at h
      have hH : q_H dC dI (va_A w0 s.heap.size) s.heap H locs ([c_RE ad cA ma mn ms mb mt mw mg md_2].flatten) := hH
      refine lv_aload_n hx hb d_Ref_codesFrames_20 rfl (lv_at hl 0 rfl) ?_
      refine lv_aload_n hx hb d_Ref_codesFrames_21 rfl (lv_at hl 0 rfl) ?_
      refine lv_iload_n hx hb d_Ref_codesFrames_22 rfl (lv_at hl 3 rfl) ?_
      refine lv_iload_n hx hb d_Ref_codesFrames_23 rfl (lv_at hl 2 rfl) ?_
      refine lv_iconst (v := 1) hx hb d_Ref_codesFrames_24 (by decide) ?_
      refine lv_iadd hx hb d_Ref_codesFrames_25 ?_
      refine q_calli (rest := [.ref (ad 28)]) (ws' := fun _ : Unit => [c_RE ad cA ma mn ms mb mt mw mg md_2].flatten) C0 hH hA (c_Ref_factAt l dC dI cA ad x3 (x2 + 1) ma mn ms mb mt mw mg md_2 _ _ h) Y_Ref_factAt k_871 0 rfl hc_8 (q_pg [0] [] [0] 1 1 rfl (by decide) rfl (fun _ => rfl) rfl (by decide) (fun _ => rfl)) ⟨Nat.le_of_ble_eq_true rfl, Nat.le_of_ble_eq_true rfl⟩ rfl rfl (Nat.le_of_ble_eq_true rfl) hl.1 d_Ref_codesFrames_26 ⟨Nat.le_refl 0, Nat.le_refl 0⟩ (fun r_3 u_3 H locs h hH => ?_)
      try dsimp only at h
      have hH : q_H dC dI (va_A w0 s.heap.size) s.heap H locs ([c_RE ad cA ma mn ms mb mt mw mg md_2].flatten) := hH
      refine lv_ineg hx hb d_Ref_codesFrames_29 ?_
      refine q_callv (rest := []) (ws' := fun u : mCode => [c_RE ad cA ma mn ms mb mt mw mg u].flatten) C0 hH hA (c_Ref_says l dC dI cA ad (-r_3) ma mn ms mb mt mw mg md_2 _ _ h) Y_Ref_says k_875 0 rfl hc_8 (q_pg [0] [] [0] 1 1 rfl (by decide) rfl (fun _ => rfl) rfl (by decide) (fun _ => rfl)) ⟨Nat.le_of_ble_eq_true rfl, Nat.le_of_ble_eq_true rfl⟩ rfl rfl (Nat.le_of_ble_eq_true rfl) hl.1 d_Ref_codesFrames_30 ⟨Nat.le_refl 0, Nat.le_refl 0⟩ (fun u_4 H locs h hH => ?_)
      obtain ⟨md_4, rfl⟩ : ∃ z, z = u_4 := ⟨_, rfl⟩
      try dsimp only at h
      have hH : q_H dC dI (va_A w0 s.heap.size) s.heap H locs ([c_RE ad cA ma mn ms mb mt mw mg md_4].flatten) := hH
      refine lv_iconst (v := 0) hx hb d_Ref_codesFrames_33 (by decide) ?_
      refine lv_istore (lv' := [(4, .int 0), (0, .ref (ad 28)), (1, .int x1), (2, .int x2), (3, .int x3)]) hx hb d_Ref_codesFrames_34 hl (by decide) rfl (fun ls hl => ?_)
      obtain ⟨nn, h⟩ := h
      refine x_Ref_codesFrames_L36 C0 hA x1 x2 x3 ma mn ms mb mt mw mg ?_ nn 0 md_4 _ _ _ h (lv_sub hl [1, 2, 3, 4, 0] rfl) hH
      · intro md_5 H locs ls h hl hH
        try dsimp only at h
        refine lv_aload_n hx hb d_Ref_codesFrames_78 rfl (lv_at hl 0 rfl) ?_
        refine q_callv (rest := []) (ws' := fun u : mCode => [c_RE ad cA ma mn ms mb mt mw mg u].flatten) C0 hH hA (c_Ref_ends l dC dI cA ad ma mn ms mb mt mw mg md_5 _ _ h) Y_Ref_ends k_879 0 rfl hc_8 (q_pg [0] [] [0] 1 1 rfl (by decide) rfl (fun _ => rfl) rfl (by decide) (fun _ => rfl)) ⟨Nat.le_of_ble_eq_true rfl, Nat.le_of_ble_eq_true rfl⟩ rfl rfl (Nat.le_of_ble_eq_true rfl) hl.1 d_Ref_codesFrames_79 ⟨Nat.le_refl 0, Nat.le_refl 0⟩ (fun u_6 H locs h hH => ?_)
        obtain ⟨md_6, rfl⟩ : ∃ z, z = u_6 := ⟨_, rfl⟩
        try dsimp only at h
        have hH : q_H dC dI (va_A w0 s.heap.size) s.heap H locs ([c_RE ad cA ma mn ms mb mt mw mg md_6].flatten) := hH
        refine lv_aload_n hx hb d_Ref_codesFrames_82 rfl (lv_at hl 0 rfl) ?_
        refine lv_aload_n hx hb d_Ref_codesFrames_83 rfl (lv_at hl 0 rfl) ?_
        refine lv_iload_n hx hb d_Ref_codesFrames_84 rfl (lv_at hl 3 rfl) ?_
        refine lv_iload_n hx hb d_Ref_codesFrames_85 rfl (lv_at hl 2 rfl) ?_
        refine q_calli (rest := [.ref (ad 28)]) (ws' := fun _ : Unit => [c_RE ad cA ma mn ms mb mt mw mg md_6].flatten) C0 hH hA (c_Ref_factAt l dC dI cA ad x3 x2 ma mn ms mb mt mw mg md_6 _ _ h) Y_Ref_factAt k_871 0 rfl hc_8 (q_pg [0] [] [0] 1 1 rfl (by decide) rfl (fun _ => rfl) rfl (by decide) (fun _ => rfl)) ⟨Nat.le_of_ble_eq_true rfl, Nat.le_of_ble_eq_true rfl⟩ rfl rfl (Nat.le_of_ble_eq_true rfl) hl.1 d_Ref_codesFrames_86 ⟨Nat.le_refl 0, Nat.le_refl 0⟩ (fun r_7 u_7 H locs h hH => ?_)
        try dsimp only at h
        have hH : q_H dC dI (va_A w0 s.heap.size) s.heap H locs ([c_RE ad cA ma mn ms mb mt mw mg md_6].flatten) := hH
        refine lv_ineg hx hb d_Ref_codesFrames_89 ?_
        refine q_callv (rest := []) (ws' := fun u : mCode => [c_RE ad cA ma mn ms mb mt mw mg u].flatten) C0 hH hA (c_Ref_says l dC dI cA ad (-r_7) ma mn ms mb mt mw mg md_6 _ _ h) Y_Ref_says k_875 0 rfl hc_8 (q_pg [0] [] [0] 1 1 rfl (by decide) rfl (fun _ => rfl) rfl (by decide) (fun _ => rfl)) ⟨Nat.le_of_ble_eq_true rfl, Nat.le_of_ble_eq_true rfl⟩ rfl rfl (Nat.le_of_ble_eq_true rfl) hl.1 d_Ref_codesFrames_90 ⟨Nat.le_refl 0, Nat.le_refl 0⟩ (fun u_8 H locs h hH => ?_)
        obtain ⟨md_8, rfl⟩ : ∃ z, z = u_8 := ⟨_, rfl⟩
        try dsimp only at h
        have hH : q_H dC dI (va_A w0 s.heap.size) s.heap H locs ([c_RE ad cA ma mn ms mb mt mw mg md_8].flatten) := hH
        refine lv_aload_n hx hb d_Ref_codesFrames_93 rfl (lv_at hl 0 rfl) ?_
        refine lv_aload_n hx hb d_Ref_codesFrames_94 rfl (lv_at hl 0 rfl) ?_
        refine lv_iload_n hx hb d_Ref_codesFrames_95 rfl (lv_at hl 3 rfl) ?_
        refine lv_iload_n hx hb d_Ref_codesFrames_96 rfl (lv_at hl 2 rfl) ?_
        refine lv_iconst (v := 1) hx hb d_Ref_codesFrames_97 (by decide) ?_
        refine lv_iadd hx hb d_Ref_codesFrames_98 ?_
        refine q_calli (rest := [.ref (ad 28)]) (ws' := fun _ : Unit => [c_RE ad cA ma mn ms mb mt mw mg md_8].flatten) C0 hH hA (c_Ref_factAt l dC dI cA ad x3 (x2 + 1) ma mn ms mb mt mw mg md_8 _ _ h) Y_Ref_factAt k_871 0 rfl hc_8 (q_pg [0] [] [0] 1 1 rfl (by decide) rfl (fun _ => rfl) rfl (by decide) (fun _ => rfl)) ⟨Nat.le_of_ble_eq_true rfl, Nat.le_of_ble_eq_true rfl⟩ rfl rfl (Nat.le_of_ble_eq_true rfl) hl.1 d_Ref_codesFrames_99 ⟨Nat.le_refl 0, Nat.le_refl 0⟩ (fun r_9 u_9 H locs h hH => ?_)
        try dsimp only at h
        have hH : q_H dC dI (va_A w0 s.heap.size) s.heap H locs ([c_RE ad cA ma mn ms mb mt mw mg md_8].flatten) := hH
        refine q_callv (rest := []) (ws' := fun u : mCode => [c_RE ad cA ma mn ms mb mt mw mg u].flatten) C0 hH hA (c_Ref_says l dC dI cA ad r_9 ma mn ms mb mt mw mg md_8 _ _ h) Y_Ref_says k_875 0 rfl hc_8 (q_pg [0] [] [0] 1 1 rfl (by decide) rfl (fun _ => rfl) rfl (by decide) (fun _ => rfl)) ⟨Nat.le_of_ble_eq_true rfl, Nat.le_of_ble_eq_true rfl⟩ rfl rfl (Nat.le_of_ble_eq_true rfl) hl.1 d_Ref_codesFrames_102 ⟨Nat.le_refl 0, Nat.le_refl 0⟩ (fun u_10 H locs h hH => ?_)
        obtain ⟨md_10, rfl⟩ : ∃ z, z = u_10 := ⟨_, rfl⟩
        try dsimp only at h
        have hH : q_H dC dI (va_A w0 s.heap.size) s.heap H locs ([c_RE ad cA ma mn ms mb mt mw mg md_10].flatten) := hH
        refine lv_iconst (v := 0) hx hb d_Ref_codesFrames_105 (by decide) ?_
        refine lv_istore (lv' := [(4, .int 0), (0, .ref (ad 28)), (1, .int x1), (2, .int x2), (3, .int x3)]) hx hb d_Ref_codesFrames_106 hl (by decide) rfl (fun ls hl => ?_)
        obtain ⟨nn, h⟩ := h
        refine x_Ref_codesFrames_L108 C0 hA x1 x2 x3 ma mn ms mb mt mw mg ?_ nn 0 md_10 _ _ _ h (lv_sub hl [1, 2, 3, 4, 0] rfl) hH
        · intro md_11 H locs ls h hl hH
          try dsimp only at h
          refine lv_aload_n hx hb d_Ref_codesFrames_150 rfl (lv_at hl 0 rfl) ?_
          refine q_callv (rest := []) (ws' := fun u : mCode => [c_RE ad cA ma mn ms mb mt mw mg u].flatten) C0 hH hA (c_Ref_ends l dC dI cA ad ma mn ms mb mt mw mg md_11 _ _ h) Y_Ref_ends k_879 0 rfl hc_8 (q_pg [0] [] [0] 1 1 rfl (by decide) rfl (fun _ => rfl) rfl (by decide) (fun _ => rfl)) ⟨Nat.le_of_ble_eq_true rfl, Nat.le_of_ble_eq_true rfl⟩ rfl rfl (Nat.le_of_ble_eq_true rfl) hl.1 d_Ref_codesFrames_151 ⟨Nat.le_refl 0, Nat.le_refl 0⟩ (fun u_12 H locs h hH => ?_)
          obtain ⟨md_12, rfl⟩ : ∃ z, z = u_12 := ⟨_, rfl⟩
          try dsimp only at h
          have hH : q_H dC dI (va_A w0 s.heap.size) s.heap H locs ([c_RE ad cA ma mn ms mb mt mw mg md_12].flatten) := hH
          refine lv_iinc (v := (x3 + 1)) (lv' := [(3, .int (x3 + 1)), (0, .ref (ad 28)), (1, .int x1), (2, .int x2)]) hx hb d_Ref_codesFrames_154 hl (k := 3) rfl rfl (by decide) rfl (fun ls hl => ?_)
          refine lv_goto (tgt := 2) hx hb d_Ref_codesFrames_157 (by decide) ?_
          exact ih (x3 + 1) md_12 _ _ _ h (lv_sub hl [1, 2, 3, 0] rfl) hH
set_option maxHeartbeats 4000000 in
set_option maxRecDepth 100000 in
theorem c_Ref_codesFrames (l : Launch) (dC : Nat → ClassId) (dI : Nat → Nat → Nat) (cA : ClassId) (ad : Nat → Nat) (x1 : Int32) (x2 : Int32) (ma : mForm) (mn : mKnow) (ms : mSat) (mb : mBack) (mt : mTask) (mw : (Nat → Int32)) (mg : mGo) (md : mCode) (Q : mCode → Prop) (sz : Nat) (h : w_Ref_codesFrames x1 x2 mt md Q) :
    q_Mv l y_Ref_codesFrames b_Ref_codesFrames 5 1 23 [.ref (ad 28), .int x1, .int x2] dC dI cA ([c_RE ad cA ma mn ms mb mt mw mg md].flatten) (fun u : mCode => [c_RE ad cA ma mn ms mb mt mw mg u].flatten) sz (fun u => Q u) := by
  refine q_metv (plainFor_of_name (by decide +kernel)) (Nat.le_of_ble_eq_true rfl) (fun {p e s m below meth c ls} C0 hl hH => ?_)
  obtain ⟨hx, hb, -⟩ := id C0
  have hA : ∀ q, s.heap.size ≤ q → va_A ([c_RE ad cA ma mn ms mb mt mw mg md].flatten) s.heap.size q := q_nA
  have hl : lv_has ls 5 [(0, .ref (ad 28)), (1, .int x1), (2, .int x2)] := hl
  unfold w_Ref_codesFrames at h
  refine lv_iconst (v := 0) hx hb d_Ref_codesFrames_0 (by decide) ?_
  refine lv_istore_n (lv' := [(3, .int 0), (0, .ref (ad 28)), (1, .int x1), (2, .int x2)]) hx hb d_Ref_codesFrames_1 rfl hl (by decide) rfl (fun ls hl => ?_)
  obtain ⟨nn, h⟩ := h
  refine x_Ref_codesFrames_L2 C0 hA x1 x2 ma mn ms mb mt mw mg ?_ nn 0 md _ _ _ h (lv_sub hl [1, 2, 3, 0] rfl) hH
  · intro md_1 H locs ls h hl hH
    try dsimp only at h
    exact q_retv C0 hH md_1 rfl h d_Ref_codesFrames_160
theorem d_Ref_codesStep_0 : decode b_Ref_codesStep 0 = .ok (.iconst 0, 1) := by decide +kernel
theorem d_Ref_codesStep_1 : decode b_Ref_codesStep 1 = .ok (.istore_n 3, 1) := by decide +kernel
theorem d_Ref_codesStep_2 : decode b_Ref_codesStep 2 = .ok (.iload_n 3, 1) := by decide +kernel
theorem d_Ref_codesStep_3 : decode b_Ref_codesStep 3 = .ok (.aload_n 0, 1) := by decide +kernel
theorem d_Ref_codesStep_4 : decode b_Ref_codesStep 4 = .ok (.getfield 121, 3) := by decide +kernel
theorem d_Ref_codesStep_7 : decode b_Ref_codesStep 7 = .ok (.if_icmp .ge 69, 3) := by decide +kernel
theorem d_Ref_codesStep_10 : decode b_Ref_codesStep 10 = .ok (.iconst 0, 1) := by decide +kernel
theorem d_Ref_codesStep_11 : decode b_Ref_codesStep 11 = .ok (.istore 4, 2) := by decide +kernel
theorem d_Ref_codesStep_13 : decode b_Ref_codesStep 13 = .ok (.iload 4, 2) := by decide +kernel
theorem d_Ref_codesStep_15 : decode b_Ref_codesStep 15 = .ok (.aload_n 0, 1) := by decide +kernel
theorem d_Ref_codesStep_16 : decode b_Ref_codesStep 16 = .ok (.getfield 118, 3) := by decide +kernel
theorem d_Ref_codesStep_19 : decode b_Ref_codesStep 19 = .ok (.if_icmp .ge 51, 3) := by decide +kernel
theorem d_Ref_codesStep_22 : decode b_Ref_codesStep 22 = .ok (.aload_n 0, 1) := by decide +kernel
theorem d_Ref_codesStep_23 : decode b_Ref_codesStep 23 = .ok (.getfield 28, 3) := by decide +kernel
theorem d_Ref_codesStep_26 : decode b_Ref_codesStep 26 = .ok (.iload_n 3, 1) := by decide +kernel
theorem d_Ref_codesStep_27 : decode b_Ref_codesStep 27 = .ok (.iaload, 1) := by decide +kernel
theorem d_Ref_codesStep_28 : decode b_Ref_codesStep 28 = .ok (.iload 4, 2) := by decide +kernel
theorem d_Ref_codesStep_30 : decode b_Ref_codesStep 30 = .ok (.ishr, 1) := by decide +kernel
theorem d_Ref_codesStep_31 : decode b_Ref_codesStep 31 = .ok (.iconst 1, 1) := by decide +kernel
theorem d_Ref_codesStep_32 : decode b_Ref_codesStep 32 = .ok (.iand, 1) := by decide +kernel
theorem d_Ref_codesStep_33 : decode b_Ref_codesStep 33 = .ok (.iconst 1, 1) := by decide +kernel
theorem d_Ref_codesStep_34 : decode b_Ref_codesStep 34 = .ok (.if_icmp .ne 30, 3) := by decide +kernel
theorem d_Ref_codesStep_37 : decode b_Ref_codesStep 37 = .ok (.aload_n 0, 1) := by decide +kernel
theorem d_Ref_codesStep_38 : decode b_Ref_codesStep 38 = .ok (.aload_n 0, 1) := by decide +kernel
theorem d_Ref_codesStep_39 : decode b_Ref_codesStep 39 = .ok (.iload_n 1, 1) := by decide +kernel
theorem d_Ref_codesStep_40 : decode b_Ref_codesStep 40 = .ok (.iload_n 3, 1) := by decide +kernel
theorem d_Ref_codesStep_41 : decode b_Ref_codesStep 41 = .ok (.iload_n 2, 1) := by decide +kernel
theorem d_Ref_codesStep_42 : decode b_Ref_codesStep 42 = .ok (.invokevirtual 171, 3) := by decide +kernel
theorem d_Ref_codesStep_45 : decode b_Ref_codesStep 45 = .ok (.ineg, 1) := by decide +kernel
theorem d_Ref_codesStep_46 : decode b_Ref_codesStep 46 = .ok (.invokevirtual 175, 3) := by decide +kernel
theorem d_Ref_codesStep_49 : decode b_Ref_codesStep 49 = .ok (.aload_n 0, 1) := by decide +kernel
theorem d_Ref_codesStep_50 : decode b_Ref_codesStep 50 = .ok (.aload_n 0, 1) := by decide +kernel
theorem d_Ref_codesStep_51 : decode b_Ref_codesStep 51 = .ok (.iload 4, 2) := by decide +kernel
theorem d_Ref_codesStep_53 : decode b_Ref_codesStep 53 = .ok (.iload_n 2, 1) := by decide +kernel
theorem d_Ref_codesStep_54 : decode b_Ref_codesStep 54 = .ok (.invokevirtual 178, 3) := by decide +kernel
theorem d_Ref_codesStep_57 : decode b_Ref_codesStep 57 = .ok (.invokevirtual 175, 3) := by decide +kernel
theorem d_Ref_codesStep_60 : decode b_Ref_codesStep 60 = .ok (.aload_n 0, 1) := by decide +kernel
theorem d_Ref_codesStep_61 : decode b_Ref_codesStep 61 = .ok (.invokevirtual 181, 3) := by decide +kernel
theorem d_Ref_codesStep_64 : decode b_Ref_codesStep 64 = .ok (.iinc 4 1, 3) := by decide +kernel
theorem d_Ref_codesStep_67 : decode b_Ref_codesStep 67 = .ok (.goto (-54), 3) := by decide +kernel
theorem d_Ref_codesStep_70 : decode b_Ref_codesStep 70 = .ok (.iinc 3 1, 3) := by decide +kernel
theorem d_Ref_codesStep_73 : decode b_Ref_codesStep 73 = .ok (.goto (-71), 3) := by decide +kernel
theorem d_Ref_codesStep_76 : decode b_Ref_codesStep 76 = .ok (.aload_n 0, 1) := by decide +kernel
theorem d_Ref_codesStep_77 : decode b_Ref_codesStep 77 = .ok (.iload_n 1, 1) := by decide +kernel
theorem d_Ref_codesStep_78 : decode b_Ref_codesStep 78 = .ok (.iload_n 2, 1) := by decide +kernel
theorem d_Ref_codesStep_79 : decode b_Ref_codesStep 79 = .ok (.invokevirtual 184, 3) := by decide +kernel
theorem d_Ref_codesStep_82 : decode b_Ref_codesStep 82 = .ok (.aload_n 0, 1) := by decide +kernel
theorem d_Ref_codesStep_83 : decode b_Ref_codesStep 83 = .ok (.iload_n 1, 1) := by decide +kernel
theorem d_Ref_codesStep_84 : decode b_Ref_codesStep 84 = .ok (.iload_n 2, 1) := by decide +kernel
theorem d_Ref_codesStep_85 : decode b_Ref_codesStep 85 = .ok (.invokevirtual 187, 3) := by decide +kernel
theorem d_Ref_codesStep_88 : decode b_Ref_codesStep 88 = .ok (.iconst 0, 1) := by decide +kernel
theorem d_Ref_codesStep_89 : decode b_Ref_codesStep 89 = .ok (.istore_n 3, 1) := by decide +kernel
theorem d_Ref_codesStep_90 : decode b_Ref_codesStep 90 = .ok (.iload_n 3, 1) := by decide +kernel
theorem d_Ref_codesStep_91 : decode b_Ref_codesStep 91 = .ok (.aload_n 0, 1) := by decide +kernel
theorem d_Ref_codesStep_92 : decode b_Ref_codesStep 92 = .ok (.getfield 121, 3) := by decide +kernel
theorem d_Ref_codesStep_95 : decode b_Ref_codesStep 95 = .ok (.if_icmp .ge 58, 3) := by decide +kernel
theorem d_Ref_codesStep_98 : decode b_Ref_codesStep 98 = .ok (.iload_n 3, 1) := by decide +kernel
theorem d_Ref_codesStep_99 : decode b_Ref_codesStep 99 = .ok (.iconst 1, 1) := by decide +kernel
theorem d_Ref_codesStep_100 : decode b_Ref_codesStep 100 = .ok (.iadd, 1) := by decide +kernel
theorem d_Ref_codesStep_101 : decode b_Ref_codesStep 101 = .ok (.istore 4, 2) := by decide +kernel
theorem d_Ref_codesStep_103 : decode b_Ref_codesStep 103 = .ok (.iload 4, 2) := by decide +kernel
theorem d_Ref_codesStep_105 : decode b_Ref_codesStep 105 = .ok (.aload_n 0, 1) := by decide +kernel
theorem d_Ref_codesStep_106 : decode b_Ref_codesStep 106 = .ok (.getfield 121, 3) := by decide +kernel
theorem d_Ref_codesStep_109 : decode b_Ref_codesStep 109 = .ok (.if_icmp .ge 38, 3) := by decide +kernel
theorem d_Ref_codesStep_112 : decode b_Ref_codesStep 112 = .ok (.aload_n 0, 1) := by decide +kernel
theorem d_Ref_codesStep_113 : decode b_Ref_codesStep 113 = .ok (.aload_n 0, 1) := by decide +kernel
theorem d_Ref_codesStep_114 : decode b_Ref_codesStep 114 = .ok (.iload_n 1, 1) := by decide +kernel
theorem d_Ref_codesStep_115 : decode b_Ref_codesStep 115 = .ok (.iload_n 3, 1) := by decide +kernel
theorem d_Ref_codesStep_116 : decode b_Ref_codesStep 116 = .ok (.iload_n 2, 1) := by decide +kernel
theorem d_Ref_codesStep_117 : decode b_Ref_codesStep 117 = .ok (.invokevirtual 171, 3) := by decide +kernel
theorem d_Ref_codesStep_120 : decode b_Ref_codesStep 120 = .ok (.ineg, 1) := by decide +kernel
theorem d_Ref_codesStep_121 : decode b_Ref_codesStep 121 = .ok (.invokevirtual 175, 3) := by decide +kernel
theorem d_Ref_codesStep_124 : decode b_Ref_codesStep 124 = .ok (.aload_n 0, 1) := by decide +kernel
theorem d_Ref_codesStep_125 : decode b_Ref_codesStep 125 = .ok (.aload_n 0, 1) := by decide +kernel
theorem d_Ref_codesStep_126 : decode b_Ref_codesStep 126 = .ok (.iload_n 1, 1) := by decide +kernel
theorem d_Ref_codesStep_127 : decode b_Ref_codesStep 127 = .ok (.iload 4, 2) := by decide +kernel
theorem d_Ref_codesStep_129 : decode b_Ref_codesStep 129 = .ok (.iload_n 2, 1) := by decide +kernel
theorem d_Ref_codesStep_130 : decode b_Ref_codesStep 130 = .ok (.invokevirtual 171, 3) := by decide +kernel
theorem d_Ref_codesStep_133 : decode b_Ref_codesStep 133 = .ok (.ineg, 1) := by decide +kernel
theorem d_Ref_codesStep_134 : decode b_Ref_codesStep 134 = .ok (.invokevirtual 175, 3) := by decide +kernel
theorem d_Ref_codesStep_137 : decode b_Ref_codesStep 137 = .ok (.aload_n 0, 1) := by decide +kernel
theorem d_Ref_codesStep_138 : decode b_Ref_codesStep 138 = .ok (.invokevirtual 181, 3) := by decide +kernel
theorem d_Ref_codesStep_141 : decode b_Ref_codesStep 141 = .ok (.iinc 4 1, 3) := by decide +kernel
theorem d_Ref_codesStep_144 : decode b_Ref_codesStep 144 = .ok (.goto (-41), 3) := by decide +kernel
theorem d_Ref_codesStep_147 : decode b_Ref_codesStep 147 = .ok (.iinc 3 1, 3) := by decide +kernel
theorem d_Ref_codesStep_150 : decode b_Ref_codesStep 150 = .ok (.goto (-60), 3) := by decide +kernel
theorem d_Ref_codesStep_153 : decode b_Ref_codesStep 153 = .ok (.return_, 1) := by decide +kernel
set_option maxHeartbeats 4000000 in
set_option maxRecDepth 100000 in
theorem x_Ref_codesStep_L103 {p : Program} {e : Env} {s : State} {m : MethodId} {args : Array Value} {below : List Frame} {meth : Method} {c : Code} {l : Launch} {dC : Nat → ClassId} {dI : Nat → Nat → Nat} {cA : ClassId} {ad : Nat → Nat} {w0 : va_W} (C0 : q_C p s m args meth c b_Ref_codesStep 5 none "PlanClausesModel" dC dI cA) (hA : ∀ q, s.heap.size ≤ q → va_A w0 s.heap.size q) (x1 : Int32) (x2 : Int32) (x3 : Int32) (ma : mForm) (mn : mKnow) (ms : mSat) (mb : mBack) (mt : mTask) (mw : (Nat → Int32)) (mg : mGo) {Q : mCode → Prop} {K147 : mCode → Prop}
    (hK147 : ∀ (md : mCode) (H : Heap) (locs : List Loc) (ls : Array Slot), K147 md → lv_has ls 5 [(0, .ref (ad 28)), (1, .int x1), (2, .int x2), (3, .int x3)] → q_H dC dI (va_A w0 s.heap.size) s.heap H locs ([c_RE ad cA ma mn ms mb mt mw mg md].flatten) → W p l e (q_R 2 47) s m args below meth c H locs 0 0 (q_Zv below args s dC dI cA w0 (fun u : mCode => [c_RE ad cA ma mn ms mb mt mw mg u].flatten) (fun u => Q u)) (F0 m 147 ls [])) :
    ∀ (nn : Nat) (x4 : Int32) (md : mCode) (H : Heap) (locs : List Loc) (ls : Array Slot), w_Ref_codesStep_L103 x1 x2 x3 mt K147 nn x4 md → lv_has ls 5 [(0, .ref (ad 28)), (1, .int x1), (2, .int x2), (3, .int x3), (4, .int x4)] → q_H dC dI (va_A w0 s.heap.size) s.heap H locs ([c_RE ad cA ma mn ms mb mt mw mg md].flatten) → W p l e (q_R 2 47) s m args below meth c H locs 0 0 (q_Zv below args s dC dI cA w0 (fun u : mCode => [c_RE ad cA ma mn ms mb mt mw mg u].flatten) (fun u => Q u)) (F0 m 103 ls []) := by
  obtain ⟨hx, hb, -⟩ := id C0
  intro nn
  induction nn with
  | zero =>
    intro x4 md H locs ls h
    exact (show False from h).elim
  | succ nn ih =>
    intro x4 md H locs ls h hl hH
    rw [w_Ref_codesStep_L103] at h
    refine lv_iload hx hb d_Ref_codesStep_103 (lv_at hl 4 rfl) ?_
    refine lv_aload_n hx hb d_Ref_codesStep_105 rfl (lv_at hl 0 rfl) ?_
    refine q_get (v := .int mt.actions) C0 hH 0 rfl hc_8 12 (by decide) k_634 rfl d_Ref_codesStep_106 ?_
    refine lv_icmp_ge (tgt := 147) hx hb d_Ref_codesStep_109 (by decide) (fun c => ?_) (fun c => ?_)
    · have h := h.1 c
      exact hK147 md _ _ _ h (lv_sub hl [0, 1, 2, 3] rfl) hH
    · have h := h.2 c
      refine lv_aload_n hx hb d_Ref_codesStep_112 rfl (lv_at hl 0 rfl) ?_
      refine lv_aload_n hx hb d_Ref_codesStep_113 rfl (lv_at hl 0 rfl) ?_
      refine lv_iload_n hx hb d_Ref_codesStep_114 rfl (lv_at hl 1 rfl) ?_
      refine lv_iload_n hx hb d_Ref_codesStep_115 rfl (lv_at hl 3 rfl) ?_
      refine lv_iload_n hx hb d_Ref_codesStep_116 rfl (lv_at hl 2 rfl) ?_
      refine q_calli (rest := [.ref (ad 28)]) (ws' := fun _ : Unit => [c_RE ad cA ma mn ms mb mt mw mg md].flatten) C0 hH hA (c_Ref_actionAt l dC dI cA ad x1 x3 x2 ma mn ms mb mt mw mg md _ _ h) Y_Ref_actionAt k_887 0 rfl hc_8 (q_pg [0] [] [0] 1 1 rfl (by decide) rfl (fun _ => rfl) rfl (by decide) (fun _ => rfl)) ⟨Nat.le_of_ble_eq_true rfl, Nat.le_of_ble_eq_true rfl⟩ rfl rfl (Nat.le_of_ble_eq_true rfl) hl.1 d_Ref_codesStep_117 ⟨Nat.le_refl 0, Nat.le_refl 0⟩ (fun r_1 u_1 H locs h hH => ?_)
      try dsimp only at h
      have hH : q_H dC dI (va_A w0 s.heap.size) s.heap H locs ([c_RE ad cA ma mn ms mb mt mw mg md].flatten) := hH
      refine lv_ineg hx hb d_Ref_codesStep_120 ?_
      refine q_callv (rest := []) (ws' := fun u : mCode => [c_RE ad cA ma mn ms mb mt mw mg u].flatten) C0 hH hA (c_Ref_says l dC dI cA ad (-r_1) ma mn ms mb mt mw mg md _ _ h) Y_Ref_says k_875 0 rfl hc_8 (q_pg [0] [] [0] 1 1 rfl (by decide) rfl (fun _ => rfl) rfl (by decide) (fun _ => rfl)) ⟨Nat.le_of_ble_eq_true rfl, Nat.le_of_ble_eq_true rfl⟩ rfl rfl (Nat.le_of_ble_eq_true rfl) hl.1 d_Ref_codesStep_121 ⟨Nat.le_refl 0, Nat.le_refl 0⟩ (fun u_2 H locs h hH => ?_)
      obtain ⟨md_2, rfl⟩ : ∃ z, z = u_2 := ⟨_, rfl⟩
      try dsimp only at h
      have hH : q_H dC dI (va_A w0 s.heap.size) s.heap H locs ([c_RE ad cA ma mn ms mb mt mw mg md_2].flatten) := hH
      refine lv_aload_n hx hb d_Ref_codesStep_124 rfl (lv_at hl 0 rfl) ?_
      refine lv_aload_n hx hb d_Ref_codesStep_125 rfl (lv_at hl 0 rfl) ?_
      refine lv_iload_n hx hb d_Ref_codesStep_126 rfl (lv_at hl 1 rfl) ?_
      refine lv_iload hx hb d_Ref_codesStep_127 (lv_at hl 4 rfl) ?_
      refine lv_iload_n hx hb d_Ref_codesStep_129 rfl (lv_at hl 2 rfl) ?_
      refine q_calli (rest := [.ref (ad 28)]) (ws' := fun _ : Unit => [c_RE ad cA ma mn ms mb mt mw mg md_2].flatten) C0 hH hA (c_Ref_actionAt l dC dI cA ad x1 x4 x2 ma mn ms mb mt mw mg md_2 _ _ h) Y_Ref_actionAt k_887 0 rfl hc_8 (q_pg [0] [] [0] 1 1 rfl (by decide) rfl (fun _ => rfl) rfl (by decide) (fun _ => rfl)) ⟨Nat.le_of_ble_eq_true rfl, Nat.le_of_ble_eq_true rfl⟩ rfl rfl (Nat.le_of_ble_eq_true rfl) hl.1 d_Ref_codesStep_130 ⟨Nat.le_refl 0, Nat.le_refl 0⟩ (fun r_3 u_3 H locs h hH => ?_)
      try dsimp only at h
      have hH : q_H dC dI (va_A w0 s.heap.size) s.heap H locs ([c_RE ad cA ma mn ms mb mt mw mg md_2].flatten) := hH
      refine lv_ineg hx hb d_Ref_codesStep_133 ?_
      refine q_callv (rest := []) (ws' := fun u : mCode => [c_RE ad cA ma mn ms mb mt mw mg u].flatten) C0 hH hA (c_Ref_says l dC dI cA ad (-r_3) ma mn ms mb mt mw mg md_2 _ _ h) Y_Ref_says k_875 0 rfl hc_8 (q_pg [0] [] [0] 1 1 rfl (by decide) rfl (fun _ => rfl) rfl (by decide) (fun _ => rfl)) ⟨Nat.le_of_ble_eq_true rfl, Nat.le_of_ble_eq_true rfl⟩ rfl rfl (Nat.le_of_ble_eq_true rfl) hl.1 d_Ref_codesStep_134 ⟨Nat.le_refl 0, Nat.le_refl 0⟩ (fun u_4 H locs h hH => ?_)
      obtain ⟨md_4, rfl⟩ : ∃ z, z = u_4 := ⟨_, rfl⟩
      try dsimp only at h
      have hH : q_H dC dI (va_A w0 s.heap.size) s.heap H locs ([c_RE ad cA ma mn ms mb mt mw mg md_4].flatten) := hH
      refine lv_aload_n hx hb d_Ref_codesStep_137 rfl (lv_at hl 0 rfl) ?_
      refine q_callv (rest := []) (ws' := fun u : mCode => [c_RE ad cA ma mn ms mb mt mw mg u].flatten) C0 hH hA (c_Ref_ends l dC dI cA ad ma mn ms mb mt mw mg md_4 _ _ h) Y_Ref_ends k_879 0 rfl hc_8 (q_pg [0] [] [0] 1 1 rfl (by decide) rfl (fun _ => rfl) rfl (by decide) (fun _ => rfl)) ⟨Nat.le_of_ble_eq_true rfl, Nat.le_of_ble_eq_true rfl⟩ rfl rfl (Nat.le_of_ble_eq_true rfl) hl.1 d_Ref_codesStep_138 ⟨Nat.le_refl 0, Nat.le_refl 0⟩ (fun u_5 H locs h hH => ?_)
      obtain ⟨md_5, rfl⟩ : ∃ z, z = u_5 := ⟨_, rfl⟩
      try dsimp only at h
      have hH : q_H dC dI (va_A w0 s.heap.size) s.heap H locs ([c_RE ad cA ma mn ms mb mt mw mg md_5].flatten) := hH
      refine lv_iinc (v := (x4 + 1)) (lv' := [(4, .int (x4 + 1)), (0, .ref (ad 28)), (1, .int x1), (2, .int x2), (3, .int x3)]) hx hb d_Ref_codesStep_141 hl (k := 4) rfl rfl (by decide) rfl (fun ls hl => ?_)
      refine lv_goto (tgt := 103) hx hb d_Ref_codesStep_144 (by decide) ?_
      exact ih (x4 + 1) md_5 _ _ _ h (lv_sub hl [1, 2, 3, 4, 0] rfl) hH
set_option maxHeartbeats 4000000 in
set_option maxRecDepth 100000 in
theorem x_Ref_codesStep_L90 {p : Program} {e : Env} {s : State} {m : MethodId} {args : Array Value} {below : List Frame} {meth : Method} {c : Code} {l : Launch} {dC : Nat → ClassId} {dI : Nat → Nat → Nat} {cA : ClassId} {ad : Nat → Nat} {w0 : va_W} (C0 : q_C p s m args meth c b_Ref_codesStep 5 none "PlanClausesModel" dC dI cA) (hA : ∀ q, s.heap.size ≤ q → va_A w0 s.heap.size q) (x1 : Int32) (x2 : Int32) (ma : mForm) (mn : mKnow) (ms : mSat) (mb : mBack) (mt : mTask) (mw : (Nat → Int32)) (mg : mGo) {Q : mCode → Prop} {K153 : mCode → Prop}
    (hK153 : ∀ (md : mCode) (H : Heap) (locs : List Loc) (ls : Array Slot), K153 md → lv_has ls 5 [] → q_H dC dI (va_A w0 s.heap.size) s.heap H locs ([c_RE ad cA ma mn ms mb mt mw mg md].flatten) → W p l e (q_R 2 47) s m args below meth c H locs 0 0 (q_Zv below args s dC dI cA w0 (fun u : mCode => [c_RE ad cA ma mn ms mb mt mw mg u].flatten) (fun u => Q u)) (F0 m 153 ls [])) :
    ∀ (nn : Nat) (x3 : Int32) (md : mCode) (H : Heap) (locs : List Loc) (ls : Array Slot), w_Ref_codesStep_L90 x1 x2 mt K153 nn x3 md → lv_has ls 5 [(0, .ref (ad 28)), (1, .int x1), (2, .int x2), (3, .int x3)] → q_H dC dI (va_A w0 s.heap.size) s.heap H locs ([c_RE ad cA ma mn ms mb mt mw mg md].flatten) → W p l e (q_R 2 47) s m args below meth c H locs 0 0 (q_Zv below args s dC dI cA w0 (fun u : mCode => [c_RE ad cA ma mn ms mb mt mw mg u].flatten) (fun u => Q u)) (F0 m 90 ls []) := by
  obtain ⟨hx, hb, -⟩ := id C0
  intro nn
  induction nn with
  | zero =>
    intro x3 md H locs ls h
    exact (show False from h).elim
  | succ nn ih =>
    intro x3 md H locs ls h hl hH
    rw [w_Ref_codesStep_L90] at h
    refine lv_iload_n hx hb d_Ref_codesStep_90 rfl (lv_at hl 3 rfl) ?_
    refine lv_aload_n hx hb d_Ref_codesStep_91 rfl (lv_at hl 0 rfl) ?_
    refine q_get (v := .int mt.actions) C0 hH 0 rfl hc_8 12 (by decide) k_634 rfl d_Ref_codesStep_92 ?_
    refine lv_icmp_ge (tgt := 153) hx hb d_Ref_codesStep_95 (by decide) (fun c => ?_) (fun c => ?_)
    · have h := h.1 c
      exact hK153 md _ _ _ h (lv_sub hl [] rfl) hH
    · have h := h.2 c
      refine lv_iload_n hx hb d_Ref_codesStep_98 rfl (lv_at hl 3 rfl) ?_
      refine lv_iconst (v := 1) hx hb d_Ref_codesStep_99 (by decide) ?_
      refine lv_iadd hx hb d_Ref_codesStep_100 ?_
      refine lv_istore (lv' := [(4, .int (x3 + 1)), (0, .ref (ad 28)), (1, .int x1), (2, .int x2), (3, .int x3)]) hx hb d_Ref_codesStep_101 hl (by decide) rfl (fun ls hl => ?_)
      obtain ⟨nn, h⟩ := h
      refine x_Ref_codesStep_L103 C0 hA x1 x2 x3 ma mn ms mb mt mw mg ?_ nn (x3 + 1) md _ _ _ h (lv_sub hl [1, 2, 3, 4, 0] rfl) hH
      · intro md_1 H locs ls h hl hH
        try dsimp only at h
        refine lv_iinc (v := (x3 + 1)) (lv' := [(3, .int (x3 + 1)), (0, .ref (ad 28)), (1, .int x1), (2, .int x2)]) hx hb d_Ref_codesStep_147 hl (k := 3) rfl rfl (by decide) rfl (fun ls hl => ?_)
        refine lv_goto (tgt := 90) hx hb d_Ref_codesStep_150 (by decide) ?_
        exact ih (x3 + 1) md_1 _ _ _ h (lv_sub hl [1, 2, 3, 0] rfl) hH
set_option maxHeartbeats 4000000 in
set_option maxRecDepth 100000 in
theorem x_Ref_codesStep_L13 {p : Program} {e : Env} {s : State} {m : MethodId} {args : Array Value} {below : List Frame} {meth : Method} {c : Code} {l : Launch} {dC : Nat → ClassId} {dI : Nat → Nat → Nat} {cA : ClassId} {ad : Nat → Nat} {w0 : va_W} (C0 : q_C p s m args meth c b_Ref_codesStep 5 none "PlanClausesModel" dC dI cA) (hA : ∀ q, s.heap.size ≤ q → va_A w0 s.heap.size q) (x1 : Int32) (x2 : Int32) (x3 : Int32) (ma : mForm) (mn : mKnow) (ms : mSat) (mb : mBack) (mt : mTask) (mw : (Nat → Int32)) (mg : mGo) {Q : mCode → Prop} {K70 : mCode → Prop}
    (hK70 : ∀ (md : mCode) (H : Heap) (locs : List Loc) (ls : Array Slot), K70 md → lv_has ls 5 [(0, .ref (ad 28)), (1, .int x1), (2, .int x2), (3, .int x3)] → q_H dC dI (va_A w0 s.heap.size) s.heap H locs ([c_RE ad cA ma mn ms mb mt mw mg md].flatten) → W p l e (q_R 2 47) s m args below meth c H locs 0 0 (q_Zv below args s dC dI cA w0 (fun u : mCode => [c_RE ad cA ma mn ms mb mt mw mg u].flatten) (fun u => Q u)) (F0 m 70 ls [])) :
    ∀ (nn : Nat) (x4 : Int32) (md : mCode) (H : Heap) (locs : List Loc) (ls : Array Slot), w_Ref_codesStep_L13 x1 x2 x3 mt K70 nn x4 md → lv_has ls 5 [(0, .ref (ad 28)), (1, .int x1), (2, .int x2), (3, .int x3), (4, .int x4)] → q_H dC dI (va_A w0 s.heap.size) s.heap H locs ([c_RE ad cA ma mn ms mb mt mw mg md].flatten) → W p l e (q_R 2 47) s m args below meth c H locs 0 0 (q_Zv below args s dC dI cA w0 (fun u : mCode => [c_RE ad cA ma mn ms mb mt mw mg u].flatten) (fun u => Q u)) (F0 m 13 ls []) := by
  obtain ⟨hx, hb, -⟩ := id C0
  intro nn
  induction nn with
  | zero =>
    intro x4 md H locs ls h
    exact (show False from h).elim
  | succ nn ih =>
    intro x4 md H locs ls h hl hH
    rw [w_Ref_codesStep_L13] at h
    refine lv_iload hx hb d_Ref_codesStep_13 (lv_at hl 4 rfl) ?_
    refine lv_aload_n hx hb d_Ref_codesStep_15 rfl (lv_at hl 0 rfl) ?_
    refine q_get (v := .int mt.facts) C0 hH 0 rfl hc_8 11 (by decide) k_633 rfl d_Ref_codesStep_16 ?_
    refine lv_icmp_ge (tgt := 70) hx hb d_Ref_codesStep_19 (by decide) (fun c => ?_) (fun c => ?_)
    · have h := h.1 c
      exact hK70 md _ _ _ h (lv_sub hl [0, 1, 2, 3] rfl) hH
    · have h := h.2 c
      refine lv_aload_n hx hb d_Ref_codesStep_22 rfl (lv_at hl 0 rfl) ?_
      refine q_get (v := .ref (ad 35)) C0 hH 0 rfl hc_8 13 (by decide) k_635 rfl d_Ref_codesStep_23 ?_
      refine lv_iload_n hx hb d_Ref_codesStep_26 rfl (lv_at hl 3 rfl) ?_
      obtain ⟨hi, h⟩ := h
      refine q_ald (f := mt.asks) C0 hH 7 rfl hi d_Ref_codesStep_27 ?_
      refine lv_iload hx hb d_Ref_codesStep_28 (lv_at hl 4 rfl) ?_
      refine lv_ishr hx hb d_Ref_codesStep_30 ?_
      refine lv_iconst (v := 1) hx hb d_Ref_codesStep_31 (by decide) ?_
      refine lv_iand hx hb d_Ref_codesStep_32 ?_
      refine lv_iconst (v := 1) hx hb d_Ref_codesStep_33 (by decide) ?_
      refine lv_icmp_ne (tgt := 64) hx hb d_Ref_codesStep_34 (by decide) (fun c => ?_) (fun c => ?_)
      · have h := h.1 c
        refine lv_iinc (v := (x4 + 1)) (lv' := [(4, .int (x4 + 1)), (0, .ref (ad 28)), (1, .int x1), (2, .int x2), (3, .int x3)]) hx hb d_Ref_codesStep_64 hl (k := 4) rfl rfl (by decide) rfl (fun ls hl => ?_)
        refine lv_goto (tgt := 13) hx hb d_Ref_codesStep_67 (by decide) ?_
        exact ih (x4 + 1) md _ _ _ h (lv_sub hl [1, 2, 3, 4, 0] rfl) hH
      · have h := h.2 c
        refine lv_aload_n hx hb d_Ref_codesStep_37 rfl (lv_at hl 0 rfl) ?_
        refine lv_aload_n hx hb d_Ref_codesStep_38 rfl (lv_at hl 0 rfl) ?_
        refine lv_iload_n hx hb d_Ref_codesStep_39 rfl (lv_at hl 1 rfl) ?_
        refine lv_iload_n hx hb d_Ref_codesStep_40 rfl (lv_at hl 3 rfl) ?_
        refine lv_iload_n hx hb d_Ref_codesStep_41 rfl (lv_at hl 2 rfl) ?_
        refine q_calli (rest := [.ref (ad 28)]) (ws' := fun _ : Unit => [c_RE ad cA ma mn ms mb mt mw mg md].flatten) C0 hH hA (c_Ref_actionAt l dC dI cA ad x1 x3 x2 ma mn ms mb mt mw mg md _ _ h) Y_Ref_actionAt k_887 0 rfl hc_8 (q_pg [0] [] [0] 1 1 rfl (by decide) rfl (fun _ => rfl) rfl (by decide) (fun _ => rfl)) ⟨Nat.le_of_ble_eq_true rfl, Nat.le_of_ble_eq_true rfl⟩ rfl rfl (Nat.le_of_ble_eq_true rfl) hl.1 d_Ref_codesStep_42 ⟨Nat.le_refl 0, Nat.le_refl 0⟩ (fun r_1 u_1 H locs h hH => ?_)
        try dsimp only at h
        have hH : q_H dC dI (va_A w0 s.heap.size) s.heap H locs ([c_RE ad cA ma mn ms mb mt mw mg md].flatten) := hH
        refine lv_ineg hx hb d_Ref_codesStep_45 ?_
        refine q_callv (rest := []) (ws' := fun u : mCode => [c_RE ad cA ma mn ms mb mt mw mg u].flatten) C0 hH hA (c_Ref_says l dC dI cA ad (-r_1) ma mn ms mb mt mw mg md _ _ h) Y_Ref_says k_875 0 rfl hc_8 (q_pg [0] [] [0] 1 1 rfl (by decide) rfl (fun _ => rfl) rfl (by decide) (fun _ => rfl)) ⟨Nat.le_of_ble_eq_true rfl, Nat.le_of_ble_eq_true rfl⟩ rfl rfl (Nat.le_of_ble_eq_true rfl) hl.1 d_Ref_codesStep_46 ⟨Nat.le_refl 0, Nat.le_refl 0⟩ (fun u_2 H locs h hH => ?_)
        obtain ⟨md_2, rfl⟩ : ∃ z, z = u_2 := ⟨_, rfl⟩
        try dsimp only at h
        have hH : q_H dC dI (va_A w0 s.heap.size) s.heap H locs ([c_RE ad cA ma mn ms mb mt mw mg md_2].flatten) := hH
        refine lv_aload_n hx hb d_Ref_codesStep_49 rfl (lv_at hl 0 rfl) ?_
        refine lv_aload_n hx hb d_Ref_codesStep_50 rfl (lv_at hl 0 rfl) ?_
        refine lv_iload hx hb d_Ref_codesStep_51 (lv_at hl 4 rfl) ?_
        refine lv_iload_n hx hb d_Ref_codesStep_53 rfl (lv_at hl 2 rfl) ?_
        refine q_calli (rest := [.ref (ad 28)]) (ws' := fun _ : Unit => [c_RE ad cA ma mn ms mb mt mw mg md_2].flatten) C0 hH hA (c_Ref_factAt l dC dI cA ad x4 x2 ma mn ms mb mt mw mg md_2 _ _ h) Y_Ref_factAt k_871 0 rfl hc_8 (q_pg [0] [] [0] 1 1 rfl (by decide) rfl (fun _ => rfl) rfl (by decide) (fun _ => rfl)) ⟨Nat.le_of_ble_eq_true rfl, Nat.le_of_ble_eq_true rfl⟩ rfl rfl (Nat.le_of_ble_eq_true rfl) hl.1 d_Ref_codesStep_54 ⟨Nat.le_refl 0, Nat.le_refl 0⟩ (fun r_3 u_3 H locs h hH => ?_)
        try dsimp only at h
        have hH : q_H dC dI (va_A w0 s.heap.size) s.heap H locs ([c_RE ad cA ma mn ms mb mt mw mg md_2].flatten) := hH
        refine q_callv (rest := []) (ws' := fun u : mCode => [c_RE ad cA ma mn ms mb mt mw mg u].flatten) C0 hH hA (c_Ref_says l dC dI cA ad r_3 ma mn ms mb mt mw mg md_2 _ _ h) Y_Ref_says k_875 0 rfl hc_8 (q_pg [0] [] [0] 1 1 rfl (by decide) rfl (fun _ => rfl) rfl (by decide) (fun _ => rfl)) ⟨Nat.le_of_ble_eq_true rfl, Nat.le_of_ble_eq_true rfl⟩ rfl rfl (Nat.le_of_ble_eq_true rfl) hl.1 d_Ref_codesStep_57 ⟨Nat.le_refl 0, Nat.le_refl 0⟩ (fun u_4 H locs h hH => ?_)
        obtain ⟨md_4, rfl⟩ : ∃ z, z = u_4 := ⟨_, rfl⟩
        try dsimp only at h
        have hH : q_H dC dI (va_A w0 s.heap.size) s.heap H locs ([c_RE ad cA ma mn ms mb mt mw mg md_4].flatten) := hH
        refine lv_aload_n hx hb d_Ref_codesStep_60 rfl (lv_at hl 0 rfl) ?_
        refine q_callv (rest := []) (ws' := fun u : mCode => [c_RE ad cA ma mn ms mb mt mw mg u].flatten) C0 hH hA (c_Ref_ends l dC dI cA ad ma mn ms mb mt mw mg md_4 _ _ h) Y_Ref_ends k_879 0 rfl hc_8 (q_pg [0] [] [0] 1 1 rfl (by decide) rfl (fun _ => rfl) rfl (by decide) (fun _ => rfl)) ⟨Nat.le_of_ble_eq_true rfl, Nat.le_of_ble_eq_true rfl⟩ rfl rfl (Nat.le_of_ble_eq_true rfl) hl.1 d_Ref_codesStep_61 ⟨Nat.le_refl 0, Nat.le_refl 0⟩ (fun u_5 H locs h hH => ?_)
        obtain ⟨md_5, rfl⟩ : ∃ z, z = u_5 := ⟨_, rfl⟩
        try dsimp only at h
        have hH : q_H dC dI (va_A w0 s.heap.size) s.heap H locs ([c_RE ad cA ma mn ms mb mt mw mg md_5].flatten) := hH
        refine lv_iinc (v := (x4 + 1)) (lv' := [(4, .int (x4 + 1)), (0, .ref (ad 28)), (1, .int x1), (2, .int x2), (3, .int x3)]) hx hb d_Ref_codesStep_64 hl (k := 4) rfl rfl (by decide) rfl (fun ls hl => ?_)
        refine lv_goto (tgt := 13) hx hb d_Ref_codesStep_67 (by decide) ?_
        exact ih (x4 + 1) md_5 _ _ _ h (lv_sub hl [1, 2, 3, 4, 0] rfl) hH
set_option maxHeartbeats 4000000 in
set_option maxRecDepth 100000 in
theorem x_Ref_codesStep_L2 {p : Program} {e : Env} {s : State} {m : MethodId} {args : Array Value} {below : List Frame} {meth : Method} {c : Code} {l : Launch} {dC : Nat → ClassId} {dI : Nat → Nat → Nat} {cA : ClassId} {ad : Nat → Nat} {w0 : va_W} (C0 : q_C p s m args meth c b_Ref_codesStep 5 none "PlanClausesModel" dC dI cA) (hA : ∀ q, s.heap.size ≤ q → va_A w0 s.heap.size q) (x1 : Int32) (x2 : Int32) (ma : mForm) (mn : mKnow) (ms : mSat) (mb : mBack) (mt : mTask) (mw : (Nat → Int32)) (mg : mGo) {Q : mCode → Prop} {K76 : mCode → Prop}
    (hK76 : ∀ (md : mCode) (H : Heap) (locs : List Loc) (ls : Array Slot), K76 md → lv_has ls 5 [(0, .ref (ad 28)), (1, .int x1), (2, .int x2)] → q_H dC dI (va_A w0 s.heap.size) s.heap H locs ([c_RE ad cA ma mn ms mb mt mw mg md].flatten) → W p l e (q_R 2 47) s m args below meth c H locs 0 0 (q_Zv below args s dC dI cA w0 (fun u : mCode => [c_RE ad cA ma mn ms mb mt mw mg u].flatten) (fun u => Q u)) (F0 m 76 ls [])) :
    ∀ (nn : Nat) (x3 : Int32) (md : mCode) (H : Heap) (locs : List Loc) (ls : Array Slot), w_Ref_codesStep_L2 x1 x2 mt K76 nn x3 md → lv_has ls 5 [(0, .ref (ad 28)), (1, .int x1), (2, .int x2), (3, .int x3)] → q_H dC dI (va_A w0 s.heap.size) s.heap H locs ([c_RE ad cA ma mn ms mb mt mw mg md].flatten) → W p l e (q_R 2 47) s m args below meth c H locs 0 0 (q_Zv below args s dC dI cA w0 (fun u : mCode => [c_RE ad cA ma mn ms mb mt mw mg u].flatten) (fun u => Q u)) (F0 m 2 ls []) := by
  obtain ⟨hx, hb, -⟩ := id C0
  intro nn
  induction nn with
  | zero =>
    intro x3 md H locs ls h
    exact (show False from h).elim
  | succ nn ih =>
    intro x3 md H locs ls h hl hH
    rw [w_Ref_codesStep_L2] at h
    refine lv_iload_n hx hb d_Ref_codesStep_2 rfl (lv_at hl 3 rfl) ?_
    refine lv_aload_n hx hb d_Ref_codesStep_3 rfl (lv_at hl 0 rfl) ?_
    refine q_get (v := .int mt.actions) C0 hH 0 rfl hc_8 12 (by decide) k_634 rfl d_Ref_codesStep_4 ?_
    refine lv_icmp_ge (tgt := 76) hx hb d_Ref_codesStep_7 (by decide) (fun c => ?_) (fun c => ?_)
    · have h := h.1 c
      exact hK76 md _ _ _ h (lv_sub hl [0, 1, 2] rfl) hH
    · have h := h.2 c
      refine lv_iconst (v := 0) hx hb d_Ref_codesStep_10 (by decide) ?_
      refine lv_istore (lv' := [(4, .int 0), (0, .ref (ad 28)), (1, .int x1), (2, .int x2), (3, .int x3)]) hx hb d_Ref_codesStep_11 hl (by decide) rfl (fun ls hl => ?_)
      obtain ⟨nn, h⟩ := h
      refine x_Ref_codesStep_L13 C0 hA x1 x2 x3 ma mn ms mb mt mw mg ?_ nn 0 md _ _ _ h (lv_sub hl [1, 2, 3, 4, 0] rfl) hH
      · intro md_1 H locs ls h hl hH
        try dsimp only at h
        refine lv_iinc (v := (x3 + 1)) (lv' := [(3, .int (x3 + 1)), (0, .ref (ad 28)), (1, .int x1), (2, .int x2)]) hx hb d_Ref_codesStep_70 hl (k := 3) rfl rfl (by decide) rfl (fun ls hl => ?_)
        refine lv_goto (tgt := 2) hx hb d_Ref_codesStep_73 (by decide) ?_
        exact ih (x3 + 1) md_1 _ _ _ h (lv_sub hl [1, 2, 3, 0] rfl) hH
set_option maxHeartbeats 4000000 in
set_option maxRecDepth 100000 in
theorem c_Ref_codesStep (l : Launch) (dC : Nat → ClassId) (dI : Nat → Nat → Nat) (cA : ClassId) (ad : Nat → Nat) (x1 : Int32) (x2 : Int32) (ma : mForm) (mn : mKnow) (ms : mSat) (mb : mBack) (mt : mTask) (mw : (Nat → Int32)) (mg : mGo) (md : mCode) (Q : mCode → Prop) (sz : Nat) (h : w_Ref_codesStep x1 x2 mt md Q) :
    q_Mv l y_Ref_codesStep b_Ref_codesStep 5 2 47 [.ref (ad 28), .int x1, .int x2] dC dI cA ([c_RE ad cA ma mn ms mb mt mw mg md].flatten) (fun u : mCode => [c_RE ad cA ma mn ms mb mt mw mg u].flatten) sz (fun u => Q u) := by
  refine q_metv (plainFor_of_name (by decide +kernel)) (Nat.le_of_ble_eq_true rfl) (fun {p e s m below meth c ls} C0 hl hH => ?_)
  obtain ⟨hx, hb, -⟩ := id C0
  have hA : ∀ q, s.heap.size ≤ q → va_A ([c_RE ad cA ma mn ms mb mt mw mg md].flatten) s.heap.size q := q_nA
  have hl : lv_has ls 5 [(0, .ref (ad 28)), (1, .int x1), (2, .int x2)] := hl
  unfold w_Ref_codesStep at h
  refine lv_iconst (v := 0) hx hb d_Ref_codesStep_0 (by decide) ?_
  refine lv_istore_n (lv' := [(3, .int 0), (0, .ref (ad 28)), (1, .int x1), (2, .int x2)]) hx hb d_Ref_codesStep_1 rfl hl (by decide) rfl (fun ls hl => ?_)
  obtain ⟨nn, h⟩ := h
  refine x_Ref_codesStep_L2 C0 hA x1 x2 ma mn ms mb mt mw mg ?_ nn 0 md _ _ _ h (lv_sub hl [1, 2, 3, 0] rfl) hH
  · intro md_1 H locs ls h hl hH
    try dsimp only at h
    refine lv_aload_n hx hb d_Ref_codesStep_76 rfl (lv_at hl 0 rfl) ?_
    refine lv_iload_n hx hb d_Ref_codesStep_77 rfl (lv_at hl 1 rfl) ?_
    refine lv_iload_n hx hb d_Ref_codesStep_78 rfl (lv_at hl 2 rfl) ?_
    refine q_callv (rest := []) (ws' := fun u : mCode => [c_RE ad cA ma mn ms mb mt mw mg u].flatten) C0 hH hA (c_Ref_codesEffects l dC dI cA ad x1 x2 ma mn ms mb mt mw mg md_1 _ _ h) Y_Ref_codesEffects k_891 0 rfl hc_8 (q_pg [0] [] [0] 1 1 rfl (by decide) rfl (fun _ => rfl) rfl (by decide) (fun _ => rfl)) ⟨Nat.le_of_ble_eq_true rfl, Nat.le_of_ble_eq_true rfl⟩ rfl rfl (Nat.le_of_ble_eq_true rfl) hl.1 d_Ref_codesStep_79 ⟨Nat.le_refl 0, Nat.le_refl 0⟩ (fun u_2 H locs h hH => ?_)
    obtain ⟨md_2, rfl⟩ : ∃ z, z = u_2 := ⟨_, rfl⟩
    try dsimp only at h
    have hH : q_H dC dI (va_A ([c_RE ad cA ma mn ms mb mt mw mg md].flatten) s.heap.size) s.heap H locs ([c_RE ad cA ma mn ms mb mt mw mg md_2].flatten) := hH
    refine lv_aload_n hx hb d_Ref_codesStep_82 rfl (lv_at hl 0 rfl) ?_
    refine lv_iload_n hx hb d_Ref_codesStep_83 rfl (lv_at hl 1 rfl) ?_
    refine lv_iload_n hx hb d_Ref_codesStep_84 rfl (lv_at hl 2 rfl) ?_
    refine q_callv (rest := []) (ws' := fun u : mCode => [c_RE ad cA ma mn ms mb mt mw mg u].flatten) C0 hH hA (c_Ref_codesFrames l dC dI cA ad x1 x2 ma mn ms mb mt mw mg md_2 _ _ h) Y_Ref_codesFrames k_895 0 rfl hc_8 (q_pg [0] [] [0] 1 1 rfl (by decide) rfl (fun _ => rfl) rfl (by decide) (fun _ => rfl)) ⟨Nat.le_of_ble_eq_true rfl, Nat.le_of_ble_eq_true rfl⟩ rfl rfl (Nat.le_of_ble_eq_true rfl) hl.1 d_Ref_codesStep_85 ⟨Nat.le_refl 0, Nat.le_refl 0⟩ (fun u_3 H locs h hH => ?_)
    obtain ⟨md_3, rfl⟩ : ∃ z, z = u_3 := ⟨_, rfl⟩
    try dsimp only at h
    have hH : q_H dC dI (va_A ([c_RE ad cA ma mn ms mb mt mw mg md].flatten) s.heap.size) s.heap H locs ([c_RE ad cA ma mn ms mb mt mw mg md_3].flatten) := hH
    refine lv_iconst (v := 0) hx hb d_Ref_codesStep_88 (by decide) ?_
    refine lv_istore_n (lv' := [(3, .int 0), (0, .ref (ad 28)), (1, .int x1), (2, .int x2)]) hx hb d_Ref_codesStep_89 rfl hl (by decide) rfl (fun ls hl => ?_)
    obtain ⟨nn, h⟩ := h
    refine x_Ref_codesStep_L90 C0 hA x1 x2 ma mn ms mb mt mw mg ?_ nn 0 md_3 _ _ _ h (lv_sub hl [1, 2, 3, 0] rfl) hH
    · intro md_4 H locs ls h hl hH
      try dsimp only at h
      exact q_retv C0 hH md_4 rfl h d_Ref_codesStep_153
