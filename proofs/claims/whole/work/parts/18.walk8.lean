theorem d_Ref_value_0 : decode b_Ref_value 0 = .ok (.aload_n 0, 1) := by decide +kernel
theorem d_Ref_value_1 : decode b_Ref_value 1 = .ok (.iload_n 1, 1) := by decide +kernel
theorem d_Ref_value_2 : decode b_Ref_value 2 = .ok (.invokevirtual 112, 3) := by decide +kernel
theorem d_Ref_value_5 : decode b_Ref_value 5 = .ok (.ifCond .ne 5, 3) := by decide +kernel
theorem d_Ref_value_8 : decode b_Ref_value 8 = .ok (.iconst (-1), 1) := by decide +kernel
theorem d_Ref_value_9 : decode b_Ref_value 9 = .ok (.ireturn, 1) := by decide +kernel
theorem d_Ref_value_10 : decode b_Ref_value 10 = .ok (.aload_n 0, 1) := by decide +kernel
theorem d_Ref_value_11 : decode b_Ref_value 11 = .ok (.invokevirtual 115, 3) := by decide +kernel
theorem d_Ref_value_14 : decode b_Ref_value 14 = .ok (.aload_n 0, 1) := by decide +kernel
theorem d_Ref_value_15 : decode b_Ref_value 15 = .ok (.getfield 99, 3) := by decide +kernel
theorem d_Ref_value_18 : decode b_Ref_value 18 = .ok (.ifCond .ne 8, 3) := by decide +kernel
theorem d_Ref_value_21 : decode b_Ref_value 21 = .ok (.bipush (-9), 2) := by decide +kernel
theorem d_Ref_value_23 : decode b_Ref_value 23 = .ok (.goto 15, 3) := by decide +kernel
theorem d_Ref_value_26 : decode b_Ref_value 26 = .ok (.aload_n 0, 1) := by decide +kernel
theorem d_Ref_value_27 : decode b_Ref_value 27 = .ok (.getfield 25, 3) := by decide +kernel
theorem d_Ref_value_30 : decode b_Ref_value 30 = .ok (.iconst 0, 1) := by decide +kernel
theorem d_Ref_value_31 : decode b_Ref_value 31 = .ok (.iaload, 1) := by decide +kernel
theorem d_Ref_value_32 : decode b_Ref_value 32 = .ok (.iload_n 1, 1) := by decide +kernel
theorem d_Ref_value_33 : decode b_Ref_value 33 = .ok (.iconst 1, 1) := by decide +kernel
theorem d_Ref_value_34 : decode b_Ref_value 34 = .ok (.isub, 1) := by decide +kernel
theorem d_Ref_value_35 : decode b_Ref_value 35 = .ok (.ishr, 1) := by decide +kernel
theorem d_Ref_value_36 : decode b_Ref_value 36 = .ok (.iconst 1, 1) := by decide +kernel
theorem d_Ref_value_37 : decode b_Ref_value 37 = .ok (.iand, 1) := by decide +kernel
theorem d_Ref_value_38 : decode b_Ref_value 38 = .ok (.ireturn, 1) := by decide +kernel
set_option maxHeartbeats 4000000 in
set_option maxRecDepth 100000 in
theorem c_Ref_value (l : Launch) (dC : Nat → ClassId) (dI : Nat → Nat → Nat) (cA : ClassId) (ad : Nat → Nat) (x1 : Int32) (ma : mForm) (mn : mKnow) (ms : mSat) (mb : mBack) (mt : mTask) (mw : (Nat → Int32)) (mg : mGo) (md : mCode) (Q : Int32 → mKnow → mSat → mBack → Prop) (sz : Nat) (h : w_Ref_value x1 ma mn ms mb Q) :
    q_Mi l y_Ref_value b_Ref_value 2 (some .int) 5 124 [.ref (ad 28), .int x1] dC dI cA ([c_RE ad cA ma mn ms mb mt mw mg md].flatten) (fun u : mKnow × mSat × mBack => [c_RE ad cA ma u.1 u.2.1 u.2.2 mt mw mg md].flatten) sz (fun r u => Q r u.1 u.2.1 u.2.2) := by
  refine q_meti (plainFor_of_name (by decide +kernel)) (Nat.le_of_ble_eq_true rfl) (fun {p e s m below meth c ls} C0 hl hH => ?_)
  obtain ⟨hx, hb, -⟩ := id C0
  have hA : ∀ q, s.heap.size ≤ q → va_A ([c_RE ad cA ma mn ms mb mt mw mg md].flatten) s.heap.size q := q_nA
  have hl : lv_has ls 2 [(0, .ref (ad 28)), (1, .int x1)] := hl
  unfold w_Ref_value at h
  refine lv_aload_n hx hb d_Ref_value_0 rfl (lv_at hl 0 rfl) ?_
  refine lv_iload_n hx hb d_Ref_value_1 rfl (lv_at hl 1 rfl) ?_
  refine q_calli (rest := []) (ws' := fun _ : Unit => [c_RE ad cA ma mn ms mb mt mw mg md].flatten) C0 hH hA (c_Ref_isVariable l dC dI cA ad x1 ma mn ms mb mt mw mg md _ _ h) Y_Ref_isVariable k_780 0 rfl hc_8 (q_pg [0] [] [0] 1 1 rfl (by decide) rfl (fun _ => rfl) rfl (by decide) (fun _ => rfl)) ⟨Nat.le_of_ble_eq_true rfl, Nat.le_of_ble_eq_true rfl⟩ rfl rfl (Nat.le_of_ble_eq_true rfl) hl.1 d_Ref_value_2 ⟨Nat.le_refl 0, Nat.le_refl 0⟩ (fun r_1 u_1 H locs h hH => ?_)
  try dsimp only at h
  have hH : q_H dC dI (va_A ([c_RE ad cA ma mn ms mb mt mw mg md].flatten) s.heap.size) s.heap H locs ([c_RE ad cA ma mn ms mb mt mw mg md].flatten) := hH
  refine lv_if_ne (tgt := 10) hx hb d_Ref_value_5 (by decide) (fun c => ?_) (fun c => ?_)
  · have h := h.1 c
    refine lv_aload_n hx hb d_Ref_value_10 rfl (lv_at hl 0 rfl) ?_
    refine q_callv (rest := []) (ws' := fun u : mKnow × mSat × mBack => [c_RE ad cA ma u.1 u.2.1 u.2.2 mt mw mg md].flatten) C0 hH hA (c_Ref_know l dC dI cA ad ma mn ms mb mt mw mg md _ _ h) Y_Ref_know k_784 0 rfl hc_8 (q_pg [0] [] [0] 1 1 rfl (by decide) rfl (fun _ => rfl) rfl (by decide) (fun _ => rfl)) ⟨Nat.le_of_ble_eq_true rfl, Nat.le_of_ble_eq_true rfl⟩ rfl rfl (Nat.le_of_ble_eq_true rfl) hl.1 d_Ref_value_11 ⟨Nat.le_refl 0, Nat.le_refl 0⟩ (fun u_2 H locs h hH => ?_)
    obtain ⟨mn_2, ms_2, mb_2⟩ := u_2
    try dsimp only at h
    have hH : q_H dC dI (va_A ([c_RE ad cA ma mn ms mb mt mw mg md].flatten) s.heap.size) s.heap H locs ([c_RE ad cA ma mn_2 ms_2 mb_2 mt mw mg md].flatten) := hH
    refine lv_aload_n hx hb d_Ref_value_14 rfl (lv_at hl 0 rfl) ?_
    refine q_get (v := .int mn_2.many) C0 hH 0 rfl hc_8 9 (by decide) k_631 rfl d_Ref_value_15 ?_
    refine lv_if_ne (tgt := 26) hx hb d_Ref_value_18 (by decide) (fun c => ?_) (fun c => ?_)
    · have h := h.1 c
      refine lv_aload_n hx hb d_Ref_value_26 rfl (lv_at hl 0 rfl) ?_
      refine q_get (v := .ref (ad 34)) C0 hH 0 rfl hc_8 10 (by decide) k_632 rfl d_Ref_value_27 ?_
      refine lv_iconst (v := 0) hx hb d_Ref_value_30 (by decide) ?_
      obtain ⟨hi, h⟩ := h
      refine q_ald (f := mn_2.found) C0 hH 6 rfl hi d_Ref_value_31 ?_
      refine lv_iload_n hx hb d_Ref_value_32 rfl (lv_at hl 1 rfl) ?_
      refine lv_iconst (v := 1) hx hb d_Ref_value_33 (by decide) ?_
      refine lv_isub hx hb d_Ref_value_34 ?_
      refine lv_ishr hx hb d_Ref_value_35 ?_
      refine lv_iconst (v := 1) hx hb d_Ref_value_36 (by decide) ?_
      refine lv_iand hx hb d_Ref_value_37 ?_
      exact q_reti C0 hH (mn_2, ms_2, mb_2) rfl h d_Ref_value_38
    · have h := h.2 c
      refine lv_bipush (v := (-9)) hx hb d_Ref_value_21 (by decide) ?_
      refine lv_goto (tgt := 38) hx hb d_Ref_value_23 (by decide) ?_
      exact q_reti C0 hH (mn_2, ms_2, mb_2) rfl h d_Ref_value_38
  · have h := h.2 c
    refine lv_iconst (v := (-1)) hx hb d_Ref_value_8 (by decide) ?_
    exact q_reti C0 hH (mn, ms, mb) rfl h d_Ref_value_9
theorem d_Ref_model_0 : decode b_Ref_model 0 = .ok (.iload_n 1, 1) := by decide +kernel
theorem d_Ref_model_1 : decode b_Ref_model 1 = .ok (.iconst 0, 1) := by decide +kernel
theorem d_Ref_model_2 : decode b_Ref_model 2 = .ok (.bipush 59, 2) := by decide +kernel
theorem d_Ref_model_4 : decode b_Ref_model 4 = .ok (.invokestatic 59, 3) := by decide +kernel
theorem d_Ref_model_7 : decode b_Ref_model 7 = .ok (.ifCond .eq 11, 3) := by decide +kernel
theorem d_Ref_model_10 : decode b_Ref_model 10 = .ok (.aload_n 0, 1) := by decide +kernel
theorem d_Ref_model_11 : decode b_Ref_model 11 = .ok (.iload_n 2, 1) := by decide +kernel
theorem d_Ref_model_12 : decode b_Ref_model 12 = .ok (.invokevirtual 112, 3) := by decide +kernel
theorem d_Ref_model_15 : decode b_Ref_model 15 = .ok (.ifCond .ne 5, 3) := by decide +kernel
theorem d_Ref_model_18 : decode b_Ref_model 18 = .ok (.iconst (-1), 1) := by decide +kernel
theorem d_Ref_model_19 : decode b_Ref_model 19 = .ok (.ireturn, 1) := by decide +kernel
theorem d_Ref_model_20 : decode b_Ref_model 20 = .ok (.aload_n 0, 1) := by decide +kernel
theorem d_Ref_model_21 : decode b_Ref_model 21 = .ok (.invokevirtual 115, 3) := by decide +kernel
theorem d_Ref_model_24 : decode b_Ref_model 24 = .ok (.iload_n 1, 1) := by decide +kernel
theorem d_Ref_model_25 : decode b_Ref_model 25 = .ok (.aload_n 0, 1) := by decide +kernel
theorem d_Ref_model_26 : decode b_Ref_model 26 = .ok (.getfield 99, 3) := by decide +kernel
theorem d_Ref_model_29 : decode b_Ref_model 29 = .ok (.if_icmp .ge 18, 3) := by decide +kernel
theorem d_Ref_model_32 : decode b_Ref_model 32 = .ok (.aload_n 0, 1) := by decide +kernel
theorem d_Ref_model_33 : decode b_Ref_model 33 = .ok (.getfield 25, 3) := by decide +kernel
theorem d_Ref_model_36 : decode b_Ref_model 36 = .ok (.iload_n 1, 1) := by decide +kernel
theorem d_Ref_model_37 : decode b_Ref_model 37 = .ok (.iaload, 1) := by decide +kernel
theorem d_Ref_model_38 : decode b_Ref_model 38 = .ok (.iload_n 2, 1) := by decide +kernel
theorem d_Ref_model_39 : decode b_Ref_model 39 = .ok (.iconst 1, 1) := by decide +kernel
theorem d_Ref_model_40 : decode b_Ref_model 40 = .ok (.isub, 1) := by decide +kernel
theorem d_Ref_model_41 : decode b_Ref_model 41 = .ok (.ishr, 1) := by decide +kernel
theorem d_Ref_model_42 : decode b_Ref_model 42 = .ok (.iconst 1, 1) := by decide +kernel
theorem d_Ref_model_43 : decode b_Ref_model 43 = .ok (.iand, 1) := by decide +kernel
theorem d_Ref_model_44 : decode b_Ref_model 44 = .ok (.goto 5, 3) := by decide +kernel
theorem d_Ref_model_47 : decode b_Ref_model 47 = .ok (.bipush (-9), 2) := by decide +kernel
theorem d_Ref_model_49 : decode b_Ref_model 49 = .ok (.ireturn, 1) := by decide +kernel
set_option maxHeartbeats 4000000 in
set_option maxRecDepth 100000 in
theorem c_Ref_model (l : Launch) (dC : Nat → ClassId) (dI : Nat → Nat → Nat) (cA : ClassId) (ad : Nat → Nat) (x1 : Int32) (x2 : Int32) (ma : mForm) (mn : mKnow) (ms : mSat) (mb : mBack) (mt : mTask) (mw : (Nat → Int32)) (mg : mGo) (md : mCode) (Q : Int32 → mKnow → mSat → mBack → Prop) (sz : Nat) (h : w_Ref_model x1 x2 ma mn ms mb Q) :
    q_Mi l y_Ref_model b_Ref_model 3 (some .int) 5 124 [.ref (ad 28), .int x1, .int x2] dC dI cA ([c_RE ad cA ma mn ms mb mt mw mg md].flatten) (fun u : mKnow × mSat × mBack => [c_RE ad cA ma u.1 u.2.1 u.2.2 mt mw mg md].flatten) sz (fun r u => Q r u.1 u.2.1 u.2.2) := by
  refine q_meti (plainFor_of_name (by decide +kernel)) (Nat.le_of_ble_eq_true rfl) (fun {p e s m below meth c ls} C0 hl hH => ?_)
  obtain ⟨hx, hb, -⟩ := id C0
  have hA : ∀ q, s.heap.size ≤ q → va_A ([c_RE ad cA ma mn ms mb mt mw mg md].flatten) s.heap.size q := q_nA
  have hl : lv_has ls 3 [(0, .ref (ad 28)), (1, .int x1), (2, .int x2)] := hl
  unfold w_Ref_model at h
  refine lv_iload_n hx hb d_Ref_model_0 rfl (lv_at hl 1 rfl) ?_
  refine lv_iconst (v := 0) hx hb d_Ref_model_1 (by decide) ?_
  refine lv_bipush (v := 59) hx hb d_Ref_model_2 (by decide) ?_
  refine q_calls (rest := []) C0 hH hA (c_Ref_in l dC dI cA ad x1 0 59 _ _ h) Y_Ref_in k_735 ⟨Nat.le_of_ble_eq_true rfl, Nat.le_of_ble_eq_true rfl⟩ rfl rfl (Nat.le_of_ble_eq_true rfl) hl.1 d_Ref_model_4 ⟨Nat.le_refl 0, Nat.le_refl 0⟩ (fun r_1 H locs h hH => ?_)
  try dsimp only at h
  refine lv_if_eq (tgt := 18) hx hb d_Ref_model_7 (by decide) (fun c => ?_) (fun c => ?_)
  · have h := h.1 c
    refine lv_iconst (v := (-1)) hx hb d_Ref_model_18 (by decide) ?_
    exact q_reti C0 hH (mn, ms, mb) rfl h d_Ref_model_19
  · have h := h.2 c
    refine lv_aload_n hx hb d_Ref_model_10 rfl (lv_at hl 0 rfl) ?_
    refine lv_iload_n hx hb d_Ref_model_11 rfl (lv_at hl 2 rfl) ?_
    refine q_calli (rest := []) (ws' := fun _ : Unit => [c_RE ad cA ma mn ms mb mt mw mg md].flatten) C0 hH hA (c_Ref_isVariable l dC dI cA ad x2 ma mn ms mb mt mw mg md _ _ h) Y_Ref_isVariable k_780 0 rfl hc_8 (q_pg [0] [] [0] 1 1 rfl (by decide) rfl (fun _ => rfl) rfl (by decide) (fun _ => rfl)) ⟨Nat.le_of_ble_eq_true rfl, Nat.le_of_ble_eq_true rfl⟩ rfl rfl (Nat.le_of_ble_eq_true rfl) hl.1 d_Ref_model_12 ⟨Nat.le_refl 0, Nat.le_refl 0⟩ (fun r_2 u_2 H locs h hH => ?_)
    try dsimp only at h
    have hH : q_H dC dI (va_A ([c_RE ad cA ma mn ms mb mt mw mg md].flatten) s.heap.size) s.heap H locs ([c_RE ad cA ma mn ms mb mt mw mg md].flatten) := hH
    refine lv_if_ne (tgt := 20) hx hb d_Ref_model_15 (by decide) (fun c => ?_) (fun c => ?_)
    · have h := h.1 c
      refine lv_aload_n hx hb d_Ref_model_20 rfl (lv_at hl 0 rfl) ?_
      refine q_callv (rest := []) (ws' := fun u : mKnow × mSat × mBack => [c_RE ad cA ma u.1 u.2.1 u.2.2 mt mw mg md].flatten) C0 hH hA (c_Ref_know l dC dI cA ad ma mn ms mb mt mw mg md _ _ h) Y_Ref_know k_784 0 rfl hc_8 (q_pg [0] [] [0] 1 1 rfl (by decide) rfl (fun _ => rfl) rfl (by decide) (fun _ => rfl)) ⟨Nat.le_of_ble_eq_true rfl, Nat.le_of_ble_eq_true rfl⟩ rfl rfl (Nat.le_of_ble_eq_true rfl) hl.1 d_Ref_model_21 ⟨Nat.le_refl 0, Nat.le_refl 0⟩ (fun u_3 H locs h hH => ?_)
      obtain ⟨mn_3, ms_3, mb_3⟩ := u_3
      try dsimp only at h
      have hH : q_H dC dI (va_A ([c_RE ad cA ma mn ms mb mt mw mg md].flatten) s.heap.size) s.heap H locs ([c_RE ad cA ma mn_3 ms_3 mb_3 mt mw mg md].flatten) := hH
      refine lv_iload_n hx hb d_Ref_model_24 rfl (lv_at hl 1 rfl) ?_
      refine lv_aload_n hx hb d_Ref_model_25 rfl (lv_at hl 0 rfl) ?_
      refine q_get (v := .int mn_3.many) C0 hH 0 rfl hc_8 9 (by decide) k_631 rfl d_Ref_model_26 ?_
      refine lv_icmp_ge (tgt := 47) hx hb d_Ref_model_29 (by decide) (fun c => ?_) (fun c => ?_)
      · have h := h.1 c
        refine lv_bipush (v := (-9)) hx hb d_Ref_model_47 (by decide) ?_
        exact q_reti C0 hH (mn_3, ms_3, mb_3) rfl h d_Ref_model_49
      · have h := h.2 c
        refine lv_aload_n hx hb d_Ref_model_32 rfl (lv_at hl 0 rfl) ?_
        refine q_get (v := .ref (ad 34)) C0 hH 0 rfl hc_8 10 (by decide) k_632 rfl d_Ref_model_33 ?_
        refine lv_iload_n hx hb d_Ref_model_36 rfl (lv_at hl 1 rfl) ?_
        obtain ⟨hi, h⟩ := h
        refine q_ald (f := mn_3.found) C0 hH 6 rfl hi d_Ref_model_37 ?_
        refine lv_iload_n hx hb d_Ref_model_38 rfl (lv_at hl 2 rfl) ?_
        refine lv_iconst (v := 1) hx hb d_Ref_model_39 (by decide) ?_
        refine lv_isub hx hb d_Ref_model_40 ?_
        refine lv_ishr hx hb d_Ref_model_41 ?_
        refine lv_iconst (v := 1) hx hb d_Ref_model_42 (by decide) ?_
        refine lv_iand hx hb d_Ref_model_43 ?_
        refine lv_goto (tgt := 49) hx hb d_Ref_model_44 (by decide) ?_
        exact q_reti C0 hH (mn_3, ms_3, mb_3) rfl h d_Ref_model_49
    · have h := h.2 c
      refine lv_iconst (v := (-1)) hx hb d_Ref_model_18 (by decide) ?_
      exact q_reti C0 hH (mn, ms, mb) rfl h d_Ref_model_19
theorem d_Ref_models_0 : decode b_Ref_models 0 = .ok (.aload_n 0, 1) := by decide +kernel
theorem d_Ref_models_1 : decode b_Ref_models 1 = .ok (.invokevirtual 115, 3) := by decide +kernel
theorem d_Ref_models_4 : decode b_Ref_models 4 = .ok (.aload_n 0, 1) := by decide +kernel
theorem d_Ref_models_5 : decode b_Ref_models 5 = .ok (.getfield 99, 3) := by decide +kernel
theorem d_Ref_models_8 : decode b_Ref_models 8 = .ok (.ireturn, 1) := by decide +kernel
set_option maxHeartbeats 4000000 in
set_option maxRecDepth 100000 in
theorem c_Ref_models (l : Launch) (dC : Nat → ClassId) (dI : Nat → Nat → Nat) (cA : ClassId) (ad : Nat → Nat) (ma : mForm) (mn : mKnow) (ms : mSat) (mb : mBack) (mt : mTask) (mw : (Nat → Int32)) (mg : mGo) (md : mCode) (Q : Int32 → mKnow → mSat → mBack → Prop) (sz : Nat) (h : w_Ref_models ma mn ms mb Q) :
    q_Mi l y_Ref_models b_Ref_models 1 (some .int) 5 124 [.ref (ad 28)] dC dI cA ([c_RE ad cA ma mn ms mb mt mw mg md].flatten) (fun u : mKnow × mSat × mBack => [c_RE ad cA ma u.1 u.2.1 u.2.2 mt mw mg md].flatten) sz (fun r u => Q r u.1 u.2.1 u.2.2) := by
  refine q_meti (plainFor_of_name (by decide +kernel)) (Nat.le_of_ble_eq_true rfl) (fun {p e s m below meth c ls} C0 hl hH => ?_)
  obtain ⟨hx, hb, -⟩ := id C0
  have hA : ∀ q, s.heap.size ≤ q → va_A ([c_RE ad cA ma mn ms mb mt mw mg md].flatten) s.heap.size q := q_nA
  have hl : lv_has ls 1 [(0, .ref (ad 28))] := hl
  unfold w_Ref_models at h
  refine lv_aload_n hx hb d_Ref_models_0 rfl (lv_at hl 0 rfl) ?_
  refine q_callv (rest := []) (ws' := fun u : mKnow × mSat × mBack => [c_RE ad cA ma u.1 u.2.1 u.2.2 mt mw mg md].flatten) C0 hH hA (c_Ref_know l dC dI cA ad ma mn ms mb mt mw mg md _ _ h) Y_Ref_know k_784 0 rfl hc_8 (q_pg [0] [] [0] 1 1 rfl (by decide) rfl (fun _ => rfl) rfl (by decide) (fun _ => rfl)) ⟨Nat.le_of_ble_eq_true rfl, Nat.le_of_ble_eq_true rfl⟩ rfl rfl (Nat.le_of_ble_eq_true rfl) hl.1 d_Ref_models_1 ⟨Nat.le_refl 0, Nat.le_refl 0⟩ (fun u_1 H locs h hH => ?_)
  obtain ⟨mn_1, ms_1, mb_1⟩ := u_1
  try dsimp only at h
  have hH : q_H dC dI (va_A ([c_RE ad cA ma mn ms mb mt mw mg md].flatten) s.heap.size) s.heap H locs ([c_RE ad cA ma mn_1 ms_1 mb_1 mt mw mg md].flatten) := hH
  refine lv_aload_n hx hb d_Ref_models_4 rfl (lv_at hl 0 rfl) ?_
  refine q_get (v := .int mn_1.many) C0 hH 0 rfl hc_8 9 (by decide) k_631 rfl d_Ref_models_5 ?_
  exact q_reti C0 hH (mn_1, ms_1, mb_1) rfl h d_Ref_models_8
theorem d_Ref_forced_0 : decode b_Ref_forced 0 = .ok (.aload_n 0, 1) := by decide +kernel
theorem d_Ref_forced_1 : decode b_Ref_forced 1 = .ok (.iload_n 1, 1) := by decide +kernel
theorem d_Ref_forced_2 : decode b_Ref_forced 2 = .ok (.invokevirtual 112, 3) := by decide +kernel
theorem d_Ref_forced_5 : decode b_Ref_forced 5 = .ok (.ifCond .ne 5, 3) := by decide +kernel
theorem d_Ref_forced_8 : decode b_Ref_forced 8 = .ok (.iconst (-1), 1) := by decide +kernel
theorem d_Ref_forced_9 : decode b_Ref_forced 9 = .ok (.ireturn, 1) := by decide +kernel
theorem d_Ref_forced_10 : decode b_Ref_forced 10 = .ok (.aload_n 0, 1) := by decide +kernel
theorem d_Ref_forced_11 : decode b_Ref_forced 11 = .ok (.aload_n 0, 1) := by decide +kernel
theorem d_Ref_forced_12 : decode b_Ref_forced 12 = .ok (.getfield 63, 3) := by decide +kernel
theorem d_Ref_forced_15 : decode b_Ref_forced 15 = .ok (.iconst 1, 1) := by decide +kernel
theorem d_Ref_forced_16 : decode b_Ref_forced 16 = .ok (.iload_n 1, 1) := by decide +kernel
theorem d_Ref_forced_17 : decode b_Ref_forced 17 = .ok (.iconst 1, 1) := by decide +kernel
theorem d_Ref_forced_18 : decode b_Ref_forced 18 = .ok (.isub, 1) := by decide +kernel
theorem d_Ref_forced_19 : decode b_Ref_forced 19 = .ok (.ishl, 1) := by decide +kernel
theorem d_Ref_forced_20 : decode b_Ref_forced 20 = .ok (.iconst 0, 1) := by decide +kernel
theorem d_Ref_forced_21 : decode b_Ref_forced 21 = .ok (.invokevirtual 96, 3) := by decide +kernel
theorem d_Ref_forced_24 : decode b_Ref_forced 24 = .ok (.istore_n 2, 1) := by decide +kernel
theorem d_Ref_forced_25 : decode b_Ref_forced 25 = .ok (.aload_n 0, 1) := by decide +kernel
theorem d_Ref_forced_26 : decode b_Ref_forced 26 = .ok (.aload_n 0, 1) := by decide +kernel
theorem d_Ref_forced_27 : decode b_Ref_forced 27 = .ok (.getfield 63, 3) := by decide +kernel
theorem d_Ref_forced_30 : decode b_Ref_forced 30 = .ok (.iconst 0, 1) := by decide +kernel
theorem d_Ref_forced_31 : decode b_Ref_forced 31 = .ok (.iconst 1, 1) := by decide +kernel
theorem d_Ref_forced_32 : decode b_Ref_forced 32 = .ok (.iload_n 1, 1) := by decide +kernel
theorem d_Ref_forced_33 : decode b_Ref_forced 33 = .ok (.iconst 1, 1) := by decide +kernel
theorem d_Ref_forced_34 : decode b_Ref_forced 34 = .ok (.isub, 1) := by decide +kernel
theorem d_Ref_forced_35 : decode b_Ref_forced 35 = .ok (.ishl, 1) := by decide +kernel
theorem d_Ref_forced_36 : decode b_Ref_forced 36 = .ok (.invokevirtual 96, 3) := by decide +kernel
theorem d_Ref_forced_39 : decode b_Ref_forced 39 = .ok (.istore_n 3, 1) := by decide +kernel
theorem d_Ref_forced_40 : decode b_Ref_forced 40 = .ok (.iload_n 2, 1) := by decide +kernel
theorem d_Ref_forced_41 : decode b_Ref_forced 41 = .ok (.iload_n 3, 1) := by decide +kernel
theorem d_Ref_forced_42 : decode b_Ref_forced 42 = .ok (.if_icmp .ne 8, 3) := by decide +kernel
theorem d_Ref_forced_45 : decode b_Ref_forced 45 = .ok (.bipush (-9), 2) := by decide +kernel
theorem d_Ref_forced_47 : decode b_Ref_forced 47 = .ok (.goto 12, 3) := by decide +kernel
theorem d_Ref_forced_50 : decode b_Ref_forced 50 = .ok (.iload_n 2, 1) := by decide +kernel
theorem d_Ref_forced_51 : decode b_Ref_forced 51 = .ok (.ifCond .eq 7, 3) := by decide +kernel
theorem d_Ref_forced_54 : decode b_Ref_forced 54 = .ok (.iconst 1, 1) := by decide +kernel
theorem d_Ref_forced_55 : decode b_Ref_forced 55 = .ok (.goto 4, 3) := by decide +kernel
theorem d_Ref_forced_58 : decode b_Ref_forced 58 = .ok (.iconst 0, 1) := by decide +kernel
theorem d_Ref_forced_59 : decode b_Ref_forced 59 = .ok (.ireturn, 1) := by decide +kernel
set_option maxHeartbeats 4000000 in
set_option maxRecDepth 100000 in
theorem c_Ref_forced (l : Launch) (dC : Nat → ClassId) (dI : Nat → Nat → Nat) (cA : ClassId) (ad : Nat → Nat) (x1 : Int32) (ma : mForm) (mn : mKnow) (ms : mSat) (mb : mBack) (mt : mTask) (mw : (Nat → Int32)) (mg : mGo) (md : mCode) (Q : Int32 → mSat → Prop) (sz : Nat) (h : w_Ref_forced x1 ma ms Q) :
    q_Mi l y_Ref_forced b_Ref_forced 4 (some .int) 3 76 [.ref (ad 28), .int x1] dC dI cA ([c_RE ad cA ma mn ms mb mt mw mg md].flatten) (fun u : mSat => [c_RE ad cA ma mn u mb mt mw mg md].flatten) sz (fun r u => Q r u) := by
  refine q_meti (plainFor_of_name (by decide +kernel)) (Nat.le_of_ble_eq_true rfl) (fun {p e s m below meth c ls} C0 hl hH => ?_)
  obtain ⟨hx, hb, -⟩ := id C0
  have hA : ∀ q, s.heap.size ≤ q → va_A ([c_RE ad cA ma mn ms mb mt mw mg md].flatten) s.heap.size q := q_nA
  have hl : lv_has ls 4 [(0, .ref (ad 28)), (1, .int x1)] := hl
  unfold w_Ref_forced at h
  refine lv_aload_n hx hb d_Ref_forced_0 rfl (lv_at hl 0 rfl) ?_
  refine lv_iload_n hx hb d_Ref_forced_1 rfl (lv_at hl 1 rfl) ?_
  refine q_calli (rest := []) (ws' := fun _ : Unit => [c_RE ad cA ma mn ms mb mt mw mg md].flatten) C0 hH hA (c_Ref_isVariable l dC dI cA ad x1 ma mn ms mb mt mw mg md _ _ h) Y_Ref_isVariable k_780 0 rfl hc_8 (q_pg [0] [] [0] 1 1 rfl (by decide) rfl (fun _ => rfl) rfl (by decide) (fun _ => rfl)) ⟨Nat.le_of_ble_eq_true rfl, Nat.le_of_ble_eq_true rfl⟩ rfl rfl (Nat.le_of_ble_eq_true rfl) hl.1 d_Ref_forced_2 ⟨Nat.le_refl 0, Nat.le_refl 0⟩ (fun r_1 u_1 H locs h hH => ?_)
  try dsimp only at h
  have hH : q_H dC dI (va_A ([c_RE ad cA ma mn ms mb mt mw mg md].flatten) s.heap.size) s.heap H locs ([c_RE ad cA ma mn ms mb mt mw mg md].flatten) := hH
  refine lv_if_ne (tgt := 10) hx hb d_Ref_forced_5 (by decide) (fun c => ?_) (fun c => ?_)
  · have h := h.1 c
    refine lv_aload_n hx hb d_Ref_forced_10 rfl (lv_at hl 0 rfl) ?_
    refine lv_aload_n hx hb d_Ref_forced_11 rfl (lv_at hl 0 rfl) ?_
    refine q_get (v := .int ma.clauses) C0 hH 0 rfl hc_8 1 (by decide) k_623 rfl d_Ref_forced_12 ?_
    refine lv_iconst (v := 1) hx hb d_Ref_forced_15 (by decide) ?_
    refine lv_iload_n hx hb d_Ref_forced_16 rfl (lv_at hl 1 rfl) ?_
    refine lv_iconst (v := 1) hx hb d_Ref_forced_17 (by decide) ?_
    refine lv_isub hx hb d_Ref_forced_18 ?_
    refine lv_ishl hx hb d_Ref_forced_19 ?_
    refine lv_iconst (v := 0) hx hb d_Ref_forced_20 (by decide) ?_
    refine q_calli (rest := []) (ws' := fun u : mSat => [c_RE ad cA ma mn u mb mt mw mg md].flatten) C0 hH hA (c_Ref_canBe l dC dI cA ad ma.clauses ((1 : Int32) <<< ((x1 - 1) &&& 31)) 0 ma mn ms mb mt mw mg md _ _ h) Y_Ref_canBe k_765 0 rfl hc_8 (q_pg [0] [] [0] 1 1 rfl (by decide) rfl (fun _ => rfl) rfl (by decide) (fun _ => rfl)) ⟨Nat.le_of_ble_eq_true rfl, Nat.le_of_ble_eq_true rfl⟩ rfl rfl (Nat.le_of_ble_eq_true rfl) hl.1 d_Ref_forced_21 ⟨Nat.le_refl 0, Nat.le_refl 0⟩ (fun r_2 u_2 H locs h hH => ?_)
    obtain ⟨ms_2, rfl⟩ : ∃ z, z = u_2 := ⟨_, rfl⟩
    try dsimp only at h
    have hH : q_H dC dI (va_A ([c_RE ad cA ma mn ms mb mt mw mg md].flatten) s.heap.size) s.heap H locs ([c_RE ad cA ma mn ms_2 mb mt mw mg md].flatten) := hH
    refine lv_istore_n (lv' := [(2, .int r_2), (0, .ref (ad 28)), (1, .int x1)]) hx hb d_Ref_forced_24 rfl hl (by decide) rfl (fun ls hl => ?_)
    refine lv_aload_n hx hb d_Ref_forced_25 rfl (lv_at hl 1 rfl) ?_
    refine lv_aload_n hx hb d_Ref_forced_26 rfl (lv_at hl 1 rfl) ?_
    refine q_get (v := .int ma.clauses) C0 hH 0 rfl hc_8 1 (by decide) k_623 rfl d_Ref_forced_27 ?_
    refine lv_iconst (v := 0) hx hb d_Ref_forced_30 (by decide) ?_
    refine lv_iconst (v := 1) hx hb d_Ref_forced_31 (by decide) ?_
    refine lv_iload_n hx hb d_Ref_forced_32 rfl (lv_at hl 2 rfl) ?_
    refine lv_iconst (v := 1) hx hb d_Ref_forced_33 (by decide) ?_
    refine lv_isub hx hb d_Ref_forced_34 ?_
    refine lv_ishl hx hb d_Ref_forced_35 ?_
    refine q_calli (rest := []) (ws' := fun u : mSat => [c_RE ad cA ma mn u mb mt mw mg md].flatten) C0 hH hA (c_Ref_canBe l dC dI cA ad ma.clauses 0 ((1 : Int32) <<< ((x1 - 1) &&& 31)) ma mn ms_2 mb mt mw mg md _ _ h) Y_Ref_canBe k_765 0 rfl hc_8 (q_pg [0] [] [0] 1 1 rfl (by decide) rfl (fun _ => rfl) rfl (by decide) (fun _ => rfl)) ⟨Nat.le_of_ble_eq_true rfl, Nat.le_of_ble_eq_true rfl⟩ rfl rfl (Nat.le_of_ble_eq_true rfl) hl.1 d_Ref_forced_36 ⟨Nat.le_refl 0, Nat.le_refl 0⟩ (fun r_3 u_3 H locs h hH => ?_)
    obtain ⟨ms_3, rfl⟩ : ∃ z, z = u_3 := ⟨_, rfl⟩
    try dsimp only at h
    have hH : q_H dC dI (va_A ([c_RE ad cA ma mn ms mb mt mw mg md].flatten) s.heap.size) s.heap H locs ([c_RE ad cA ma mn ms_3 mb mt mw mg md].flatten) := hH
    refine lv_istore_n (lv' := [(3, .int r_3), (2, .int r_2), (0, .ref (ad 28)), (1, .int x1)]) hx hb d_Ref_forced_39 rfl hl (by decide) rfl (fun ls hl => ?_)
    refine lv_iload_n hx hb d_Ref_forced_40 rfl (lv_at hl 1 rfl) ?_
    refine lv_iload_n hx hb d_Ref_forced_41 rfl (lv_at hl 0 rfl) ?_
    refine lv_icmp_ne (tgt := 50) hx hb d_Ref_forced_42 (by decide) (fun c => ?_) (fun c => ?_)
    · have h := h.1 c
      refine lv_iload_n hx hb d_Ref_forced_50 rfl (lv_at hl 1 rfl) ?_
      refine lv_if_eq (tgt := 58) hx hb d_Ref_forced_51 (by decide) (fun c => ?_) (fun c => ?_)
      · have h := h.1 c
        refine lv_iconst (v := 0) hx hb d_Ref_forced_58 (by decide) ?_
        exact q_reti C0 hH ms_3 rfl h d_Ref_forced_59
      · have h := h.2 c
        refine lv_iconst (v := 1) hx hb d_Ref_forced_54 (by decide) ?_
        refine lv_goto (tgt := 59) hx hb d_Ref_forced_55 (by decide) ?_
        exact q_reti C0 hH ms_3 rfl h d_Ref_forced_59
    · have h := h.2 c
      refine lv_bipush (v := (-9)) hx hb d_Ref_forced_45 (by decide) ?_
      refine lv_goto (tgt := 59) hx hb d_Ref_forced_47 (by decide) ?_
      exact q_reti C0 hH ms_3 rfl h d_Ref_forced_59
  · have h := h.2 c
    refine lv_iconst (v := (-1)) hx hb d_Ref_forced_8 (by decide) ?_
    exact q_reti C0 hH ms rfl h d_Ref_forced_9
theorem d_Ref_culprit_0 : decode b_Ref_culprit 0 = .ok (.aload_n 0, 1) := by decide +kernel
theorem d_Ref_culprit_1 : decode b_Ref_culprit 1 = .ok (.aload_n 0, 1) := by decide +kernel
theorem d_Ref_culprit_2 : decode b_Ref_culprit 2 = .ok (.getfield 63, 3) := by decide +kernel
theorem d_Ref_culprit_5 : decode b_Ref_culprit 5 = .ok (.iconst 0, 1) := by decide +kernel
theorem d_Ref_culprit_6 : decode b_Ref_culprit 6 = .ok (.iconst 0, 1) := by decide +kernel
theorem d_Ref_culprit_7 : decode b_Ref_culprit 7 = .ok (.invokevirtual 96, 3) := by decide +kernel
theorem d_Ref_culprit_10 : decode b_Ref_culprit 10 = .ok (.ifCond .eq 6, 3) := by decide +kernel
theorem d_Ref_culprit_13 : decode b_Ref_culprit 13 = .ok (.bipush (-9), 2) := by decide +kernel
theorem d_Ref_culprit_15 : decode b_Ref_culprit 15 = .ok (.ireturn, 1) := by decide +kernel
theorem d_Ref_culprit_16 : decode b_Ref_culprit 16 = .ok (.iconst 1, 1) := by decide +kernel
theorem d_Ref_culprit_17 : decode b_Ref_culprit 17 = .ok (.istore_n 1, 1) := by decide +kernel
theorem d_Ref_culprit_18 : decode b_Ref_culprit 18 = .ok (.aload_n 0, 1) := by decide +kernel
theorem d_Ref_culprit_19 : decode b_Ref_culprit 19 = .ok (.iload_n 1, 1) := by decide +kernel
theorem d_Ref_culprit_20 : decode b_Ref_culprit 20 = .ok (.iconst 0, 1) := by decide +kernel
theorem d_Ref_culprit_21 : decode b_Ref_culprit 21 = .ok (.iconst 0, 1) := by decide +kernel
theorem d_Ref_culprit_22 : decode b_Ref_culprit 22 = .ok (.invokevirtual 96, 3) := by decide +kernel
theorem d_Ref_culprit_25 : decode b_Ref_culprit 25 = .ok (.ifCond .eq 9, 3) := by decide +kernel
theorem d_Ref_culprit_28 : decode b_Ref_culprit 28 = .ok (.iinc 1 1, 3) := by decide +kernel
theorem d_Ref_culprit_31 : decode b_Ref_culprit 31 = .ok (.goto (-13), 3) := by decide +kernel
theorem d_Ref_culprit_34 : decode b_Ref_culprit 34 = .ok (.iload_n 1, 1) := by decide +kernel
theorem d_Ref_culprit_35 : decode b_Ref_culprit 35 = .ok (.iconst 1, 1) := by decide +kernel
theorem d_Ref_culprit_36 : decode b_Ref_culprit 36 = .ok (.isub, 1) := by decide +kernel
theorem d_Ref_culprit_37 : decode b_Ref_culprit 37 = .ok (.ireturn, 1) := by decide +kernel
set_option maxHeartbeats 4000000 in
set_option maxRecDepth 100000 in
theorem x_Ref_culprit_L18 {p : Program} {e : Env} {s : State} {m : MethodId} {args : Array Value} {below : List Frame} {meth : Method} {c : Code} {l : Launch} {dC : Nat → ClassId} {dI : Nat → Nat → Nat} {cA : ClassId} {ad : Nat → Nat} {w0 : va_W} (C0 : q_C p s m args meth c b_Ref_culprit 2 (some .int) "PlanClausesModel" dC dI cA) (hA : ∀ q, s.heap.size ≤ q → va_A w0 s.heap.size q) (ma : mForm) (mn : mKnow) (mb : mBack) (mt : mTask) (mw : (Nat → Int32)) (mg : mGo) (md : mCode) {Q : Int32 → mSat → Prop} {K34 : Int32 → mSat → Prop}
    (hK34 : ∀ (x1 : Int32) (ms : mSat) (H : Heap) (locs : List Loc) (ls : Array Slot), K34 x1 ms → lv_has ls 2 [(1, .int x1)] → q_H dC dI (va_A w0 s.heap.size) s.heap H locs ([c_RE ad cA ma mn ms mb mt mw mg md].flatten) → W p l e (q_R 3 76) s m args below meth c H locs 0 0 (q_Zi below args s dC dI cA w0 (fun u : mSat => [c_RE ad cA ma mn u mb mt mw mg md].flatten) (fun r u => Q r u)) (F0 m 34 ls [])) :
    ∀ (nn : Nat) (x1 : Int32) (ms : mSat) (H : Heap) (locs : List Loc) (ls : Array Slot), w_Ref_culprit_L18 ma K34 nn x1 ms → lv_has ls 2 [(0, .ref (ad 28)), (1, .int x1)] → q_H dC dI (va_A w0 s.heap.size) s.heap H locs ([c_RE ad cA ma mn ms mb mt mw mg md].flatten) → W p l e (q_R 3 76) s m args below meth c H locs 0 0 (q_Zi below args s dC dI cA w0 (fun u : mSat => [c_RE ad cA ma mn u mb mt mw mg md].flatten) (fun r u => Q r u)) (F0 m 18 ls []) := by
  obtain ⟨hx, hb, -⟩ := id C0
  intro nn
  induction nn with
  | zero =>
    intro x1 ms H locs ls h
    exact (show False from h).elim
  | succ nn ih =>
    intro x1 ms H locs ls h hl hH
    rw [w_Ref_culprit_L18] at h
    refine lv_aload_n hx hb d_Ref_culprit_18 rfl (lv_at hl 0 rfl) ?_
    refine lv_iload_n hx hb d_Ref_culprit_19 rfl (lv_at hl 1 rfl) ?_
    refine lv_iconst (v := 0) hx hb d_Ref_culprit_20 (by decide) ?_
    refine lv_iconst (v := 0) hx hb d_Ref_culprit_21 (by decide) ?_
    refine q_calli (rest := []) (ws' := fun u : mSat => [c_RE ad cA ma mn u mb mt mw mg md].flatten) C0 hH hA (c_Ref_canBe l dC dI cA ad x1 0 0 ma mn ms mb mt mw mg md _ _ h) Y_Ref_canBe k_765 0 rfl hc_8 (q_pg [0] [] [0] 1 1 rfl (by decide) rfl (fun _ => rfl) rfl (by decide) (fun _ => rfl)) ⟨Nat.le_of_ble_eq_true rfl, Nat.le_of_ble_eq_true rfl⟩ rfl rfl (Nat.le_of_ble_eq_true rfl) hl.1 d_Ref_culprit_22 ⟨Nat.le_refl 0, Nat.le_refl 0⟩ (fun r_1 u_1 H locs h hH => ?_)
    obtain ⟨ms_1, rfl⟩ : ∃ z, z = u_1 := ⟨_, rfl⟩
    try dsimp only at h
    have hH : q_H dC dI (va_A w0 s.heap.size) s.heap H locs ([c_RE ad cA ma mn ms_1 mb mt mw mg md].flatten) := hH
    refine lv_if_eq (tgt := 34) hx hb d_Ref_culprit_25 (by decide) (fun c => ?_) (fun c => ?_)
    · have h := h.1 c
      exact hK34 x1 ms_1 _ _ _ h (lv_sub hl [1] rfl) hH
    · have h := h.2 c
      refine lv_iinc (v := (x1 + 1)) (lv' := [(1, .int (x1 + 1)), (0, .ref (ad 28))]) hx hb d_Ref_culprit_28 hl (k := 1) rfl rfl (by decide) rfl (fun ls hl => ?_)
      refine lv_goto (tgt := 18) hx hb d_Ref_culprit_31 (by decide) ?_
      exact ih (x1 + 1) ms_1 _ _ _ h (lv_sub hl [1, 0] rfl) hH
set_option maxHeartbeats 4000000 in
set_option maxRecDepth 100000 in
theorem c_Ref_culprit (l : Launch) (dC : Nat → ClassId) (dI : Nat → Nat → Nat) (cA : ClassId) (ad : Nat → Nat) (ma : mForm) (mn : mKnow) (ms : mSat) (mb : mBack) (mt : mTask) (mw : (Nat → Int32)) (mg : mGo) (md : mCode) (Q : Int32 → mSat → Prop) (sz : Nat) (h : w_Ref_culprit ma ms Q) :
    q_Mi l y_Ref_culprit b_Ref_culprit 2 (some .int) 3 76 [.ref (ad 28)] dC dI cA ([c_RE ad cA ma mn ms mb mt mw mg md].flatten) (fun u : mSat => [c_RE ad cA ma mn u mb mt mw mg md].flatten) sz (fun r u => Q r u) := by
  refine q_meti (plainFor_of_name (by decide +kernel)) (Nat.le_of_ble_eq_true rfl) (fun {p e s m below meth c ls} C0 hl hH => ?_)
  obtain ⟨hx, hb, -⟩ := id C0
  have hA : ∀ q, s.heap.size ≤ q → va_A ([c_RE ad cA ma mn ms mb mt mw mg md].flatten) s.heap.size q := q_nA
  have hl : lv_has ls 2 [(0, .ref (ad 28))] := hl
  unfold w_Ref_culprit at h
  refine lv_aload_n hx hb d_Ref_culprit_0 rfl (lv_at hl 0 rfl) ?_
  refine lv_aload_n hx hb d_Ref_culprit_1 rfl (lv_at hl 0 rfl) ?_
  refine q_get (v := .int ma.clauses) C0 hH 0 rfl hc_8 1 (by decide) k_623 rfl d_Ref_culprit_2 ?_
  refine lv_iconst (v := 0) hx hb d_Ref_culprit_5 (by decide) ?_
  refine lv_iconst (v := 0) hx hb d_Ref_culprit_6 (by decide) ?_
  refine q_calli (rest := []) (ws' := fun u : mSat => [c_RE ad cA ma mn u mb mt mw mg md].flatten) C0 hH hA (c_Ref_canBe l dC dI cA ad ma.clauses 0 0 ma mn ms mb mt mw mg md _ _ h) Y_Ref_canBe k_765 0 rfl hc_8 (q_pg [0] [] [0] 1 1 rfl (by decide) rfl (fun _ => rfl) rfl (by decide) (fun _ => rfl)) ⟨Nat.le_of_ble_eq_true rfl, Nat.le_of_ble_eq_true rfl⟩ rfl rfl (Nat.le_of_ble_eq_true rfl) hl.1 d_Ref_culprit_7 ⟨Nat.le_refl 0, Nat.le_refl 0⟩ (fun r_1 u_1 H locs h hH => ?_)
  obtain ⟨ms_1, rfl⟩ : ∃ z, z = u_1 := ⟨_, rfl⟩
  try dsimp only at h
  have hH : q_H dC dI (va_A ([c_RE ad cA ma mn ms mb mt mw mg md].flatten) s.heap.size) s.heap H locs ([c_RE ad cA ma mn ms_1 mb mt mw mg md].flatten) := hH
  refine lv_if_eq (tgt := 16) hx hb d_Ref_culprit_10 (by decide) (fun c => ?_) (fun c => ?_)
  · have h := h.1 c
    refine lv_iconst (v := 1) hx hb d_Ref_culprit_16 (by decide) ?_
    refine lv_istore_n (lv' := [(1, .int 1), (0, .ref (ad 28))]) hx hb d_Ref_culprit_17 rfl hl (by decide) rfl (fun ls hl => ?_)
    obtain ⟨nn, h⟩ := h
    refine x_Ref_culprit_L18 C0 hA ma mn mb mt mw mg md ?_ nn 1 ms_1 _ _ _ h (lv_sub hl [1, 0] rfl) hH
    · intro x1_2 ms_2 H locs ls h hl hH
      try dsimp only at h
      refine lv_iload_n hx hb d_Ref_culprit_34 rfl (lv_at hl 0 rfl) ?_
      refine lv_iconst (v := 1) hx hb d_Ref_culprit_35 (by decide) ?_
      refine lv_isub hx hb d_Ref_culprit_36 ?_
      exact q_reti C0 hH ms_2 rfl h d_Ref_culprit_37
  · have h := h.2 c
    refine lv_bipush (v := (-9)) hx hb d_Ref_culprit_13 (by decide) ?_
    exact q_reti C0 hH ms_1 rfl h d_Ref_culprit_15
theorem d_Ref_facts_0 : decode b_Ref_facts 0 = .ok (.iload_n 1, 1) := by decide +kernel
theorem d_Ref_facts_1 : decode b_Ref_facts 1 = .ok (.iconst 0, 1) := by decide +kernel
theorem d_Ref_facts_2 : decode b_Ref_facts 2 = .ok (.bipush 6, 2) := by decide +kernel
theorem d_Ref_facts_4 : decode b_Ref_facts 4 = .ok (.invokestatic 59, 3) := by decide +kernel
theorem d_Ref_facts_7 : decode b_Ref_facts 7 = .ok (.ifCond .ne 5, 3) := by decide +kernel
theorem d_Ref_facts_10 : decode b_Ref_facts 10 = .ok (.iconst (-1), 1) := by decide +kernel
theorem d_Ref_facts_11 : decode b_Ref_facts 11 = .ok (.ireturn, 1) := by decide +kernel
theorem d_Ref_facts_12 : decode b_Ref_facts 12 = .ok (.aload_n 0, 1) := by decide +kernel
theorem d_Ref_facts_13 : decode b_Ref_facts 13 = .ok (.getfield 118, 3) := by decide +kernel
theorem d_Ref_facts_16 : decode b_Ref_facts 16 = .ok (.istore_n 2, 1) := by decide +kernel
theorem d_Ref_facts_17 : decode b_Ref_facts 17 = .ok (.aload_n 0, 1) := by decide +kernel
theorem d_Ref_facts_18 : decode b_Ref_facts 18 = .ok (.iload_n 1, 1) := by decide +kernel
theorem d_Ref_facts_19 : decode b_Ref_facts 19 = .ok (.putfield 118, 3) := by decide +kernel
theorem d_Ref_facts_22 : decode b_Ref_facts 22 = .ok (.aload_n 0, 1) := by decide +kernel
theorem d_Ref_facts_23 : decode b_Ref_facts 23 = .ok (.iconst 0, 1) := by decide +kernel
theorem d_Ref_facts_24 : decode b_Ref_facts 24 = .ok (.putfield 121, 3) := by decide +kernel
theorem d_Ref_facts_27 : decode b_Ref_facts 27 = .ok (.aload_n 0, 1) := by decide +kernel
theorem d_Ref_facts_28 : decode b_Ref_facts 28 = .ok (.iconst 0, 1) := by decide +kernel
theorem d_Ref_facts_29 : decode b_Ref_facts 29 = .ok (.putfield 124, 3) := by decide +kernel
theorem d_Ref_facts_32 : decode b_Ref_facts 32 = .ok (.aload_n 0, 1) := by decide +kernel
theorem d_Ref_facts_33 : decode b_Ref_facts 33 = .ok (.iconst 0, 1) := by decide +kernel
theorem d_Ref_facts_34 : decode b_Ref_facts 34 = .ok (.putfield 127, 3) := by decide +kernel
theorem d_Ref_facts_37 : decode b_Ref_facts 37 = .ok (.iload_n 2, 1) := by decide +kernel
theorem d_Ref_facts_38 : decode b_Ref_facts 38 = .ok (.ireturn, 1) := by decide +kernel
set_option maxHeartbeats 4000000 in
set_option maxRecDepth 100000 in
theorem c_Ref_facts (l : Launch) (dC : Nat → ClassId) (dI : Nat → Nat → Nat) (cA : ClassId) (ad : Nat → Nat) (x1 : Int32) (ma : mForm) (mn : mKnow) (ms : mSat) (mb : mBack) (mt : mTask) (mw : (Nat → Int32)) (mg : mGo) (md : mCode) (Q : Int32 → mTask → Prop) (sz : Nat) (h : w_Ref_facts x1 mt Q) :
    q_Mi l y_Ref_facts b_Ref_facts 3 (some .int) 1 22 [.ref (ad 28), .int x1] dC dI cA ([c_RE ad cA ma mn ms mb mt mw mg md].flatten) (fun u : mTask => [c_RE ad cA ma mn ms mb u mw mg md].flatten) sz (fun r u => Q r u) := by
  refine q_meti (plainFor_of_name (by decide +kernel)) (Nat.le_of_ble_eq_true rfl) (fun {p e s m below meth c ls} C0 hl hH => ?_)
  obtain ⟨hx, hb, -⟩ := id C0
  have hA : ∀ q, s.heap.size ≤ q → va_A ([c_RE ad cA ma mn ms mb mt mw mg md].flatten) s.heap.size q := q_nA
  have hl : lv_has ls 3 [(0, .ref (ad 28)), (1, .int x1)] := hl
  unfold w_Ref_facts at h
  refine lv_iload_n hx hb d_Ref_facts_0 rfl (lv_at hl 1 rfl) ?_
  refine lv_iconst (v := 0) hx hb d_Ref_facts_1 (by decide) ?_
  refine lv_bipush (v := 6) hx hb d_Ref_facts_2 (by decide) ?_
  refine q_calls (rest := []) C0 hH hA (c_Ref_in l dC dI cA ad x1 0 6 _ _ h) Y_Ref_in k_735 ⟨Nat.le_of_ble_eq_true rfl, Nat.le_of_ble_eq_true rfl⟩ rfl rfl (Nat.le_of_ble_eq_true rfl) hl.1 d_Ref_facts_4 ⟨Nat.le_refl 0, Nat.le_refl 0⟩ (fun r_1 H locs h hH => ?_)
  try dsimp only at h
  refine lv_if_ne (tgt := 12) hx hb d_Ref_facts_7 (by decide) (fun c => ?_) (fun c => ?_)
  · have h := h.1 c
    refine lv_aload_n hx hb d_Ref_facts_12 rfl (lv_at hl 0 rfl) ?_
    refine q_get (v := .int mt.facts) C0 hH 0 rfl hc_8 11 (by decide) k_633 rfl d_Ref_facts_13 ?_
    refine lv_istore_n (lv' := [(2, .int mt.facts), (0, .ref (ad 28)), (1, .int x1)]) hx hb d_Ref_facts_16 rfl hl (by decide) rfl (fun ls hl => ?_)
    refine lv_aload_n hx hb d_Ref_facts_17 rfl (lv_at hl 1 rfl) ?_
    refine lv_iload_n hx hb d_Ref_facts_18 rfl (lv_at hl 2 rfl) ?_
    refine q_puti (ws' := [c_RE ad cA ma mn ms mb (mTask.mk x1 mt.actions mt.asks mt.adds mt.takes mt.beginning mt.goal) mw mg md].flatten) C0 hH 0 rfl hc_8 11 (by decide) k_633 rfl rfl (Nat.le_of_ble_eq_true rfl) rfl d_Ref_facts_19 (fun H locs hH => ?_)
    refine lv_aload_n hx hb d_Ref_facts_22 rfl (lv_at hl 1 rfl) ?_
    refine lv_iconst (v := 0) hx hb d_Ref_facts_23 (by decide) ?_
    refine q_puti (ws' := [c_RE ad cA ma mn ms mb (mTask.mk x1 0 mt.asks mt.adds mt.takes mt.beginning mt.goal) mw mg md].flatten) C0 hH 0 rfl hc_8 12 (by decide) k_634 rfl rfl (Nat.le_of_ble_eq_true rfl) rfl d_Ref_facts_24 (fun H locs hH => ?_)
    refine lv_aload_n hx hb d_Ref_facts_27 rfl (lv_at hl 1 rfl) ?_
    refine lv_iconst (v := 0) hx hb d_Ref_facts_28 (by decide) ?_
    refine q_puti (ws' := [c_RE ad cA ma mn ms mb (mTask.mk x1 0 mt.asks mt.adds mt.takes 0 mt.goal) mw mg md].flatten) C0 hH 0 rfl hc_8 16 (by decide) k_638 rfl rfl (Nat.le_of_ble_eq_true rfl) rfl d_Ref_facts_29 (fun H locs hH => ?_)
    refine lv_aload_n hx hb d_Ref_facts_32 rfl (lv_at hl 1 rfl) ?_
    refine lv_iconst (v := 0) hx hb d_Ref_facts_33 (by decide) ?_
    refine q_puti (ws' := [c_RE ad cA ma mn ms mb (mTask.mk x1 0 mt.asks mt.adds mt.takes 0 0) mw mg md].flatten) C0 hH 0 rfl hc_8 17 (by decide) k_639 rfl rfl (Nat.le_of_ble_eq_true rfl) rfl d_Ref_facts_34 (fun H locs hH => ?_)
    refine lv_iload_n hx hb d_Ref_facts_37 rfl (lv_at hl 0 rfl) ?_
    exact q_reti C0 hH (mTask.mk x1 0 mt.asks mt.adds mt.takes 0 0) rfl h d_Ref_facts_38
  · have h := h.2 c
    refine lv_iconst (v := (-1)) hx hb d_Ref_facts_10 (by decide) ?_
    exact q_reti C0 hH mt rfl h d_Ref_facts_11
theorem d_Ref_areFacts_0 : decode b_Ref_areFacts 0 = .ok (.iload_n 1, 1) := by decide +kernel
theorem d_Ref_areFacts_1 : decode b_Ref_areFacts 1 = .ok (.iconst 0, 1) := by decide +kernel
theorem d_Ref_areFacts_2 : decode b_Ref_areFacts 2 = .ok (.iconst 1, 1) := by decide +kernel
theorem d_Ref_areFacts_3 : decode b_Ref_areFacts 3 = .ok (.aload_n 0, 1) := by decide +kernel
theorem d_Ref_areFacts_4 : decode b_Ref_areFacts 4 = .ok (.getfield 118, 3) := by decide +kernel
theorem d_Ref_areFacts_7 : decode b_Ref_areFacts 7 = .ok (.ishl, 1) := by decide +kernel
theorem d_Ref_areFacts_8 : decode b_Ref_areFacts 8 = .ok (.iconst 1, 1) := by decide +kernel
theorem d_Ref_areFacts_9 : decode b_Ref_areFacts 9 = .ok (.isub, 1) := by decide +kernel
theorem d_Ref_areFacts_10 : decode b_Ref_areFacts 10 = .ok (.invokestatic 59, 3) := by decide +kernel
theorem d_Ref_areFacts_13 : decode b_Ref_areFacts 13 = .ok (.ireturn, 1) := by decide +kernel
set_option maxHeartbeats 4000000 in
set_option maxRecDepth 100000 in
theorem c_Ref_areFacts (l : Launch) (dC : Nat → ClassId) (dI : Nat → Nat → Nat) (cA : ClassId) (ad : Nat → Nat) (x1 : Int32) (ma : mForm) (mn : mKnow) (ms : mSat) (mb : mBack) (mt : mTask) (mw : (Nat → Int32)) (mg : mGo) (md : mCode) (Q : Int32 → Prop) (sz : Nat) (h : w_Ref_areFacts x1 mt Q) :
    q_Mi l y_Ref_areFacts b_Ref_areFacts 2 (some .boolean) 1 22 [.ref (ad 28), .int x1] dC dI cA ([c_RE ad cA ma mn ms mb mt mw mg md].flatten) (fun _ : Unit => [c_RE ad cA ma mn ms mb mt mw mg md].flatten) sz (fun r _ => Q r) := by
  refine q_meti (plainFor_of_name (by decide +kernel)) (Nat.le_of_ble_eq_true rfl) (fun {p e s m below meth c ls} C0 hl hH => ?_)
  obtain ⟨hx, hb, -⟩ := id C0
  have hA : ∀ q, s.heap.size ≤ q → va_A ([c_RE ad cA ma mn ms mb mt mw mg md].flatten) s.heap.size q := q_nA
  have hl : lv_has ls 2 [(0, .ref (ad 28)), (1, .int x1)] := hl
  unfold w_Ref_areFacts at h
  refine lv_iload_n hx hb d_Ref_areFacts_0 rfl (lv_at hl 1 rfl) ?_
  refine lv_iconst (v := 0) hx hb d_Ref_areFacts_1 (by decide) ?_
  refine lv_iconst (v := 1) hx hb d_Ref_areFacts_2 (by decide) ?_
  refine lv_aload_n hx hb d_Ref_areFacts_3 rfl (lv_at hl 0 rfl) ?_
  refine q_get (v := .int mt.facts) C0 hH 0 rfl hc_8 11 (by decide) k_633 rfl d_Ref_areFacts_4 ?_
  refine lv_ishl hx hb d_Ref_areFacts_7 ?_
  refine lv_iconst (v := 1) hx hb d_Ref_areFacts_8 (by decide) ?_
  refine lv_isub hx hb d_Ref_areFacts_9 ?_
  refine q_calls (rest := []) C0 hH hA (c_Ref_in l dC dI cA ad x1 0 (((1 : Int32) <<< (mt.facts &&& 31)) - 1) _ _ h) Y_Ref_in k_735 ⟨Nat.le_of_ble_eq_true rfl, Nat.le_of_ble_eq_true rfl⟩ rfl rfl (Nat.le_of_ble_eq_true rfl) hl.1 d_Ref_areFacts_10 ⟨Nat.le_refl 0, Nat.le_refl 0⟩ (fun r_1 H locs h hH => ?_)
  try dsimp only at h
  exact q_retz C0 hH () rfl h.1 h.2 d_Ref_areFacts_13
theorem d_Ref_action_0 : decode b_Ref_action 0 = .ok (.aload_n 0, 1) := by decide +kernel
theorem d_Ref_action_1 : decode b_Ref_action 1 = .ok (.iload_n 1, 1) := by decide +kernel
theorem d_Ref_action_2 : decode b_Ref_action 2 = .ok (.invokevirtual 130, 3) := by decide +kernel
theorem d_Ref_action_5 : decode b_Ref_action 5 = .ok (.ifCond .eq 19, 3) := by decide +kernel
theorem d_Ref_action_8 : decode b_Ref_action 8 = .ok (.aload_n 0, 1) := by decide +kernel
theorem d_Ref_action_9 : decode b_Ref_action 9 = .ok (.iload_n 2, 1) := by decide +kernel
theorem d_Ref_action_10 : decode b_Ref_action 10 = .ok (.invokevirtual 130, 3) := by decide +kernel
theorem d_Ref_action_13 : decode b_Ref_action 13 = .ok (.ifCond .eq 11, 3) := by decide +kernel
theorem d_Ref_action_16 : decode b_Ref_action 16 = .ok (.aload_n 0, 1) := by decide +kernel
theorem d_Ref_action_17 : decode b_Ref_action 17 = .ok (.iload_n 3, 1) := by decide +kernel
theorem d_Ref_action_18 : decode b_Ref_action 18 = .ok (.invokevirtual 130, 3) := by decide +kernel
theorem d_Ref_action_21 : decode b_Ref_action 21 = .ok (.ifCond .ne 5, 3) := by decide +kernel
theorem d_Ref_action_24 : decode b_Ref_action 24 = .ok (.iconst (-1), 1) := by decide +kernel
theorem d_Ref_action_25 : decode b_Ref_action 25 = .ok (.ireturn, 1) := by decide +kernel
theorem d_Ref_action_26 : decode b_Ref_action 26 = .ok (.aload_n 0, 1) := by decide +kernel
theorem d_Ref_action_27 : decode b_Ref_action 27 = .ok (.getfield 121, 3) := by decide +kernel
theorem d_Ref_action_30 : decode b_Ref_action 30 = .ok (.iconst 5, 1) := by decide +kernel
theorem d_Ref_action_31 : decode b_Ref_action 31 = .ok (.if_icmp .ne 6, 3) := by decide +kernel
theorem d_Ref_action_34 : decode b_Ref_action 34 = .ok (.bipush (-3), 2) := by decide +kernel
theorem d_Ref_action_36 : decode b_Ref_action 36 = .ok (.ireturn, 1) := by decide +kernel
theorem d_Ref_action_37 : decode b_Ref_action 37 = .ok (.aload_n 0, 1) := by decide +kernel
theorem d_Ref_action_38 : decode b_Ref_action 38 = .ok (.getfield 28, 3) := by decide +kernel
theorem d_Ref_action_41 : decode b_Ref_action 41 = .ok (.aload_n 0, 1) := by decide +kernel
theorem d_Ref_action_42 : decode b_Ref_action 42 = .ok (.getfield 121, 3) := by decide +kernel
theorem d_Ref_action_45 : decode b_Ref_action 45 = .ok (.iload_n 1, 1) := by decide +kernel
theorem d_Ref_action_46 : decode b_Ref_action 46 = .ok (.iastore, 1) := by decide +kernel
theorem d_Ref_action_47 : decode b_Ref_action 47 = .ok (.aload_n 0, 1) := by decide +kernel
theorem d_Ref_action_48 : decode b_Ref_action 48 = .ok (.getfield 31, 3) := by decide +kernel
theorem d_Ref_action_51 : decode b_Ref_action 51 = .ok (.aload_n 0, 1) := by decide +kernel
theorem d_Ref_action_52 : decode b_Ref_action 52 = .ok (.getfield 121, 3) := by decide +kernel
theorem d_Ref_action_55 : decode b_Ref_action 55 = .ok (.iload_n 2, 1) := by decide +kernel
theorem d_Ref_action_56 : decode b_Ref_action 56 = .ok (.iastore, 1) := by decide +kernel
theorem d_Ref_action_57 : decode b_Ref_action 57 = .ok (.aload_n 0, 1) := by decide +kernel
theorem d_Ref_action_58 : decode b_Ref_action 58 = .ok (.getfield 34, 3) := by decide +kernel
theorem d_Ref_action_61 : decode b_Ref_action 61 = .ok (.aload_n 0, 1) := by decide +kernel
theorem d_Ref_action_62 : decode b_Ref_action 62 = .ok (.getfield 121, 3) := by decide +kernel
theorem d_Ref_action_65 : decode b_Ref_action 65 = .ok (.iload_n 3, 1) := by decide +kernel
theorem d_Ref_action_66 : decode b_Ref_action 66 = .ok (.iload_n 2, 1) := by decide +kernel
theorem d_Ref_action_67 : decode b_Ref_action 67 = .ok (.iconst (-1), 1) := by decide +kernel
theorem d_Ref_action_68 : decode b_Ref_action 68 = .ok (.ixor, 1) := by decide +kernel
theorem d_Ref_action_69 : decode b_Ref_action 69 = .ok (.iand, 1) := by decide +kernel
theorem d_Ref_action_70 : decode b_Ref_action 70 = .ok (.iastore, 1) := by decide +kernel
theorem d_Ref_action_71 : decode b_Ref_action 71 = .ok (.aload_n 0, 1) := by decide +kernel
theorem d_Ref_action_72 : decode b_Ref_action 72 = .ok (.dup, 1) := by decide +kernel
theorem d_Ref_action_73 : decode b_Ref_action 73 = .ok (.getfield 121, 3) := by decide +kernel
theorem d_Ref_action_76 : decode b_Ref_action 76 = .ok (.iconst 1, 1) := by decide +kernel
theorem d_Ref_action_77 : decode b_Ref_action 77 = .ok (.iadd, 1) := by decide +kernel
theorem d_Ref_action_78 : decode b_Ref_action 78 = .ok (.putfield 121, 3) := by decide +kernel
theorem d_Ref_action_81 : decode b_Ref_action 81 = .ok (.aload_n 0, 1) := by decide +kernel
theorem d_Ref_action_82 : decode b_Ref_action 82 = .ok (.getfield 121, 3) := by decide +kernel
theorem d_Ref_action_85 : decode b_Ref_action 85 = .ok (.iconst 1, 1) := by decide +kernel
theorem d_Ref_action_86 : decode b_Ref_action 86 = .ok (.isub, 1) := by decide +kernel
theorem d_Ref_action_87 : decode b_Ref_action 87 = .ok (.ireturn, 1) := by decide +kernel
set_option maxHeartbeats 4000000 in
set_option maxRecDepth 100000 in
theorem c_Ref_action (l : Launch) (dC : Nat → ClassId) (dI : Nat → Nat → Nat) (cA : ClassId) (ad : Nat → Nat) (x1 : Int32) (x2 : Int32) (x3 : Int32) (ma : mForm) (mn : mKnow) (ms : mSat) (mb : mBack) (mt : mTask) (mw : (Nat → Int32)) (mg : mGo) (md : mCode) (Q : Int32 → mTask → Prop) (sz : Nat) (h : w_Ref_action x1 x2 x3 mt Q) :
    q_Mi l y_Ref_action b_Ref_action 4 (some .int) 2 43 [.ref (ad 28), .int x1, .int x2, .int x3] dC dI cA ([c_RE ad cA ma mn ms mb mt mw mg md].flatten) (fun u : mTask => [c_RE ad cA ma mn ms mb u mw mg md].flatten) sz (fun r u => Q r u) := by
  refine q_meti (plainFor_of_name (by decide +kernel)) (Nat.le_of_ble_eq_true rfl) (fun {p e s m below meth c ls} C0 hl hH => ?_)
  obtain ⟨hx, hb, -⟩ := id C0
  have hA : ∀ q, s.heap.size ≤ q → va_A ([c_RE ad cA ma mn ms mb mt mw mg md].flatten) s.heap.size q := q_nA
  have hl : lv_has ls 4 [(0, .ref (ad 28)), (1, .int x1), (2, .int x2), (3, .int x3)] := hl
  unfold w_Ref_action at h
  refine lv_aload_n hx hb d_Ref_action_0 rfl (lv_at hl 0 rfl) ?_
  refine lv_iload_n hx hb d_Ref_action_1 rfl (lv_at hl 1 rfl) ?_
  refine q_calli (rest := []) (ws' := fun _ : Unit => [c_RE ad cA ma mn ms mb mt mw mg md].flatten) C0 hH hA (c_Ref_areFacts l dC dI cA ad x1 ma mn ms mb mt mw mg md _ _ h) Y_Ref_areFacts k_816 0 rfl hc_8 (q_pg [0] [] [0] 1 1 rfl (by decide) rfl (fun _ => rfl) rfl (by decide) (fun _ => rfl)) ⟨Nat.le_of_ble_eq_true rfl, Nat.le_of_ble_eq_true rfl⟩ rfl rfl (Nat.le_of_ble_eq_true rfl) hl.1 d_Ref_action_2 ⟨Nat.le_refl 0, Nat.le_refl 0⟩ (fun r_1 u_1 H locs h hH => ?_)
  try dsimp only at h
  have hH : q_H dC dI (va_A ([c_RE ad cA ma mn ms mb mt mw mg md].flatten) s.heap.size) s.heap H locs ([c_RE ad cA ma mn ms mb mt mw mg md].flatten) := hH
  refine lv_if_eq (tgt := 24) hx hb d_Ref_action_5 (by decide) (fun c => ?_) (fun c => ?_)
  · have h := h.1 c
    refine lv_iconst (v := (-1)) hx hb d_Ref_action_24 (by decide) ?_
    exact q_reti C0 hH mt rfl h d_Ref_action_25
  · have h := h.2 c
    refine lv_aload_n hx hb d_Ref_action_8 rfl (lv_at hl 0 rfl) ?_
    refine lv_iload_n hx hb d_Ref_action_9 rfl (lv_at hl 2 rfl) ?_
    refine q_calli (rest := []) (ws' := fun _ : Unit => [c_RE ad cA ma mn ms mb mt mw mg md].flatten) C0 hH hA (c_Ref_areFacts l dC dI cA ad x2 ma mn ms mb mt mw mg md _ _ h) Y_Ref_areFacts k_816 0 rfl hc_8 (q_pg [0] [] [0] 1 1 rfl (by decide) rfl (fun _ => rfl) rfl (by decide) (fun _ => rfl)) ⟨Nat.le_of_ble_eq_true rfl, Nat.le_of_ble_eq_true rfl⟩ rfl rfl (Nat.le_of_ble_eq_true rfl) hl.1 d_Ref_action_10 ⟨Nat.le_refl 0, Nat.le_refl 0⟩ (fun r_2 u_2 H locs h hH => ?_)
    try dsimp only at h
    have hH : q_H dC dI (va_A ([c_RE ad cA ma mn ms mb mt mw mg md].flatten) s.heap.size) s.heap H locs ([c_RE ad cA ma mn ms mb mt mw mg md].flatten) := hH
    refine lv_if_eq (tgt := 24) hx hb d_Ref_action_13 (by decide) (fun c => ?_) (fun c => ?_)
    · have h := h.1 c
      refine lv_iconst (v := (-1)) hx hb d_Ref_action_24 (by decide) ?_
      exact q_reti C0 hH mt rfl h d_Ref_action_25
    · have h := h.2 c
      refine lv_aload_n hx hb d_Ref_action_16 rfl (lv_at hl 0 rfl) ?_
      refine lv_iload_n hx hb d_Ref_action_17 rfl (lv_at hl 3 rfl) ?_
      refine q_calli (rest := []) (ws' := fun _ : Unit => [c_RE ad cA ma mn ms mb mt mw mg md].flatten) C0 hH hA (c_Ref_areFacts l dC dI cA ad x3 ma mn ms mb mt mw mg md _ _ h) Y_Ref_areFacts k_816 0 rfl hc_8 (q_pg [0] [] [0] 1 1 rfl (by decide) rfl (fun _ => rfl) rfl (by decide) (fun _ => rfl)) ⟨Nat.le_of_ble_eq_true rfl, Nat.le_of_ble_eq_true rfl⟩ rfl rfl (Nat.le_of_ble_eq_true rfl) hl.1 d_Ref_action_18 ⟨Nat.le_refl 0, Nat.le_refl 0⟩ (fun r_3 u_3 H locs h hH => ?_)
      try dsimp only at h
      have hH : q_H dC dI (va_A ([c_RE ad cA ma mn ms mb mt mw mg md].flatten) s.heap.size) s.heap H locs ([c_RE ad cA ma mn ms mb mt mw mg md].flatten) := hH
      refine lv_if_ne (tgt := 26) hx hb d_Ref_action_21 (by decide) (fun c => ?_) (fun c => ?_)
      · have h := h.1 c
        refine lv_aload_n hx hb d_Ref_action_26 rfl (lv_at hl 0 rfl) ?_
        refine q_get (v := .int mt.actions) C0 hH 0 rfl hc_8 12 (by decide) k_634 rfl d_Ref_action_27 ?_
        refine lv_iconst (v := 5) hx hb d_Ref_action_30 (by decide) ?_
        refine lv_icmp_ne (tgt := 37) hx hb d_Ref_action_31 (by decide) (fun c => ?_) (fun c => ?_)
        · have h := h.1 c
          refine lv_aload_n hx hb d_Ref_action_37 rfl (lv_at hl 0 rfl) ?_
          refine q_get (v := .ref (ad 35)) C0 hH 0 rfl hc_8 13 (by decide) k_635 rfl d_Ref_action_38 ?_
          refine lv_aload_n hx hb d_Ref_action_41 rfl (lv_at hl 0 rfl) ?_
          refine q_get (v := .int mt.actions) C0 hH 0 rfl hc_8 12 (by decide) k_634 rfl d_Ref_action_42 ?_
          refine lv_iload_n hx hb d_Ref_action_45 rfl (lv_at hl 1 rfl) ?_
          obtain ⟨hi, h⟩ := h
          refine q_ast (ws' := [c_RE ad cA ma mn ms mb (mTask.mk mt.facts mt.actions (upd mt.asks mt.actions.toNatClampNeg x1) mt.adds mt.takes mt.beginning mt.goal) mw mg md].flatten) (f := mt.asks) C0 hH 7 rfl hi rfl d_Ref_action_46 (fun H locs hH => ?_)
          refine lv_aload_n hx hb d_Ref_action_47 rfl (lv_at hl 0 rfl) ?_
          refine q_get (v := .ref (ad 36)) C0 hH 0 rfl hc_8 14 (by decide) k_636 rfl d_Ref_action_48 ?_
          refine lv_aload_n hx hb d_Ref_action_51 rfl (lv_at hl 0 rfl) ?_
          refine q_get (v := .int mt.actions) C0 hH 0 rfl hc_8 12 (by decide) k_634 rfl d_Ref_action_52 ?_
          refine lv_iload_n hx hb d_Ref_action_55 rfl (lv_at hl 2 rfl) ?_
          obtain ⟨hi, h⟩ := h
          refine q_ast (ws' := [c_RE ad cA ma mn ms mb (mTask.mk mt.facts mt.actions (upd mt.asks mt.actions.toNatClampNeg x1) (upd mt.adds mt.actions.toNatClampNeg x2) mt.takes mt.beginning mt.goal) mw mg md].flatten) (f := mt.adds) C0 hH 8 rfl hi rfl d_Ref_action_56 (fun H locs hH => ?_)
          refine lv_aload_n hx hb d_Ref_action_57 rfl (lv_at hl 0 rfl) ?_
          refine q_get (v := .ref (ad 37)) C0 hH 0 rfl hc_8 15 (by decide) k_637 rfl d_Ref_action_58 ?_
          refine lv_aload_n hx hb d_Ref_action_61 rfl (lv_at hl 0 rfl) ?_
          refine q_get (v := .int mt.actions) C0 hH 0 rfl hc_8 12 (by decide) k_634 rfl d_Ref_action_62 ?_
          refine lv_iload_n hx hb d_Ref_action_65 rfl (lv_at hl 3 rfl) ?_
          refine lv_iload_n hx hb d_Ref_action_66 rfl (lv_at hl 2 rfl) ?_
          refine lv_iconst (v := (-1)) hx hb d_Ref_action_67 (by decide) ?_
          refine lv_ixor hx hb d_Ref_action_68 ?_
          refine lv_iand hx hb d_Ref_action_69 ?_
          obtain ⟨hi, h⟩ := h
          refine q_ast (ws' := [c_RE ad cA ma mn ms mb (mTask.mk mt.facts mt.actions (upd mt.asks mt.actions.toNatClampNeg x1) (upd mt.adds mt.actions.toNatClampNeg x2) (upd mt.takes mt.actions.toNatClampNeg (x3 &&& (x2 ^^^ (-1)))) mt.beginning mt.goal) mw mg md].flatten) (f := mt.takes) C0 hH 9 rfl hi rfl d_Ref_action_70 (fun H locs hH => ?_)
          refine lv_aload_n hx hb d_Ref_action_71 rfl (lv_at hl 0 rfl) ?_
          refine lv_dup hx hb d_Ref_action_72 rfl ?_
          refine q_get (v := .int mt.actions) C0 hH 0 rfl hc_8 12 (by decide) k_634 rfl d_Ref_action_73 ?_
          refine lv_iconst (v := 1) hx hb d_Ref_action_76 (by decide) ?_
          refine lv_iadd hx hb d_Ref_action_77 ?_
          refine q_puti (ws' := [c_RE ad cA ma mn ms mb (mTask.mk mt.facts (mt.actions + 1) (upd mt.asks mt.actions.toNatClampNeg x1) (upd mt.adds mt.actions.toNatClampNeg x2) (upd mt.takes mt.actions.toNatClampNeg (x3 &&& (x2 ^^^ (-1)))) mt.beginning mt.goal) mw mg md].flatten) C0 hH 0 rfl hc_8 12 (by decide) k_634 rfl rfl (Nat.le_of_ble_eq_true rfl) rfl d_Ref_action_78 (fun H locs hH => ?_)
          refine lv_aload_n hx hb d_Ref_action_81 rfl (lv_at hl 0 rfl) ?_
          refine q_get (v := .int (mt.actions + 1)) C0 hH 0 rfl hc_8 12 (by decide) k_634 rfl d_Ref_action_82 ?_
          refine lv_iconst (v := 1) hx hb d_Ref_action_85 (by decide) ?_
          refine lv_isub hx hb d_Ref_action_86 ?_
          exact q_reti C0 hH (mTask.mk mt.facts (mt.actions + 1) (upd mt.asks mt.actions.toNatClampNeg x1) (upd mt.adds mt.actions.toNatClampNeg x2) (upd mt.takes mt.actions.toNatClampNeg (x3 &&& (x2 ^^^ (-1)))) mt.beginning mt.goal) rfl h d_Ref_action_87
        · have h := h.2 c
          refine lv_bipush (v := (-3)) hx hb d_Ref_action_34 (by decide) ?_
          exact q_reti C0 hH mt rfl h d_Ref_action_36
      · have h := h.2 c
        refine lv_iconst (v := (-1)) hx hb d_Ref_action_24 (by decide) ?_
        exact q_reti C0 hH mt rfl h d_Ref_action_25
theorem d_Ref_set_0 : decode b_Ref_set 0 = .ok (.iload_n 1, 1) := by decide +kernel
theorem d_Ref_set_1 : decode b_Ref_set 1 = .ok (.iconst 0, 1) := by decide +kernel
theorem d_Ref_set_2 : decode b_Ref_set 2 = .ok (.iconst 1, 1) := by decide +kernel
theorem d_Ref_set_3 : decode b_Ref_set 3 = .ok (.invokestatic 59, 3) := by decide +kernel
theorem d_Ref_set_6 : decode b_Ref_set 6 = .ok (.ifCond .eq 11, 3) := by decide +kernel
theorem d_Ref_set_9 : decode b_Ref_set 9 = .ok (.aload_n 0, 1) := by decide +kernel
theorem d_Ref_set_10 : decode b_Ref_set 10 = .ok (.iload_n 2, 1) := by decide +kernel
theorem d_Ref_set_11 : decode b_Ref_set 11 = .ok (.invokevirtual 130, 3) := by decide +kernel
theorem d_Ref_set_14 : decode b_Ref_set 14 = .ok (.ifCond .ne 5, 3) := by decide +kernel
theorem d_Ref_set_17 : decode b_Ref_set 17 = .ok (.iconst (-1), 1) := by decide +kernel
theorem d_Ref_set_18 : decode b_Ref_set 18 = .ok (.ireturn, 1) := by decide +kernel
theorem d_Ref_set_19 : decode b_Ref_set 19 = .ok (.iload_n 1, 1) := by decide +kernel
theorem d_Ref_set_20 : decode b_Ref_set 20 = .ok (.ifCond .ne 10, 3) := by decide +kernel
theorem d_Ref_set_23 : decode b_Ref_set 23 = .ok (.aload_n 0, 1) := by decide +kernel
theorem d_Ref_set_24 : decode b_Ref_set 24 = .ok (.getfield 124, 3) := by decide +kernel
theorem d_Ref_set_27 : decode b_Ref_set 27 = .ok (.goto 7, 3) := by decide +kernel
theorem d_Ref_set_30 : decode b_Ref_set 30 = .ok (.aload_n 0, 1) := by decide +kernel
theorem d_Ref_set_31 : decode b_Ref_set 31 = .ok (.getfield 127, 3) := by decide +kernel
theorem d_Ref_set_34 : decode b_Ref_set 34 = .ok (.istore_n 3, 1) := by decide +kernel
theorem d_Ref_set_35 : decode b_Ref_set 35 = .ok (.aload_n 0, 1) := by decide +kernel
theorem d_Ref_set_36 : decode b_Ref_set 36 = .ok (.iload_n 1, 1) := by decide +kernel
theorem d_Ref_set_37 : decode b_Ref_set 37 = .ok (.ifCond .ne 7, 3) := by decide +kernel
theorem d_Ref_set_40 : decode b_Ref_set 40 = .ok (.iload_n 2, 1) := by decide +kernel
theorem d_Ref_set_41 : decode b_Ref_set 41 = .ok (.goto 7, 3) := by decide +kernel
theorem d_Ref_set_44 : decode b_Ref_set 44 = .ok (.aload_n 0, 1) := by decide +kernel
theorem d_Ref_set_45 : decode b_Ref_set 45 = .ok (.getfield 124, 3) := by decide +kernel
theorem d_Ref_set_48 : decode b_Ref_set 48 = .ok (.putfield 124, 3) := by decide +kernel
theorem d_Ref_set_51 : decode b_Ref_set 51 = .ok (.aload_n 0, 1) := by decide +kernel
theorem d_Ref_set_52 : decode b_Ref_set 52 = .ok (.iload_n 1, 1) := by decide +kernel
theorem d_Ref_set_53 : decode b_Ref_set 53 = .ok (.iconst 1, 1) := by decide +kernel
theorem d_Ref_set_54 : decode b_Ref_set 54 = .ok (.if_icmp .ne 7, 3) := by decide +kernel
theorem d_Ref_set_57 : decode b_Ref_set 57 = .ok (.iload_n 2, 1) := by decide +kernel
theorem d_Ref_set_58 : decode b_Ref_set 58 = .ok (.goto 7, 3) := by decide +kernel
theorem d_Ref_set_61 : decode b_Ref_set 61 = .ok (.aload_n 0, 1) := by decide +kernel
theorem d_Ref_set_62 : decode b_Ref_set 62 = .ok (.getfield 127, 3) := by decide +kernel
theorem d_Ref_set_65 : decode b_Ref_set 65 = .ok (.putfield 127, 3) := by decide +kernel
theorem d_Ref_set_68 : decode b_Ref_set 68 = .ok (.iload_n 3, 1) := by decide +kernel
theorem d_Ref_set_69 : decode b_Ref_set 69 = .ok (.ireturn, 1) := by decide +kernel
set_option maxHeartbeats 4000000 in
set_option maxRecDepth 100000 in
theorem c_Ref_set (l : Launch) (dC : Nat → ClassId) (dI : Nat → Nat → Nat) (cA : ClassId) (ad : Nat → Nat) (x1 : Int32) (x2 : Int32) (ma : mForm) (mn : mKnow) (ms : mSat) (mb : mBack) (mt : mTask) (mw : (Nat → Int32)) (mg : mGo) (md : mCode) (Q : Int32 → mTask → Prop) (sz : Nat) (h : w_Ref_set x1 x2 mt Q) :
    q_Mi l y_Ref_set b_Ref_set 4 (some .int) 2 43 [.ref (ad 28), .int x1, .int x2] dC dI cA ([c_RE ad cA ma mn ms mb mt mw mg md].flatten) (fun u : mTask => [c_RE ad cA ma mn ms mb u mw mg md].flatten) sz (fun r u => Q r u) := by
  refine q_meti (plainFor_of_name (by decide +kernel)) (Nat.le_of_ble_eq_true rfl) (fun {p e s m below meth c ls} C0 hl hH => ?_)
  obtain ⟨hx, hb, -⟩ := id C0
  have hA : ∀ q, s.heap.size ≤ q → va_A ([c_RE ad cA ma mn ms mb mt mw mg md].flatten) s.heap.size q := q_nA
  have hl : lv_has ls 4 [(0, .ref (ad 28)), (1, .int x1), (2, .int x2)] := hl
  unfold w_Ref_set at h
  refine lv_iload_n hx hb d_Ref_set_0 rfl (lv_at hl 1 rfl) ?_
  refine lv_iconst (v := 0) hx hb d_Ref_set_1 (by decide) ?_
  refine lv_iconst (v := 1) hx hb d_Ref_set_2 (by decide) ?_
  refine q_calls (rest := []) C0 hH hA (c_Ref_in l dC dI cA ad x1 0 1 _ _ h) Y_Ref_in k_735 ⟨Nat.le_of_ble_eq_true rfl, Nat.le_of_ble_eq_true rfl⟩ rfl rfl (Nat.le_of_ble_eq_true rfl) hl.1 d_Ref_set_3 ⟨Nat.le_refl 0, Nat.le_refl 0⟩ (fun r_1 H locs h hH => ?_)
  try dsimp only at h
  refine lv_if_eq (tgt := 17) hx hb d_Ref_set_6 (by decide) (fun c => ?_) (fun c => ?_)
  · have h := h.1 c
    refine lv_iconst (v := (-1)) hx hb d_Ref_set_17 (by decide) ?_
    exact q_reti C0 hH mt rfl h d_Ref_set_18
  · have h := h.2 c
    refine lv_aload_n hx hb d_Ref_set_9 rfl (lv_at hl 0 rfl) ?_
    refine lv_iload_n hx hb d_Ref_set_10 rfl (lv_at hl 2 rfl) ?_
    refine q_calli (rest := []) (ws' := fun _ : Unit => [c_RE ad cA ma mn ms mb mt mw mg md].flatten) C0 hH hA (c_Ref_areFacts l dC dI cA ad x2 ma mn ms mb mt mw mg md _ _ h) Y_Ref_areFacts k_816 0 rfl hc_8 (q_pg [0] [] [0] 1 1 rfl (by decide) rfl (fun _ => rfl) rfl (by decide) (fun _ => rfl)) ⟨Nat.le_of_ble_eq_true rfl, Nat.le_of_ble_eq_true rfl⟩ rfl rfl (Nat.le_of_ble_eq_true rfl) hl.1 d_Ref_set_11 ⟨Nat.le_refl 0, Nat.le_refl 0⟩ (fun r_2 u_2 H locs h hH => ?_)
    try dsimp only at h
    have hH : q_H dC dI (va_A ([c_RE ad cA ma mn ms mb mt mw mg md].flatten) s.heap.size) s.heap H locs ([c_RE ad cA ma mn ms mb mt mw mg md].flatten) := hH
    refine lv_if_ne (tgt := 19) hx hb d_Ref_set_14 (by decide) (fun c => ?_) (fun c => ?_)
    · have h := h.1 c
      refine lv_iload_n hx hb d_Ref_set_19 rfl (lv_at hl 1 rfl) ?_
      refine lv_if_ne (tgt := 30) hx hb d_Ref_set_20 (by decide) (fun c => ?_) (fun c => ?_)
      · have h := h.1 c
        refine lv_aload_n hx hb d_Ref_set_30 rfl (lv_at hl 0 rfl) ?_
        refine q_get (v := .int mt.goal) C0 hH 0 rfl hc_8 17 (by decide) k_639 rfl d_Ref_set_31 ?_
        refine lv_istore_n (lv' := [(3, .int mt.goal), (0, .ref (ad 28)), (1, .int x1), (2, .int x2)]) hx hb d_Ref_set_34 rfl hl (by decide) rfl (fun ls hl => ?_)
        refine lv_aload_n hx hb d_Ref_set_35 rfl (lv_at hl 1 rfl) ?_
        refine lv_iload_n hx hb d_Ref_set_36 rfl (lv_at hl 2 rfl) ?_
        refine lv_if_ne (tgt := 44) hx hb d_Ref_set_37 (by decide) (fun c => ?_) (fun c => ?_)
        · have h := h.1 c
          refine lv_aload_n hx hb d_Ref_set_44 rfl (lv_at hl 1 rfl) ?_
          refine q_get (v := .int mt.beginning) C0 hH 0 rfl hc_8 16 (by decide) k_638 rfl d_Ref_set_45 ?_
          refine q_puti (ws' := [c_RE ad cA ma mn ms mb (mTask.mk mt.facts mt.actions mt.asks mt.adds mt.takes mt.beginning mt.goal) mw mg md].flatten) C0 hH 0 rfl hc_8 16 (by decide) k_638 rfl rfl (Nat.le_of_ble_eq_true rfl) rfl d_Ref_set_48 (fun H locs hH => ?_)
          refine lv_aload_n hx hb d_Ref_set_51 rfl (lv_at hl 1 rfl) ?_
          refine lv_iload_n hx hb d_Ref_set_52 rfl (lv_at hl 2 rfl) ?_
          refine lv_iconst (v := 1) hx hb d_Ref_set_53 (by decide) ?_
          refine lv_icmp_ne (tgt := 61) hx hb d_Ref_set_54 (by decide) (fun c => ?_) (fun c => ?_)
          · have h := h.1 c
            refine lv_aload_n hx hb d_Ref_set_61 rfl (lv_at hl 1 rfl) ?_
            refine q_get (v := .int mt.goal) C0 hH 0 rfl hc_8 17 (by decide) k_639 rfl d_Ref_set_62 ?_
            refine q_puti (ws' := [c_RE ad cA ma mn ms mb (mTask.mk mt.facts mt.actions mt.asks mt.adds mt.takes mt.beginning mt.goal) mw mg md].flatten) C0 hH 0 rfl hc_8 17 (by decide) k_639 rfl rfl (Nat.le_of_ble_eq_true rfl) rfl d_Ref_set_65 (fun H locs hH => ?_)
            refine lv_iload_n hx hb d_Ref_set_68 rfl (lv_at hl 0 rfl) ?_
            exact q_reti C0 hH (mTask.mk mt.facts mt.actions mt.asks mt.adds mt.takes mt.beginning mt.goal) rfl h d_Ref_set_69
          · have h := h.2 c
            refine lv_iload_n hx hb d_Ref_set_57 rfl (lv_at hl 3 rfl) ?_
            refine lv_goto (tgt := 65) hx hb d_Ref_set_58 (by decide) ?_
            refine q_puti (ws' := [c_RE ad cA ma mn ms mb (mTask.mk mt.facts mt.actions mt.asks mt.adds mt.takes mt.beginning x2) mw mg md].flatten) C0 hH 0 rfl hc_8 17 (by decide) k_639 rfl rfl (Nat.le_of_ble_eq_true rfl) rfl d_Ref_set_65 (fun H locs hH => ?_)
            refine lv_iload_n hx hb d_Ref_set_68 rfl (lv_at hl 0 rfl) ?_
            exact q_reti C0 hH (mTask.mk mt.facts mt.actions mt.asks mt.adds mt.takes mt.beginning x2) rfl h d_Ref_set_69
        · have h := h.2 c
          refine lv_iload_n hx hb d_Ref_set_40 rfl (lv_at hl 3 rfl) ?_
          refine lv_goto (tgt := 48) hx hb d_Ref_set_41 (by decide) ?_
          refine q_puti (ws' := [c_RE ad cA ma mn ms mb (mTask.mk mt.facts mt.actions mt.asks mt.adds mt.takes x2 mt.goal) mw mg md].flatten) C0 hH 0 rfl hc_8 16 (by decide) k_638 rfl rfl (Nat.le_of_ble_eq_true rfl) rfl d_Ref_set_48 (fun H locs hH => ?_)
          refine lv_aload_n hx hb d_Ref_set_51 rfl (lv_at hl 1 rfl) ?_
          refine lv_iload_n hx hb d_Ref_set_52 rfl (lv_at hl 2 rfl) ?_
          refine lv_iconst (v := 1) hx hb d_Ref_set_53 (by decide) ?_
          refine lv_icmp_ne (tgt := 61) hx hb d_Ref_set_54 (by decide) (fun c => ?_) (fun c => ?_)
          · have h := h.1 c
            refine lv_aload_n hx hb d_Ref_set_61 rfl (lv_at hl 1 rfl) ?_
            refine q_get (v := .int mt.goal) C0 hH 0 rfl hc_8 17 (by decide) k_639 rfl d_Ref_set_62 ?_
            refine q_puti (ws' := [c_RE ad cA ma mn ms mb (mTask.mk mt.facts mt.actions mt.asks mt.adds mt.takes x2 mt.goal) mw mg md].flatten) C0 hH 0 rfl hc_8 17 (by decide) k_639 rfl rfl (Nat.le_of_ble_eq_true rfl) rfl d_Ref_set_65 (fun H locs hH => ?_)
            refine lv_iload_n hx hb d_Ref_set_68 rfl (lv_at hl 0 rfl) ?_
            exact q_reti C0 hH (mTask.mk mt.facts mt.actions mt.asks mt.adds mt.takes x2 mt.goal) rfl h d_Ref_set_69
          · have h := h.2 c
            refine lv_iload_n hx hb d_Ref_set_57 rfl (lv_at hl 3 rfl) ?_
            refine lv_goto (tgt := 65) hx hb d_Ref_set_58 (by decide) ?_
            refine q_puti (ws' := [c_RE ad cA ma mn ms mb (mTask.mk mt.facts mt.actions mt.asks mt.adds mt.takes x2 x2) mw mg md].flatten) C0 hH 0 rfl hc_8 17 (by decide) k_639 rfl rfl (Nat.le_of_ble_eq_true rfl) rfl d_Ref_set_65 (fun H locs hH => ?_)
            refine lv_iload_n hx hb d_Ref_set_68 rfl (lv_at hl 0 rfl) ?_
            exact q_reti C0 hH (mTask.mk mt.facts mt.actions mt.asks mt.adds mt.takes x2 x2) rfl h d_Ref_set_69
      · have h := h.2 c
        refine lv_aload_n hx hb d_Ref_set_23 rfl (lv_at hl 0 rfl) ?_
        refine q_get (v := .int mt.beginning) C0 hH 0 rfl hc_8 16 (by decide) k_638 rfl d_Ref_set_24 ?_
        refine lv_goto (tgt := 34) hx hb d_Ref_set_27 (by decide) ?_
        refine lv_istore_n (lv' := [(3, .int mt.beginning), (0, .ref (ad 28)), (1, .int x1), (2, .int x2)]) hx hb d_Ref_set_34 rfl hl (by decide) rfl (fun ls hl => ?_)
        refine lv_aload_n hx hb d_Ref_set_35 rfl (lv_at hl 1 rfl) ?_
        refine lv_iload_n hx hb d_Ref_set_36 rfl (lv_at hl 2 rfl) ?_
        refine lv_if_ne (tgt := 44) hx hb d_Ref_set_37 (by decide) (fun c => ?_) (fun c => ?_)
        · have h := h.1 c
          refine lv_aload_n hx hb d_Ref_set_44 rfl (lv_at hl 1 rfl) ?_
          refine q_get (v := .int mt.beginning) C0 hH 0 rfl hc_8 16 (by decide) k_638 rfl d_Ref_set_45 ?_
          refine q_puti (ws' := [c_RE ad cA ma mn ms mb (mTask.mk mt.facts mt.actions mt.asks mt.adds mt.takes mt.beginning mt.goal) mw mg md].flatten) C0 hH 0 rfl hc_8 16 (by decide) k_638 rfl rfl (Nat.le_of_ble_eq_true rfl) rfl d_Ref_set_48 (fun H locs hH => ?_)
          refine lv_aload_n hx hb d_Ref_set_51 rfl (lv_at hl 1 rfl) ?_
          refine lv_iload_n hx hb d_Ref_set_52 rfl (lv_at hl 2 rfl) ?_
          refine lv_iconst (v := 1) hx hb d_Ref_set_53 (by decide) ?_
          refine lv_icmp_ne (tgt := 61) hx hb d_Ref_set_54 (by decide) (fun c => ?_) (fun c => ?_)
          · have h := h.1 c
            refine lv_aload_n hx hb d_Ref_set_61 rfl (lv_at hl 1 rfl) ?_
            refine q_get (v := .int mt.goal) C0 hH 0 rfl hc_8 17 (by decide) k_639 rfl d_Ref_set_62 ?_
            refine q_puti (ws' := [c_RE ad cA ma mn ms mb (mTask.mk mt.facts mt.actions mt.asks mt.adds mt.takes mt.beginning mt.goal) mw mg md].flatten) C0 hH 0 rfl hc_8 17 (by decide) k_639 rfl rfl (Nat.le_of_ble_eq_true rfl) rfl d_Ref_set_65 (fun H locs hH => ?_)
            refine lv_iload_n hx hb d_Ref_set_68 rfl (lv_at hl 0 rfl) ?_
            exact q_reti C0 hH (mTask.mk mt.facts mt.actions mt.asks mt.adds mt.takes mt.beginning mt.goal) rfl h d_Ref_set_69
          · have h := h.2 c
            refine lv_iload_n hx hb d_Ref_set_57 rfl (lv_at hl 3 rfl) ?_
            refine lv_goto (tgt := 65) hx hb d_Ref_set_58 (by decide) ?_
            refine q_puti (ws' := [c_RE ad cA ma mn ms mb (mTask.mk mt.facts mt.actions mt.asks mt.adds mt.takes mt.beginning x2) mw mg md].flatten) C0 hH 0 rfl hc_8 17 (by decide) k_639 rfl rfl (Nat.le_of_ble_eq_true rfl) rfl d_Ref_set_65 (fun H locs hH => ?_)
            refine lv_iload_n hx hb d_Ref_set_68 rfl (lv_at hl 0 rfl) ?_
            exact q_reti C0 hH (mTask.mk mt.facts mt.actions mt.asks mt.adds mt.takes mt.beginning x2) rfl h d_Ref_set_69
        · have h := h.2 c
          refine lv_iload_n hx hb d_Ref_set_40 rfl (lv_at hl 3 rfl) ?_
          refine lv_goto (tgt := 48) hx hb d_Ref_set_41 (by decide) ?_
          refine q_puti (ws' := [c_RE ad cA ma mn ms mb (mTask.mk mt.facts mt.actions mt.asks mt.adds mt.takes x2 mt.goal) mw mg md].flatten) C0 hH 0 rfl hc_8 16 (by decide) k_638 rfl rfl (Nat.le_of_ble_eq_true rfl) rfl d_Ref_set_48 (fun H locs hH => ?_)
          refine lv_aload_n hx hb d_Ref_set_51 rfl (lv_at hl 1 rfl) ?_
          refine lv_iload_n hx hb d_Ref_set_52 rfl (lv_at hl 2 rfl) ?_
          refine lv_iconst (v := 1) hx hb d_Ref_set_53 (by decide) ?_
          refine lv_icmp_ne (tgt := 61) hx hb d_Ref_set_54 (by decide) (fun c => ?_) (fun c => ?_)
          · have h := h.1 c
            refine lv_aload_n hx hb d_Ref_set_61 rfl (lv_at hl 1 rfl) ?_
            refine q_get (v := .int mt.goal) C0 hH 0 rfl hc_8 17 (by decide) k_639 rfl d_Ref_set_62 ?_
            refine q_puti (ws' := [c_RE ad cA ma mn ms mb (mTask.mk mt.facts mt.actions mt.asks mt.adds mt.takes x2 mt.goal) mw mg md].flatten) C0 hH 0 rfl hc_8 17 (by decide) k_639 rfl rfl (Nat.le_of_ble_eq_true rfl) rfl d_Ref_set_65 (fun H locs hH => ?_)
            refine lv_iload_n hx hb d_Ref_set_68 rfl (lv_at hl 0 rfl) ?_
            exact q_reti C0 hH (mTask.mk mt.facts mt.actions mt.asks mt.adds mt.takes x2 mt.goal) rfl h d_Ref_set_69
          · have h := h.2 c
            refine lv_iload_n hx hb d_Ref_set_57 rfl (lv_at hl 3 rfl) ?_
            refine lv_goto (tgt := 65) hx hb d_Ref_set_58 (by decide) ?_
            refine q_puti (ws' := [c_RE ad cA ma mn ms mb (mTask.mk mt.facts mt.actions mt.asks mt.adds mt.takes x2 x2) mw mg md].flatten) C0 hH 0 rfl hc_8 17 (by decide) k_639 rfl rfl (Nat.le_of_ble_eq_true rfl) rfl d_Ref_set_65 (fun H locs hH => ?_)
            refine lv_iload_n hx hb d_Ref_set_68 rfl (lv_at hl 0 rfl) ?_
            exact q_reti C0 hH (mTask.mk mt.facts mt.actions mt.asks mt.adds mt.takes x2 x2) rfl h d_Ref_set_69
    · have h := h.2 c
      refine lv_iconst (v := (-1)) hx hb d_Ref_set_17 (by decide) ?_
      exact q_reti C0 hH mt rfl h d_Ref_set_18
theorem d_Ref_isLength_0 : decode b_Ref_isLength 0 = .ok (.iload_n 0, 1) := by decide +kernel
theorem d_Ref_isLength_1 : decode b_Ref_isLength 1 = .ok (.iconst 0, 1) := by decide +kernel
theorem d_Ref_isLength_2 : decode b_Ref_isLength 2 = .ok (.iconst 5, 1) := by decide +kernel
theorem d_Ref_isLength_3 : decode b_Ref_isLength 3 = .ok (.invokestatic 59, 3) := by decide +kernel
theorem d_Ref_isLength_6 : decode b_Ref_isLength 6 = .ok (.ireturn, 1) := by decide +kernel
set_option maxHeartbeats 4000000 in
set_option maxRecDepth 100000 in
theorem c_Ref_isLength (l : Launch) (dC : Nat → ClassId) (dI : Nat → Nat → Nat) (cA : ClassId) (ad : Nat → Nat) (x0 : Int32) (Q : Int32 → Prop) (sz : Nat) (h : w_Ref_isLength x0 Q) :
    q_Mi l y_Ref_isLength b_Ref_isLength 1 (some .boolean) 1 22 [.int x0] dC dI cA ([]) (fun _ : Unit => []) sz (fun r _ => Q r) := by
  refine q_meti (plainFor_of_name (by decide +kernel)) (Nat.le_of_ble_eq_true rfl) (fun {p e s m below meth c ls} C0 hl hH => ?_)
  obtain ⟨hx, hb, -⟩ := id C0
  have hA : ∀ q, s.heap.size ≤ q → va_A ([]) s.heap.size q := q_nA
  have hl : lv_has ls 1 [(0, .int x0)] := hl
  unfold w_Ref_isLength at h
  refine lv_iload_n hx hb d_Ref_isLength_0 rfl (lv_at hl 0 rfl) ?_
  refine lv_iconst (v := 0) hx hb d_Ref_isLength_1 (by decide) ?_
  refine lv_iconst (v := 5) hx hb d_Ref_isLength_2 (by decide) ?_
  refine q_calls (rest := []) C0 hH hA (c_Ref_in l dC dI cA ad x0 0 5 _ _ h) Y_Ref_in k_735 ⟨Nat.le_of_ble_eq_true rfl, Nat.le_of_ble_eq_true rfl⟩ rfl rfl (Nat.le_of_ble_eq_true rfl) hl.1 d_Ref_isLength_3 ⟨Nat.le_refl 0, Nat.le_refl 0⟩ (fun r_1 H locs h hH => ?_)
  try dsimp only at h
  exact q_retz C0 hH () rfl h.1 h.2 d_Ref_isLength_6
theorem d_Ref_after_0 : decode b_Ref_after 0 = .ok (.iload_n 2, 1) := by decide +kernel
theorem d_Ref_after_1 : decode b_Ref_after 1 = .ok (.aload_n 0, 1) := by decide +kernel
theorem d_Ref_after_2 : decode b_Ref_after 2 = .ok (.getfield 121, 3) := by decide +kernel
theorem d_Ref_after_5 : decode b_Ref_after 5 = .ok (.if_icmp .ne 5, 3) := by decide +kernel
theorem d_Ref_after_8 : decode b_Ref_after 8 = .ok (.iload_n 1, 1) := by decide +kernel
theorem d_Ref_after_9 : decode b_Ref_after 9 = .ok (.ireturn, 1) := by decide +kernel
theorem d_Ref_after_10 : decode b_Ref_after 10 = .ok (.iload_n 1, 1) := by decide +kernel
theorem d_Ref_after_11 : decode b_Ref_after 11 = .ok (.aload_n 0, 1) := by decide +kernel
theorem d_Ref_after_12 : decode b_Ref_after 12 = .ok (.getfield 28, 3) := by decide +kernel
theorem d_Ref_after_15 : decode b_Ref_after 15 = .ok (.iload_n 2, 1) := by decide +kernel
theorem d_Ref_after_16 : decode b_Ref_after 16 = .ok (.iaload, 1) := by decide +kernel
theorem d_Ref_after_17 : decode b_Ref_after 17 = .ok (.iand, 1) := by decide +kernel
theorem d_Ref_after_18 : decode b_Ref_after 18 = .ok (.aload_n 0, 1) := by decide +kernel
theorem d_Ref_after_19 : decode b_Ref_after 19 = .ok (.getfield 28, 3) := by decide +kernel
theorem d_Ref_after_22 : decode b_Ref_after 22 = .ok (.iload_n 2, 1) := by decide +kernel
theorem d_Ref_after_23 : decode b_Ref_after 23 = .ok (.iaload, 1) := by decide +kernel
theorem d_Ref_after_24 : decode b_Ref_after 24 = .ok (.if_icmp .ne 23, 3) := by decide +kernel
theorem d_Ref_after_27 : decode b_Ref_after 27 = .ok (.iload_n 1, 1) := by decide +kernel
theorem d_Ref_after_28 : decode b_Ref_after 28 = .ok (.aload_n 0, 1) := by decide +kernel
theorem d_Ref_after_29 : decode b_Ref_after 29 = .ok (.getfield 34, 3) := by decide +kernel
theorem d_Ref_after_32 : decode b_Ref_after 32 = .ok (.iload_n 2, 1) := by decide +kernel
theorem d_Ref_after_33 : decode b_Ref_after 33 = .ok (.iaload, 1) := by decide +kernel
theorem d_Ref_after_34 : decode b_Ref_after 34 = .ok (.iconst (-1), 1) := by decide +kernel
theorem d_Ref_after_35 : decode b_Ref_after 35 = .ok (.ixor, 1) := by decide +kernel
theorem d_Ref_after_36 : decode b_Ref_after 36 = .ok (.iand, 1) := by decide +kernel
theorem d_Ref_after_37 : decode b_Ref_after 37 = .ok (.aload_n 0, 1) := by decide +kernel
theorem d_Ref_after_38 : decode b_Ref_after 38 = .ok (.getfield 31, 3) := by decide +kernel
theorem d_Ref_after_41 : decode b_Ref_after 41 = .ok (.iload_n 2, 1) := by decide +kernel
theorem d_Ref_after_42 : decode b_Ref_after 42 = .ok (.iaload, 1) := by decide +kernel
theorem d_Ref_after_43 : decode b_Ref_after 43 = .ok (.ior, 1) := by decide +kernel
theorem d_Ref_after_44 : decode b_Ref_after 44 = .ok (.goto 4, 3) := by decide +kernel
theorem d_Ref_after_47 : decode b_Ref_after 47 = .ok (.iconst (-1), 1) := by decide +kernel
theorem d_Ref_after_48 : decode b_Ref_after 48 = .ok (.ireturn, 1) := by decide +kernel
set_option maxHeartbeats 4000000 in
set_option maxRecDepth 100000 in
theorem c_Ref_after (l : Launch) (dC : Nat → ClassId) (dI : Nat → Nat → Nat) (cA : ClassId) (ad : Nat → Nat) (x1 : Int32) (x2 : Int32) (ma : mForm) (mn : mKnow) (ms : mSat) (mb : mBack) (mt : mTask) (mw : (Nat → Int32)) (mg : mGo) (md : mCode) (Q : Int32 → Prop) (sz : Nat) (h : w_Ref_after x1 x2 mt Q) :
    q_Mi l y_Ref_after b_Ref_after 3 (some .int) 0 0 [.ref (ad 28), .int x1, .int x2] dC dI cA ([c_RE ad cA ma mn ms mb mt mw mg md].flatten) (fun _ : Unit => [c_RE ad cA ma mn ms mb mt mw mg md].flatten) sz (fun r _ => Q r) := by
  refine q_meti (plainFor_of_name (by decide +kernel)) (Nat.le_of_ble_eq_true rfl) (fun {p e s m below meth c ls} C0 hl hH => ?_)
  obtain ⟨hx, hb, -⟩ := id C0
  have hA : ∀ q, s.heap.size ≤ q → va_A ([c_RE ad cA ma mn ms mb mt mw mg md].flatten) s.heap.size q := q_nA
  have hl : lv_has ls 3 [(0, .ref (ad 28)), (1, .int x1), (2, .int x2)] := hl
  unfold w_Ref_after at h
  refine lv_iload_n hx hb d_Ref_after_0 rfl (lv_at hl 2 rfl) ?_
  refine lv_aload_n hx hb d_Ref_after_1 rfl (lv_at hl 0 rfl) ?_
  refine q_get (v := .int mt.actions) C0 hH 0 rfl hc_8 12 (by decide) k_634 rfl d_Ref_after_2 ?_
  refine lv_icmp_ne (tgt := 10) hx hb d_Ref_after_5 (by decide) (fun c => ?_) (fun c => ?_)
  · have h := h.1 c
    refine lv_iload_n hx hb d_Ref_after_10 rfl (lv_at hl 1 rfl) ?_
    refine lv_aload_n hx hb d_Ref_after_11 rfl (lv_at hl 0 rfl) ?_
    refine q_get (v := .ref (ad 35)) C0 hH 0 rfl hc_8 13 (by decide) k_635 rfl d_Ref_after_12 ?_
    refine lv_iload_n hx hb d_Ref_after_15 rfl (lv_at hl 2 rfl) ?_
    obtain ⟨hi, h⟩ := h
    refine q_ald (f := mt.asks) C0 hH 7 rfl hi d_Ref_after_16 ?_
    refine lv_iand hx hb d_Ref_after_17 ?_
    refine lv_aload_n hx hb d_Ref_after_18 rfl (lv_at hl 0 rfl) ?_
    refine q_get (v := .ref (ad 35)) C0 hH 0 rfl hc_8 13 (by decide) k_635 rfl d_Ref_after_19 ?_
    refine lv_iload_n hx hb d_Ref_after_22 rfl (lv_at hl 2 rfl) ?_
    obtain ⟨hi, h⟩ := h
    refine q_ald (f := mt.asks) C0 hH 7 rfl hi d_Ref_after_23 ?_
    refine lv_icmp_ne (tgt := 47) hx hb d_Ref_after_24 (by decide) (fun c => ?_) (fun c => ?_)
    · have h := h.1 c
      refine lv_iconst (v := (-1)) hx hb d_Ref_after_47 (by decide) ?_
      exact q_reti C0 hH () rfl h d_Ref_after_48
    · have h := h.2 c
      refine lv_iload_n hx hb d_Ref_after_27 rfl (lv_at hl 1 rfl) ?_
      refine lv_aload_n hx hb d_Ref_after_28 rfl (lv_at hl 0 rfl) ?_
      refine q_get (v := .ref (ad 37)) C0 hH 0 rfl hc_8 15 (by decide) k_637 rfl d_Ref_after_29 ?_
      refine lv_iload_n hx hb d_Ref_after_32 rfl (lv_at hl 2 rfl) ?_
      obtain ⟨hi, h⟩ := h
      refine q_ald (f := mt.takes) C0 hH 9 rfl hi d_Ref_after_33 ?_
      refine lv_iconst (v := (-1)) hx hb d_Ref_after_34 (by decide) ?_
      refine lv_ixor hx hb d_Ref_after_35 ?_
      refine lv_iand hx hb d_Ref_after_36 ?_
      refine lv_aload_n hx hb d_Ref_after_37 rfl (lv_at hl 0 rfl) ?_
      refine q_get (v := .ref (ad 36)) C0 hH 0 rfl hc_8 14 (by decide) k_636 rfl d_Ref_after_38 ?_
      refine lv_iload_n hx hb d_Ref_after_41 rfl (lv_at hl 2 rfl) ?_
      obtain ⟨hi, h⟩ := h
      refine q_ald (f := mt.adds) C0 hH 8 rfl hi d_Ref_after_42 ?_
      refine lv_ior hx hb d_Ref_after_43 ?_
      refine lv_goto (tgt := 48) hx hb d_Ref_after_44 (by decide) ?_
      exact q_reti C0 hH () rfl h d_Ref_after_48
  · have h := h.2 c
    refine lv_iload_n hx hb d_Ref_after_8 rfl (lv_at hl 1 rfl) ?_
    exact q_reti C0 hH () rfl h d_Ref_after_9
theorem d_Ref_counts_0 : decode b_Ref_counts 0 = .ok (.iconst 1, 1) := by decide +kernel
theorem d_Ref_counts_1 : decode b_Ref_counts 1 = .ok (.aload_n 0, 1) := by decide +kernel
theorem d_Ref_counts_2 : decode b_Ref_counts 2 = .ok (.getfield 118, 3) := by decide +kernel
theorem d_Ref_counts_5 : decode b_Ref_counts 5 = .ok (.ishl, 1) := by decide +kernel
theorem d_Ref_counts_6 : decode b_Ref_counts 6 = .ok (.istore_n 2, 1) := by decide +kernel
theorem d_Ref_counts_7 : decode b_Ref_counts 7 = .ok (.iconst 0, 1) := by decide +kernel
theorem d_Ref_counts_8 : decode b_Ref_counts 8 = .ok (.istore_n 3, 1) := by decide +kernel
theorem d_Ref_counts_9 : decode b_Ref_counts 9 = .ok (.iload_n 3, 1) := by decide +kernel
theorem d_Ref_counts_10 : decode b_Ref_counts 10 = .ok (.iload_n 2, 1) := by decide +kernel
theorem d_Ref_counts_11 : decode b_Ref_counts 11 = .ok (.if_icmp .ge 33, 3) := by decide +kernel
theorem d_Ref_counts_14 : decode b_Ref_counts 14 = .ok (.aload_n 0, 1) := by decide +kernel
theorem d_Ref_counts_15 : decode b_Ref_counts 15 = .ok (.getfield 49, 3) := by decide +kernel
theorem d_Ref_counts_18 : decode b_Ref_counts 18 = .ok (.iload_n 3, 1) := by decide +kernel
theorem d_Ref_counts_19 : decode b_Ref_counts 19 = .ok (.iload_n 3, 1) := by decide +kernel
theorem d_Ref_counts_20 : decode b_Ref_counts 20 = .ok (.aload_n 0, 1) := by decide +kernel
theorem d_Ref_counts_21 : decode b_Ref_counts 21 = .ok (.getfield 127, 3) := by decide +kernel
theorem d_Ref_counts_24 : decode b_Ref_counts 24 = .ok (.iand, 1) := by decide +kernel
theorem d_Ref_counts_25 : decode b_Ref_counts 25 = .ok (.aload_n 0, 1) := by decide +kernel
theorem d_Ref_counts_26 : decode b_Ref_counts 26 = .ok (.getfield 127, 3) := by decide +kernel
theorem d_Ref_counts_29 : decode b_Ref_counts 29 = .ok (.if_icmp .ne 7, 3) := by decide +kernel
theorem d_Ref_counts_32 : decode b_Ref_counts 32 = .ok (.iconst 1, 1) := by decide +kernel
theorem d_Ref_counts_33 : decode b_Ref_counts 33 = .ok (.goto 4, 3) := by decide +kernel
theorem d_Ref_counts_36 : decode b_Ref_counts 36 = .ok (.iconst 0, 1) := by decide +kernel
theorem d_Ref_counts_37 : decode b_Ref_counts 37 = .ok (.iastore, 1) := by decide +kernel
theorem d_Ref_counts_38 : decode b_Ref_counts 38 = .ok (.iinc 3 1, 3) := by decide +kernel
theorem d_Ref_counts_41 : decode b_Ref_counts 41 = .ok (.goto (-32), 3) := by decide +kernel
theorem d_Ref_counts_44 : decode b_Ref_counts 44 = .ok (.iconst 1, 1) := by decide +kernel
theorem d_Ref_counts_45 : decode b_Ref_counts 45 = .ok (.istore_n 3, 1) := by decide +kernel
theorem d_Ref_counts_46 : decode b_Ref_counts 46 = .ok (.iload_n 3, 1) := by decide +kernel
theorem d_Ref_counts_47 : decode b_Ref_counts 47 = .ok (.iload_n 1, 1) := by decide +kernel
theorem d_Ref_counts_48 : decode b_Ref_counts 48 = .ok (.if_icmp .gt 109, 3) := by decide +kernel
theorem d_Ref_counts_51 : decode b_Ref_counts 51 = .ok (.iconst 0, 1) := by decide +kernel
theorem d_Ref_counts_52 : decode b_Ref_counts 52 = .ok (.istore 4, 2) := by decide +kernel
theorem d_Ref_counts_54 : decode b_Ref_counts 54 = .ok (.iload 4, 2) := by decide +kernel
theorem d_Ref_counts_56 : decode b_Ref_counts 56 = .ok (.iload_n 2, 1) := by decide +kernel
theorem d_Ref_counts_57 : decode b_Ref_counts 57 = .ok (.if_icmp .ge 94, 3) := by decide +kernel
theorem d_Ref_counts_60 : decode b_Ref_counts 60 = .ok (.iconst 0, 1) := by decide +kernel
theorem d_Ref_counts_61 : decode b_Ref_counts 61 = .ok (.istore 5, 2) := by decide +kernel
theorem d_Ref_counts_63 : decode b_Ref_counts 63 = .ok (.iconst 0, 1) := by decide +kernel
theorem d_Ref_counts_64 : decode b_Ref_counts 64 = .ok (.istore 6, 2) := by decide +kernel
theorem d_Ref_counts_66 : decode b_Ref_counts 66 = .ok (.iload 6, 2) := by decide +kernel
theorem d_Ref_counts_68 : decode b_Ref_counts 68 = .ok (.aload_n 0, 1) := by decide +kernel
theorem d_Ref_counts_69 : decode b_Ref_counts 69 = .ok (.getfield 121, 3) := by decide +kernel
theorem d_Ref_counts_72 : decode b_Ref_counts 72 = .ok (.if_icmp .gt 47, 3) := by decide +kernel
theorem d_Ref_counts_75 : decode b_Ref_counts 75 = .ok (.aload_n 0, 1) := by decide +kernel
theorem d_Ref_counts_76 : decode b_Ref_counts 76 = .ok (.iload 4, 2) := by decide +kernel
theorem d_Ref_counts_78 : decode b_Ref_counts 78 = .ok (.iload 6, 2) := by decide +kernel
theorem d_Ref_counts_80 : decode b_Ref_counts 80 = .ok (.invokevirtual 133, 3) := by decide +kernel
theorem d_Ref_counts_83 : decode b_Ref_counts 83 = .ok (.istore 7, 2) := by decide +kernel
theorem d_Ref_counts_85 : decode b_Ref_counts 85 = .ok (.iload 5, 2) := by decide +kernel
theorem d_Ref_counts_87 : decode b_Ref_counts 87 = .ok (.iload 7, 2) := by decide +kernel
theorem d_Ref_counts_89 : decode b_Ref_counts 89 = .ok (.ifCond .ge 7, 3) := by decide +kernel
theorem d_Ref_counts_92 : decode b_Ref_counts 92 = .ok (.iconst 0, 1) := by decide +kernel
theorem d_Ref_counts_93 : decode b_Ref_counts 93 = .ok (.goto 17, 3) := by decide +kernel
theorem d_Ref_counts_96 : decode b_Ref_counts 96 = .ok (.aload_n 0, 1) := by decide +kernel
theorem d_Ref_counts_97 : decode b_Ref_counts 97 = .ok (.getfield 49, 3) := by decide +kernel
theorem d_Ref_counts_100 : decode b_Ref_counts 100 = .ok (.bipush 64, 2) := by decide +kernel
theorem d_Ref_counts_102 : decode b_Ref_counts 102 = .ok (.iload_n 3, 1) := by decide +kernel
theorem d_Ref_counts_103 : decode b_Ref_counts 103 = .ok (.iconst 1, 1) := by decide +kernel
theorem d_Ref_counts_104 : decode b_Ref_counts 104 = .ok (.isub, 1) := by decide +kernel
theorem d_Ref_counts_105 : decode b_Ref_counts 105 = .ok (.imul, 1) := by decide +kernel
theorem d_Ref_counts_106 : decode b_Ref_counts 106 = .ok (.iload 7, 2) := by decide +kernel
theorem d_Ref_counts_108 : decode b_Ref_counts 108 = .ok (.iadd, 1) := by decide +kernel
theorem d_Ref_counts_109 : decode b_Ref_counts 109 = .ok (.iaload, 1) := by decide +kernel
theorem d_Ref_counts_110 : decode b_Ref_counts 110 = .ok (.iadd, 1) := by decide +kernel
theorem d_Ref_counts_111 : decode b_Ref_counts 111 = .ok (.istore 5, 2) := by decide +kernel
theorem d_Ref_counts_113 : decode b_Ref_counts 113 = .ok (.iinc 6 1, 3) := by decide +kernel
theorem d_Ref_counts_116 : decode b_Ref_counts 116 = .ok (.goto (-50), 3) := by decide +kernel
theorem d_Ref_counts_119 : decode b_Ref_counts 119 = .ok (.aload_n 0, 1) := by decide +kernel
theorem d_Ref_counts_120 : decode b_Ref_counts 120 = .ok (.getfield 49, 3) := by decide +kernel
theorem d_Ref_counts_123 : decode b_Ref_counts 123 = .ok (.bipush 64, 2) := by decide +kernel
theorem d_Ref_counts_125 : decode b_Ref_counts 125 = .ok (.iload_n 3, 1) := by decide +kernel
theorem d_Ref_counts_126 : decode b_Ref_counts 126 = .ok (.imul, 1) := by decide +kernel
theorem d_Ref_counts_127 : decode b_Ref_counts 127 = .ok (.iload 4, 2) := by decide +kernel
theorem d_Ref_counts_129 : decode b_Ref_counts 129 = .ok (.iadd, 1) := by decide +kernel
theorem d_Ref_counts_130 : decode b_Ref_counts 130 = .ok (.iload 5, 2) := by decide +kernel
theorem d_Ref_counts_132 : decode b_Ref_counts 132 = .ok (.bipush 60, 2) := by decide +kernel
theorem d_Ref_counts_134 : decode b_Ref_counts 134 = .ok (.if_icmp .le 8, 3) := by decide +kernel
theorem d_Ref_counts_137 : decode b_Ref_counts 137 = .ok (.bipush 60, 2) := by decide +kernel
theorem d_Ref_counts_139 : decode b_Ref_counts 139 = .ok (.goto 5, 3) := by decide +kernel
theorem d_Ref_counts_142 : decode b_Ref_counts 142 = .ok (.iload 5, 2) := by decide +kernel
theorem d_Ref_counts_144 : decode b_Ref_counts 144 = .ok (.iastore, 1) := by decide +kernel
theorem d_Ref_counts_145 : decode b_Ref_counts 145 = .ok (.iinc 4 1, 3) := by decide +kernel
theorem d_Ref_counts_148 : decode b_Ref_counts 148 = .ok (.goto (-94), 3) := by decide +kernel
theorem d_Ref_counts_151 : decode b_Ref_counts 151 = .ok (.iinc 3 1, 3) := by decide +kernel
theorem d_Ref_counts_154 : decode b_Ref_counts 154 = .ok (.goto (-108), 3) := by decide +kernel
theorem d_Ref_counts_157 : decode b_Ref_counts 157 = .ok (.return_, 1) := by decide +kernel
set_option maxHeartbeats 4000000 in
set_option maxRecDepth 100000 in
theorem x_Ref_counts_L66 {p : Program} {e : Env} {s : State} {m : MethodId} {args : Array Value} {below : List Frame} {meth : Method} {c : Code} {l : Launch} {dC : Nat → ClassId} {dI : Nat → Nat → Nat} {cA : ClassId} {ad : Nat → Nat} {w0 : va_W} (C0 : q_C p s m args meth c b_Ref_counts 8 none "PlanClausesModel" dC dI cA) (hA : ∀ q, s.heap.size ≤ q → va_A w0 s.heap.size q) (x1 : Int32) (x2 : Int32) (x3 : Int32) (x4 : Int32) (ma : mForm) (mn : mKnow) (ms : mSat) (mb : mBack) (mt : mTask) (mw : (Nat → Int32)) (mg : mGo) (md : mCode) {Q : (Nat → Int32) → Prop} {K119 : Int32 → Prop}
    (hK119 : ∀ (x5 : Int32) (H : Heap) (locs : List Loc) (ls : Array Slot), K119 x5 → lv_has ls 8 [(0, .ref (ad 28)), (1, .int x1), (2, .int x2), (3, .int x3), (4, .int x4), (5, .int x5)] → q_H dC dI (va_A w0 s.heap.size) s.heap H locs ([c_RE ad cA ma mn ms mb mt mw mg md].flatten) → W p l e (q_R 1 22) s m args below meth c H locs 0 0 (q_Zv below args s dC dI cA w0 (fun u : (Nat → Int32) => [c_RE ad cA ma mn ms mb mt u mg md].flatten) (fun u => Q u)) (F0 m 119 ls [])) :
    ∀ (nn : Nat) (x5 : Int32) (x6 : Int32) (H : Heap) (locs : List Loc) (ls : Array Slot), w_Ref_counts_L66 x1 x2 x3 x4 mt mw K119 nn x5 x6 → lv_has ls 8 [(0, .ref (ad 28)), (1, .int x1), (2, .int x2), (3, .int x3), (4, .int x4), (5, .int x5), (6, .int x6)] → q_H dC dI (va_A w0 s.heap.size) s.heap H locs ([c_RE ad cA ma mn ms mb mt mw mg md].flatten) → W p l e (q_R 1 22) s m args below meth c H locs 0 0 (q_Zv below args s dC dI cA w0 (fun u : (Nat → Int32) => [c_RE ad cA ma mn ms mb mt u mg md].flatten) (fun u => Q u)) (F0 m 66 ls []) := by
  obtain ⟨hx, hb, -⟩ := id C0
  intro nn
  induction nn with
  | zero =>
    intro x5 x6 H locs ls h
    exact (show False from h).elim
  | succ nn ih =>
    intro x5 x6 H locs ls h hl hH
    rw [w_Ref_counts_L66] at h
    refine lv_iload hx hb d_Ref_counts_66 (lv_at hl 6 rfl) ?_
    refine lv_aload_n hx hb d_Ref_counts_68 rfl (lv_at hl 0 rfl) ?_
    refine q_get (v := .int mt.actions) C0 hH 0 rfl hc_8 12 (by decide) k_634 rfl d_Ref_counts_69 ?_
    refine lv_icmp_gt (tgt := 119) hx hb d_Ref_counts_72 (by decide) (fun c => ?_) (fun c => ?_)
    · have h := h.1 c
      exact hK119 x5 _ _ _ h (lv_sub hl [0, 1, 2, 3, 4, 5] rfl) hH
    · have h := h.2 c
      refine lv_aload_n hx hb d_Ref_counts_75 rfl (lv_at hl 0 rfl) ?_
      refine lv_iload hx hb d_Ref_counts_76 (lv_at hl 4 rfl) ?_
      refine lv_iload hx hb d_Ref_counts_78 (lv_at hl 6 rfl) ?_
      refine q_calli (rest := []) (ws' := fun _ : Unit => [c_RE ad cA ma mn ms mb mt mw mg md].flatten) C0 hH hA (c_Ref_after l dC dI cA ad x4 x6 ma mn ms mb mt mw mg md _ _ h) Y_Ref_after k_839 0 rfl hc_8 (q_pg [0] [] [0] 1 1 rfl (by decide) rfl (fun _ => rfl) rfl (by decide) (fun _ => rfl)) ⟨Nat.le_of_ble_eq_true rfl, Nat.le_of_ble_eq_true rfl⟩ rfl rfl (Nat.le_of_ble_eq_true rfl) hl.1 d_Ref_counts_80 ⟨Nat.le_refl 0, Nat.le_refl 0⟩ (fun r_1 u_1 H locs h hH => ?_)
      try dsimp only at h
      have hH : q_H dC dI (va_A w0 s.heap.size) s.heap H locs ([c_RE ad cA ma mn ms mb mt mw mg md].flatten) := hH
      refine lv_istore (lv' := [(7, .int r_1), (0, .ref (ad 28)), (1, .int x1), (2, .int x2), (3, .int x3), (4, .int x4), (5, .int x5), (6, .int x6)]) hx hb d_Ref_counts_83 hl (by decide) rfl (fun ls hl => ?_)
      refine lv_iload hx hb d_Ref_counts_85 (lv_at hl 6 rfl) ?_
      refine lv_iload hx hb d_Ref_counts_87 (lv_at hl 0 rfl) ?_
      refine lv_if_ge (tgt := 96) hx hb d_Ref_counts_89 (by decide) (fun c => ?_) (fun c => ?_)
      · have h := h.1 c
        refine lv_aload_n hx hb d_Ref_counts_96 rfl (lv_at hl 1 rfl) ?_
        refine q_get (v := .ref (ad 42)) C0 hH 0 rfl hc_8 27 (by decide) k_649 rfl d_Ref_counts_97 ?_
        refine lv_bipush (v := 64) hx hb d_Ref_counts_100 (by decide) ?_
        refine lv_iload_n hx hb d_Ref_counts_102 rfl (lv_at hl 4 rfl) ?_
        refine lv_iconst (v := 1) hx hb d_Ref_counts_103 (by decide) ?_
        refine lv_isub hx hb d_Ref_counts_104 ?_
        refine lv_imul hx hb d_Ref_counts_105 ?_
        refine lv_iload hx hb d_Ref_counts_106 (lv_at hl 0 rfl) ?_
        refine lv_iadd hx hb d_Ref_counts_108 ?_
        obtain ⟨hi, h⟩ := h
        refine q_ald (f := mw) C0 hH 14 rfl hi d_Ref_counts_109 ?_
        refine lv_iadd hx hb d_Ref_counts_110 ?_
        refine lv_istore (lv' := [(5, .int (x5 + (mw ((64 * (x3 - 1)) + r_1).toNatClampNeg))), (7, .int r_1), (0, .ref (ad 28)), (1, .int x1), (2, .int x2), (3, .int x3), (4, .int x4), (6, .int x6)]) hx hb d_Ref_counts_111 hl (by decide) rfl (fun ls hl => ?_)
        refine lv_iinc (v := (x6 + 1)) (lv' := [(6, .int (x6 + 1)), (5, .int (x5 + (mw ((64 * (x3 - 1)) + r_1).toNatClampNeg))), (7, .int r_1), (0, .ref (ad 28)), (1, .int x1), (2, .int x2), (3, .int x3), (4, .int x4)]) hx hb d_Ref_counts_113 hl (k := 7) rfl rfl (by decide) rfl (fun ls hl => ?_)
        refine lv_goto (tgt := 66) hx hb d_Ref_counts_116 (by decide) ?_
        exact ih (x5 + (mw ((64 * (x3 - 1)) + r_1).toNatClampNeg)) (x6 + 1) _ _ _ h (lv_sub hl [3, 4, 5, 6, 7, 1, 0] rfl) hH
      · have h := h.2 c
        refine lv_iconst (v := 0) hx hb d_Ref_counts_92 (by decide) ?_
        refine lv_goto (tgt := 110) hx hb d_Ref_counts_93 (by decide) ?_
        refine lv_iadd hx hb d_Ref_counts_110 ?_
        refine lv_istore (lv' := [(5, .int (x5 + 0)), (7, .int r_1), (0, .ref (ad 28)), (1, .int x1), (2, .int x2), (3, .int x3), (4, .int x4), (6, .int x6)]) hx hb d_Ref_counts_111 hl (by decide) rfl (fun ls hl => ?_)
        refine lv_iinc (v := (x6 + 1)) (lv' := [(6, .int (x6 + 1)), (5, .int (x5 + 0)), (7, .int r_1), (0, .ref (ad 28)), (1, .int x1), (2, .int x2), (3, .int x3), (4, .int x4)]) hx hb d_Ref_counts_113 hl (k := 7) rfl rfl (by decide) rfl (fun ls hl => ?_)
        refine lv_goto (tgt := 66) hx hb d_Ref_counts_116 (by decide) ?_
        exact ih (x5 + 0) (x6 + 1) _ _ _ h (lv_sub hl [3, 4, 5, 6, 7, 1, 0] rfl) hH
set_option maxHeartbeats 4000000 in
set_option maxRecDepth 100000 in
theorem x_Ref_counts_L54 {p : Program} {e : Env} {s : State} {m : MethodId} {args : Array Value} {below : List Frame} {meth : Method} {c : Code} {l : Launch} {dC : Nat → ClassId} {dI : Nat → Nat → Nat} {cA : ClassId} {ad : Nat → Nat} {w0 : va_W} (C0 : q_C p s m args meth c b_Ref_counts 8 none "PlanClausesModel" dC dI cA) (hA : ∀ q, s.heap.size ≤ q → va_A w0 s.heap.size q) (x1 : Int32) (x2 : Int32) (x3 : Int32) (ma : mForm) (mn : mKnow) (ms : mSat) (mb : mBack) (mt : mTask) (mg : mGo) (md : mCode) {Q : (Nat → Int32) → Prop} {K151 : (Nat → Int32) → Prop}
    (hK151 : ∀ (mw : (Nat → Int32)) (H : Heap) (locs : List Loc) (ls : Array Slot), K151 mw → lv_has ls 8 [(0, .ref (ad 28)), (1, .int x1), (2, .int x2), (3, .int x3)] → q_H dC dI (va_A w0 s.heap.size) s.heap H locs ([c_RE ad cA ma mn ms mb mt mw mg md].flatten) → W p l e (q_R 1 22) s m args below meth c H locs 0 0 (q_Zv below args s dC dI cA w0 (fun u : (Nat → Int32) => [c_RE ad cA ma mn ms mb mt u mg md].flatten) (fun u => Q u)) (F0 m 151 ls [])) :
    ∀ (nn : Nat) (x4 : Int32) (mw : (Nat → Int32)) (H : Heap) (locs : List Loc) (ls : Array Slot), w_Ref_counts_L54 x1 x2 x3 mt K151 nn x4 mw → lv_has ls 8 [(0, .ref (ad 28)), (1, .int x1), (2, .int x2), (3, .int x3), (4, .int x4)] → q_H dC dI (va_A w0 s.heap.size) s.heap H locs ([c_RE ad cA ma mn ms mb mt mw mg md].flatten) → W p l e (q_R 1 22) s m args below meth c H locs 0 0 (q_Zv below args s dC dI cA w0 (fun u : (Nat → Int32) => [c_RE ad cA ma mn ms mb mt u mg md].flatten) (fun u => Q u)) (F0 m 54 ls []) := by
  obtain ⟨hx, hb, -⟩ := id C0
  intro nn
  induction nn with
  | zero =>
    intro x4 mw H locs ls h
    exact (show False from h).elim
  | succ nn ih =>
    intro x4 mw H locs ls h hl hH
    rw [w_Ref_counts_L54] at h
    refine lv_iload hx hb d_Ref_counts_54 (lv_at hl 4 rfl) ?_
    refine lv_iload_n hx hb d_Ref_counts_56 rfl (lv_at hl 2 rfl) ?_
    refine lv_icmp_ge (tgt := 151) hx hb d_Ref_counts_57 (by decide) (fun c => ?_) (fun c => ?_)
    · have h := h.1 c
      exact hK151 mw _ _ _ h (lv_sub hl [0, 1, 2, 3] rfl) hH
    · have h := h.2 c
      refine lv_iconst (v := 0) hx hb d_Ref_counts_60 (by decide) ?_
      refine lv_istore (lv' := [(5, .int 0), (0, .ref (ad 28)), (1, .int x1), (2, .int x2), (3, .int x3), (4, .int x4)]) hx hb d_Ref_counts_61 hl (by decide) rfl (fun ls hl => ?_)
      refine lv_iconst (v := 0) hx hb d_Ref_counts_63 (by decide) ?_
      refine lv_istore (lv' := [(6, .int 0), (5, .int 0), (0, .ref (ad 28)), (1, .int x1), (2, .int x2), (3, .int x3), (4, .int x4)]) hx hb d_Ref_counts_64 hl (by decide) rfl (fun ls hl => ?_)
      obtain ⟨nn, h⟩ := h
      refine x_Ref_counts_L66 C0 hA x1 x2 x3 x4 ma mn ms mb mt mw mg md ?_ nn 0 0 _ _ _ h (lv_sub hl [2, 3, 4, 5, 6, 1, 0] rfl) hH
      · intro x5_1 H locs ls h hl hH
        try dsimp only at h
        refine lv_aload_n hx hb d_Ref_counts_119 rfl (lv_at hl 0 rfl) ?_
        refine q_get (v := .ref (ad 42)) C0 hH 0 rfl hc_8 27 (by decide) k_649 rfl d_Ref_counts_120 ?_
        refine lv_bipush (v := 64) hx hb d_Ref_counts_123 (by decide) ?_
        refine lv_iload_n hx hb d_Ref_counts_125 rfl (lv_at hl 3 rfl) ?_
        refine lv_imul hx hb d_Ref_counts_126 ?_
        refine lv_iload hx hb d_Ref_counts_127 (lv_at hl 4 rfl) ?_
        refine lv_iadd hx hb d_Ref_counts_129 ?_
        refine lv_iload hx hb d_Ref_counts_130 (lv_at hl 5 rfl) ?_
        refine lv_bipush (v := 60) hx hb d_Ref_counts_132 (by decide) ?_
        refine lv_icmp_le (tgt := 142) hx hb d_Ref_counts_134 (by decide) (fun c => ?_) (fun c => ?_)
        · have h := h.1 c
          refine lv_iload hx hb d_Ref_counts_142 (lv_at hl 5 rfl) ?_
          obtain ⟨hi, h⟩ := h
          refine q_ast (ws' := [c_RE ad cA ma mn ms mb mt (upd mw ((64 * x3) + x4).toNatClampNeg x5_1) mg md].flatten) (f := mw) C0 hH 14 rfl hi rfl d_Ref_counts_144 (fun H locs hH => ?_)
          refine lv_iinc (v := (x4 + 1)) (lv' := [(4, .int (x4 + 1)), (0, .ref (ad 28)), (1, .int x1), (2, .int x2), (3, .int x3), (5, .int x5_1)]) hx hb d_Ref_counts_145 hl (k := 4) rfl rfl (by decide) rfl (fun ls hl => ?_)
          refine lv_goto (tgt := 54) hx hb d_Ref_counts_148 (by decide) ?_
          exact ih (x4 + 1) (upd mw ((64 * x3) + x4).toNatClampNeg x5_1) _ _ _ h (lv_sub hl [1, 2, 3, 4, 0] rfl) hH
        · have h := h.2 c
          refine lv_bipush (v := 60) hx hb d_Ref_counts_137 (by decide) ?_
          refine lv_goto (tgt := 144) hx hb d_Ref_counts_139 (by decide) ?_
          obtain ⟨hi, h⟩ := h
          refine q_ast (ws' := [c_RE ad cA ma mn ms mb mt (upd mw ((64 * x3) + x4).toNatClampNeg 60) mg md].flatten) (f := mw) C0 hH 14 rfl hi rfl d_Ref_counts_144 (fun H locs hH => ?_)
          refine lv_iinc (v := (x4 + 1)) (lv' := [(4, .int (x4 + 1)), (0, .ref (ad 28)), (1, .int x1), (2, .int x2), (3, .int x3), (5, .int x5_1)]) hx hb d_Ref_counts_145 hl (k := 4) rfl rfl (by decide) rfl (fun ls hl => ?_)
          refine lv_goto (tgt := 54) hx hb d_Ref_counts_148 (by decide) ?_
          exact ih (x4 + 1) (upd mw ((64 * x3) + x4).toNatClampNeg 60) _ _ _ h (lv_sub hl [1, 2, 3, 4, 0] rfl) hH
set_option maxHeartbeats 4000000 in
set_option maxRecDepth 100000 in
theorem x_Ref_counts_L46 {p : Program} {e : Env} {s : State} {m : MethodId} {args : Array Value} {below : List Frame} {meth : Method} {c : Code} {l : Launch} {dC : Nat → ClassId} {dI : Nat → Nat → Nat} {cA : ClassId} {ad : Nat → Nat} {w0 : va_W} (C0 : q_C p s m args meth c b_Ref_counts 8 none "PlanClausesModel" dC dI cA) (hA : ∀ q, s.heap.size ≤ q → va_A w0 s.heap.size q) (x1 : Int32) (x2 : Int32) (ma : mForm) (mn : mKnow) (ms : mSat) (mb : mBack) (mt : mTask) (mg : mGo) (md : mCode) {Q : (Nat → Int32) → Prop} {K157 : (Nat → Int32) → Prop}
    (hK157 : ∀ (mw : (Nat → Int32)) (H : Heap) (locs : List Loc) (ls : Array Slot), K157 mw → lv_has ls 8 [] → q_H dC dI (va_A w0 s.heap.size) s.heap H locs ([c_RE ad cA ma mn ms mb mt mw mg md].flatten) → W p l e (q_R 1 22) s m args below meth c H locs 0 0 (q_Zv below args s dC dI cA w0 (fun u : (Nat → Int32) => [c_RE ad cA ma mn ms mb mt u mg md].flatten) (fun u => Q u)) (F0 m 157 ls [])) :
    ∀ (nn : Nat) (x3 : Int32) (mw : (Nat → Int32)) (H : Heap) (locs : List Loc) (ls : Array Slot), w_Ref_counts_L46 x1 x2 mt K157 nn x3 mw → lv_has ls 8 [(0, .ref (ad 28)), (1, .int x1), (2, .int x2), (3, .int x3)] → q_H dC dI (va_A w0 s.heap.size) s.heap H locs ([c_RE ad cA ma mn ms mb mt mw mg md].flatten) → W p l e (q_R 1 22) s m args below meth c H locs 0 0 (q_Zv below args s dC dI cA w0 (fun u : (Nat → Int32) => [c_RE ad cA ma mn ms mb mt u mg md].flatten) (fun u => Q u)) (F0 m 46 ls []) := by
  obtain ⟨hx, hb, -⟩ := id C0
  intro nn
  induction nn with
  | zero =>
    intro x3 mw H locs ls h
    exact (show False from h).elim
  | succ nn ih =>
    intro x3 mw H locs ls h hl hH
    rw [w_Ref_counts_L46] at h
    refine lv_iload_n hx hb d_Ref_counts_46 rfl (lv_at hl 3 rfl) ?_
    refine lv_iload_n hx hb d_Ref_counts_47 rfl (lv_at hl 1 rfl) ?_
    refine lv_icmp_gt (tgt := 157) hx hb d_Ref_counts_48 (by decide) (fun c => ?_) (fun c => ?_)
    · have h := h.1 c
      exact hK157 mw _ _ _ h (lv_sub hl [] rfl) hH
    · have h := h.2 c
      refine lv_iconst (v := 0) hx hb d_Ref_counts_51 (by decide) ?_
      refine lv_istore (lv' := [(4, .int 0), (0, .ref (ad 28)), (1, .int x1), (2, .int x2), (3, .int x3)]) hx hb d_Ref_counts_52 hl (by decide) rfl (fun ls hl => ?_)
      obtain ⟨nn, h⟩ := h
      refine x_Ref_counts_L54 C0 hA x1 x2 x3 ma mn ms mb mt mg md ?_ nn 0 mw _ _ _ h (lv_sub hl [1, 2, 3, 4, 0] rfl) hH
      · intro mw_1 H locs ls h hl hH
        try dsimp only at h
        refine lv_iinc (v := (x3 + 1)) (lv' := [(3, .int (x3 + 1)), (0, .ref (ad 28)), (1, .int x1), (2, .int x2)]) hx hb d_Ref_counts_151 hl (k := 3) rfl rfl (by decide) rfl (fun ls hl => ?_)
        refine lv_goto (tgt := 46) hx hb d_Ref_counts_154 (by decide) ?_
        exact ih (x3 + 1) mw_1 _ _ _ h (lv_sub hl [1, 2, 3, 0] rfl) hH
set_option maxHeartbeats 4000000 in
set_option maxRecDepth 100000 in
theorem x_Ref_counts_L9 {p : Program} {e : Env} {s : State} {m : MethodId} {args : Array Value} {below : List Frame} {meth : Method} {c : Code} {l : Launch} {dC : Nat → ClassId} {dI : Nat → Nat → Nat} {cA : ClassId} {ad : Nat → Nat} {w0 : va_W} (C0 : q_C p s m args meth c b_Ref_counts 8 none "PlanClausesModel" dC dI cA) (hA : ∀ q, s.heap.size ≤ q → va_A w0 s.heap.size q) (x1 : Int32) (x2 : Int32) (ma : mForm) (mn : mKnow) (ms : mSat) (mb : mBack) (mt : mTask) (mg : mGo) (md : mCode) {Q : (Nat → Int32) → Prop} {K44 : (Nat → Int32) → Prop}
    (hK44 : ∀ (mw : (Nat → Int32)) (H : Heap) (locs : List Loc) (ls : Array Slot), K44 mw → lv_has ls 8 [(0, .ref (ad 28)), (1, .int x1), (2, .int x2)] → q_H dC dI (va_A w0 s.heap.size) s.heap H locs ([c_RE ad cA ma mn ms mb mt mw mg md].flatten) → W p l e (q_R 1 22) s m args below meth c H locs 0 0 (q_Zv below args s dC dI cA w0 (fun u : (Nat → Int32) => [c_RE ad cA ma mn ms mb mt u mg md].flatten) (fun u => Q u)) (F0 m 44 ls [])) :
    ∀ (nn : Nat) (x3 : Int32) (mw : (Nat → Int32)) (H : Heap) (locs : List Loc) (ls : Array Slot), w_Ref_counts_L9 x1 x2 mt K44 nn x3 mw → lv_has ls 8 [(0, .ref (ad 28)), (1, .int x1), (2, .int x2), (3, .int x3)] → q_H dC dI (va_A w0 s.heap.size) s.heap H locs ([c_RE ad cA ma mn ms mb mt mw mg md].flatten) → W p l e (q_R 1 22) s m args below meth c H locs 0 0 (q_Zv below args s dC dI cA w0 (fun u : (Nat → Int32) => [c_RE ad cA ma mn ms mb mt u mg md].flatten) (fun u => Q u)) (F0 m 9 ls []) := by
  obtain ⟨hx, hb, -⟩ := id C0
  intro nn
  induction nn with
  | zero =>
    intro x3 mw H locs ls h
    exact (show False from h).elim
  | succ nn ih =>
    intro x3 mw H locs ls h hl hH
    rw [w_Ref_counts_L9] at h
    refine lv_iload_n hx hb d_Ref_counts_9 rfl (lv_at hl 3 rfl) ?_
    refine lv_iload_n hx hb d_Ref_counts_10 rfl (lv_at hl 2 rfl) ?_
    refine lv_icmp_ge (tgt := 44) hx hb d_Ref_counts_11 (by decide) (fun c => ?_) (fun c => ?_)
    · have h := h.1 c
      exact hK44 mw _ _ _ h (lv_sub hl [0, 1, 2] rfl) hH
    · have h := h.2 c
      refine lv_aload_n hx hb d_Ref_counts_14 rfl (lv_at hl 0 rfl) ?_
      refine q_get (v := .ref (ad 42)) C0 hH 0 rfl hc_8 27 (by decide) k_649 rfl d_Ref_counts_15 ?_
      refine lv_iload_n hx hb d_Ref_counts_18 rfl (lv_at hl 3 rfl) ?_
      refine lv_iload_n hx hb d_Ref_counts_19 rfl (lv_at hl 3 rfl) ?_
      refine lv_aload_n hx hb d_Ref_counts_20 rfl (lv_at hl 0 rfl) ?_
      refine q_get (v := .int mt.goal) C0 hH 0 rfl hc_8 17 (by decide) k_639 rfl d_Ref_counts_21 ?_
      refine lv_iand hx hb d_Ref_counts_24 ?_
      refine lv_aload_n hx hb d_Ref_counts_25 rfl (lv_at hl 0 rfl) ?_
      refine q_get (v := .int mt.goal) C0 hH 0 rfl hc_8 17 (by decide) k_639 rfl d_Ref_counts_26 ?_
      refine lv_icmp_ne (tgt := 36) hx hb d_Ref_counts_29 (by decide) (fun c => ?_) (fun c => ?_)
      · have h := h.1 c
        refine lv_iconst (v := 0) hx hb d_Ref_counts_36 (by decide) ?_
        obtain ⟨hi, h⟩ := h
        refine q_ast (ws' := [c_RE ad cA ma mn ms mb mt (upd mw x3.toNatClampNeg 0) mg md].flatten) (f := mw) C0 hH 14 rfl hi rfl d_Ref_counts_37 (fun H locs hH => ?_)
        refine lv_iinc (v := (x3 + 1)) (lv' := [(3, .int (x3 + 1)), (0, .ref (ad 28)), (1, .int x1), (2, .int x2)]) hx hb d_Ref_counts_38 hl (k := 3) rfl rfl (by decide) rfl (fun ls hl => ?_)
        refine lv_goto (tgt := 9) hx hb d_Ref_counts_41 (by decide) ?_
        exact ih (x3 + 1) (upd mw x3.toNatClampNeg 0) _ _ _ h (lv_sub hl [1, 2, 3, 0] rfl) hH
      · have h := h.2 c
        refine lv_iconst (v := 1) hx hb d_Ref_counts_32 (by decide) ?_
        refine lv_goto (tgt := 37) hx hb d_Ref_counts_33 (by decide) ?_
        obtain ⟨hi, h⟩ := h
        refine q_ast (ws' := [c_RE ad cA ma mn ms mb mt (upd mw x3.toNatClampNeg 1) mg md].flatten) (f := mw) C0 hH 14 rfl hi rfl d_Ref_counts_37 (fun H locs hH => ?_)
        refine lv_iinc (v := (x3 + 1)) (lv' := [(3, .int (x3 + 1)), (0, .ref (ad 28)), (1, .int x1), (2, .int x2)]) hx hb d_Ref_counts_38 hl (k := 3) rfl rfl (by decide) rfl (fun ls hl => ?_)
        refine lv_goto (tgt := 9) hx hb d_Ref_counts_41 (by decide) ?_
        exact ih (x3 + 1) (upd mw x3.toNatClampNeg 1) _ _ _ h (lv_sub hl [1, 2, 3, 0] rfl) hH
set_option maxHeartbeats 4000000 in
set_option maxRecDepth 100000 in
theorem c_Ref_counts (l : Launch) (dC : Nat → ClassId) (dI : Nat → Nat → Nat) (cA : ClassId) (ad : Nat → Nat) (x1 : Int32) (ma : mForm) (mn : mKnow) (ms : mSat) (mb : mBack) (mt : mTask) (mw : (Nat → Int32)) (mg : mGo) (md : mCode) (Q : (Nat → Int32) → Prop) (sz : Nat) (h : w_Ref_counts x1 mt mw Q) :
    q_Mv l y_Ref_counts b_Ref_counts 8 1 22 [.ref (ad 28), .int x1] dC dI cA ([c_RE ad cA ma mn ms mb mt mw mg md].flatten) (fun u : (Nat → Int32) => [c_RE ad cA ma mn ms mb mt u mg md].flatten) sz (fun u => Q u) := by
  refine q_metv (plainFor_of_name (by decide +kernel)) (Nat.le_of_ble_eq_true rfl) (fun {p e s m below meth c ls} C0 hl hH => ?_)
  obtain ⟨hx, hb, -⟩ := id C0
  have hA : ∀ q, s.heap.size ≤ q → va_A ([c_RE ad cA ma mn ms mb mt mw mg md].flatten) s.heap.size q := q_nA
  have hl : lv_has ls 8 [(0, .ref (ad 28)), (1, .int x1)] := hl
  unfold w_Ref_counts at h
  refine lv_iconst (v := 1) hx hb d_Ref_counts_0 (by decide) ?_
  refine lv_aload_n hx hb d_Ref_counts_1 rfl (lv_at hl 0 rfl) ?_
  refine q_get (v := .int mt.facts) C0 hH 0 rfl hc_8 11 (by decide) k_633 rfl d_Ref_counts_2 ?_
  refine lv_ishl hx hb d_Ref_counts_5 ?_
  refine lv_istore_n (lv' := [(2, .int ((1 : Int32) <<< (mt.facts &&& 31))), (0, .ref (ad 28)), (1, .int x1)]) hx hb d_Ref_counts_6 rfl hl (by decide) rfl (fun ls hl => ?_)
  refine lv_iconst (v := 0) hx hb d_Ref_counts_7 (by decide) ?_
  refine lv_istore_n (lv' := [(3, .int 0), (2, .int ((1 : Int32) <<< (mt.facts &&& 31))), (0, .ref (ad 28)), (1, .int x1)]) hx hb d_Ref_counts_8 rfl hl (by decide) rfl (fun ls hl => ?_)
  obtain ⟨nn, h⟩ := h
  refine x_Ref_counts_L9 C0 hA x1 ((1 : Int32) <<< (mt.facts &&& 31)) ma mn ms mb mt mg md ?_ nn 0 mw _ _ _ h (lv_sub hl [2, 3, 1, 0] rfl) hH
  · intro mw_1 H locs ls h hl hH
    try dsimp only at h
    refine lv_iconst (v := 1) hx hb d_Ref_counts_44 (by decide) ?_
    refine lv_istore_n (lv' := [(3, .int 1), (0, .ref (ad 28)), (1, .int x1), (2, .int ((1 : Int32) <<< (mt.facts &&& 31)))]) hx hb d_Ref_counts_45 rfl hl (by decide) rfl (fun ls hl => ?_)
    obtain ⟨nn, h⟩ := h
    refine x_Ref_counts_L46 C0 hA x1 ((1 : Int32) <<< (mt.facts &&& 31)) ma mn ms mb mt mg md ?_ nn 1 mw_1 _ _ _ h (lv_sub hl [1, 2, 3, 0] rfl) hH
    · intro mw_2 H locs ls h hl hH
      try dsimp only at h
      exact q_retv C0 hH mw_2 rfl h d_Ref_counts_157
theorem d_Ref_plansOf_0 : decode b_Ref_plansOf 0 = .ok (.aload_n 0, 1) := by decide +kernel
theorem d_Ref_plansOf_1 : decode b_Ref_plansOf 1 = .ok (.iload_n 1, 1) := by decide +kernel
theorem d_Ref_plansOf_2 : decode b_Ref_plansOf 2 = .ok (.invokevirtual 136, 3) := by decide +kernel
theorem d_Ref_plansOf_5 : decode b_Ref_plansOf 5 = .ok (.aload_n 0, 1) := by decide +kernel
theorem d_Ref_plansOf_6 : decode b_Ref_plansOf 6 = .ok (.getfield 49, 3) := by decide +kernel
theorem d_Ref_plansOf_9 : decode b_Ref_plansOf 9 = .ok (.bipush 64, 2) := by decide +kernel
theorem d_Ref_plansOf_11 : decode b_Ref_plansOf 11 = .ok (.iload_n 1, 1) := by decide +kernel
theorem d_Ref_plansOf_12 : decode b_Ref_plansOf 12 = .ok (.imul, 1) := by decide +kernel
theorem d_Ref_plansOf_13 : decode b_Ref_plansOf 13 = .ok (.aload_n 0, 1) := by decide +kernel
theorem d_Ref_plansOf_14 : decode b_Ref_plansOf 14 = .ok (.getfield 124, 3) := by decide +kernel
theorem d_Ref_plansOf_17 : decode b_Ref_plansOf 17 = .ok (.iadd, 1) := by decide +kernel
theorem d_Ref_plansOf_18 : decode b_Ref_plansOf 18 = .ok (.iaload, 1) := by decide +kernel
theorem d_Ref_plansOf_19 : decode b_Ref_plansOf 19 = .ok (.ireturn, 1) := by decide +kernel
set_option maxHeartbeats 4000000 in
set_option maxRecDepth 100000 in
theorem c_Ref_plansOf (l : Launch) (dC : Nat → ClassId) (dI : Nat → Nat → Nat) (cA : ClassId) (ad : Nat → Nat) (x1 : Int32) (ma : mForm) (mn : mKnow) (ms : mSat) (mb : mBack) (mt : mTask) (mw : (Nat → Int32)) (mg : mGo) (md : mCode) (Q : Int32 → (Nat → Int32) → Prop) (sz : Nat) (h : w_Ref_plansOf x1 mt mw Q) :
    q_Mi l y_Ref_plansOf b_Ref_plansOf 2 (some .int) 2 49 [.ref (ad 28), .int x1] dC dI cA ([c_RE ad cA ma mn ms mb mt mw mg md].flatten) (fun u : (Nat → Int32) => [c_RE ad cA ma mn ms mb mt u mg md].flatten) sz (fun r u => Q r u) := by
  refine q_meti (plainFor_of_name (by decide +kernel)) (Nat.le_of_ble_eq_true rfl) (fun {p e s m below meth c ls} C0 hl hH => ?_)
  obtain ⟨hx, hb, -⟩ := id C0
  have hA : ∀ q, s.heap.size ≤ q → va_A ([c_RE ad cA ma mn ms mb mt mw mg md].flatten) s.heap.size q := q_nA
  have hl : lv_has ls 2 [(0, .ref (ad 28)), (1, .int x1)] := hl
  unfold w_Ref_plansOf at h
  refine lv_aload_n hx hb d_Ref_plansOf_0 rfl (lv_at hl 0 rfl) ?_
  refine lv_iload_n hx hb d_Ref_plansOf_1 rfl (lv_at hl 1 rfl) ?_
  refine q_callv (rest := []) (ws' := fun u : (Nat → Int32) => [c_RE ad cA ma mn ms mb mt u mg md].flatten) C0 hH hA (c_Ref_counts l dC dI cA ad x1 ma mn ms mb mt mw mg md _ _ h) Y_Ref_counts k_835 0 rfl hc_8 (q_pg [0] [] [0] 1 1 rfl (by decide) rfl (fun _ => rfl) rfl (by decide) (fun _ => rfl)) ⟨Nat.le_of_ble_eq_true rfl, Nat.le_of_ble_eq_true rfl⟩ rfl rfl (Nat.le_of_ble_eq_true rfl) hl.1 d_Ref_plansOf_2 ⟨Nat.le_refl 0, Nat.le_refl 0⟩ (fun u_1 H locs h hH => ?_)
  obtain ⟨mw_1, rfl⟩ : ∃ z, z = u_1 := ⟨_, rfl⟩
  try dsimp only at h
  have hH : q_H dC dI (va_A ([c_RE ad cA ma mn ms mb mt mw mg md].flatten) s.heap.size) s.heap H locs ([c_RE ad cA ma mn ms mb mt mw_1 mg md].flatten) := hH
  refine lv_aload_n hx hb d_Ref_plansOf_5 rfl (lv_at hl 0 rfl) ?_
  refine q_get (v := .ref (ad 42)) C0 hH 0 rfl hc_8 27 (by decide) k_649 rfl d_Ref_plansOf_6 ?_
  refine lv_bipush (v := 64) hx hb d_Ref_plansOf_9 (by decide) ?_
  refine lv_iload_n hx hb d_Ref_plansOf_11 rfl (lv_at hl 1 rfl) ?_
  refine lv_imul hx hb d_Ref_plansOf_12 ?_
  refine lv_aload_n hx hb d_Ref_plansOf_13 rfl (lv_at hl 0 rfl) ?_
  refine q_get (v := .int mt.beginning) C0 hH 0 rfl hc_8 16 (by decide) k_638 rfl d_Ref_plansOf_14 ?_
  refine lv_iadd hx hb d_Ref_plansOf_17 ?_
  obtain ⟨hi, h⟩ := h
  refine q_ald (f := mw_1) C0 hH 14 rfl hi d_Ref_plansOf_18 ?_
  exact q_reti C0 hH mw_1 rfl h d_Ref_plansOf_19
theorem d_Ref_plan_0 : decode b_Ref_plan 0 = .ok (.iload_n 1, 1) := by decide +kernel
theorem d_Ref_plan_1 : decode b_Ref_plan 1 = .ok (.invokestatic 140, 3) := by decide +kernel
theorem d_Ref_plan_4 : decode b_Ref_plan 4 = .ok (.ifCond .eq 19, 3) := by decide +kernel
theorem d_Ref_plan_7 : decode b_Ref_plan 7 = .ok (.aload_n 0, 1) := by decide +kernel
theorem d_Ref_plan_8 : decode b_Ref_plan 8 = .ok (.iload_n 1, 1) := by decide +kernel
theorem d_Ref_plan_9 : decode b_Ref_plan 9 = .ok (.invokevirtual 143, 3) := by decide +kernel
theorem d_Ref_plan_12 : decode b_Ref_plan 12 = .ok (.ifCond .le 7, 3) := by decide +kernel
theorem d_Ref_plan_15 : decode b_Ref_plan 15 = .ok (.iconst 1, 1) := by decide +kernel
theorem d_Ref_plan_16 : decode b_Ref_plan 16 = .ok (.goto 8, 3) := by decide +kernel
theorem d_Ref_plan_19 : decode b_Ref_plan 19 = .ok (.iconst 0, 1) := by decide +kernel
theorem d_Ref_plan_20 : decode b_Ref_plan 20 = .ok (.goto 4, 3) := by decide +kernel
theorem d_Ref_plan_23 : decode b_Ref_plan 23 = .ok (.iconst (-1), 1) := by decide +kernel
theorem d_Ref_plan_24 : decode b_Ref_plan 24 = .ok (.ireturn, 1) := by decide +kernel
set_option maxHeartbeats 4000000 in
set_option maxRecDepth 100000 in
theorem c_Ref_plan (l : Launch) (dC : Nat → ClassId) (dI : Nat → Nat → Nat) (cA : ClassId) (ad : Nat → Nat) (x1 : Int32) (ma : mForm) (mn : mKnow) (ms : mSat) (mb : mBack) (mt : mTask) (mw : (Nat → Int32)) (mg : mGo) (md : mCode) (Q : Int32 → (Nat → Int32) → Prop) (sz : Nat) (h : w_Ref_plan x1 mt mw Q) :
    q_Mi l y_Ref_plan b_Ref_plan 2 (some .int) 3 70 [.ref (ad 28), .int x1] dC dI cA ([c_RE ad cA ma mn ms mb mt mw mg md].flatten) (fun u : (Nat → Int32) => [c_RE ad cA ma mn ms mb mt u mg md].flatten) sz (fun r u => Q r u) := by
  refine q_meti (plainFor_of_name (by decide +kernel)) (Nat.le_of_ble_eq_true rfl) (fun {p e s m below meth c ls} C0 hl hH => ?_)
  obtain ⟨hx, hb, -⟩ := id C0
  have hA : ∀ q, s.heap.size ≤ q → va_A ([c_RE ad cA ma mn ms mb mt mw mg md].flatten) s.heap.size q := q_nA
  have hl : lv_has ls 2 [(0, .ref (ad 28)), (1, .int x1)] := hl
  unfold w_Ref_plan at h
  refine lv_iload_n hx hb d_Ref_plan_0 rfl (lv_at hl 1 rfl) ?_
  refine q_calls (rest := []) C0 hH hA (c_Ref_isLength l dC dI cA ad x1 _ _ h) Y_Ref_isLength k_828 ⟨Nat.le_of_ble_eq_true rfl, Nat.le_of_ble_eq_true rfl⟩ rfl rfl (Nat.le_of_ble_eq_true rfl) hl.1 d_Ref_plan_1 ⟨Nat.le_refl 0, Nat.le_refl 0⟩ (fun r_1 H locs h hH => ?_)
  try dsimp only at h
  refine lv_if_eq (tgt := 23) hx hb d_Ref_plan_4 (by decide) (fun c => ?_) (fun c => ?_)
  · have h := h.1 c
    refine lv_iconst (v := (-1)) hx hb d_Ref_plan_23 (by decide) ?_
    exact q_reti C0 hH mw rfl h d_Ref_plan_24
  · have h := h.2 c
    refine lv_aload_n hx hb d_Ref_plan_7 rfl (lv_at hl 0 rfl) ?_
    refine lv_iload_n hx hb d_Ref_plan_8 rfl (lv_at hl 1 rfl) ?_
    refine q_calli (rest := []) (ws' := fun u : (Nat → Int32) => [c_RE ad cA ma mn ms mb mt u mg md].flatten) C0 hH hA (c_Ref_plansOf l dC dI cA ad x1 ma mn ms mb mt mw mg md _ _ h) Y_Ref_plansOf k_831 0 rfl hc_8 (q_pg [0] [] [0] 1 1 rfl (by decide) rfl (fun _ => rfl) rfl (by decide) (fun _ => rfl)) ⟨Nat.le_of_ble_eq_true rfl, Nat.le_of_ble_eq_true rfl⟩ rfl rfl (Nat.le_of_ble_eq_true rfl) hl.1 d_Ref_plan_9 ⟨Nat.le_refl 0, Nat.le_refl 0⟩ (fun r_2 u_2 H locs h hH => ?_)
    obtain ⟨mw_2, rfl⟩ : ∃ z, z = u_2 := ⟨_, rfl⟩
    try dsimp only at h
    have hH : q_H dC dI (va_A ([c_RE ad cA ma mn ms mb mt mw mg md].flatten) s.heap.size) s.heap H locs ([c_RE ad cA ma mn ms mb mt mw_2 mg md].flatten) := hH
    refine lv_if_le (tgt := 19) hx hb d_Ref_plan_12 (by decide) (fun c => ?_) (fun c => ?_)
    · have h := h.1 c
      refine lv_iconst (v := 0) hx hb d_Ref_plan_19 (by decide) ?_
      refine lv_goto (tgt := 24) hx hb d_Ref_plan_20 (by decide) ?_
      exact q_reti C0 hH mw_2 rfl h d_Ref_plan_24
    · have h := h.2 c
      refine lv_iconst (v := 1) hx hb d_Ref_plan_15 (by decide) ?_
      refine lv_goto (tgt := 24) hx hb d_Ref_plan_16 (by decide) ?_
      exact q_reti C0 hH mw_2 rfl h d_Ref_plan_24
theorem d_Ref_goes_0 : decode b_Ref_goes 0 = .ok (.aload_n 0, 1) := by decide +kernel
theorem d_Ref_goes_1 : decode b_Ref_goes 1 = .ok (.getfield 124, 3) := by decide +kernel
theorem d_Ref_goes_4 : decode b_Ref_goes 4 = .ok (.istore_n 3, 1) := by decide +kernel
theorem d_Ref_goes_5 : decode b_Ref_goes 5 = .ok (.aload_n 0, 1) := by decide +kernel
theorem d_Ref_goes_6 : decode b_Ref_goes 6 = .ok (.bipush (-9), 2) := by decide +kernel
theorem d_Ref_goes_8 : decode b_Ref_goes 8 = .ok (.putfield 146, 3) := by decide +kernel
theorem d_Ref_goes_11 : decode b_Ref_goes 11 = .ok (.aload_n 0, 1) := by decide +kernel
theorem d_Ref_goes_12 : decode b_Ref_goes 12 = .ok (.iload_n 3, 1) := by decide +kernel
theorem d_Ref_goes_13 : decode b_Ref_goes 13 = .ok (.putfield 149, 3) := by decide +kernel
theorem d_Ref_goes_16 : decode b_Ref_goes 16 = .ok (.iconst 0, 1) := by decide +kernel
theorem d_Ref_goes_17 : decode b_Ref_goes 17 = .ok (.istore 4, 2) := by decide +kernel
theorem d_Ref_goes_19 : decode b_Ref_goes 19 = .ok (.iload 4, 2) := by decide +kernel
theorem d_Ref_goes_21 : decode b_Ref_goes 21 = .ok (.iload_n 2, 1) := by decide +kernel
theorem d_Ref_goes_22 : decode b_Ref_goes 22 = .ok (.if_icmp .ge 72, 3) := by decide +kernel
theorem d_Ref_goes_25 : decode b_Ref_goes 25 = .ok (.iconst 0, 1) := by decide +kernel
theorem d_Ref_goes_26 : decode b_Ref_goes 26 = .ok (.istore 5, 2) := by decide +kernel
theorem d_Ref_goes_28 : decode b_Ref_goes 28 = .ok (.aload_n 0, 1) := by decide +kernel
theorem d_Ref_goes_29 : decode b_Ref_goes 29 = .ok (.iload_n 3, 1) := by decide +kernel
theorem d_Ref_goes_30 : decode b_Ref_goes 30 = .ok (.iload 5, 2) := by decide +kernel
theorem d_Ref_goes_32 : decode b_Ref_goes 32 = .ok (.invokevirtual 133, 3) := by decide +kernel
theorem d_Ref_goes_35 : decode b_Ref_goes 35 = .ok (.ifCond .lt 28, 3) := by decide +kernel
theorem d_Ref_goes_38 : decode b_Ref_goes 38 = .ok (.aload_n 0, 1) := by decide +kernel
theorem d_Ref_goes_39 : decode b_Ref_goes 39 = .ok (.getfield 49, 3) := by decide +kernel
theorem d_Ref_goes_42 : decode b_Ref_goes 42 = .ok (.bipush 64, 2) := by decide +kernel
theorem d_Ref_goes_44 : decode b_Ref_goes 44 = .ok (.iload_n 1, 1) := by decide +kernel
theorem d_Ref_goes_45 : decode b_Ref_goes 45 = .ok (.iconst 1, 1) := by decide +kernel
theorem d_Ref_goes_46 : decode b_Ref_goes 46 = .ok (.isub, 1) := by decide +kernel
theorem d_Ref_goes_47 : decode b_Ref_goes 47 = .ok (.iload 4, 2) := by decide +kernel
theorem d_Ref_goes_49 : decode b_Ref_goes 49 = .ok (.isub, 1) := by decide +kernel
theorem d_Ref_goes_50 : decode b_Ref_goes 50 = .ok (.imul, 1) := by decide +kernel
theorem d_Ref_goes_51 : decode b_Ref_goes 51 = .ok (.aload_n 0, 1) := by decide +kernel
theorem d_Ref_goes_52 : decode b_Ref_goes 52 = .ok (.iload_n 3, 1) := by decide +kernel
theorem d_Ref_goes_53 : decode b_Ref_goes 53 = .ok (.iload 5, 2) := by decide +kernel
theorem d_Ref_goes_55 : decode b_Ref_goes 55 = .ok (.invokevirtual 133, 3) := by decide +kernel
theorem d_Ref_goes_58 : decode b_Ref_goes 58 = .ok (.iadd, 1) := by decide +kernel
theorem d_Ref_goes_59 : decode b_Ref_goes 59 = .ok (.iaload, 1) := by decide +kernel
theorem d_Ref_goes_60 : decode b_Ref_goes 60 = .ok (.ifCond .ne 9, 3) := by decide +kernel
theorem d_Ref_goes_63 : decode b_Ref_goes 63 = .ok (.iinc 5 1, 3) := by decide +kernel
theorem d_Ref_goes_66 : decode b_Ref_goes 66 = .ok (.goto (-38), 3) := by decide +kernel
theorem d_Ref_goes_69 : decode b_Ref_goes 69 = .ok (.aload_n 0, 1) := by decide +kernel
theorem d_Ref_goes_70 : decode b_Ref_goes 70 = .ok (.iload 5, 2) := by decide +kernel
theorem d_Ref_goes_72 : decode b_Ref_goes 72 = .ok (.putfield 146, 3) := by decide +kernel
theorem d_Ref_goes_75 : decode b_Ref_goes 75 = .ok (.aload_n 0, 1) := by decide +kernel
theorem d_Ref_goes_76 : decode b_Ref_goes 76 = .ok (.iload_n 3, 1) := by decide +kernel
theorem d_Ref_goes_77 : decode b_Ref_goes 77 = .ok (.iload 5, 2) := by decide +kernel
theorem d_Ref_goes_79 : decode b_Ref_goes 79 = .ok (.invokevirtual 133, 3) := by decide +kernel
theorem d_Ref_goes_82 : decode b_Ref_goes 82 = .ok (.istore_n 3, 1) := by decide +kernel
theorem d_Ref_goes_83 : decode b_Ref_goes 83 = .ok (.aload_n 0, 1) := by decide +kernel
theorem d_Ref_goes_84 : decode b_Ref_goes 84 = .ok (.iload_n 3, 1) := by decide +kernel
theorem d_Ref_goes_85 : decode b_Ref_goes 85 = .ok (.putfield 149, 3) := by decide +kernel
theorem d_Ref_goes_88 : decode b_Ref_goes 88 = .ok (.iinc 4 1, 3) := by decide +kernel
theorem d_Ref_goes_91 : decode b_Ref_goes 91 = .ok (.goto (-72), 3) := by decide +kernel
theorem d_Ref_goes_94 : decode b_Ref_goes 94 = .ok (.return_, 1) := by decide +kernel
set_option maxHeartbeats 4000000 in
set_option maxRecDepth 100000 in
theorem x_Ref_goes_L28 {p : Program} {e : Env} {s : State} {m : MethodId} {args : Array Value} {below : List Frame} {meth : Method} {c : Code} {l : Launch} {dC : Nat → ClassId} {dI : Nat → Nat → Nat} {cA : ClassId} {ad : Nat → Nat} {w0 : va_W} (C0 : q_C p s m args meth c b_Ref_goes 6 none "PlanClausesModel" dC dI cA) (hA : ∀ q, s.heap.size ≤ q → va_A w0 s.heap.size q) (x1 : Int32) (x2 : Int32) (x3 : Int32) (x4 : Int32) (ma : mForm) (mn : mKnow) (ms : mSat) (mb : mBack) (mt : mTask) (mw : (Nat → Int32)) (mg : mGo) (md : mCode) {Q : mGo → Prop} {K69 : Int32 → Prop}
    (hK69 : ∀ (x5 : Int32) (H : Heap) (locs : List Loc) (ls : Array Slot), K69 x5 → lv_has ls 6 [(0, .ref (ad 28)), (1, .int x1), (2, .int x2), (3, .int x3), (4, .int x4), (5, .int x5)] → q_H dC dI (va_A w0 s.heap.size) s.heap H locs ([c_RE ad cA ma mn ms mb mt mw mg md].flatten) → W p l e (q_R 1 22) s m args below meth c H locs 0 0 (q_Zv below args s dC dI cA w0 (fun u : mGo => [c_RE ad cA ma mn ms mb mt mw u md].flatten) (fun u => Q u)) (F0 m 69 ls [])) :
    ∀ (nn : Nat) (x5 : Int32) (H : Heap) (locs : List Loc) (ls : Array Slot), w_Ref_goes_L28 x1 x2 x3 x4 mt mw K69 nn x5 → lv_has ls 6 [(0, .ref (ad 28)), (1, .int x1), (2, .int x2), (3, .int x3), (4, .int x4), (5, .int x5)] → q_H dC dI (va_A w0 s.heap.size) s.heap H locs ([c_RE ad cA ma mn ms mb mt mw mg md].flatten) → W p l e (q_R 1 22) s m args below meth c H locs 0 0 (q_Zv below args s dC dI cA w0 (fun u : mGo => [c_RE ad cA ma mn ms mb mt mw u md].flatten) (fun u => Q u)) (F0 m 28 ls []) := by
  obtain ⟨hx, hb, -⟩ := id C0
  intro nn
  induction nn with
  | zero =>
    intro x5 H locs ls h
    exact (show False from h).elim
  | succ nn ih =>
    intro x5 H locs ls h hl hH
    rw [w_Ref_goes_L28] at h
    refine lv_aload_n hx hb d_Ref_goes_28 rfl (lv_at hl 0 rfl) ?_
    refine lv_iload_n hx hb d_Ref_goes_29 rfl (lv_at hl 3 rfl) ?_
    refine lv_iload hx hb d_Ref_goes_30 (lv_at hl 5 rfl) ?_
    refine q_calli (rest := []) (ws' := fun _ : Unit => [c_RE ad cA ma mn ms mb mt mw mg md].flatten) C0 hH hA (c_Ref_after l dC dI cA ad x3 x5 ma mn ms mb mt mw mg md _ _ h) Y_Ref_after k_839 0 rfl hc_8 (q_pg [0] [] [0] 1 1 rfl (by decide) rfl (fun _ => rfl) rfl (by decide) (fun _ => rfl)) ⟨Nat.le_of_ble_eq_true rfl, Nat.le_of_ble_eq_true rfl⟩ rfl rfl (Nat.le_of_ble_eq_true rfl) hl.1 d_Ref_goes_32 ⟨Nat.le_refl 0, Nat.le_refl 0⟩ (fun r_1 u_1 H locs h hH => ?_)
    try dsimp only at h
    have hH : q_H dC dI (va_A w0 s.heap.size) s.heap H locs ([c_RE ad cA ma mn ms mb mt mw mg md].flatten) := hH
    refine lv_if_lt (tgt := 63) hx hb d_Ref_goes_35 (by decide) (fun c => ?_) (fun c => ?_)
    · have h := h.1 c
      refine lv_iinc (v := (x5 + 1)) (lv' := [(5, .int (x5 + 1)), (0, .ref (ad 28)), (1, .int x1), (2, .int x2), (3, .int x3), (4, .int x4)]) hx hb d_Ref_goes_63 hl (k := 5) rfl rfl (by decide) rfl (fun ls hl => ?_)
      refine lv_goto (tgt := 28) hx hb d_Ref_goes_66 (by decide) ?_
      exact ih (x5 + 1) _ _ _ h (lv_sub hl [1, 2, 3, 4, 5, 0] rfl) hH
    · have h := h.2 c
      refine lv_aload_n hx hb d_Ref_goes_38 rfl (lv_at hl 0 rfl) ?_
      refine q_get (v := .ref (ad 42)) C0 hH 0 rfl hc_8 27 (by decide) k_649 rfl d_Ref_goes_39 ?_
      refine lv_bipush (v := 64) hx hb d_Ref_goes_42 (by decide) ?_
      refine lv_iload_n hx hb d_Ref_goes_44 rfl (lv_at hl 1 rfl) ?_
      refine lv_iconst (v := 1) hx hb d_Ref_goes_45 (by decide) ?_
      refine lv_isub hx hb d_Ref_goes_46 ?_
      refine lv_iload hx hb d_Ref_goes_47 (lv_at hl 4 rfl) ?_
      refine lv_isub hx hb d_Ref_goes_49 ?_
      refine lv_imul hx hb d_Ref_goes_50 ?_
      refine lv_aload_n hx hb d_Ref_goes_51 rfl (lv_at hl 0 rfl) ?_
      refine lv_iload_n hx hb d_Ref_goes_52 rfl (lv_at hl 3 rfl) ?_
      refine lv_iload hx hb d_Ref_goes_53 (lv_at hl 5 rfl) ?_
      refine q_calli (rest := [.int (64 * ((x1 - 1) - x4)), .ref (ad 42)]) (ws' := fun _ : Unit => [c_RE ad cA ma mn ms mb mt mw mg md].flatten) C0 hH hA (c_Ref_after l dC dI cA ad x3 x5 ma mn ms mb mt mw mg md _ _ h) Y_Ref_after k_839 0 rfl hc_8 (q_pg [0] [] [0] 1 1 rfl (by decide) rfl (fun _ => rfl) rfl (by decide) (fun _ => rfl)) ⟨Nat.le_of_ble_eq_true rfl, Nat.le_of_ble_eq_true rfl⟩ rfl rfl (Nat.le_of_ble_eq_true rfl) hl.1 d_Ref_goes_55 ⟨Nat.le_refl 0, Nat.le_refl 0⟩ (fun r_2 u_2 H locs h hH => ?_)
      try dsimp only at h
      have hH : q_H dC dI (va_A w0 s.heap.size) s.heap H locs ([c_RE ad cA ma mn ms mb mt mw mg md].flatten) := hH
      refine lv_iadd hx hb d_Ref_goes_58 ?_
      obtain ⟨hi, h⟩ := h
      refine q_ald (f := mw) C0 hH 14 rfl hi d_Ref_goes_59 ?_
      refine lv_if_ne (tgt := 69) hx hb d_Ref_goes_60 (by decide) (fun c => ?_) (fun c => ?_)
      · have h := h.1 c
        exact hK69 x5 _ _ _ h (lv_sub hl [0, 1, 2, 3, 4, 5] rfl) hH
      · have h := h.2 c
        refine lv_iinc (v := (x5 + 1)) (lv' := [(5, .int (x5 + 1)), (0, .ref (ad 28)), (1, .int x1), (2, .int x2), (3, .int x3), (4, .int x4)]) hx hb d_Ref_goes_63 hl (k := 5) rfl rfl (by decide) rfl (fun ls hl => ?_)
        refine lv_goto (tgt := 28) hx hb d_Ref_goes_66 (by decide) ?_
        exact ih (x5 + 1) _ _ _ h (lv_sub hl [1, 2, 3, 4, 5, 0] rfl) hH
set_option maxHeartbeats 4000000 in
set_option maxRecDepth 100000 in
theorem x_Ref_goes_L19 {p : Program} {e : Env} {s : State} {m : MethodId} {args : Array Value} {below : List Frame} {meth : Method} {c : Code} {l : Launch} {dC : Nat → ClassId} {dI : Nat → Nat → Nat} {cA : ClassId} {ad : Nat → Nat} {w0 : va_W} (C0 : q_C p s m args meth c b_Ref_goes 6 none "PlanClausesModel" dC dI cA) (hA : ∀ q, s.heap.size ≤ q → va_A w0 s.heap.size q) (x1 : Int32) (x2 : Int32) (ma : mForm) (mn : mKnow) (ms : mSat) (mb : mBack) (mt : mTask) (mw : (Nat → Int32)) (md : mCode) {Q : mGo → Prop} {K94 : mGo → Prop}
    (hK94 : ∀ (mg : mGo) (H : Heap) (locs : List Loc) (ls : Array Slot), K94 mg → lv_has ls 6 [] → q_H dC dI (va_A w0 s.heap.size) s.heap H locs ([c_RE ad cA ma mn ms mb mt mw mg md].flatten) → W p l e (q_R 1 22) s m args below meth c H locs 0 0 (q_Zv below args s dC dI cA w0 (fun u : mGo => [c_RE ad cA ma mn ms mb mt mw u md].flatten) (fun u => Q u)) (F0 m 94 ls [])) :
    ∀ (nn : Nat) (x3 : Int32) (x4 : Int32) (mg : mGo) (H : Heap) (locs : List Loc) (ls : Array Slot), w_Ref_goes_L19 x1 x2 mt mw K94 nn x3 x4 mg → lv_has ls 6 [(0, .ref (ad 28)), (1, .int x1), (2, .int x2), (3, .int x3), (4, .int x4)] → q_H dC dI (va_A w0 s.heap.size) s.heap H locs ([c_RE ad cA ma mn ms mb mt mw mg md].flatten) → W p l e (q_R 1 22) s m args below meth c H locs 0 0 (q_Zv below args s dC dI cA w0 (fun u : mGo => [c_RE ad cA ma mn ms mb mt mw u md].flatten) (fun u => Q u)) (F0 m 19 ls []) := by
  obtain ⟨hx, hb, -⟩ := id C0
  intro nn
  induction nn with
  | zero =>
    intro x3 x4 mg H locs ls h
    exact (show False from h).elim
  | succ nn ih =>
    intro x3 x4 mg H locs ls h hl hH
    rw [w_Ref_goes_L19] at h
    refine lv_iload hx hb d_Ref_goes_19 (lv_at hl 4 rfl) ?_
    refine lv_iload_n hx hb d_Ref_goes_21 rfl (lv_at hl 2 rfl) ?_
    refine lv_icmp_ge (tgt := 94) hx hb d_Ref_goes_22 (by decide) (fun c => ?_) (fun c => ?_)
    · have h := h.1 c
      exact hK94 mg _ _ _ h (lv_sub hl [] rfl) hH
    · have h := h.2 c
      refine lv_iconst (v := 0) hx hb d_Ref_goes_25 (by decide) ?_
      refine lv_istore (lv' := [(5, .int 0), (0, .ref (ad 28)), (1, .int x1), (2, .int x2), (3, .int x3), (4, .int x4)]) hx hb d_Ref_goes_26 hl (by decide) rfl (fun ls hl => ?_)
      obtain ⟨nn, h⟩ := h
      refine x_Ref_goes_L28 C0 hA x1 x2 x3 x4 ma mn ms mb mt mw mg md ?_ nn 0 _ _ _ h (lv_sub hl [1, 2, 3, 4, 5, 0] rfl) hH
      · intro x5_1 H locs ls h hl hH
        try dsimp only at h
        refine lv_aload_n hx hb d_Ref_goes_69 rfl (lv_at hl 0 rfl) ?_
        refine lv_iload hx hb d_Ref_goes_70 (lv_at hl 5 rfl) ?_
        refine q_puti (ws' := [c_RE ad cA ma mn ms mb mt mw (mGo.mk x5_1 mg.stood) md].flatten) C0 hH 0 rfl hc_8 28 (by decide) k_650 rfl rfl (Nat.le_of_ble_eq_true rfl) rfl d_Ref_goes_72 (fun H locs hH => ?_)
        refine lv_aload_n hx hb d_Ref_goes_75 rfl (lv_at hl 0 rfl) ?_
        refine lv_iload_n hx hb d_Ref_goes_76 rfl (lv_at hl 3 rfl) ?_
        refine lv_iload hx hb d_Ref_goes_77 (lv_at hl 5 rfl) ?_
        refine q_calli (rest := []) (ws' := fun _ : Unit => [c_RE ad cA ma mn ms mb mt mw (mGo.mk x5_1 mg.stood) md].flatten) C0 hH hA (c_Ref_after l dC dI cA ad x3 x5_1 ma mn ms mb mt mw (mGo.mk x5_1 mg.stood) md _ _ h) Y_Ref_after k_839 0 rfl hc_8 (q_pg [0] [] [0] 1 1 rfl (by decide) rfl (fun _ => rfl) rfl (by decide) (fun _ => rfl)) ⟨Nat.le_of_ble_eq_true rfl, Nat.le_of_ble_eq_true rfl⟩ rfl rfl (Nat.le_of_ble_eq_true rfl) hl.1 d_Ref_goes_79 ⟨Nat.le_refl 0, Nat.le_refl 0⟩ (fun r_2 u_2 H locs h hH => ?_)
        try dsimp only at h
        have hH : q_H dC dI (va_A w0 s.heap.size) s.heap H locs ([c_RE ad cA ma mn ms mb mt mw (mGo.mk x5_1 mg.stood) md].flatten) := hH
        refine lv_istore_n (lv' := [(3, .int r_2), (0, .ref (ad 28)), (1, .int x1), (2, .int x2), (4, .int x4), (5, .int x5_1)]) hx hb d_Ref_goes_82 rfl hl (by decide) rfl (fun ls hl => ?_)
        refine lv_aload_n hx hb d_Ref_goes_83 rfl (lv_at hl 1 rfl) ?_
        refine lv_iload_n hx hb d_Ref_goes_84 rfl (lv_at hl 0 rfl) ?_
        refine q_puti (ws' := [c_RE ad cA ma mn ms mb mt mw (mGo.mk x5_1 r_2) md].flatten) C0 hH 0 rfl hc_8 29 (by decide) k_651 rfl rfl (Nat.le_of_ble_eq_true rfl) rfl d_Ref_goes_85 (fun H locs hH => ?_)
        refine lv_iinc (v := (x4 + 1)) (lv' := [(4, .int (x4 + 1)), (3, .int r_2), (0, .ref (ad 28)), (1, .int x1), (2, .int x2), (5, .int x5_1)]) hx hb d_Ref_goes_88 hl (k := 4) rfl rfl (by decide) rfl (fun ls hl => ?_)
        refine lv_goto (tgt := 19) hx hb d_Ref_goes_91 (by decide) ?_
        exact ih r_2 (x4 + 1) (mGo.mk x5_1 r_2) _ _ _ h (lv_sub hl [2, 3, 4, 1, 0] rfl) hH
set_option maxHeartbeats 4000000 in
set_option maxRecDepth 100000 in
theorem c_Ref_goes (l : Launch) (dC : Nat → ClassId) (dI : Nat → Nat → Nat) (cA : ClassId) (ad : Nat → Nat) (x1 : Int32) (x2 : Int32) (ma : mForm) (mn : mKnow) (ms : mSat) (mb : mBack) (mt : mTask) (mw : (Nat → Int32)) (mg : mGo) (md : mCode) (Q : mGo → Prop) (sz : Nat) (h : w_Ref_goes x1 x2 mt mw mg Q) :
    q_Mv l y_Ref_goes b_Ref_goes 6 1 22 [.ref (ad 28), .int x1, .int x2] dC dI cA ([c_RE ad cA ma mn ms mb mt mw mg md].flatten) (fun u : mGo => [c_RE ad cA ma mn ms mb mt mw u md].flatten) sz (fun u => Q u) := by
  refine q_metv (plainFor_of_name (by decide +kernel)) (Nat.le_of_ble_eq_true rfl) (fun {p e s m below meth c ls} C0 hl hH => ?_)
  obtain ⟨hx, hb, -⟩ := id C0
  have hA : ∀ q, s.heap.size ≤ q → va_A ([c_RE ad cA ma mn ms mb mt mw mg md].flatten) s.heap.size q := q_nA
  have hl : lv_has ls 6 [(0, .ref (ad 28)), (1, .int x1), (2, .int x2)] := hl
  unfold w_Ref_goes at h
  refine lv_aload_n hx hb d_Ref_goes_0 rfl (lv_at hl 0 rfl) ?_
  refine q_get (v := .int mt.beginning) C0 hH 0 rfl hc_8 16 (by decide) k_638 rfl d_Ref_goes_1 ?_
  refine lv_istore_n (lv' := [(3, .int mt.beginning), (0, .ref (ad 28)), (1, .int x1), (2, .int x2)]) hx hb d_Ref_goes_4 rfl hl (by decide) rfl (fun ls hl => ?_)
  refine lv_aload_n hx hb d_Ref_goes_5 rfl (lv_at hl 1 rfl) ?_
  refine lv_bipush (v := (-9)) hx hb d_Ref_goes_6 (by decide) ?_
  refine q_puti (ws' := [c_RE ad cA ma mn ms mb mt mw (mGo.mk (-9) mg.stood) md].flatten) C0 hH 0 rfl hc_8 28 (by decide) k_650 rfl rfl (Nat.le_of_ble_eq_true rfl) rfl d_Ref_goes_8 (fun H locs hH => ?_)
  refine lv_aload_n hx hb d_Ref_goes_11 rfl (lv_at hl 1 rfl) ?_
  refine lv_iload_n hx hb d_Ref_goes_12 rfl (lv_at hl 0 rfl) ?_
  refine q_puti (ws' := [c_RE ad cA ma mn ms mb mt mw (mGo.mk (-9) mt.beginning) md].flatten) C0 hH 0 rfl hc_8 29 (by decide) k_651 rfl rfl (Nat.le_of_ble_eq_true rfl) rfl d_Ref_goes_13 (fun H locs hH => ?_)
  refine lv_iconst (v := 0) hx hb d_Ref_goes_16 (by decide) ?_
  refine lv_istore (lv' := [(4, .int 0), (3, .int mt.beginning), (0, .ref (ad 28)), (1, .int x1), (2, .int x2)]) hx hb d_Ref_goes_17 hl (by decide) rfl (fun ls hl => ?_)
  obtain ⟨nn, h⟩ := h
  refine x_Ref_goes_L19 C0 hA x1 x2 ma mn ms mb mt mw md ?_ nn mt.beginning 0 (mGo.mk (-9) mt.beginning) _ _ _ h (lv_sub hl [2, 3, 4, 1, 0] rfl) hH
  · intro mg_1 H locs ls h hl hH
    try dsimp only at h
    exact q_retv C0 hH mg_1 rfl h d_Ref_goes_94
