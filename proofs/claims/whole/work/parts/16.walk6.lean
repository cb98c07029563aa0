theorem d_Code_tell_0 : decode b_Code_tell 0 = .ok (.aload_n 0, 1) := by decide +kernel
theorem d_Code_tell_1 : decode b_Code_tell 1 = .ok (.getfield 22, 3) := by decide +kernel
theorem d_Code_tell_4 : decode b_Code_tell 4 = .ok (.ifCond .eq 12, 3) := by decide +kernel
theorem d_Code_tell_7 : decode b_Code_tell 7 = .ok (.aload_n 0, 1) := by decide +kernel
theorem d_Code_tell_8 : decode b_Code_tell 8 = .ok (.getfield 26, 3) := by decide +kernel
theorem d_Code_tell_11 : decode b_Code_tell 11 = .ok (.iload_n 1, 1) := by decide +kernel
theorem d_Code_tell_12 : decode b_Code_tell 12 = .ok (.if_icmp .ne 4, 3) := by decide +kernel
theorem d_Code_tell_15 : decode b_Code_tell 15 = .ok (.return_, 1) := by decide +kernel
theorem d_Code_tell_16 : decode b_Code_tell 16 = .ok (.aload_n 0, 1) := by decide +kernel
theorem d_Code_tell_17 : decode b_Code_tell 17 = .ok (.iconst 1, 1) := by decide +kernel
theorem d_Code_tell_18 : decode b_Code_tell 18 = .ok (.putfield 22, 3) := by decide +kernel
theorem d_Code_tell_21 : decode b_Code_tell 21 = .ok (.aload_n 0, 1) := by decide +kernel
theorem d_Code_tell_22 : decode b_Code_tell 22 = .ok (.iload_n 1, 1) := by decide +kernel
theorem d_Code_tell_23 : decode b_Code_tell 23 = .ok (.putfield 26, 3) := by decide +kernel
theorem d_Code_tell_26 : decode b_Code_tell 26 = .ok (.aload_n 0, 1) := by decide +kernel
theorem d_Code_tell_27 : decode b_Code_tell 27 = .ok (.iconst 0, 1) := by decide +kernel
theorem d_Code_tell_28 : decode b_Code_tell 28 = .ok (.putfield 30, 3) := by decide +kernel
theorem d_Code_tell_31 : decode b_Code_tell 31 = .ok (.aload_n 0, 1) := by decide +kernel
theorem d_Code_tell_32 : decode b_Code_tell 32 = .ok (.iconst 0, 1) := by decide +kernel
theorem d_Code_tell_33 : decode b_Code_tell 33 = .ok (.putfield 33, 3) := by decide +kernel
theorem d_Code_tell_36 : decode b_Code_tell 36 = .ok (.aload_n 0, 1) := by decide +kernel
theorem d_Code_tell_37 : decode b_Code_tell 37 = .ok (.invokevirtual 36, 3) := by decide +kernel
theorem d_Code_tell_40 : decode b_Code_tell 40 = .ok (.iconst 0, 1) := by decide +kernel
theorem d_Code_tell_41 : decode b_Code_tell 41 = .ok (.istore_n 2, 1) := by decide +kernel
theorem d_Code_tell_42 : decode b_Code_tell 42 = .ok (.iload_n 2, 1) := by decide +kernel
theorem d_Code_tell_43 : decode b_Code_tell 43 = .ok (.iload_n 1, 1) := by decide +kernel
theorem d_Code_tell_44 : decode b_Code_tell 44 = .ok (.if_icmp .ge 29, 3) := by decide +kernel
theorem d_Code_tell_47 : decode b_Code_tell 47 = .ok (.aload_n 0, 1) := by decide +kernel
theorem d_Code_tell_48 : decode b_Code_tell 48 = .ok (.iload_n 2, 1) := by decide +kernel
theorem d_Code_tell_49 : decode b_Code_tell 49 = .ok (.invokevirtual 39, 3) := by decide +kernel
theorem d_Code_tell_52 : decode b_Code_tell 52 = .ok (.aload_n 0, 1) := by decide +kernel
theorem d_Code_tell_53 : decode b_Code_tell 53 = .ok (.iload_n 2, 1) := by decide +kernel
theorem d_Code_tell_54 : decode b_Code_tell 54 = .ok (.invokevirtual 43, 3) := by decide +kernel
theorem d_Code_tell_57 : decode b_Code_tell 57 = .ok (.aload_n 0, 1) := by decide +kernel
theorem d_Code_tell_58 : decode b_Code_tell 58 = .ok (.iload_n 2, 1) := by decide +kernel
theorem d_Code_tell_59 : decode b_Code_tell 59 = .ok (.invokevirtual 46, 3) := by decide +kernel
theorem d_Code_tell_62 : decode b_Code_tell 62 = .ok (.aload_n 0, 1) := by decide +kernel
theorem d_Code_tell_63 : decode b_Code_tell 63 = .ok (.iload_n 2, 1) := by decide +kernel
theorem d_Code_tell_64 : decode b_Code_tell 64 = .ok (.invokevirtual 49, 3) := by decide +kernel
theorem d_Code_tell_67 : decode b_Code_tell 67 = .ok (.iinc 2 1, 3) := by decide +kernel
theorem d_Code_tell_70 : decode b_Code_tell 70 = .ok (.goto (-28), 3) := by decide +kernel
theorem d_Code_tell_73 : decode b_Code_tell 73 = .ok (.return_, 1) := by decide +kernel
set_option maxHeartbeats 4000000 in
set_option maxRecDepth 100000 in
theorem x_Code_tell_L42 {p : Program} {e : Env} {s : State} {m : MethodId} {args : Array Value} {below : List Frame} {meth : Method} {c : Code} {l : Launch} {dC : Nat → ClassId} {dI : Nat → Nat → Nat} {cA : ClassId} {ad : Nat → Nat} {w0 : va_W} (C0 : q_C p s m args meth c b_Code_tell 3 none "PlanClauses$Code" dC dI cA) (hA : ∀ q, s.heap.size ≤ q → va_A w0 s.heap.size q) (x1 : Int32) (ta : tTask) (tw : tWays) (ct : tTold) {Q : tCode → tTold → Prop} {K73 : tCode → Prop}
    (hK73 : ∀ (co : tCode) (H : Heap) (locs : List Loc) (ls : Array Slot), K73 co → lv_has ls 3 [] → q_H dC dI (va_A w0 s.heap.size) s.heap H locs ([c_TA ad cA ta tw, c_CO ad cA co ct].flatten) → W p l e (q_R 3 68) s m args below meth c H locs 0 0 (q_Zv below args s dC dI cA w0 (fun u : tCode × tTold => [c_TA ad cA ta tw, c_CO ad cA u.1 u.2].flatten) (fun u => Q u.1 u.2)) (F0 m 73 ls [])) :
    ∀ (nn : Nat) (x2 : Int32) (co : tCode) (H : Heap) (locs : List Loc) (ls : Array Slot), w_Code_tell_L42 x1 ta ct K73 nn x2 co → lv_has ls 3 [(0, .ref (ad 25)), (1, .int x1), (2, .int x2)] → q_H dC dI (va_A w0 s.heap.size) s.heap H locs ([c_TA ad cA ta tw, c_CO ad cA co ct].flatten) → W p l e (q_R 3 68) s m args below meth c H locs 0 0 (q_Zv below args s dC dI cA w0 (fun u : tCode × tTold => [c_TA ad cA ta tw, c_CO ad cA u.1 u.2].flatten) (fun u => Q u.1 u.2)) (F0 m 42 ls []) := by
  obtain ⟨hx, hb, -⟩ := id C0
  intro nn
  induction nn with
  | zero =>
    intro x2 co H locs ls h
    exact (show False from h).elim
  | succ nn ih =>
    intro x2 co H locs ls h hl hH
    rw [w_Code_tell_L42] at h
    refine lv_iload_n hx hb d_Code_tell_42 rfl (lv_at hl 2 rfl) ?_
    refine lv_iload_n hx hb d_Code_tell_43 rfl (lv_at hl 1 rfl) ?_
    refine lv_icmp_ge (tgt := 73) hx hb d_Code_tell_44 (by decide) (fun c => ?_) (fun c => ?_)
    · have h := h.1 c
      exact hK73 co _ _ _ h (lv_sub hl [] rfl) hH
    · have h := h.2 c
      refine lv_aload_n hx hb d_Code_tell_47 rfl (lv_at hl 0 rfl) ?_
      refine lv_iload_n hx hb d_Code_tell_48 rfl (lv_at hl 2 rfl) ?_
      refine q_callv (rest := []) (ws' := fun u : tCode => [c_TA ad cA ta tw, c_CO ad cA u ct].flatten) C0 hH hA (c_Code_tellAsked l dC dI cA ad x2 ta tw co ct _ _ h) Y_Code_tellAsked k_580 5 rfl hc_7 (q_pg [0, 1] [] [0, 1] 2 2 rfl (by decide) rfl (fun _ => rfl) rfl (by decide) (fun _ => rfl)) ⟨Nat.le_of_ble_eq_true rfl, Nat.le_of_ble_eq_true rfl⟩ rfl rfl (Nat.le_of_ble_eq_true rfl) hl.1 d_Code_tell_49 ⟨Nat.le_refl 0, Nat.le_refl 0⟩ (fun u_1 H locs h hH => ?_)
      obtain ⟨co_1, rfl⟩ : ∃ z, z = u_1 := ⟨_, rfl⟩
      try dsimp only at h
      have hH : q_H dC dI (va_A w0 s.heap.size) s.heap H locs ([c_TA ad cA ta tw, c_CO ad cA co_1 ct].flatten) := hH
      refine lv_aload_n hx hb d_Code_tell_52 rfl (lv_at hl 0 rfl) ?_
      refine lv_iload_n hx hb d_Code_tell_53 rfl (lv_at hl 2 rfl) ?_
      refine q_callv (rest := []) (ws' := fun u : tCode => [c_TA ad cA ta tw, c_CO ad cA u ct].flatten) C0 hH hA (c_Code_tellChanged l dC dI cA ad x2 ta tw co_1 ct _ _ h) Y_Code_tellChanged k_588 5 rfl hc_7 (q_pg [0, 1] [] [0, 1] 2 2 rfl (by decide) rfl (fun _ => rfl) rfl (by decide) (fun _ => rfl)) ⟨Nat.le_of_ble_eq_true rfl, Nat.le_of_ble_eq_true rfl⟩ rfl rfl (Nat.le_of_ble_eq_true rfl) hl.1 d_Code_tell_54 ⟨Nat.le_refl 0, Nat.le_refl 0⟩ (fun u_2 H locs h hH => ?_)
      obtain ⟨co_2, rfl⟩ : ∃ z, z = u_2 := ⟨_, rfl⟩
      try dsimp only at h
      have hH : q_H dC dI (va_A w0 s.heap.size) s.heap H locs ([c_TA ad cA ta tw, c_CO ad cA co_2 ct].flatten) := hH
      refine lv_aload_n hx hb d_Code_tell_57 rfl (lv_at hl 0 rfl) ?_
      refine lv_iload_n hx hb d_Code_tell_58 rfl (lv_at hl 2 rfl) ?_
      refine q_callv (rest := []) (ws' := fun u : tCode => [c_TA ad cA ta tw, c_CO ad cA u ct].flatten) C0 hH hA (c_Code_tellKept l dC dI cA ad x2 ta tw co_2 ct _ _ h) Y_Code_tellKept k_592 5 rfl hc_7 (q_pg [0, 1] [] [0, 1] 2 2 rfl (by decide) rfl (fun _ => rfl) rfl (by decide) (fun _ => rfl)) ⟨Nat.le_of_ble_eq_true rfl, Nat.le_of_ble_eq_true rfl⟩ rfl rfl (Nat.le_of_ble_eq_true rfl) hl.1 d_Code_tell_59 ⟨Nat.le_refl 0, Nat.le_refl 0⟩ (fun u_3 H locs h hH => ?_)
      obtain ⟨co_3, rfl⟩ : ∃ z, z = u_3 := ⟨_, rfl⟩
      try dsimp only at h
      have hH : q_H dC dI (va_A w0 s.heap.size) s.heap H locs ([c_TA ad cA ta tw, c_CO ad cA co_3 ct].flatten) := hH
      refine lv_aload_n hx hb d_Code_tell_62 rfl (lv_at hl 0 rfl) ?_
      refine lv_iload_n hx hb d_Code_tell_63 rfl (lv_at hl 2 rfl) ?_
      refine q_callv (rest := []) (ws' := fun u : tCode => [c_TA ad cA ta tw, c_CO ad cA u ct].flatten) C0 hH hA (c_Code_tellPairs l dC dI cA ad x2 ta tw co_3 ct _ _ h) Y_Code_tellPairs k_600 5 rfl hc_7 (q_pg [0, 1] [] [0, 1] 2 2 rfl (by decide) rfl (fun _ => rfl) rfl (by decide) (fun _ => rfl)) ⟨Nat.le_of_ble_eq_true rfl, Nat.le_of_ble_eq_true rfl⟩ rfl rfl (Nat.le_of_ble_eq_true rfl) hl.1 d_Code_tell_64 ⟨Nat.le_refl 0, Nat.le_refl 0⟩ (fun u_4 H locs h hH => ?_)
      obtain ⟨co_4, rfl⟩ : ∃ z, z = u_4 := ⟨_, rfl⟩
      try dsimp only at h
      have hH : q_H dC dI (va_A w0 s.heap.size) s.heap H locs ([c_TA ad cA ta tw, c_CO ad cA co_4 ct].flatten) := hH
      refine lv_iinc (v := (x2 + 1)) (lv' := [(2, .int (x2 + 1)), (0, .ref (ad 25)), (1, .int x1)]) hx hb d_Code_tell_67 hl (k := 2) rfl rfl (by decide) rfl (fun ls hl => ?_)
      refine lv_goto (tgt := 42) hx hb d_Code_tell_70 (by decide) ?_
      exact ih (x2 + 1) co_4 _ _ _ h (lv_sub hl [1, 2, 0] rfl) hH
set_option maxHeartbeats 4000000 in
set_option maxRecDepth 100000 in
theorem c_Code_tell (l : Launch) (dC : Nat → ClassId) (dI : Nat → Nat → Nat) (cA : ClassId) (ad : Nat → Nat) (x1 : Int32) (ta : tTask) (tw : tWays) (co : tCode) (ct : tTold) (Q : tCode → tTold → Prop) (sz : Nat) (h : w_Code_tell x1 ta co ct Q) :
    q_Mv l y_Code_tell b_Code_tell 3 3 68 [.ref (ad 25), .int x1] dC dI cA ([c_TA ad cA ta tw, c_CO ad cA co ct].flatten) (fun u : tCode × tTold => [c_TA ad cA ta tw, c_CO ad cA u.1 u.2].flatten) sz (fun u => Q u.1 u.2) := by
  refine q_metv (plainFor_of_name (by decide +kernel)) (Nat.le_of_ble_eq_true rfl) (fun {p e s m below meth c ls} C0 hl hH => ?_)
  obtain ⟨hx, hb, -⟩ := id C0
  have hA : ∀ q, s.heap.size ≤ q → va_A ([c_TA ad cA ta tw, c_CO ad cA co ct].flatten) s.heap.size q := q_nA
  have hl : lv_has ls 3 [(0, .ref (ad 25)), (1, .int x1)] := hl
  unfold w_Code_tell at h
  refine lv_aload_n hx hb d_Code_tell_0 rfl (lv_at hl 0 rfl) ?_
  refine q_get (v := .int ct.told) C0 hH 5 rfl hc_7 6 (by decide) k_240 rfl d_Code_tell_1 ?_
  refine lv_if_eq (tgt := 16) hx hb d_Code_tell_4 (by decide) (fun c => ?_) (fun c => ?_)
  · have h := h.1 c
    refine lv_aload_n hx hb d_Code_tell_16 rfl (lv_at hl 0 rfl) ?_
    refine lv_iconst (v := 1) hx hb d_Code_tell_17 (by decide) ?_
    refine q_putz (ws' := [c_TA ad cA ta tw, c_CO ad cA co (tTold.mk ct.steps 1)].flatten) C0 hH 5 rfl hc_7 6 (by decide) k_240 rfl rfl (Or.inr rfl) (Nat.le_of_ble_eq_true rfl) rfl d_Code_tell_18 (fun H locs hH => ?_)
    refine lv_aload_n hx hb d_Code_tell_21 rfl (lv_at hl 0 rfl) ?_
    refine lv_iload_n hx hb d_Code_tell_22 rfl (lv_at hl 1 rfl) ?_
    refine q_puti (ws' := [c_TA ad cA ta tw, c_CO ad cA co (tTold.mk x1 1)].flatten) C0 hH 5 rfl hc_7 5 (by decide) k_239 rfl rfl (Nat.le_of_ble_eq_true rfl) rfl d_Code_tell_23 (fun H locs hH => ?_)
    refine lv_aload_n hx hb d_Code_tell_26 rfl (lv_at hl 0 rfl) ?_
    refine lv_iconst (v := 0) hx hb d_Code_tell_27 (by decide) ?_
    refine q_puti (ws' := [c_TA ad cA ta tw, c_CO ad cA (tCode.mk co.literals co.starts 0 co.literalCount) (tTold.mk x1 1)].flatten) C0 hH 5 rfl hc_7 3 (by decide) k_235 rfl rfl (Nat.le_of_ble_eq_true rfl) rfl d_Code_tell_28 (fun H locs hH => ?_)
    refine lv_aload_n hx hb d_Code_tell_31 rfl (lv_at hl 0 rfl) ?_
    refine lv_iconst (v := 0) hx hb d_Code_tell_32 (by decide) ?_
    refine q_puti (ws' := [c_TA ad cA ta tw, c_CO ad cA (tCode.mk co.literals co.starts 0 0) (tTold.mk x1 1)].flatten) C0 hH 5 rfl hc_7 4 (by decide) k_237 rfl rfl (Nat.le_of_ble_eq_true rfl) rfl d_Code_tell_33 (fun H locs hH => ?_)
    refine lv_aload_n hx hb d_Code_tell_36 rfl (lv_at hl 0 rfl) ?_
    refine q_callv (rest := []) (ws' := fun u : tCode => [c_TA ad cA ta tw, c_CO ad cA u (tTold.mk x1 1)].flatten) C0 hH hA (c_Code_tellEnds l dC dI cA ad ta tw (tCode.mk co.literals co.starts 0 0) (tTold.mk x1 1) _ _ h) Y_Code_tellEnds k_561 5 rfl hc_7 (q_pg [0, 1] [] [0, 1] 2 2 rfl (by decide) rfl (fun _ => rfl) rfl (by decide) (fun _ => rfl)) ⟨Nat.le_of_ble_eq_true rfl, Nat.le_of_ble_eq_true rfl⟩ rfl rfl (Nat.le_of_ble_eq_true rfl) hl.1 d_Code_tell_37 ⟨Nat.le_refl 0, Nat.le_refl 0⟩ (fun u_1 H locs h hH => ?_)
    obtain ⟨co_1, rfl⟩ : ∃ z, z = u_1 := ⟨_, rfl⟩
    try dsimp only at h
    have hH : q_H dC dI (va_A ([c_TA ad cA ta tw, c_CO ad cA co ct].flatten) s.heap.size) s.heap H locs ([c_TA ad cA ta tw, c_CO ad cA co_1 (tTold.mk x1 1)].flatten) := hH
    refine lv_iconst (v := 0) hx hb d_Code_tell_40 (by decide) ?_
    refine lv_istore_n (lv' := [(2, .int 0), (0, .ref (ad 25)), (1, .int x1)]) hx hb d_Code_tell_41 rfl hl (by decide) rfl (fun ls hl => ?_)
    obtain ⟨nn, h⟩ := h
    refine x_Code_tell_L42 C0 hA x1 ta tw (tTold.mk x1 1) ?_ nn 0 co_1 _ _ _ h (lv_sub hl [1, 2, 0] rfl) hH
    · intro co_2 H locs ls h hl hH
      try dsimp only at h
      exact q_retv C0 hH (co_2, (tTold.mk x1 1)) rfl h d_Code_tell_73
  · have h := h.2 c
    refine lv_aload_n hx hb d_Code_tell_7 rfl (lv_at hl 0 rfl) ?_
    refine q_get (v := .int ct.steps) C0 hH 5 rfl hc_7 5 (by decide) k_239 rfl d_Code_tell_8 ?_
    refine lv_iload_n hx hb d_Code_tell_11 rfl (lv_at hl 1 rfl) ?_
    refine lv_icmp_ne (tgt := 16) hx hb d_Code_tell_12 (by decide) (fun c => ?_) (fun c => ?_)
    · have h := h.1 c
      refine lv_aload_n hx hb d_Code_tell_16 rfl (lv_at hl 0 rfl) ?_
      refine lv_iconst (v := 1) hx hb d_Code_tell_17 (by decide) ?_
      refine q_putz (ws' := [c_TA ad cA ta tw, c_CO ad cA co (tTold.mk ct.steps 1)].flatten) C0 hH 5 rfl hc_7 6 (by decide) k_240 rfl rfl (Or.inr rfl) (Nat.le_of_ble_eq_true rfl) rfl d_Code_tell_18 (fun H locs hH => ?_)
      refine lv_aload_n hx hb d_Code_tell_21 rfl (lv_at hl 0 rfl) ?_
      refine lv_iload_n hx hb d_Code_tell_22 rfl (lv_at hl 1 rfl) ?_
      refine q_puti (ws' := [c_TA ad cA ta tw, c_CO ad cA co (tTold.mk x1 1)].flatten) C0 hH 5 rfl hc_7 5 (by decide) k_239 rfl rfl (Nat.le_of_ble_eq_true rfl) rfl d_Code_tell_23 (fun H locs hH => ?_)
      refine lv_aload_n hx hb d_Code_tell_26 rfl (lv_at hl 0 rfl) ?_
      refine lv_iconst (v := 0) hx hb d_Code_tell_27 (by decide) ?_
      refine q_puti (ws' := [c_TA ad cA ta tw, c_CO ad cA (tCode.mk co.literals co.starts 0 co.literalCount) (tTold.mk x1 1)].flatten) C0 hH 5 rfl hc_7 3 (by decide) k_235 rfl rfl (Nat.le_of_ble_eq_true rfl) rfl d_Code_tell_28 (fun H locs hH => ?_)
      refine lv_aload_n hx hb d_Code_tell_31 rfl (lv_at hl 0 rfl) ?_
      refine lv_iconst (v := 0) hx hb d_Code_tell_32 (by decide) ?_
      refine q_puti (ws' := [c_TA ad cA ta tw, c_CO ad cA (tCode.mk co.literals co.starts 0 0) (tTold.mk x1 1)].flatten) C0 hH 5 rfl hc_7 4 (by decide) k_237 rfl rfl (Nat.le_of_ble_eq_true rfl) rfl d_Code_tell_33 (fun H locs hH => ?_)
      refine lv_aload_n hx hb d_Code_tell_36 rfl (lv_at hl 0 rfl) ?_
      refine q_callv (rest := []) (ws' := fun u : tCode => [c_TA ad cA ta tw, c_CO ad cA u (tTold.mk x1 1)].flatten) C0 hH hA (c_Code_tellEnds l dC dI cA ad ta tw (tCode.mk co.literals co.starts 0 0) (tTold.mk x1 1) _ _ h) Y_Code_tellEnds k_561 5 rfl hc_7 (q_pg [0, 1] [] [0, 1] 2 2 rfl (by decide) rfl (fun _ => rfl) rfl (by decide) (fun _ => rfl)) ⟨Nat.le_of_ble_eq_true rfl, Nat.le_of_ble_eq_true rfl⟩ rfl rfl (Nat.le_of_ble_eq_true rfl) hl.1 d_Code_tell_37 ⟨Nat.le_refl 0, Nat.le_refl 0⟩ (fun u_3 H locs h hH => ?_)
      obtain ⟨co_3, rfl⟩ : ∃ z, z = u_3 := ⟨_, rfl⟩
      try dsimp only at h
      have hH : q_H dC dI (va_A ([c_TA ad cA ta tw, c_CO ad cA co ct].flatten) s.heap.size) s.heap H locs ([c_TA ad cA ta tw, c_CO ad cA co_3 (tTold.mk x1 1)].flatten) := hH
      refine lv_iconst (v := 0) hx hb d_Code_tell_40 (by decide) ?_
      refine lv_istore_n (lv' := [(2, .int 0), (0, .ref (ad 25)), (1, .int x1)]) hx hb d_Code_tell_41 rfl hl (by decide) rfl (fun ls hl => ?_)
      obtain ⟨nn, h⟩ := h
      refine x_Code_tell_L42 C0 hA x1 ta tw (tTold.mk x1 1) ?_ nn 0 co_3 _ _ _ h (lv_sub hl [1, 2, 0] rfl) hH
      · intro co_4 H locs ls h hl hH
        try dsimp only at h
        exact q_retv C0 hH (co_4, (tTold.mk x1 1)) rfl h d_Code_tell_73
    · have h := h.2 c
      exact q_retv C0 hH (co, ct) rfl h d_Code_tell_15
theorem d_PC_code_0 : decode b_PC_code 0 = .ok (.iload_n 1, 1) := by decide +kernel
theorem d_PC_code_1 : decode b_PC_code 1 = .ok (.invokestatic 124, 3) := by decide +kernel
theorem d_PC_code_4 : decode b_PC_code 4 = .ok (.ifCond .eq 12, 3) := by decide +kernel
theorem d_PC_code_7 : decode b_PC_code 7 = .ok (.iload_n 2, 1) := by decide +kernel
theorem d_PC_code_8 : decode b_PC_code 8 = .ok (.ifCond .lt 8, 3) := by decide +kernel
theorem d_PC_code_11 : decode b_PC_code 11 = .ok (.iload_n 2, 1) := by decide +kernel
theorem d_PC_code_12 : decode b_PC_code 12 = .ok (.iconst 2, 1) := by decide +kernel
theorem d_PC_code_13 : decode b_PC_code 13 = .ok (.if_icmp .le 5, 3) := by decide +kernel
theorem d_PC_code_16 : decode b_PC_code 16 = .ok (.iconst (-1), 1) := by decide +kernel
theorem d_PC_code_17 : decode b_PC_code 17 = .ok (.ireturn, 1) := by decide +kernel
theorem d_PC_code_18 : decode b_PC_code 18 = .ok (.iload_n 2, 1) := by decide +kernel
theorem d_PC_code_19 : decode b_PC_code 19 = .ok (.ifCond .ne 25, 3) := by decide +kernel
theorem d_PC_code_22 : decode b_PC_code 22 = .ok (.iload_n 1, 1) := by decide +kernel
theorem d_PC_code_23 : decode b_PC_code 23 = .ok (.iconst 1, 1) := by decide +kernel
theorem d_PC_code_24 : decode b_PC_code 24 = .ok (.iadd, 1) := by decide +kernel
theorem d_PC_code_25 : decode b_PC_code 25 = .ok (.aload_n 0, 1) := by decide +kernel
theorem d_PC_code_26 : decode b_PC_code 26 = .ok (.getfield 28, 3) := by decide +kernel
theorem d_PC_code_29 : decode b_PC_code 29 = .ok (.getfield 100, 3) := by decide +kernel
theorem d_PC_code_32 : decode b_PC_code 32 = .ok (.imul, 1) := by decide +kernel
theorem d_PC_code_33 : decode b_PC_code 33 = .ok (.iload_n 1, 1) := by decide +kernel
theorem d_PC_code_34 : decode b_PC_code 34 = .ok (.aload_n 0, 1) := by decide +kernel
theorem d_PC_code_35 : decode b_PC_code 35 = .ok (.getfield 28, 3) := by decide +kernel
theorem d_PC_code_38 : decode b_PC_code 38 = .ok (.getfield 111, 3) := by decide +kernel
theorem d_PC_code_41 : decode b_PC_code 41 = .ok (.imul, 1) := by decide +kernel
theorem d_PC_code_42 : decode b_PC_code 42 = .ok (.iadd, 1) := by decide +kernel
theorem d_PC_code_43 : decode b_PC_code 43 = .ok (.ireturn, 1) := by decide +kernel
theorem d_PC_code_44 : decode b_PC_code 44 = .ok (.aload_n 0, 1) := by decide +kernel
theorem d_PC_code_45 : decode b_PC_code 45 = .ok (.getfield 37, 3) := by decide +kernel
theorem d_PC_code_48 : decode b_PC_code 48 = .ok (.iload_n 1, 1) := by decide +kernel
theorem d_PC_code_49 : decode b_PC_code 49 = .ok (.invokevirtual 139, 3) := by decide +kernel
theorem d_PC_code_52 : decode b_PC_code 52 = .ok (.iload_n 2, 1) := by decide +kernel
theorem d_PC_code_53 : decode b_PC_code 53 = .ok (.iconst 1, 1) := by decide +kernel
theorem d_PC_code_54 : decode b_PC_code 54 = .ok (.if_icmp .ne 13, 3) := by decide +kernel
theorem d_PC_code_57 : decode b_PC_code 57 = .ok (.aload_n 0, 1) := by decide +kernel
theorem d_PC_code_58 : decode b_PC_code 58 = .ok (.getfield 37, 3) := by decide +kernel
theorem d_PC_code_61 : decode b_PC_code 61 = .ok (.getfield 142, 3) := by decide +kernel
theorem d_PC_code_64 : decode b_PC_code 64 = .ok (.goto 10, 3) := by decide +kernel
theorem d_PC_code_67 : decode b_PC_code 67 = .ok (.aload_n 0, 1) := by decide +kernel
theorem d_PC_code_68 : decode b_PC_code 68 = .ok (.getfield 37, 3) := by decide +kernel
theorem d_PC_code_71 : decode b_PC_code 71 = .ok (.getfield 145, 3) := by decide +kernel
theorem d_PC_code_74 : decode b_PC_code 74 = .ok (.ireturn, 1) := by decide +kernel
set_option maxHeartbeats 4000000 in
set_option maxRecDepth 100000 in
theorem c_PC_code (l : Launch) (dC : Nat → ClassId) (dI : Nat → Nat → Nat) (cA : ClassId) (ad : Nat → Nat) (x1 : Int32) (x2 : Int32) (ta : tTask) (tw : tWays) (co : tCode) (ct : tTold) (Q : Int32 → tCode → tTold → Prop) (sz : Nat) (h : w_PC_code x1 x2 ta co ct Q) :
    q_Mi l y_PC_code b_PC_code 3 (some .int) 4 90 [.ref (ad 0), .int x1, .int x2] dC dI cA ([c_PC ad, c_TA ad cA ta tw, c_CO ad cA co ct].flatten) (fun u : tCode × tTold => [c_PC ad, c_TA ad cA ta tw, c_CO ad cA u.1 u.2].flatten) sz (fun r u => Q r u.1 u.2) := by
  refine q_meti (plainFor_of_name (by decide +kernel)) (Nat.le_of_ble_eq_true rfl) (fun {p e s m below meth c ls} C0 hl hH => ?_)
  obtain ⟨hx, hb, -⟩ := id C0
  have hA : ∀ q, s.heap.size ≤ q → va_A ([c_PC ad, c_TA ad cA ta tw, c_CO ad cA co ct].flatten) s.heap.size q := q_nA
  have hl : lv_has ls 3 [(0, .ref (ad 0)), (1, .int x1), (2, .int x2)] := hl
  unfold w_PC_code at h
  refine lv_iload_n hx hb d_PC_code_0 rfl (lv_at hl 1 rfl) ?_
  refine q_calls (rest := []) C0 hH hA (c_PC_isLength l dC dI cA ad x1 _ _ h) Y_PC_isLength k_507 ⟨Nat.le_of_ble_eq_true rfl, Nat.le_of_ble_eq_true rfl⟩ rfl rfl (Nat.le_of_ble_eq_true rfl) hl.1 d_PC_code_1 ⟨Nat.le_refl 0, Nat.le_refl 0⟩ (fun r_1 H locs h hH => ?_)
  try dsimp only at h
  refine lv_if_eq (tgt := 16) hx hb d_PC_code_4 (by decide) (fun c => ?_) (fun c => ?_)
  · have h := h.1 c
    refine lv_iconst (v := (-1)) hx hb d_PC_code_16 (by decide) ?_
    exact q_reti C0 hH (co, ct) rfl h d_PC_code_17
  · have h := h.2 c
    refine lv_iload_n hx hb d_PC_code_7 rfl (lv_at hl 2 rfl) ?_
    refine lv_if_lt (tgt := 16) hx hb d_PC_code_8 (by decide) (fun c => ?_) (fun c => ?_)
    · have h := h.1 c
      refine lv_iconst (v := (-1)) hx hb d_PC_code_16 (by decide) ?_
      exact q_reti C0 hH (co, ct) rfl h d_PC_code_17
    · have h := h.2 c
      refine lv_iload_n hx hb d_PC_code_11 rfl (lv_at hl 2 rfl) ?_
      refine lv_iconst (v := 2) hx hb d_PC_code_12 (by decide) ?_
      refine lv_icmp_le (tgt := 18) hx hb d_PC_code_13 (by decide) (fun c => ?_) (fun c => ?_)
      · have h := h.1 c
        refine lv_iload_n hx hb d_PC_code_18 rfl (lv_at hl 2 rfl) ?_
        refine lv_if_ne (tgt := 44) hx hb d_PC_code_19 (by decide) (fun c => ?_) (fun c => ?_)
        · have h := h.1 c
          refine lv_aload_n hx hb d_PC_code_44 rfl (lv_at hl 0 rfl) ?_
          refine q_get (v := .ref (ad 25)) C0 hH 0 rfl hc_0 3 (by decide) k_259 rfl d_PC_code_45 ?_
          refine lv_iload_n hx hb d_PC_code_48 rfl (lv_at hl 1 rfl) ?_
          refine q_callv (rest := []) (ws' := fun u : tCode × tTold => [c_PC ad, c_TA ad cA ta tw, c_CO ad cA u.1 u.2].flatten) C0 hH hA (c_Code_tell l dC dI cA ad x1 ta tw co ct _ _ h) Y_Code_tell k_557 6 rfl hc_7 (q_pg [1, 2] [0] [0, 1, 2] 3 2 rfl (by decide) rfl (fun _ => rfl) rfl (by decide) (fun _ => rfl)) ⟨Nat.le_of_ble_eq_true rfl, Nat.le_of_ble_eq_true rfl⟩ rfl rfl (Nat.le_of_ble_eq_true rfl) hl.1 d_PC_code_49 ⟨Nat.le_refl 0, Nat.le_refl 0⟩ (fun u_2 H locs h hH => ?_)
          obtain ⟨co_2, ct_2⟩ := u_2
          try dsimp only at h
          have hH : q_H dC dI (va_A ([c_PC ad, c_TA ad cA ta tw, c_CO ad cA co ct].flatten) s.heap.size) s.heap H locs ([c_PC ad, c_TA ad cA ta tw, c_CO ad cA co_2 ct_2].flatten) := hH
          refine lv_iload_n hx hb d_PC_code_52 rfl (lv_at hl 2 rfl) ?_
          refine lv_iconst (v := 1) hx hb d_PC_code_53 (by decide) ?_
          refine lv_icmp_ne (tgt := 67) hx hb d_PC_code_54 (by decide) (fun c => ?_) (fun c => ?_)
          · have h := h.1 c
            refine lv_aload_n hx hb d_PC_code_67 rfl (lv_at hl 0 rfl) ?_
            refine q_get (v := .ref (ad 25)) C0 hH 0 rfl hc_0 3 (by decide) k_259 rfl d_PC_code_68 ?_
            refine q_get (v := .int co_2.literalCount) C0 hH 6 rfl hc_7 4 (by decide) k_238 rfl d_PC_code_71 ?_
            exact q_reti C0 hH (co_2, ct_2) rfl h d_PC_code_74
          · have h := h.2 c
            refine lv_aload_n hx hb d_PC_code_57 rfl (lv_at hl 0 rfl) ?_
            refine q_get (v := .ref (ad 25)) C0 hH 0 rfl hc_0 3 (by decide) k_259 rfl d_PC_code_58 ?_
            refine q_get (v := .int co_2.clauseCount) C0 hH 6 rfl hc_7 3 (by decide) k_236 rfl d_PC_code_61 ?_
            refine lv_goto (tgt := 74) hx hb d_PC_code_64 (by decide) ?_
            exact q_reti C0 hH (co_2, ct_2) rfl h d_PC_code_74
        · have h := h.2 c
          refine lv_iload_n hx hb d_PC_code_22 rfl (lv_at hl 1 rfl) ?_
          refine lv_iconst (v := 1) hx hb d_PC_code_23 (by decide) ?_
          refine lv_iadd hx hb d_PC_code_24 ?_
          refine lv_aload_n hx hb d_PC_code_25 rfl (lv_at hl 0 rfl) ?_
          refine q_get (v := .ref (ad 20)) C0 hH 0 rfl hc_0 2 (by decide) k_258 rfl d_PC_code_26 ?_
          refine q_get (v := .int ta.factCount) C0 hH 1 rfl hc_6 0 (by decide) k_189 rfl d_PC_code_29 ?_
          refine lv_imul hx hb d_PC_code_32 ?_
          refine lv_iload_n hx hb d_PC_code_33 rfl (lv_at hl 1 rfl) ?_
          refine lv_aload_n hx hb d_PC_code_34 rfl (lv_at hl 0 rfl) ?_
          refine q_get (v := .ref (ad 20)) C0 hH 0 rfl hc_0 2 (by decide) k_258 rfl d_PC_code_35 ?_
          refine q_get (v := .int ta.actionCount) C0 hH 1 rfl hc_6 1 (by decide) k_192 rfl d_PC_code_38 ?_
          refine lv_imul hx hb d_PC_code_41 ?_
          refine lv_iadd hx hb d_PC_code_42 ?_
          exact q_reti C0 hH (co, ct) rfl h d_PC_code_43
      · have h := h.2 c
        refine lv_iconst (v := (-1)) hx hb d_PC_code_16 (by decide) ?_
        exact q_reti C0 hH (co, ct) rfl h d_PC_code_17
theorem d_Code_literalOf_0 : decode b_Code_literalOf 0 = .ok (.iload_n 1, 1) := by decide +kernel
theorem d_Code_literalOf_1 : decode b_Code_literalOf 1 = .ok (.ifCond .lt 34, 3) := by decide +kernel
theorem d_Code_literalOf_4 : decode b_Code_literalOf 4 = .ok (.iload_n 1, 1) := by decide +kernel
theorem d_Code_literalOf_5 : decode b_Code_literalOf 5 = .ok (.aload_n 0, 1) := by decide +kernel
theorem d_Code_literalOf_6 : decode b_Code_literalOf 6 = .ok (.getfield 30, 3) := by decide +kernel
theorem d_Code_literalOf_9 : decode b_Code_literalOf 9 = .ok (.if_icmp .ge 26, 3) := by decide +kernel
theorem d_Code_literalOf_12 : decode b_Code_literalOf 12 = .ok (.iload_n 2, 1) := by decide +kernel
theorem d_Code_literalOf_13 : decode b_Code_literalOf 13 = .ok (.ifCond .lt 22, 3) := by decide +kernel
theorem d_Code_literalOf_16 : decode b_Code_literalOf 16 = .ok (.iload_n 2, 1) := by decide +kernel
theorem d_Code_literalOf_17 : decode b_Code_literalOf 17 = .ok (.aload_n 0, 1) := by decide +kernel
theorem d_Code_literalOf_18 : decode b_Code_literalOf 18 = .ok (.getfield 15, 3) := by decide +kernel
theorem d_Code_literalOf_21 : decode b_Code_literalOf 21 = .ok (.iload_n 1, 1) := by decide +kernel
theorem d_Code_literalOf_22 : decode b_Code_literalOf 22 = .ok (.iconst 1, 1) := by decide +kernel
theorem d_Code_literalOf_23 : decode b_Code_literalOf 23 = .ok (.iadd, 1) := by decide +kernel
theorem d_Code_literalOf_24 : decode b_Code_literalOf 24 = .ok (.iaload, 1) := by decide +kernel
theorem d_Code_literalOf_25 : decode b_Code_literalOf 25 = .ok (.aload_n 0, 1) := by decide +kernel
theorem d_Code_literalOf_26 : decode b_Code_literalOf 26 = .ok (.getfield 15, 3) := by decide +kernel
theorem d_Code_literalOf_29 : decode b_Code_literalOf 29 = .ok (.iload_n 1, 1) := by decide +kernel
theorem d_Code_literalOf_30 : decode b_Code_literalOf 30 = .ok (.iaload, 1) := by decide +kernel
theorem d_Code_literalOf_31 : decode b_Code_literalOf 31 = .ok (.isub, 1) := by decide +kernel
theorem d_Code_literalOf_32 : decode b_Code_literalOf 32 = .ok (.if_icmp .lt 6, 3) := by decide +kernel
theorem d_Code_literalOf_35 : decode b_Code_literalOf 35 = .ok (.bipush (-9), 2) := by decide +kernel
theorem d_Code_literalOf_37 : decode b_Code_literalOf 37 = .ok (.ireturn, 1) := by decide +kernel
theorem d_Code_literalOf_38 : decode b_Code_literalOf 38 = .ok (.aload_n 0, 1) := by decide +kernel
theorem d_Code_literalOf_39 : decode b_Code_literalOf 39 = .ok (.getfield 9, 3) := by decide +kernel
theorem d_Code_literalOf_42 : decode b_Code_literalOf 42 = .ok (.aload_n 0, 1) := by decide +kernel
theorem d_Code_literalOf_43 : decode b_Code_literalOf 43 = .ok (.getfield 15, 3) := by decide +kernel
theorem d_Code_literalOf_46 : decode b_Code_literalOf 46 = .ok (.iload_n 1, 1) := by decide +kernel
theorem d_Code_literalOf_47 : decode b_Code_literalOf 47 = .ok (.iaload, 1) := by decide +kernel
theorem d_Code_literalOf_48 : decode b_Code_literalOf 48 = .ok (.iload_n 2, 1) := by decide +kernel
theorem d_Code_literalOf_49 : decode b_Code_literalOf 49 = .ok (.iadd, 1) := by decide +kernel
theorem d_Code_literalOf_50 : decode b_Code_literalOf 50 = .ok (.iaload, 1) := by decide +kernel
theorem d_Code_literalOf_51 : decode b_Code_literalOf 51 = .ok (.ireturn, 1) := by decide +kernel
set_option maxHeartbeats 4000000 in
set_option maxRecDepth 100000 in
theorem c_Code_literalOf (l : Launch) (dC : Nat → ClassId) (dI : Nat → Nat → Nat) (cA : ClassId) (ad : Nat → Nat) (x1 : Int32) (x2 : Int32) (co : tCode) (ct : tTold) (Q : Int32 → Prop) (sz : Nat) (h : w_Code_literalOf x1 x2 co Q) :
    q_Mi l y_Code_literalOf b_Code_literalOf 3 (some .int) 0 0 [.ref (ad 25), .int x1, .int x2] dC dI cA ([c_CO ad cA co ct].flatten) (fun _ : Unit => [c_CO ad cA co ct].flatten) sz (fun r _ => Q r) := by
  refine q_meti (plainFor_of_name (by decide +kernel)) (Nat.le_of_ble_eq_true rfl) (fun {p e s m below meth c ls} C0 hl hH => ?_)
  obtain ⟨hx, hb, -⟩ := id C0
  have hA : ∀ q, s.heap.size ≤ q → va_A ([c_CO ad cA co ct].flatten) s.heap.size q := q_nA
  have hl : lv_has ls 3 [(0, .ref (ad 25)), (1, .int x1), (2, .int x2)] := hl
  unfold w_Code_literalOf at h
  refine lv_iload_n hx hb d_Code_literalOf_0 rfl (lv_at hl 1 rfl) ?_
  refine lv_if_lt (tgt := 35) hx hb d_Code_literalOf_1 (by decide) (fun c => ?_) (fun c => ?_)
  · have h := h.1 c
    refine lv_bipush (v := (-9)) hx hb d_Code_literalOf_35 (by decide) ?_
    exact q_reti C0 hH () rfl h d_Code_literalOf_37
  · have h := h.2 c
    refine lv_iload_n hx hb d_Code_literalOf_4 rfl (lv_at hl 1 rfl) ?_
    refine lv_aload_n hx hb d_Code_literalOf_5 rfl (lv_at hl 0 rfl) ?_
    refine q_get (v := .int co.clauseCount) C0 hH 0 rfl hc_7 3 (by decide) k_235 rfl d_Code_literalOf_6 ?_
    refine lv_icmp_ge (tgt := 35) hx hb d_Code_literalOf_9 (by decide) (fun c => ?_) (fun c => ?_)
    · have h := h.1 c
      refine lv_bipush (v := (-9)) hx hb d_Code_literalOf_35 (by decide) ?_
      exact q_reti C0 hH () rfl h d_Code_literalOf_37
    · have h := h.2 c
      refine lv_iload_n hx hb d_Code_literalOf_12 rfl (lv_at hl 2 rfl) ?_
      refine lv_if_lt (tgt := 35) hx hb d_Code_literalOf_13 (by decide) (fun c => ?_) (fun c => ?_)
      · have h := h.1 c
        refine lv_bipush (v := (-9)) hx hb d_Code_literalOf_35 (by decide) ?_
        exact q_reti C0 hH () rfl h d_Code_literalOf_37
      · have h := h.2 c
        refine lv_iload_n hx hb d_Code_literalOf_16 rfl (lv_at hl 2 rfl) ?_
        refine lv_aload_n hx hb d_Code_literalOf_17 rfl (lv_at hl 0 rfl) ?_
        refine q_get (v := .ref (ad 27)) C0 hH 0 rfl hc_7 2 (by decide) k_234 rfl d_Code_literalOf_18 ?_
        refine lv_iload_n hx hb d_Code_literalOf_21 rfl (lv_at hl 1 rfl) ?_
        refine lv_iconst (v := 1) hx hb d_Code_literalOf_22 (by decide) ?_
        refine lv_iadd hx hb d_Code_literalOf_23 ?_
        obtain ⟨hi, h⟩ := h
        refine q_ald (f := co.starts) C0 hH 2 rfl hi d_Code_literalOf_24 ?_
        refine lv_aload_n hx hb d_Code_literalOf_25 rfl (lv_at hl 0 rfl) ?_
        refine q_get (v := .ref (ad 27)) C0 hH 0 rfl hc_7 2 (by decide) k_234 rfl d_Code_literalOf_26 ?_
        refine lv_iload_n hx hb d_Code_literalOf_29 rfl (lv_at hl 1 rfl) ?_
        obtain ⟨hi, h⟩ := h
        refine q_ald (f := co.starts) C0 hH 2 rfl hi d_Code_literalOf_30 ?_
        refine lv_isub hx hb d_Code_literalOf_31 ?_
        refine lv_icmp_lt (tgt := 38) hx hb d_Code_literalOf_32 (by decide) (fun c => ?_) (fun c => ?_)
        · have h := h.1 c
          refine lv_aload_n hx hb d_Code_literalOf_38 rfl (lv_at hl 0 rfl) ?_
          refine q_get (v := .ref (ad 26)) C0 hH 0 rfl hc_7 1 (by decide) k_233 rfl d_Code_literalOf_39 ?_
          refine lv_aload_n hx hb d_Code_literalOf_42 rfl (lv_at hl 0 rfl) ?_
          refine q_get (v := .ref (ad 27)) C0 hH 0 rfl hc_7 2 (by decide) k_234 rfl d_Code_literalOf_43 ?_
          refine lv_iload_n hx hb d_Code_literalOf_46 rfl (lv_at hl 1 rfl) ?_
          obtain ⟨hi, h⟩ := h
          refine q_ald (f := co.starts) C0 hH 2 rfl hi d_Code_literalOf_47 ?_
          refine lv_iload_n hx hb d_Code_literalOf_48 rfl (lv_at hl 2 rfl) ?_
          refine lv_iadd hx hb d_Code_literalOf_49 ?_
          obtain ⟨hi, h⟩ := h
          refine q_ald (f := co.literals) C0 hH 1 rfl hi d_Code_literalOf_50 ?_
          exact q_reti C0 hH () rfl h d_Code_literalOf_51
        · have h := h.2 c
          refine lv_bipush (v := (-9)) hx hb d_Code_literalOf_35 (by decide) ?_
          exact q_reti C0 hH () rfl h d_Code_literalOf_37
theorem d_PC_coded_0 : decode b_PC_coded 0 = .ok (.iload_n 1, 1) := by decide +kernel
theorem d_PC_coded_1 : decode b_PC_coded 1 = .ok (.invokestatic 124, 3) := by decide +kernel
theorem d_PC_coded_4 : decode b_PC_coded 4 = .ok (.ifCond .eq 11, 3) := by decide +kernel
theorem d_PC_coded_7 : decode b_PC_coded 7 = .ok (.iload_n 2, 1) := by decide +kernel
theorem d_PC_coded_8 : decode b_PC_coded 8 = .ok (.ifCond .lt 7, 3) := by decide +kernel
theorem d_PC_coded_11 : decode b_PC_coded 11 = .ok (.iload_n 3, 1) := by decide +kernel
theorem d_PC_coded_12 : decode b_PC_coded 12 = .ok (.ifCond .ge 5, 3) := by decide +kernel
theorem d_PC_coded_15 : decode b_PC_coded 15 = .ok (.iconst (-1), 1) := by decide +kernel
theorem d_PC_coded_16 : decode b_PC_coded 16 = .ok (.ireturn, 1) := by decide +kernel
theorem d_PC_coded_17 : decode b_PC_coded 17 = .ok (.aload_n 0, 1) := by decide +kernel
theorem d_PC_coded_18 : decode b_PC_coded 18 = .ok (.getfield 37, 3) := by decide +kernel
theorem d_PC_coded_21 : decode b_PC_coded 21 = .ok (.iload_n 1, 1) := by decide +kernel
theorem d_PC_coded_22 : decode b_PC_coded 22 = .ok (.invokevirtual 139, 3) := by decide +kernel
theorem d_PC_coded_25 : decode b_PC_coded 25 = .ok (.iload_n 2, 1) := by decide +kernel
theorem d_PC_coded_26 : decode b_PC_coded 26 = .ok (.aload_n 0, 1) := by decide +kernel
theorem d_PC_coded_27 : decode b_PC_coded 27 = .ok (.getfield 37, 3) := by decide +kernel
theorem d_PC_coded_30 : decode b_PC_coded 30 = .ok (.getfield 142, 3) := by decide +kernel
theorem d_PC_coded_33 : decode b_PC_coded 33 = .ok (.if_icmp .lt 5, 3) := by decide +kernel
theorem d_PC_coded_36 : decode b_PC_coded 36 = .ok (.iconst (-1), 1) := by decide +kernel
theorem d_PC_coded_37 : decode b_PC_coded 37 = .ok (.ireturn, 1) := by decide +kernel
theorem d_PC_coded_38 : decode b_PC_coded 38 = .ok (.aload_n 0, 1) := by decide +kernel
theorem d_PC_coded_39 : decode b_PC_coded 39 = .ok (.getfield 37, 3) := by decide +kernel
theorem d_PC_coded_42 : decode b_PC_coded 42 = .ok (.iload_n 2, 1) := by decide +kernel
theorem d_PC_coded_43 : decode b_PC_coded 43 = .ok (.iload_n 3, 1) := by decide +kernel
theorem d_PC_coded_44 : decode b_PC_coded 44 = .ok (.invokevirtual 148, 3) := by decide +kernel
theorem d_PC_coded_47 : decode b_PC_coded 47 = .ok (.ireturn, 1) := by decide +kernel
set_option maxHeartbeats 4000000 in
set_option maxRecDepth 100000 in
theorem c_PC_coded (l : Launch) (dC : Nat → ClassId) (dI : Nat → Nat → Nat) (cA : ClassId) (ad : Nat → Nat) (x1 : Int32) (x2 : Int32) (x3 : Int32) (ta : tTask) (tw : tWays) (co : tCode) (ct : tTold) (Q : Int32 → tCode → tTold → Prop) (sz : Nat) (h : w_PC_coded x1 x2 x3 ta co ct Q) :
    q_Mi l y_PC_coded b_PC_coded 4 (some .int) 4 90 [.ref (ad 0), .int x1, .int x2, .int x3] dC dI cA ([c_PC ad, c_TA ad cA ta tw, c_CO ad cA co ct].flatten) (fun u : tCode × tTold => [c_PC ad, c_TA ad cA ta tw, c_CO ad cA u.1 u.2].flatten) sz (fun r u => Q r u.1 u.2) := by
  refine q_meti (plainFor_of_name (by decide +kernel)) (Nat.le_of_ble_eq_true rfl) (fun {p e s m below meth c ls} C0 hl hH => ?_)
  obtain ⟨hx, hb, -⟩ := id C0
  have hA : ∀ q, s.heap.size ≤ q → va_A ([c_PC ad, c_TA ad cA ta tw, c_CO ad cA co ct].flatten) s.heap.size q := q_nA
  have hl : lv_has ls 4 [(0, .ref (ad 0)), (1, .int x1), (2, .int x2), (3, .int x3)] := hl
  unfold w_PC_coded at h
  refine lv_iload_n hx hb d_PC_coded_0 rfl (lv_at hl 1 rfl) ?_
  refine q_calls (rest := []) C0 hH hA (c_PC_isLength l dC dI cA ad x1 _ _ h) Y_PC_isLength k_507 ⟨Nat.le_of_ble_eq_true rfl, Nat.le_of_ble_eq_true rfl⟩ rfl rfl (Nat.le_of_ble_eq_true rfl) hl.1 d_PC_coded_1 ⟨Nat.le_refl 0, Nat.le_refl 0⟩ (fun r_1 H locs h hH => ?_)
  try dsimp only at h
  refine lv_if_eq (tgt := 15) hx hb d_PC_coded_4 (by decide) (fun c => ?_) (fun c => ?_)
  · have h := h.1 c
    refine lv_iconst (v := (-1)) hx hb d_PC_coded_15 (by decide) ?_
    exact q_reti C0 hH (co, ct) rfl h d_PC_coded_16
  · have h := h.2 c
    refine lv_iload_n hx hb d_PC_coded_7 rfl (lv_at hl 2 rfl) ?_
    refine lv_if_lt (tgt := 15) hx hb d_PC_coded_8 (by decide) (fun c => ?_) (fun c => ?_)
    · have h := h.1 c
      refine lv_iconst (v := (-1)) hx hb d_PC_coded_15 (by decide) ?_
      exact q_reti C0 hH (co, ct) rfl h d_PC_coded_16
    · have h := h.2 c
      refine lv_iload_n hx hb d_PC_coded_11 rfl (lv_at hl 3 rfl) ?_
      refine lv_if_ge (tgt := 17) hx hb d_PC_coded_12 (by decide) (fun c => ?_) (fun c => ?_)
      · have h := h.1 c
        refine lv_aload_n hx hb d_PC_coded_17 rfl (lv_at hl 0 rfl) ?_
        refine q_get (v := .ref (ad 25)) C0 hH 0 rfl hc_0 3 (by decide) k_259 rfl d_PC_coded_18 ?_
        refine lv_iload_n hx hb d_PC_coded_21 rfl (lv_at hl 1 rfl) ?_
        refine q_callv (rest := []) (ws' := fun u : tCode × tTold => [c_PC ad, c_TA ad cA ta tw, c_CO ad cA u.1 u.2].flatten) C0 hH hA (c_Code_tell l dC dI cA ad x1 ta tw co ct _ _ h) Y_Code_tell k_557 6 rfl hc_7 (q_pg [1, 2] [0] [0, 1, 2] 3 2 rfl (by decide) rfl (fun _ => rfl) rfl (by decide) (fun _ => rfl)) ⟨Nat.le_of_ble_eq_true rfl, Nat.le_of_ble_eq_true rfl⟩ rfl rfl (Nat.le_of_ble_eq_true rfl) hl.1 d_PC_coded_22 ⟨Nat.le_refl 0, Nat.le_refl 0⟩ (fun u_2 H locs h hH => ?_)
        obtain ⟨co_2, ct_2⟩ := u_2
        try dsimp only at h
        have hH : q_H dC dI (va_A ([c_PC ad, c_TA ad cA ta tw, c_CO ad cA co ct].flatten) s.heap.size) s.heap H locs ([c_PC ad, c_TA ad cA ta tw, c_CO ad cA co_2 ct_2].flatten) := hH
        refine lv_iload_n hx hb d_PC_coded_25 rfl (lv_at hl 2 rfl) ?_
        refine lv_aload_n hx hb d_PC_coded_26 rfl (lv_at hl 0 rfl) ?_
        refine q_get (v := .ref (ad 25)) C0 hH 0 rfl hc_0 3 (by decide) k_259 rfl d_PC_coded_27 ?_
        refine q_get (v := .int co_2.clauseCount) C0 hH 6 rfl hc_7 3 (by decide) k_236 rfl d_PC_coded_30 ?_
        refine lv_icmp_lt (tgt := 38) hx hb d_PC_coded_33 (by decide) (fun c => ?_) (fun c => ?_)
        · have h := h.1 c
          refine lv_aload_n hx hb d_PC_coded_38 rfl (lv_at hl 0 rfl) ?_
          refine q_get (v := .ref (ad 25)) C0 hH 0 rfl hc_0 3 (by decide) k_259 rfl d_PC_coded_39 ?_
          refine lv_iload_n hx hb d_PC_coded_42 rfl (lv_at hl 2 rfl) ?_
          refine lv_iload_n hx hb d_PC_coded_43 rfl (lv_at hl 3 rfl) ?_
          refine q_calli (rest := []) (ws' := fun _ : Unit => [c_PC ad, c_TA ad cA ta tw, c_CO ad cA co_2 ct_2].flatten) C0 hH hA (c_Code_literalOf l dC dI cA ad x2 x3 co_2 ct_2 _ _ h) Y_Code_literalOf k_608 6 rfl hc_7 (q_pg [2] [0, 1] [0, 1, 2] 3 1 rfl (by decide) rfl (fun _ => rfl) rfl (by decide) (fun _ => rfl)) ⟨Nat.le_of_ble_eq_true rfl, Nat.le_of_ble_eq_true rfl⟩ rfl rfl (Nat.le_of_ble_eq_true rfl) hl.1 d_PC_coded_44 ⟨Nat.le_refl 0, Nat.le_refl 0⟩ (fun r_3 u_3 H locs h hH => ?_)
          try dsimp only at h
          have hH : q_H dC dI (va_A ([c_PC ad, c_TA ad cA ta tw, c_CO ad cA co ct].flatten) s.heap.size) s.heap H locs ([c_PC ad, c_TA ad cA ta tw, c_CO ad cA co_2 ct_2].flatten) := hH
          exact q_reti C0 hH (co_2, ct_2) rfl h d_PC_coded_47
        · have h := h.2 c
          refine lv_iconst (v := (-1)) hx hb d_PC_coded_36 (by decide) ?_
          exact q_reti C0 hH (co_2, ct_2) rfl h d_PC_coded_37
      · have h := h.2 c
        refine lv_iconst (v := (-1)) hx hb d_PC_coded_15 (by decide) ?_
        exact q_reti C0 hH (co, ct) rfl h d_PC_coded_16
theorem d_PC_count_0 : decode b_PC_count 0 = .ok (.iload_n 1, 1) := by decide +kernel
theorem d_PC_count_1 : decode b_PC_count 1 = .ok (.tableswitch 102 0 6 #[43, 51, 62, 70, 78, 86, 94], 43) := by decide +kernel
theorem d_PC_count_44 : decode b_PC_count 44 = .ok (.aload_n 0, 1) := by decide +kernel
theorem d_PC_count_45 : decode b_PC_count 45 = .ok (.getfield 12, 3) := by decide +kernel
theorem d_PC_count_48 : decode b_PC_count 48 = .ok (.getfield 51, 3) := by decide +kernel
theorem d_PC_count_51 : decode b_PC_count 51 = .ok (.ireturn, 1) := by decide +kernel
theorem d_PC_count_52 : decode b_PC_count 52 = .ok (.aload_n 0, 1) := by decide +kernel
theorem d_PC_count_53 : decode b_PC_count 53 = .ok (.getfield 12, 3) := by decide +kernel
theorem d_PC_count_56 : decode b_PC_count 56 = .ok (.getfield 41, 3) := by decide +kernel
theorem d_PC_count_59 : decode b_PC_count 59 = .ok (.getfield 45, 3) := by decide +kernel
theorem d_PC_count_62 : decode b_PC_count 62 = .ok (.ireturn, 1) := by decide +kernel
theorem d_PC_count_63 : decode b_PC_count 63 = .ok (.aload_n 0, 1) := by decide +kernel
theorem d_PC_count_64 : decode b_PC_count 64 = .ok (.getfield 12, 3) := by decide +kernel
theorem d_PC_count_67 : decode b_PC_count 67 = .ok (.getfield 54, 3) := by decide +kernel
theorem d_PC_count_70 : decode b_PC_count 70 = .ok (.ireturn, 1) := by decide +kernel
theorem d_PC_count_71 : decode b_PC_count 71 = .ok (.aload_n 0, 1) := by decide +kernel
theorem d_PC_count_72 : decode b_PC_count 72 = .ok (.getfield 28, 3) := by decide +kernel
theorem d_PC_count_75 : decode b_PC_count 75 = .ok (.getfield 100, 3) := by decide +kernel
theorem d_PC_count_78 : decode b_PC_count 78 = .ok (.ireturn, 1) := by decide +kernel
theorem d_PC_count_79 : decode b_PC_count 79 = .ok (.aload_n 0, 1) := by decide +kernel
theorem d_PC_count_80 : decode b_PC_count 80 = .ok (.getfield 28, 3) := by decide +kernel
theorem d_PC_count_83 : decode b_PC_count 83 = .ok (.getfield 111, 3) := by decide +kernel
theorem d_PC_count_86 : decode b_PC_count 86 = .ok (.ireturn, 1) := by decide +kernel
theorem d_PC_count_87 : decode b_PC_count 87 = .ok (.aload_n 0, 1) := by decide +kernel
theorem d_PC_count_88 : decode b_PC_count 88 = .ok (.getfield 28, 3) := by decide +kernel
theorem d_PC_count_91 : decode b_PC_count 91 = .ok (.getfield 127, 3) := by decide +kernel
theorem d_PC_count_94 : decode b_PC_count 94 = .ok (.ireturn, 1) := by decide +kernel
theorem d_PC_count_95 : decode b_PC_count 95 = .ok (.aload_n 0, 1) := by decide +kernel
theorem d_PC_count_96 : decode b_PC_count 96 = .ok (.getfield 28, 3) := by decide +kernel
theorem d_PC_count_99 : decode b_PC_count 99 = .ok (.getfield 149, 3) := by decide +kernel
theorem d_PC_count_102 : decode b_PC_count 102 = .ok (.ireturn, 1) := by decide +kernel
theorem d_PC_count_103 : decode b_PC_count 103 = .ok (.iconst (-1), 1) := by decide +kernel
theorem d_PC_count_104 : decode b_PC_count 104 = .ok (.ireturn, 1) := by decide +kernel
set_option maxHeartbeats 4000000 in
set_option maxRecDepth 100000 in
theorem c_PC_count (l : Launch) (dC : Nat → ClassId) (dI : Nat → Nat → Nat) (cA : ClassId) (ad : Nat → Nat) (x1 : Int32) (fo : tForm) (fr : tRows) (ta : tTask) (tw : tWays) (Q : Int32 → Prop) (sz : Nat) (h : w_PC_count x1 fo fr ta Q) :
    q_Mi l y_PC_count b_PC_count 2 (some .int) 0 0 [.ref (ad 0), .int x1] dC dI cA ([c_PC ad, c_FO ad cA fo, c_FR ad cA fr, c_TA ad cA ta tw].flatten) (fun _ : Unit => [c_PC ad, c_FO ad cA fo, c_FR ad cA fr, c_TA ad cA ta tw].flatten) sz (fun r _ => Q r) := by
  refine q_meti (plainFor_of_name (by decide +kernel)) (Nat.le_of_ble_eq_true rfl) (fun {p e s m below meth c ls} C0 hl hH => ?_)
  obtain ⟨hx, hb, -⟩ := id C0
  have hA : ∀ q, s.heap.size ≤ q → va_A ([c_PC ad, c_FO ad cA fo, c_FR ad cA fr, c_TA ad cA ta tw].flatten) s.heap.size q := q_nA
  have hl : lv_has ls 2 [(0, .ref (ad 0)), (1, .int x1)] := hl
  unfold w_PC_count at h
  refine lv_iload_n hx hb d_PC_count_0 rfl (lv_at hl 1 rfl) ?_
  rcases q_tc7 x1 with c | c | c | c | c | c | c | c
  · have h := h.1 c
    refine lv_tableOut (tgt := 103) hx hb d_PC_count_1 c (by decide) ?_
    refine lv_iconst (v := (-1)) hx hb d_PC_count_103 (by decide) ?_
    exact q_reti C0 hH () rfl h d_PC_count_104
  · have h := h.2.1 c
    refine lv_tableIn (tgt := 44) hx hb d_PC_count_1 (by rw [c]; decide) (by rw [c]; decide) (by rw [c]; rfl) (by decide) ?_
    refine lv_aload_n hx hb d_PC_count_44 rfl (lv_at hl 0 rfl) ?_
    refine q_get (v := .ref (ad 1)) C0 hH 0 rfl hc_0 0 (by decide) k_256 rfl d_PC_count_45 ?_
    refine q_get (v := .int fo.width) C0 hH 1 rfl hc_1 0 (by decide) k_52 rfl d_PC_count_48 ?_
    exact q_reti C0 hH () rfl h d_PC_count_51
  · have h := h.2.2.1 c
    refine lv_tableIn (tgt := 52) hx hb d_PC_count_1 (by rw [c]; decide) (by rw [c]; decide) (by rw [c]; rfl) (by decide) ?_
    refine lv_aload_n hx hb d_PC_count_52 rfl (lv_at hl 0 rfl) ?_
    refine q_get (v := .ref (ad 1)) C0 hH 0 rfl hc_0 0 (by decide) k_256 rfl d_PC_count_53 ?_
    refine q_get (v := .ref (ad 5)) C0 hH 1 rfl hc_1 5 (by decide) k_62 rfl d_PC_count_56 ?_
    refine q_get (v := .int fr.size) C0 hH 5 rfl hc_2 2 (by decide) k_38 rfl d_PC_count_59 ?_
    exact q_reti C0 hH () rfl h d_PC_count_62
  · have h := h.2.2.2.1 c
    refine lv_tableIn (tgt := 63) hx hb d_PC_count_1 (by rw [c]; decide) (by rw [c]; decide) (by rw [c]; rfl) (by decide) ?_
    refine lv_aload_n hx hb d_PC_count_63 rfl (lv_at hl 0 rfl) ?_
    refine q_get (v := .ref (ad 1)) C0 hH 0 rfl hc_0 0 (by decide) k_256 rfl d_PC_count_64 ?_
    refine q_get (v := .int fo.draftSize) C0 hH 1 rfl hc_1 1 (by decide) k_55 rfl d_PC_count_67 ?_
    exact q_reti C0 hH () rfl h d_PC_count_70
  · have h := h.2.2.2.2.1 c
    refine lv_tableIn (tgt := 71) hx hb d_PC_count_1 (by rw [c]; decide) (by rw [c]; decide) (by rw [c]; rfl) (by decide) ?_
    refine lv_aload_n hx hb d_PC_count_71 rfl (lv_at hl 0 rfl) ?_
    refine q_get (v := .ref (ad 20)) C0 hH 0 rfl hc_0 2 (by decide) k_258 rfl d_PC_count_72 ?_
    refine q_get (v := .int ta.factCount) C0 hH 8 rfl hc_6 0 (by decide) k_189 rfl d_PC_count_75 ?_
    exact q_reti C0 hH () rfl h d_PC_count_78
  · have h := h.2.2.2.2.2.1 c
    refine lv_tableIn (tgt := 79) hx hb d_PC_count_1 (by rw [c]; decide) (by rw [c]; decide) (by rw [c]; rfl) (by decide) ?_
    refine lv_aload_n hx hb d_PC_count_79 rfl (lv_at hl 0 rfl) ?_
    refine q_get (v := .ref (ad 20)) C0 hH 0 rfl hc_0 2 (by decide) k_258 rfl d_PC_count_80 ?_
    refine q_get (v := .int ta.actionCount) C0 hH 8 rfl hc_6 1 (by decide) k_192 rfl d_PC_count_83 ?_
    exact q_reti C0 hH () rfl h d_PC_count_86
  · have h := h.2.2.2.2.2.2.1 c
    refine lv_tableIn (tgt := 87) hx hb d_PC_count_1 (by rw [c]; decide) (by rw [c]; decide) (by rw [c]; rfl) (by decide) ?_
    refine lv_aload_n hx hb d_PC_count_87 rfl (lv_at hl 0 rfl) ?_
    refine q_get (v := .ref (ad 20)) C0 hH 0 rfl hc_0 2 (by decide) k_258 rfl d_PC_count_88 ?_
    refine q_get (v := .int ta.beginning) C0 hH 8 rfl hc_6 2 (by decide) k_195 rfl d_PC_count_91 ?_
    exact q_reti C0 hH () rfl h d_PC_count_94
  · have h := h.2.2.2.2.2.2.2 c
    refine lv_tableIn (tgt := 95) hx hb d_PC_count_1 (by rw [c]; decide) (by rw [c]; decide) (by rw [c]; rfl) (by decide) ?_
    refine lv_aload_n hx hb d_PC_count_95 rfl (lv_at hl 0 rfl) ?_
    refine q_get (v := .ref (ad 20)) C0 hH 0 rfl hc_0 2 (by decide) k_258 rfl d_PC_count_96 ?_
    refine q_get (v := .int ta.goal) C0 hH 8 rfl hc_6 3 (by decide) k_198 rfl d_PC_count_99 ?_
    exact q_reti C0 hH () rfl h d_PC_count_102
theorem d_Ref_in_0 : decode b_Ref_in 0 = .ok (.iload_n 0, 1) := by decide +kernel
theorem d_Ref_in_1 : decode b_Ref_in 1 = .ok (.iload_n 1, 1) := by decide +kernel
theorem d_Ref_in_2 : decode b_Ref_in 2 = .ok (.if_icmp .lt 12, 3) := by decide +kernel
theorem d_Ref_in_5 : decode b_Ref_in 5 = .ok (.iload_n 0, 1) := by decide +kernel
theorem d_Ref_in_6 : decode b_Ref_in 6 = .ok (.iload_n 2, 1) := by decide +kernel
theorem d_Ref_in_7 : decode b_Ref_in 7 = .ok (.if_icmp .gt 7, 3) := by decide +kernel
theorem d_Ref_in_10 : decode b_Ref_in 10 = .ok (.iconst 1, 1) := by decide +kernel
theorem d_Ref_in_11 : decode b_Ref_in 11 = .ok (.goto 4, 3) := by decide +kernel
theorem d_Ref_in_14 : decode b_Ref_in 14 = .ok (.iconst 0, 1) := by decide +kernel
theorem d_Ref_in_15 : decode b_Ref_in 15 = .ok (.ireturn, 1) := by decide +kernel
set_option maxHeartbeats 4000000 in
set_option maxRecDepth 100000 in
theorem c_Ref_in (l : Launch) (dC : Nat → ClassId) (dI : Nat → Nat → Nat) (cA : ClassId) (ad : Nat → Nat) (x0 : Int32) (x1 : Int32) (x2 : Int32) (Q : Int32 → Prop) (sz : Nat) (h : w_Ref_in x0 x1 x2 Q) :
    q_Mi l y_Ref_in b_Ref_in 3 (some .boolean) 0 0 [.int x0, .int x1, .int x2] dC dI cA ([]) (fun _ : Unit => []) sz (fun r _ => Q r) := by
  refine q_meti (plainFor_of_name (by decide +kernel)) (Nat.le_of_ble_eq_true rfl) (fun {p e s m below meth c ls} C0 hl hH => ?_)
  obtain ⟨hx, hb, -⟩ := id C0
  have hA : ∀ q, s.heap.size ≤ q → va_A ([]) s.heap.size q := q_nA
  have hl : lv_has ls 3 [(0, .int x0), (1, .int x1), (2, .int x2)] := hl
  unfold w_Ref_in at h
  refine lv_iload_n hx hb d_Ref_in_0 rfl (lv_at hl 0 rfl) ?_
  refine lv_iload_n hx hb d_Ref_in_1 rfl (lv_at hl 1 rfl) ?_
  refine lv_icmp_lt (tgt := 14) hx hb d_Ref_in_2 (by decide) (fun c => ?_) (fun c => ?_)
  · have h := h.1 c
    refine lv_iconst (v := 0) hx hb d_Ref_in_14 (by decide) ?_
    exact q_retz C0 hH () rfl (Or.inl rfl) h d_Ref_in_15
  · have h := h.2 c
    refine lv_iload_n hx hb d_Ref_in_5 rfl (lv_at hl 0 rfl) ?_
    refine lv_iload_n hx hb d_Ref_in_6 rfl (lv_at hl 2 rfl) ?_
    refine lv_icmp_gt (tgt := 14) hx hb d_Ref_in_7 (by decide) (fun c => ?_) (fun c => ?_)
    · have h := h.1 c
      refine lv_iconst (v := 0) hx hb d_Ref_in_14 (by decide) ?_
      exact q_retz C0 hH () rfl (Or.inl rfl) h d_Ref_in_15
    · have h := h.2 c
      refine lv_iconst (v := 1) hx hb d_Ref_in_10 (by decide) ?_
      refine lv_goto (tgt := 15) hx hb d_Ref_in_11 (by decide) ?_
      exact q_retz C0 hH () rfl (Or.inr rfl) h d_Ref_in_15
theorem d_Ref_variables_0 : decode b_Ref_variables 0 = .ok (.iload_n 1, 1) := by decide +kernel
theorem d_Ref_variables_1 : decode b_Ref_variables 1 = .ok (.iconst 0, 1) := by decide +kernel
theorem d_Ref_variables_2 : decode b_Ref_variables 2 = .ok (.bipush 30, 2) := by decide +kernel
theorem d_Ref_variables_4 : decode b_Ref_variables 4 = .ok (.invokestatic 59, 3) := by decide +kernel
theorem d_Ref_variables_7 : decode b_Ref_variables 7 = .ok (.ifCond .ne 5, 3) := by decide +kernel
theorem d_Ref_variables_10 : decode b_Ref_variables 10 = .ok (.iconst (-1), 1) := by decide +kernel
theorem d_Ref_variables_11 : decode b_Ref_variables 11 = .ok (.ireturn, 1) := by decide +kernel
theorem d_Ref_variables_12 : decode b_Ref_variables 12 = .ok (.aload_n 0, 1) := by decide +kernel
theorem d_Ref_variables_13 : decode b_Ref_variables 13 = .ok (.getfield 63, 3) := by decide +kernel
theorem d_Ref_variables_16 : decode b_Ref_variables 16 = .ok (.ifCond .le 6, 3) := by decide +kernel
theorem d_Ref_variables_19 : decode b_Ref_variables 19 = .ok (.bipush (-2), 2) := by decide +kernel
theorem d_Ref_variables_21 : decode b_Ref_variables 21 = .ok (.ireturn, 1) := by decide +kernel
theorem d_Ref_variables_22 : decode b_Ref_variables 22 = .ok (.aload_n 0, 1) := by decide +kernel
theorem d_Ref_variables_23 : decode b_Ref_variables 23 = .ok (.getfield 55, 3) := by decide +kernel
theorem d_Ref_variables_26 : decode b_Ref_variables 26 = .ok (.istore_n 2, 1) := by decide +kernel
theorem d_Ref_variables_27 : decode b_Ref_variables 27 = .ok (.aload_n 0, 1) := by decide +kernel
theorem d_Ref_variables_28 : decode b_Ref_variables 28 = .ok (.iload_n 1, 1) := by decide +kernel
theorem d_Ref_variables_29 : decode b_Ref_variables 29 = .ok (.putfield 55, 3) := by decide +kernel
theorem d_Ref_variables_32 : decode b_Ref_variables 32 = .ok (.aload_n 0, 1) := by decide +kernel
theorem d_Ref_variables_33 : decode b_Ref_variables 33 = .ok (.iconst 0, 1) := by decide +kernel
theorem d_Ref_variables_34 : decode b_Ref_variables 34 = .ok (.putfield 66, 3) := by decide +kernel
theorem d_Ref_variables_37 : decode b_Ref_variables 37 = .ok (.aload_n 0, 1) := by decide +kernel
theorem d_Ref_variables_38 : decode b_Ref_variables 38 = .ok (.iconst 0, 1) := by decide +kernel
theorem d_Ref_variables_39 : decode b_Ref_variables 39 = .ok (.putfield 69, 3) := by decide +kernel
theorem d_Ref_variables_42 : decode b_Ref_variables 42 = .ok (.iload_n 2, 1) := by decide +kernel
theorem d_Ref_variables_43 : decode b_Ref_variables 43 = .ok (.ireturn, 1) := by decide +kernel
set_option maxHeartbeats 4000000 in
set_option maxRecDepth 100000 in
theorem c_Ref_variables (l : Launch) (dC : Nat → ClassId) (dI : Nat → Nat → Nat) (cA : ClassId) (ad : Nat → Nat) (x1 : Int32) (ma : mForm) (mn : mKnow) (ms : mSat) (mb : mBack) (mt : mTask) (mw : (Nat → Int32)) (mg : mGo) (md : mCode) (Q : Int32 → mForm → mKnow → Prop) (sz : Nat) (h : w_Ref_variables x1 ma mn Q) :
    q_Mi l y_Ref_variables b_Ref_variables 3 (some .int) 1 22 [.ref (ad 28), .int x1] dC dI cA ([c_RE ad cA ma mn ms mb mt mw mg md].flatten) (fun u : mForm × mKnow => [c_RE ad cA u.1 u.2 ms mb mt mw mg md].flatten) sz (fun r u => Q r u.1 u.2) := by
  refine q_meti (plainFor_of_name (by decide +kernel)) (Nat.le_of_ble_eq_true rfl) (fun {p e s m below meth c ls} C0 hl hH => ?_)
  obtain ⟨hx, hb, -⟩ := id C0
  have hA : ∀ q, s.heap.size ≤ q → va_A ([c_RE ad cA ma mn ms mb mt mw mg md].flatten) s.heap.size q := q_nA
  have hl : lv_has ls 3 [(0, .ref (ad 28)), (1, .int x1)] := hl
  unfold w_Ref_variables at h
  refine lv_iload_n hx hb d_Ref_variables_0 rfl (lv_at hl 1 rfl) ?_
  refine lv_iconst (v := 0) hx hb d_Ref_variables_1 (by decide) ?_
  refine lv_bipush (v := 30) hx hb d_Ref_variables_2 (by decide) ?_
  refine q_calls (rest := []) C0 hH hA (c_Ref_in l dC dI cA ad x1 0 30 _ _ h) Y_Ref_in k_735 ⟨Nat.le_of_ble_eq_true rfl, Nat.le_of_ble_eq_true rfl⟩ rfl rfl (Nat.le_of_ble_eq_true rfl) hl.1 d_Ref_variables_4 ⟨Nat.le_refl 0, Nat.le_refl 0⟩ (fun r_1 H locs h hH => ?_)
  try dsimp only at h
  refine lv_if_ne (tgt := 12) hx hb d_Ref_variables_7 (by decide) (fun c => ?_) (fun c => ?_)
  · have h := h.1 c
    refine lv_aload_n hx hb d_Ref_variables_12 rfl (lv_at hl 0 rfl) ?_
    refine q_get (v := .int ma.clauses) C0 hH 0 rfl hc_8 1 (by decide) k_623 rfl d_Ref_variables_13 ?_
    refine lv_if_le (tgt := 22) hx hb d_Ref_variables_16 (by decide) (fun c => ?_) (fun c => ?_)
    · have h := h.1 c
      refine lv_aload_n hx hb d_Ref_variables_22 rfl (lv_at hl 0 rfl) ?_
      refine q_get (v := .int ma.variables) C0 hH 0 rfl hc_8 0 (by decide) k_622 rfl d_Ref_variables_23 ?_
      refine lv_istore_n (lv' := [(2, .int ma.variables), (0, .ref (ad 28)), (1, .int x1)]) hx hb d_Ref_variables_26 rfl hl (by decide) rfl (fun ls hl => ?_)
      refine lv_aload_n hx hb d_Ref_variables_27 rfl (lv_at hl 1 rfl) ?_
      refine lv_iload_n hx hb d_Ref_variables_28 rfl (lv_at hl 2 rfl) ?_
      refine q_puti (ws' := [c_RE ad cA (mForm.mk x1 ma.clauses ma.literals ma.sizes ma.told ma.toldNot ma.drafted ma.draft) mn ms mb mt mw mg md].flatten) C0 hH 0 rfl hc_8 0 (by decide) k_622 rfl rfl (Nat.le_of_ble_eq_true rfl) rfl d_Ref_variables_29 (fun H locs hH => ?_)
      refine lv_aload_n hx hb d_Ref_variables_32 rfl (lv_at hl 1 rfl) ?_
      refine lv_iconst (v := 0) hx hb d_Ref_variables_33 (by decide) ?_
      refine q_puti (ws' := [c_RE ad cA (mForm.mk x1 ma.clauses ma.literals ma.sizes ma.told ma.toldNot 0 ma.draft) mn ms mb mt mw mg md].flatten) C0 hH 0 rfl hc_8 6 (by decide) k_628 rfl rfl (Nat.le_of_ble_eq_true rfl) rfl d_Ref_variables_34 (fun H locs hH => ?_)
      refine lv_aload_n hx hb d_Ref_variables_37 rfl (lv_at hl 1 rfl) ?_
      refine lv_iconst (v := 0) hx hb d_Ref_variables_38 (by decide) ?_
      refine q_putz (ws' := [c_RE ad cA (mForm.mk x1 ma.clauses ma.literals ma.sizes ma.told ma.toldNot 0 ma.draft) (mKnow.mk 0 mn.many mn.found) ms mb mt mw mg md].flatten) C0 hH 0 rfl hc_8 8 (by decide) k_630 rfl rfl (Or.inl rfl) (Nat.le_of_ble_eq_true rfl) rfl d_Ref_variables_39 (fun H locs hH => ?_)
      refine lv_iload_n hx hb d_Ref_variables_42 rfl (lv_at hl 0 rfl) ?_
      exact q_reti C0 hH ((mForm.mk x1 ma.clauses ma.literals ma.sizes ma.told ma.toldNot 0 ma.draft), (mKnow.mk 0 mn.many mn.found)) rfl h d_Ref_variables_43
    · have h := h.2 c
      refine lv_bipush (v := (-2)) hx hb d_Ref_variables_19 (by decide) ?_
      exact q_reti C0 hH (ma, mn) rfl h d_Ref_variables_21
  · have h := h.2 c
    refine lv_iconst (v := (-1)) hx hb d_Ref_variables_10 (by decide) ?_
    exact q_reti C0 hH (ma, mn) rfl h d_Ref_variables_11
theorem d_Ref_isLiteral_0 : decode b_Ref_isLiteral 0 = .ok (.iload_n 1, 1) := by decide +kernel
theorem d_Ref_isLiteral_1 : decode b_Ref_isLiteral 1 = .ok (.aload_n 0, 1) := by decide +kernel
theorem d_Ref_isLiteral_2 : decode b_Ref_isLiteral 2 = .ok (.getfield 55, 3) := by decide +kernel
theorem d_Ref_isLiteral_5 : decode b_Ref_isLiteral 5 = .ok (.ineg, 1) := by decide +kernel
theorem d_Ref_isLiteral_6 : decode b_Ref_isLiteral 6 = .ok (.if_icmp .lt 19, 3) := by decide +kernel
theorem d_Ref_isLiteral_9 : decode b_Ref_isLiteral 9 = .ok (.iload_n 1, 1) := by decide +kernel
theorem d_Ref_isLiteral_10 : decode b_Ref_isLiteral 10 = .ok (.aload_n 0, 1) := by decide +kernel
theorem d_Ref_isLiteral_11 : decode b_Ref_isLiteral 11 = .ok (.getfield 55, 3) := by decide +kernel
theorem d_Ref_isLiteral_14 : decode b_Ref_isLiteral 14 = .ok (.if_icmp .gt 11, 3) := by decide +kernel
theorem d_Ref_isLiteral_17 : decode b_Ref_isLiteral 17 = .ok (.iload_n 1, 1) := by decide +kernel
theorem d_Ref_isLiteral_18 : decode b_Ref_isLiteral 18 = .ok (.ifCond .eq 7, 3) := by decide +kernel
theorem d_Ref_isLiteral_21 : decode b_Ref_isLiteral 21 = .ok (.iconst 1, 1) := by decide +kernel
theorem d_Ref_isLiteral_22 : decode b_Ref_isLiteral 22 = .ok (.goto 4, 3) := by decide +kernel
theorem d_Ref_isLiteral_25 : decode b_Ref_isLiteral 25 = .ok (.iconst 0, 1) := by decide +kernel
theorem d_Ref_isLiteral_26 : decode b_Ref_isLiteral 26 = .ok (.ireturn, 1) := by decide +kernel
set_option maxHeartbeats 4000000 in
set_option maxRecDepth 100000 in
theorem c_Ref_isLiteral (l : Launch) (dC : Nat → ClassId) (dI : Nat → Nat → Nat) (cA : ClassId) (ad : Nat → Nat) (x1 : Int32) (ma : mForm) (mn : mKnow) (ms : mSat) (mb : mBack) (mt : mTask) (mw : (Nat → Int32)) (mg : mGo) (md : mCode) (Q : Int32 → Prop) (sz : Nat) (h : w_Ref_isLiteral x1 ma Q) :
    q_Mi l y_Ref_isLiteral b_Ref_isLiteral 2 (some .boolean) 0 0 [.ref (ad 28), .int x1] dC dI cA ([c_RE ad cA ma mn ms mb mt mw mg md].flatten) (fun _ : Unit => [c_RE ad cA ma mn ms mb mt mw mg md].flatten) sz (fun r _ => Q r) := by
  refine q_meti (plainFor_of_name (by decide +kernel)) (Nat.le_of_ble_eq_true rfl) (fun {p e s m below meth c ls} C0 hl hH => ?_)
  obtain ⟨hx, hb, -⟩ := id C0
  have hA : ∀ q, s.heap.size ≤ q → va_A ([c_RE ad cA ma mn ms mb mt mw mg md].flatten) s.heap.size q := q_nA
  have hl : lv_has ls 2 [(0, .ref (ad 28)), (1, .int x1)] := hl
  unfold w_Ref_isLiteral at h
  refine lv_iload_n hx hb d_Ref_isLiteral_0 rfl (lv_at hl 1 rfl) ?_
  refine lv_aload_n hx hb d_Ref_isLiteral_1 rfl (lv_at hl 0 rfl) ?_
  refine q_get (v := .int ma.variables) C0 hH 0 rfl hc_8 0 (by decide) k_622 rfl d_Ref_isLiteral_2 ?_
  refine lv_ineg hx hb d_Ref_isLiteral_5 ?_
  refine lv_icmp_lt (tgt := 25) hx hb d_Ref_isLiteral_6 (by decide) (fun c => ?_) (fun c => ?_)
  · have h := h.1 c
    refine lv_iconst (v := 0) hx hb d_Ref_isLiteral_25 (by decide) ?_
    exact q_retz C0 hH () rfl (Or.inl rfl) h d_Ref_isLiteral_26
  · have h := h.2 c
    refine lv_iload_n hx hb d_Ref_isLiteral_9 rfl (lv_at hl 1 rfl) ?_
    refine lv_aload_n hx hb d_Ref_isLiteral_10 rfl (lv_at hl 0 rfl) ?_
    refine q_get (v := .int ma.variables) C0 hH 0 rfl hc_8 0 (by decide) k_622 rfl d_Ref_isLiteral_11 ?_
    refine lv_icmp_gt (tgt := 25) hx hb d_Ref_isLiteral_14 (by decide) (fun c => ?_) (fun c => ?_)
    · have h := h.1 c
      refine lv_iconst (v := 0) hx hb d_Ref_isLiteral_25 (by decide) ?_
      exact q_retz C0 hH () rfl (Or.inl rfl) h d_Ref_isLiteral_26
    · have h := h.2 c
      refine lv_iload_n hx hb d_Ref_isLiteral_17 rfl (lv_at hl 1 rfl) ?_
      refine lv_if_eq (tgt := 25) hx hb d_Ref_isLiteral_18 (by decide) (fun c => ?_) (fun c => ?_)
      · have h := h.1 c
        refine lv_iconst (v := 0) hx hb d_Ref_isLiteral_25 (by decide) ?_
        exact q_retz C0 hH () rfl (Or.inl rfl) h d_Ref_isLiteral_26
      · have h := h.2 c
        refine lv_iconst (v := 1) hx hb d_Ref_isLiteral_21 (by decide) ?_
        refine lv_goto (tgt := 26) hx hb d_Ref_isLiteral_22 (by decide) ?_
        exact q_retz C0 hH () rfl (Or.inr rfl) h d_Ref_isLiteral_26
theorem d_Ref_size_0 : decode b_Ref_size 0 = .ok (.iload_n 0, 1) := by decide +kernel
theorem d_Ref_size_1 : decode b_Ref_size 1 = .ok (.ifCond .ge 8, 3) := by decide +kernel
theorem d_Ref_size_4 : decode b_Ref_size 4 = .ok (.iload_n 0, 1) := by decide +kernel
theorem d_Ref_size_5 : decode b_Ref_size 5 = .ok (.ineg, 1) := by decide +kernel
theorem d_Ref_size_6 : decode b_Ref_size 6 = .ok (.goto 4, 3) := by decide +kernel
theorem d_Ref_size_9 : decode b_Ref_size 9 = .ok (.iload_n 0, 1) := by decide +kernel
theorem d_Ref_size_10 : decode b_Ref_size 10 = .ok (.ireturn, 1) := by decide +kernel
set_option maxHeartbeats 4000000 in
set_option maxRecDepth 100000 in
theorem c_Ref_size (l : Launch) (dC : Nat → ClassId) (dI : Nat → Nat → Nat) (cA : ClassId) (ad : Nat → Nat) (x0 : Int32) (Q : Int32 → Prop) (sz : Nat) (h : w_Ref_size x0 Q) :
    q_Mi l y_Ref_size b_Ref_size 1 (some .int) 0 0 [.int x0] dC dI cA ([]) (fun _ : Unit => []) sz (fun r _ => Q r) := by
  refine q_meti (plainFor_of_name (by decide +kernel)) (Nat.le_of_ble_eq_true rfl) (fun {p e s m below meth c ls} C0 hl hH => ?_)
  obtain ⟨hx, hb, -⟩ := id C0
  have hA : ∀ q, s.heap.size ≤ q → va_A ([]) s.heap.size q := q_nA
  have hl : lv_has ls 1 [(0, .int x0)] := hl
  unfold w_Ref_size at h
  refine lv_iload_n hx hb d_Ref_size_0 rfl (lv_at hl 0 rfl) ?_
  refine lv_if_ge (tgt := 9) hx hb d_Ref_size_1 (by decide) (fun c => ?_) (fun c => ?_)
  · have h := h.1 c
    refine lv_iload_n hx hb d_Ref_size_9 rfl (lv_at hl 0 rfl) ?_
    exact q_reti C0 hH () rfl h d_Ref_size_10
  · have h := h.2 c
    refine lv_iload_n hx hb d_Ref_size_4 rfl (lv_at hl 0 rfl) ?_
    refine lv_ineg hx hb d_Ref_size_5 ?_
    refine lv_goto (tgt := 10) hx hb d_Ref_size_6 (by decide) ?_
    exact q_reti C0 hH () rfl h d_Ref_size_10
theorem d_Ref_literal_0 : decode b_Ref_literal 0 = .ok (.aload_n 0, 1) := by decide +kernel
theorem d_Ref_literal_1 : decode b_Ref_literal 1 = .ok (.iload_n 1, 1) := by decide +kernel
theorem d_Ref_literal_2 : decode b_Ref_literal 2 = .ok (.invokevirtual 73, 3) := by decide +kernel
theorem d_Ref_literal_5 : decode b_Ref_literal 5 = .ok (.ifCond .ne 5, 3) := by decide +kernel
theorem d_Ref_literal_8 : decode b_Ref_literal 8 = .ok (.iconst (-1), 1) := by decide +kernel
theorem d_Ref_literal_9 : decode b_Ref_literal 9 = .ok (.ireturn, 1) := by decide +kernel
theorem d_Ref_literal_10 : decode b_Ref_literal 10 = .ok (.iconst 0, 1) := by decide +kernel
theorem d_Ref_literal_11 : decode b_Ref_literal 11 = .ok (.istore_n 2, 1) := by decide +kernel
theorem d_Ref_literal_12 : decode b_Ref_literal 12 = .ok (.iload_n 2, 1) := by decide +kernel
theorem d_Ref_literal_13 : decode b_Ref_literal 13 = .ok (.aload_n 0, 1) := by decide +kernel
theorem d_Ref_literal_14 : decode b_Ref_literal 14 = .ok (.getfield 66, 3) := by decide +kernel
theorem d_Ref_literal_17 : decode b_Ref_literal 17 = .ok (.if_icmp .ge 27, 3) := by decide +kernel
theorem d_Ref_literal_20 : decode b_Ref_literal 20 = .ok (.aload_n 0, 1) := by decide +kernel
theorem d_Ref_literal_21 : decode b_Ref_literal 21 = .ok (.getfield 22, 3) := by decide +kernel
theorem d_Ref_literal_24 : decode b_Ref_literal 24 = .ok (.iload_n 2, 1) := by decide +kernel
theorem d_Ref_literal_25 : decode b_Ref_literal 25 = .ok (.iaload, 1) := by decide +kernel
theorem d_Ref_literal_26 : decode b_Ref_literal 26 = .ok (.invokestatic 77, 3) := by decide +kernel
theorem d_Ref_literal_29 : decode b_Ref_literal 29 = .ok (.iload_n 1, 1) := by decide +kernel
theorem d_Ref_literal_30 : decode b_Ref_literal 30 = .ok (.invokestatic 77, 3) := by decide +kernel
theorem d_Ref_literal_33 : decode b_Ref_literal 33 = .ok (.if_icmp .ne 5, 3) := by decide +kernel
theorem d_Ref_literal_36 : decode b_Ref_literal 36 = .ok (.iconst (-1), 1) := by decide +kernel
theorem d_Ref_literal_37 : decode b_Ref_literal 37 = .ok (.ireturn, 1) := by decide +kernel
theorem d_Ref_literal_38 : decode b_Ref_literal 38 = .ok (.iinc 2 1, 3) := by decide +kernel
theorem d_Ref_literal_41 : decode b_Ref_literal 41 = .ok (.goto (-29), 3) := by decide +kernel
theorem d_Ref_literal_44 : decode b_Ref_literal 44 = .ok (.aload_n 0, 1) := by decide +kernel
theorem d_Ref_literal_45 : decode b_Ref_literal 45 = .ok (.getfield 66, 3) := by decide +kernel
theorem d_Ref_literal_48 : decode b_Ref_literal 48 = .ok (.bipush 6, 2) := by decide +kernel
theorem d_Ref_literal_50 : decode b_Ref_literal 50 = .ok (.if_icmp .ne 6, 3) := by decide +kernel
theorem d_Ref_literal_53 : decode b_Ref_literal 53 = .ok (.bipush (-3), 2) := by decide +kernel
theorem d_Ref_literal_55 : decode b_Ref_literal 55 = .ok (.ireturn, 1) := by decide +kernel
theorem d_Ref_literal_56 : decode b_Ref_literal 56 = .ok (.aload_n 0, 1) := by decide +kernel
theorem d_Ref_literal_57 : decode b_Ref_literal 57 = .ok (.getfield 22, 3) := by decide +kernel
theorem d_Ref_literal_60 : decode b_Ref_literal 60 = .ok (.aload_n 0, 1) := by decide +kernel
theorem d_Ref_literal_61 : decode b_Ref_literal 61 = .ok (.getfield 66, 3) := by decide +kernel
theorem d_Ref_literal_64 : decode b_Ref_literal 64 = .ok (.iload_n 1, 1) := by decide +kernel
theorem d_Ref_literal_65 : decode b_Ref_literal 65 = .ok (.iastore, 1) := by decide +kernel
theorem d_Ref_literal_66 : decode b_Ref_literal 66 = .ok (.aload_n 0, 1) := by decide +kernel
theorem d_Ref_literal_67 : decode b_Ref_literal 67 = .ok (.dup, 1) := by decide +kernel
theorem d_Ref_literal_68 : decode b_Ref_literal 68 = .ok (.getfield 66, 3) := by decide +kernel
theorem d_Ref_literal_71 : decode b_Ref_literal 71 = .ok (.iconst 1, 1) := by decide +kernel
theorem d_Ref_literal_72 : decode b_Ref_literal 72 = .ok (.iadd, 1) := by decide +kernel
theorem d_Ref_literal_73 : decode b_Ref_literal 73 = .ok (.putfield 66, 3) := by decide +kernel
theorem d_Ref_literal_76 : decode b_Ref_literal 76 = .ok (.aload_n 0, 1) := by decide +kernel
theorem d_Ref_literal_77 : decode b_Ref_literal 77 = .ok (.getfield 66, 3) := by decide +kernel
theorem d_Ref_literal_80 : decode b_Ref_literal 80 = .ok (.ireturn, 1) := by decide +kernel
set_option maxHeartbeats 4000000 in
set_option maxRecDepth 100000 in
theorem x_Ref_literal_L12 {p : Program} {e : Env} {s : State} {m : MethodId} {args : Array Value} {below : List Frame} {meth : Method} {c : Code} {l : Launch} {dC : Nat → ClassId} {dI : Nat → Nat → Nat} {cA : ClassId} {ad : Nat → Nat} {w0 : va_W} (C0 : q_C p s m args meth c b_Ref_literal 3 (some .int) "PlanClausesModel" dC dI cA) (hA : ∀ q, s.heap.size ≤ q → va_A w0 s.heap.size q) (x1 : Int32) (ma : mForm) (mn : mKnow) (ms : mSat) (mb : mBack) (mt : mTask) (mw : (Nat → Int32)) (mg : mGo) (md : mCode) {Q : Int32 → mForm → Prop} {K44 : Prop}
    (hK44 : ∀ (H : Heap) (locs : List Loc) (ls : Array Slot), K44  → lv_has ls 3 [(0, .ref (ad 28)), (1, .int x1)] → q_H dC dI (va_A w0 s.heap.size) s.heap H locs ([c_RE ad cA ma mn ms mb mt mw mg md].flatten) → W p l e (q_R 1 21) s m args below meth c H locs 0 0 (q_Zi below args s dC dI cA w0 (fun u : mForm => [c_RE ad cA u mn ms mb mt mw mg md].flatten) (fun r u => Q r u)) (F0 m 44 ls [])) :
    ∀ (nn : Nat) (x2 : Int32) (H : Heap) (locs : List Loc) (ls : Array Slot), w_Ref_literal_L12 x1 ma K44 Q nn x2 → lv_has ls 3 [(0, .ref (ad 28)), (1, .int x1), (2, .int x2)] → q_H dC dI (va_A w0 s.heap.size) s.heap H locs ([c_RE ad cA ma mn ms mb mt mw mg md].flatten) → W p l e (q_R 1 21) s m args below meth c H locs 0 0 (q_Zi below args s dC dI cA w0 (fun u : mForm => [c_RE ad cA u mn ms mb mt mw mg md].flatten) (fun r u => Q r u)) (F0 m 12 ls []) := by
  obtain ⟨hx, hb, -⟩ := id C0
  intro nn
  induction nn with
  | zero =>
    intro x2 H locs ls h
    exact (show False from h).elim
  | succ nn ih =>
    intro x2 H locs ls h hl hH
    rw [w_Ref_literal_L12] at h
    refine lv_iload_n hx hb d_Ref_literal_12 rfl (lv_at hl 2 rfl) ?_
    refine lv_aload_n hx hb d_Ref_literal_13 rfl (lv_at hl 0 rfl) ?_
    refine q_get (v := .int ma.drafted) C0 hH 0 rfl hc_8 6 (by decide) k_628 rfl d_Ref_literal_14 ?_
    refine lv_icmp_ge (tgt := 44) hx hb d_Ref_literal_17 (by decide) (fun c => ?_) (fun c => ?_)
    · have h := h.1 c
      exact hK44 _ _ _ h (lv_sub hl [0, 1] rfl) hH
    · have h := h.2 c
      refine lv_aload_n hx hb d_Ref_literal_20 rfl (lv_at hl 0 rfl) ?_
      refine q_get (v := .ref (ad 33)) C0 hH 0 rfl hc_8 7 (by decide) k_629 rfl d_Ref_literal_21 ?_
      refine lv_iload_n hx hb d_Ref_literal_24 rfl (lv_at hl 2 rfl) ?_
      obtain ⟨hi, h⟩ := h
      refine q_ald (f := ma.draft) C0 hH 5 rfl hi d_Ref_literal_25 ?_
      refine q_calls (rest := []) C0 hH hA (c_Ref_size l dC dI cA ad (ma.draft x2.toNatClampNeg) _ _ h) Y_Ref_size k_746 ⟨Nat.le_of_ble_eq_true rfl, Nat.le_of_ble_eq_true rfl⟩ rfl rfl (Nat.le_of_ble_eq_true rfl) hl.1 d_Ref_literal_26 ⟨Nat.le_refl 0, Nat.le_refl 0⟩ (fun r_1 H locs h hH => ?_)
      try dsimp only at h
      refine lv_iload_n hx hb d_Ref_literal_29 rfl (lv_at hl 1 rfl) ?_
      refine q_calls (rest := [.int r_1]) C0 hH hA (c_Ref_size l dC dI cA ad x1 _ _ h) Y_Ref_size k_746 ⟨Nat.le_of_ble_eq_true rfl, Nat.le_of_ble_eq_true rfl⟩ rfl rfl (Nat.le_of_ble_eq_true rfl) hl.1 d_Ref_literal_30 ⟨Nat.le_refl 0, Nat.le_refl 0⟩ (fun r_2 H locs h hH => ?_)
      try dsimp only at h
      refine lv_icmp_ne (tgt := 38) hx hb d_Ref_literal_33 (by decide) (fun c => ?_) (fun c => ?_)
      · have h := h.1 c
        refine lv_iinc (v := (x2 + 1)) (lv' := [(2, .int (x2 + 1)), (0, .ref (ad 28)), (1, .int x1)]) hx hb d_Ref_literal_38 hl (k := 2) rfl rfl (by decide) rfl (fun ls hl => ?_)
        refine lv_goto (tgt := 12) hx hb d_Ref_literal_41 (by decide) ?_
        exact ih (x2 + 1) _ _ _ h (lv_sub hl [1, 2, 0] rfl) hH
      · have h := h.2 c
        refine lv_iconst (v := (-1)) hx hb d_Ref_literal_36 (by decide) ?_
        exact q_reti C0 hH ma rfl h d_Ref_literal_37
set_option maxHeartbeats 4000000 in
set_option maxRecDepth 100000 in
theorem c_Ref_literal (l : Launch) (dC : Nat → ClassId) (dI : Nat → Nat → Nat) (cA : ClassId) (ad : Nat → Nat) (x1 : Int32) (ma : mForm) (mn : mKnow) (ms : mSat) (mb : mBack) (mt : mTask) (mw : (Nat → Int32)) (mg : mGo) (md : mCode) (Q : Int32 → mForm → Prop) (sz : Nat) (h : w_Ref_literal x1 ma Q) :
    q_Mi l y_Ref_literal b_Ref_literal 3 (some .int) 1 21 [.ref (ad 28), .int x1] dC dI cA ([c_RE ad cA ma mn ms mb mt mw mg md].flatten) (fun u : mForm => [c_RE ad cA u mn ms mb mt mw mg md].flatten) sz (fun r u => Q r u) := by
  refine q_meti (plainFor_of_name (by decide +kernel)) (Nat.le_of_ble_eq_true rfl) (fun {p e s m below meth c ls} C0 hl hH => ?_)
  obtain ⟨hx, hb, -⟩ := id C0
  have hA : ∀ q, s.heap.size ≤ q → va_A ([c_RE ad cA ma mn ms mb mt mw mg md].flatten) s.heap.size q := q_nA
  have hl : lv_has ls 3 [(0, .ref (ad 28)), (1, .int x1)] := hl
  unfold w_Ref_literal at h
  refine lv_aload_n hx hb d_Ref_literal_0 rfl (lv_at hl 0 rfl) ?_
  refine lv_iload_n hx hb d_Ref_literal_1 rfl (lv_at hl 1 rfl) ?_
  refine q_calli (rest := []) (ws' := fun _ : Unit => [c_RE ad cA ma mn ms mb mt mw mg md].flatten) C0 hH hA (c_Ref_isLiteral l dC dI cA ad x1 ma mn ms mb mt mw mg md _ _ h) Y_Ref_isLiteral k_742 0 rfl hc_8 (q_pg [0] [] [0] 1 1 rfl (by decide) rfl (fun _ => rfl) rfl (by decide) (fun _ => rfl)) ⟨Nat.le_of_ble_eq_true rfl, Nat.le_of_ble_eq_true rfl⟩ rfl rfl (Nat.le_of_ble_eq_true rfl) hl.1 d_Ref_literal_2 ⟨Nat.le_refl 0, Nat.le_refl 0⟩ (fun r_1 u_1 H locs h hH => ?_)
  try dsimp only at h
  have hH : q_H dC dI (va_A ([c_RE ad cA ma mn ms mb mt mw mg md].flatten) s.heap.size) s.heap H locs ([c_RE ad cA ma mn ms mb mt mw mg md].flatten) := hH
  refine lv_if_ne (tgt := 10) hx hb d_Ref_literal_5 (by decide) (fun c => ?_) (fun c => ?_)
  · have h := h.1 c
    refine lv_iconst (v := 0) hx hb d_Ref_literal_10 (by decide) ?_
    refine lv_istore_n (lv' := [(2, .int 0), (0, .ref (ad 28)), (1, .int x1)]) hx hb d_Ref_literal_11 rfl hl (by decide) rfl (fun ls hl => ?_)
    obtain ⟨nn, h⟩ := h
    refine x_Ref_literal_L12 C0 hA x1 ma mn ms mb mt mw mg md ?_ nn 0 _ _ _ h (lv_sub hl [1, 2, 0] rfl) hH
    · intro H locs ls h hl hH
      try dsimp only at h
      refine lv_aload_n hx hb d_Ref_literal_44 rfl (lv_at hl 0 rfl) ?_
      refine q_get (v := .int ma.drafted) C0 hH 0 rfl hc_8 6 (by decide) k_628 rfl d_Ref_literal_45 ?_
      refine lv_bipush (v := 6) hx hb d_Ref_literal_48 (by decide) ?_
      refine lv_icmp_ne (tgt := 56) hx hb d_Ref_literal_50 (by decide) (fun c => ?_) (fun c => ?_)
      · have h := h.1 c
        refine lv_aload_n hx hb d_Ref_literal_56 rfl (lv_at hl 0 rfl) ?_
        refine q_get (v := .ref (ad 33)) C0 hH 0 rfl hc_8 7 (by decide) k_629 rfl d_Ref_literal_57 ?_
        refine lv_aload_n hx hb d_Ref_literal_60 rfl (lv_at hl 0 rfl) ?_
        refine q_get (v := .int ma.drafted) C0 hH 0 rfl hc_8 6 (by decide) k_628 rfl d_Ref_literal_61 ?_
        refine lv_iload_n hx hb d_Ref_literal_64 rfl (lv_at hl 1 rfl) ?_
        obtain ⟨hi, h⟩ := h
        refine q_ast (ws' := [c_RE ad cA (mForm.mk ma.variables ma.clauses ma.literals ma.sizes ma.told ma.toldNot ma.drafted (upd ma.draft ma.drafted.toNatClampNeg x1)) mn ms mb mt mw mg md].flatten) (f := ma.draft) C0 hH 5 rfl hi rfl d_Ref_literal_65 (fun H locs hH => ?_)
        refine lv_aload_n hx hb d_Ref_literal_66 rfl (lv_at hl 0 rfl) ?_
        refine lv_dup hx hb d_Ref_literal_67 rfl ?_
        refine q_get (v := .int ma.drafted) C0 hH 0 rfl hc_8 6 (by decide) k_628 rfl d_Ref_literal_68 ?_
        refine lv_iconst (v := 1) hx hb d_Ref_literal_71 (by decide) ?_
        refine lv_iadd hx hb d_Ref_literal_72 ?_
        refine q_puti (ws' := [c_RE ad cA (mForm.mk ma.variables ma.clauses ma.literals ma.sizes ma.told ma.toldNot (ma.drafted + 1) (upd ma.draft ma.drafted.toNatClampNeg x1)) mn ms mb mt mw mg md].flatten) C0 hH 0 rfl hc_8 6 (by decide) k_628 rfl rfl (Nat.le_of_ble_eq_true rfl) rfl d_Ref_literal_73 (fun H locs hH => ?_)
        refine lv_aload_n hx hb d_Ref_literal_76 rfl (lv_at hl 0 rfl) ?_
        refine q_get (v := .int (ma.drafted + 1)) C0 hH 0 rfl hc_8 6 (by decide) k_628 rfl d_Ref_literal_77 ?_
        exact q_reti C0 hH (mForm.mk ma.variables ma.clauses ma.literals ma.sizes ma.told ma.toldNot (ma.drafted + 1) (upd ma.draft ma.drafted.toNatClampNeg x1)) rfl h d_Ref_literal_80
      · have h := h.2 c
        refine lv_bipush (v := (-3)) hx hb d_Ref_literal_53 (by decide) ?_
        exact q_reti C0 hH ma rfl h d_Ref_literal_55
  · have h := h.2 c
    refine lv_iconst (v := (-1)) hx hb d_Ref_literal_8 (by decide) ?_
    exact q_reti C0 hH ma rfl h d_Ref_literal_9
theorem d_Ref_clause_0 : decode b_Ref_clause 0 = .ok (.aload_n 0, 1) := by decide +kernel
theorem d_Ref_clause_1 : decode b_Ref_clause 1 = .ok (.getfield 63, 3) := by decide +kernel
theorem d_Ref_clause_4 : decode b_Ref_clause 4 = .ok (.sipush 400, 3) := by decide +kernel
theorem d_Ref_clause_7 : decode b_Ref_clause 7 = .ok (.if_icmp .ne 6, 3) := by decide +kernel
theorem d_Ref_clause_10 : decode b_Ref_clause 10 = .ok (.bipush (-3), 2) := by decide +kernel
theorem d_Ref_clause_12 : decode b_Ref_clause 12 = .ok (.ireturn, 1) := by decide +kernel
theorem d_Ref_clause_13 : decode b_Ref_clause 13 = .ok (.aload_n 0, 1) := by decide +kernel
theorem d_Ref_clause_14 : decode b_Ref_clause 14 = .ok (.getfield 16, 3) := by decide +kernel
theorem d_Ref_clause_17 : decode b_Ref_clause 17 = .ok (.aload_n 0, 1) := by decide +kernel
theorem d_Ref_clause_18 : decode b_Ref_clause 18 = .ok (.getfield 63, 3) := by decide +kernel
theorem d_Ref_clause_21 : decode b_Ref_clause 21 = .ok (.iconst 0, 1) := by decide +kernel
theorem d_Ref_clause_22 : decode b_Ref_clause 22 = .ok (.iastore, 1) := by decide +kernel
theorem d_Ref_clause_23 : decode b_Ref_clause 23 = .ok (.aload_n 0, 1) := by decide +kernel
theorem d_Ref_clause_24 : decode b_Ref_clause 24 = .ok (.getfield 19, 3) := by decide +kernel
theorem d_Ref_clause_27 : decode b_Ref_clause 27 = .ok (.aload_n 0, 1) := by decide +kernel
theorem d_Ref_clause_28 : decode b_Ref_clause 28 = .ok (.getfield 63, 3) := by decide +kernel
theorem d_Ref_clause_31 : decode b_Ref_clause 31 = .ok (.iconst 0, 1) := by decide +kernel
theorem d_Ref_clause_32 : decode b_Ref_clause 32 = .ok (.iastore, 1) := by decide +kernel
theorem d_Ref_clause_33 : decode b_Ref_clause 33 = .ok (.iconst 0, 1) := by decide +kernel
theorem d_Ref_clause_34 : decode b_Ref_clause 34 = .ok (.istore_n 1, 1) := by decide +kernel
theorem d_Ref_clause_35 : decode b_Ref_clause 35 = .ok (.iload_n 1, 1) := by decide +kernel
theorem d_Ref_clause_36 : decode b_Ref_clause 36 = .ok (.aload_n 0, 1) := by decide +kernel
theorem d_Ref_clause_37 : decode b_Ref_clause 37 = .ok (.getfield 66, 3) := by decide +kernel
theorem d_Ref_clause_40 : decode b_Ref_clause 40 = .ok (.if_icmp .ge 82, 3) := by decide +kernel
theorem d_Ref_clause_43 : decode b_Ref_clause 43 = .ok (.aload_n 0, 1) := by decide +kernel
theorem d_Ref_clause_44 : decode b_Ref_clause 44 = .ok (.getfield 22, 3) := by decide +kernel
theorem d_Ref_clause_47 : decode b_Ref_clause 47 = .ok (.iload_n 1, 1) := by decide +kernel
theorem d_Ref_clause_48 : decode b_Ref_clause 48 = .ok (.iaload, 1) := by decide +kernel
theorem d_Ref_clause_49 : decode b_Ref_clause 49 = .ok (.istore_n 2, 1) := by decide +kernel
theorem d_Ref_clause_50 : decode b_Ref_clause 50 = .ok (.aload_n 0, 1) := by decide +kernel
theorem d_Ref_clause_51 : decode b_Ref_clause 51 = .ok (.getfield 7, 3) := by decide +kernel
theorem d_Ref_clause_54 : decode b_Ref_clause 54 = .ok (.bipush 6, 2) := by decide +kernel
theorem d_Ref_clause_56 : decode b_Ref_clause 56 = .ok (.aload_n 0, 1) := by decide +kernel
theorem d_Ref_clause_57 : decode b_Ref_clause 57 = .ok (.getfield 63, 3) := by decide +kernel
theorem d_Ref_clause_60 : decode b_Ref_clause 60 = .ok (.imul, 1) := by decide +kernel
theorem d_Ref_clause_61 : decode b_Ref_clause 61 = .ok (.iload_n 1, 1) := by decide +kernel
theorem d_Ref_clause_62 : decode b_Ref_clause 62 = .ok (.iadd, 1) := by decide +kernel
theorem d_Ref_clause_63 : decode b_Ref_clause 63 = .ok (.iload_n 2, 1) := by decide +kernel
theorem d_Ref_clause_64 : decode b_Ref_clause 64 = .ok (.iastore, 1) := by decide +kernel
theorem d_Ref_clause_65 : decode b_Ref_clause 65 = .ok (.aload_n 0, 1) := by decide +kernel
theorem d_Ref_clause_66 : decode b_Ref_clause 66 = .ok (.getfield 16, 3) := by decide +kernel
theorem d_Ref_clause_69 : decode b_Ref_clause 69 = .ok (.aload_n 0, 1) := by decide +kernel
theorem d_Ref_clause_70 : decode b_Ref_clause 70 = .ok (.getfield 63, 3) := by decide +kernel
theorem d_Ref_clause_73 : decode b_Ref_clause 73 = .ok (.dup2, 1) := by decide +kernel
theorem d_Ref_clause_74 : decode b_Ref_clause 74 = .ok (.iaload, 1) := by decide +kernel
theorem d_Ref_clause_75 : decode b_Ref_clause 75 = .ok (.iload_n 2, 1) := by decide +kernel
theorem d_Ref_clause_76 : decode b_Ref_clause 76 = .ok (.ifCond .le 11, 3) := by decide +kernel
theorem d_Ref_clause_79 : decode b_Ref_clause 79 = .ok (.iconst 1, 1) := by decide +kernel
theorem d_Ref_clause_80 : decode b_Ref_clause 80 = .ok (.iload_n 2, 1) := by decide +kernel
theorem d_Ref_clause_81 : decode b_Ref_clause 81 = .ok (.iconst 1, 1) := by decide +kernel
theorem d_Ref_clause_82 : decode b_Ref_clause 82 = .ok (.isub, 1) := by decide +kernel
theorem d_Ref_clause_83 : decode b_Ref_clause 83 = .ok (.ishl, 1) := by decide +kernel
theorem d_Ref_clause_84 : decode b_Ref_clause 84 = .ok (.goto 4, 3) := by decide +kernel
theorem d_Ref_clause_87 : decode b_Ref_clause 87 = .ok (.iconst 0, 1) := by decide +kernel
theorem d_Ref_clause_88 : decode b_Ref_clause 88 = .ok (.ior, 1) := by decide +kernel
theorem d_Ref_clause_89 : decode b_Ref_clause 89 = .ok (.iastore, 1) := by decide +kernel
theorem d_Ref_clause_90 : decode b_Ref_clause 90 = .ok (.aload_n 0, 1) := by decide +kernel
theorem d_Ref_clause_91 : decode b_Ref_clause 91 = .ok (.getfield 19, 3) := by decide +kernel
theorem d_Ref_clause_94 : decode b_Ref_clause 94 = .ok (.aload_n 0, 1) := by decide +kernel
theorem d_Ref_clause_95 : decode b_Ref_clause 95 = .ok (.getfield 63, 3) := by decide +kernel
theorem d_Ref_clause_98 : decode b_Ref_clause 98 = .ok (.dup2, 1) := by decide +kernel
theorem d_Ref_clause_99 : decode b_Ref_clause 99 = .ok (.iaload, 1) := by decide +kernel
theorem d_Ref_clause_100 : decode b_Ref_clause 100 = .ok (.iload_n 2, 1) := by decide +kernel
theorem d_Ref_clause_101 : decode b_Ref_clause 101 = .ok (.ifCond .ge 12, 3) := by decide +kernel
theorem d_Ref_clause_104 : decode b_Ref_clause 104 = .ok (.iconst 1, 1) := by decide +kernel
theorem d_Ref_clause_105 : decode b_Ref_clause 105 = .ok (.iload_n 2, 1) := by decide +kernel
theorem d_Ref_clause_106 : decode b_Ref_clause 106 = .ok (.ineg, 1) := by decide +kernel
theorem d_Ref_clause_107 : decode b_Ref_clause 107 = .ok (.iconst 1, 1) := by decide +kernel
theorem d_Ref_clause_108 : decode b_Ref_clause 108 = .ok (.isub, 1) := by decide +kernel
theorem d_Ref_clause_109 : decode b_Ref_clause 109 = .ok (.ishl, 1) := by decide +kernel
theorem d_Ref_clause_110 : decode b_Ref_clause 110 = .ok (.goto 4, 3) := by decide +kernel
theorem d_Ref_clause_113 : decode b_Ref_clause 113 = .ok (.iconst 0, 1) := by decide +kernel
theorem d_Ref_clause_114 : decode b_Ref_clause 114 = .ok (.ior, 1) := by decide +kernel
theorem d_Ref_clause_115 : decode b_Ref_clause 115 = .ok (.iastore, 1) := by decide +kernel
theorem d_Ref_clause_116 : decode b_Ref_clause 116 = .ok (.iinc 1 1, 3) := by decide +kernel
theorem d_Ref_clause_119 : decode b_Ref_clause 119 = .ok (.goto (-84), 3) := by decide +kernel
theorem d_Ref_clause_122 : decode b_Ref_clause 122 = .ok (.aload_n 0, 1) := by decide +kernel
theorem d_Ref_clause_123 : decode b_Ref_clause 123 = .ok (.getfield 13, 3) := by decide +kernel
theorem d_Ref_clause_126 : decode b_Ref_clause 126 = .ok (.aload_n 0, 1) := by decide +kernel
theorem d_Ref_clause_127 : decode b_Ref_clause 127 = .ok (.getfield 63, 3) := by decide +kernel
theorem d_Ref_clause_130 : decode b_Ref_clause 130 = .ok (.aload_n 0, 1) := by decide +kernel
theorem d_Ref_clause_131 : decode b_Ref_clause 131 = .ok (.getfield 66, 3) := by decide +kernel
theorem d_Ref_clause_134 : decode b_Ref_clause 134 = .ok (.iastore, 1) := by decide +kernel
theorem d_Ref_clause_135 : decode b_Ref_clause 135 = .ok (.aload_n 0, 1) := by decide +kernel
theorem d_Ref_clause_136 : decode b_Ref_clause 136 = .ok (.iconst 0, 1) := by decide +kernel
theorem d_Ref_clause_137 : decode b_Ref_clause 137 = .ok (.putfield 66, 3) := by decide +kernel
theorem d_Ref_clause_140 : decode b_Ref_clause 140 = .ok (.aload_n 0, 1) := by decide +kernel
theorem d_Ref_clause_141 : decode b_Ref_clause 141 = .ok (.dup, 1) := by decide +kernel
theorem d_Ref_clause_142 : decode b_Ref_clause 142 = .ok (.getfield 63, 3) := by decide +kernel
theorem d_Ref_clause_145 : decode b_Ref_clause 145 = .ok (.iconst 1, 1) := by decide +kernel
theorem d_Ref_clause_146 : decode b_Ref_clause 146 = .ok (.iadd, 1) := by decide +kernel
theorem d_Ref_clause_147 : decode b_Ref_clause 147 = .ok (.putfield 63, 3) := by decide +kernel
theorem d_Ref_clause_150 : decode b_Ref_clause 150 = .ok (.aload_n 0, 1) := by decide +kernel
theorem d_Ref_clause_151 : decode b_Ref_clause 151 = .ok (.iconst 0, 1) := by decide +kernel
theorem d_Ref_clause_152 : decode b_Ref_clause 152 = .ok (.putfield 69, 3) := by decide +kernel
theorem d_Ref_clause_155 : decode b_Ref_clause 155 = .ok (.aload_n 0, 1) := by decide +kernel
theorem d_Ref_clause_156 : decode b_Ref_clause 156 = .ok (.getfield 63, 3) := by decide +kernel
theorem d_Ref_clause_159 : decode b_Ref_clause 159 = .ok (.ireturn, 1) := by decide +kernel
set_option maxHeartbeats 4000000 in
set_option maxRecDepth 100000 in
theorem x_Ref_clause_L35 {p : Program} {e : Env} {s : State} {m : MethodId} {args : Array Value} {below : List Frame} {meth : Method} {c : Code} {l : Launch} {dC : Nat → ClassId} {dI : Nat → Nat → Nat} {cA : ClassId} {ad : Nat → Nat} {w0 : va_W} (C0 : q_C p s m args meth c b_Ref_clause 3 (some .int) "PlanClausesModel" dC dI cA) (hA : ∀ q, s.heap.size ≤ q → va_A w0 s.heap.size q) (mn : mKnow) (ms : mSat) (mb : mBack) (mt : mTask) (mw : (Nat → Int32)) (mg : mGo) (md : mCode) {Q : Int32 → mForm → mKnow → Prop} {K122 : mForm → Prop}
    (hK122 : ∀ (ma : mForm) (H : Heap) (locs : List Loc) (ls : Array Slot), K122 ma → lv_has ls 3 [(0, .ref (ad 28))] → q_H dC dI (va_A w0 s.heap.size) s.heap H locs ([c_RE ad cA ma mn ms mb mt mw mg md].flatten) → W p l e (q_R 0 0) s m args below meth c H locs 0 0 (q_Zi below args s dC dI cA w0 (fun u : mForm × mKnow => [c_RE ad cA u.1 u.2 ms mb mt mw mg md].flatten) (fun r u => Q r u.1 u.2)) (F0 m 122 ls [])) :
    ∀ (nn : Nat) (x1 : Int32) (ma : mForm) (H : Heap) (locs : List Loc) (ls : Array Slot), w_Ref_clause_L35 K122 nn x1 ma → lv_has ls 3 [(0, .ref (ad 28)), (1, .int x1)] → q_H dC dI (va_A w0 s.heap.size) s.heap H locs ([c_RE ad cA ma mn ms mb mt mw mg md].flatten) → W p l e (q_R 0 0) s m args below meth c H locs 0 0 (q_Zi below args s dC dI cA w0 (fun u : mForm × mKnow => [c_RE ad cA u.1 u.2 ms mb mt mw mg md].flatten) (fun r u => Q r u.1 u.2)) (F0 m 35 ls []) := by
  obtain ⟨hx, hb, -⟩ := id C0
  intro nn
  induction nn with
  | zero =>
    intro x1 ma H locs ls h
    exact (show False from h).elim
  | succ nn ih =>
    intro x1 ma H locs ls h hl hH
    rw [w_Ref_clause_L35] at h
    refine lv_iload_n hx hb d_Ref_clause_35 rfl (lv_at hl 1 rfl) ?_
    refine lv_aload_n hx hb d_Ref_clause_36 rfl (lv_at hl 0 rfl) ?_
    refine q_get (v := .int ma.drafted) C0 hH 0 rfl hc_8 6 (by decide) k_628 rfl d_Ref_clause_37 ?_
    refine lv_icmp_ge (tgt := 122) hx hb d_Ref_clause_40 (by decide) (fun c => ?_) (fun c => ?_)
    · have h := h.1 c
      exact hK122 ma _ _ _ h (lv_sub hl [0] rfl) hH
    · have h := h.2 c
      refine lv_aload_n hx hb d_Ref_clause_43 rfl (lv_at hl 0 rfl) ?_
      refine q_get (v := .ref (ad 33)) C0 hH 0 rfl hc_8 7 (by decide) k_629 rfl d_Ref_clause_44 ?_
      refine lv_iload_n hx hb d_Ref_clause_47 rfl (lv_at hl 1 rfl) ?_
      obtain ⟨hi, h⟩ := h
      refine q_ald (f := ma.draft) C0 hH 5 rfl hi d_Ref_clause_48 ?_
      refine lv_istore_n (lv' := [(2, .int (ma.draft x1.toNatClampNeg)), (0, .ref (ad 28)), (1, .int x1)]) hx hb d_Ref_clause_49 rfl hl (by decide) rfl (fun ls hl => ?_)
      refine lv_aload_n hx hb d_Ref_clause_50 rfl (lv_at hl 1 rfl) ?_
      refine q_get (v := .ref (ad 29)) C0 hH 0 rfl hc_8 2 (by decide) k_624 rfl d_Ref_clause_51 ?_
      refine lv_bipush (v := 6) hx hb d_Ref_clause_54 (by decide) ?_
      refine lv_aload_n hx hb d_Ref_clause_56 rfl (lv_at hl 1 rfl) ?_
      refine q_get (v := .int ma.clauses) C0 hH 0 rfl hc_8 1 (by decide) k_623 rfl d_Ref_clause_57 ?_
      refine lv_imul hx hb d_Ref_clause_60 ?_
      refine lv_iload_n hx hb d_Ref_clause_61 rfl (lv_at hl 2 rfl) ?_
      refine lv_iadd hx hb d_Ref_clause_62 ?_
      refine lv_iload_n hx hb d_Ref_clause_63 rfl (lv_at hl 0 rfl) ?_
      obtain ⟨hi, h⟩ := h
      refine q_ast (ws' := [c_RE ad cA (mForm.mk ma.variables ma.clauses (upd ma.literals ((6 * ma.clauses) + x1).toNatClampNeg (ma.draft x1.toNatClampNeg)) ma.sizes ma.told ma.toldNot ma.drafted ma.draft) mn ms mb mt mw mg md].flatten) (f := ma.literals) C0 hH 1 rfl hi rfl d_Ref_clause_64 (fun H locs hH => ?_)
      refine lv_aload_n hx hb d_Ref_clause_65 rfl (lv_at hl 1 rfl) ?_
      refine q_get (v := .ref (ad 31)) C0 hH 0 rfl hc_8 4 (by decide) k_626 rfl d_Ref_clause_66 ?_
      refine lv_aload_n hx hb d_Ref_clause_69 rfl (lv_at hl 1 rfl) ?_
      refine q_get (v := .int ma.clauses) C0 hH 0 rfl hc_8 1 (by decide) k_623 rfl d_Ref_clause_70 ?_
      refine lv_dup2_11 hx hb d_Ref_clause_73 rfl rfl ?_
      obtain ⟨hi, h⟩ := h
      refine q_ald (f := ma.told) C0 hH 3 rfl hi d_Ref_clause_74 ?_
      refine lv_iload_n hx hb d_Ref_clause_75 rfl (lv_at hl 0 rfl) ?_
      refine lv_if_le (tgt := 87) hx hb d_Ref_clause_76 (by decide) (fun c => ?_) (fun c => ?_)
      · have h := h.1 c
        refine lv_iconst (v := 0) hx hb d_Ref_clause_87 (by decide) ?_
        refine lv_ior hx hb d_Ref_clause_88 ?_
        obtain ⟨hi, h⟩ := h
        refine q_ast (ws' := [c_RE ad cA (mForm.mk ma.variables ma.clauses (upd ma.literals ((6 * ma.clauses) + x1).toNatClampNeg (ma.draft x1.toNatClampNeg)) ma.sizes (upd ma.told ma.clauses.toNatClampNeg ((ma.told ma.clauses.toNatClampNeg) ||| 0)) ma.toldNot ma.drafted ma.draft) mn ms mb mt mw mg md].flatten) (f := ma.told) C0 hH 3 rfl hi rfl d_Ref_clause_89 (fun H locs hH => ?_)
        refine lv_aload_n hx hb d_Ref_clause_90 rfl (lv_at hl 1 rfl) ?_
        refine q_get (v := .ref (ad 32)) C0 hH 0 rfl hc_8 5 (by decide) k_627 rfl d_Ref_clause_91 ?_
        refine lv_aload_n hx hb d_Ref_clause_94 rfl (lv_at hl 1 rfl) ?_
        refine q_get (v := .int ma.clauses) C0 hH 0 rfl hc_8 1 (by decide) k_623 rfl d_Ref_clause_95 ?_
        refine lv_dup2_11 hx hb d_Ref_clause_98 rfl rfl ?_
        obtain ⟨hi, h⟩ := h
        refine q_ald (f := ma.toldNot) C0 hH 4 rfl hi d_Ref_clause_99 ?_
        refine lv_iload_n hx hb d_Ref_clause_100 rfl (lv_at hl 0 rfl) ?_
        refine lv_if_ge (tgt := 113) hx hb d_Ref_clause_101 (by decide) (fun c => ?_) (fun c => ?_)
        · have h := h.1 c
          refine lv_iconst (v := 0) hx hb d_Ref_clause_113 (by decide) ?_
          refine lv_ior hx hb d_Ref_clause_114 ?_
          obtain ⟨hi, h⟩ := h
          refine q_ast (ws' := [c_RE ad cA (mForm.mk ma.variables ma.clauses (upd ma.literals ((6 * ma.clauses) + x1).toNatClampNeg (ma.draft x1.toNatClampNeg)) ma.sizes (upd ma.told ma.clauses.toNatClampNeg ((ma.told ma.clauses.toNatClampNeg) ||| 0)) (upd ma.toldNot ma.clauses.toNatClampNeg ((ma.toldNot ma.clauses.toNatClampNeg) ||| 0)) ma.drafted ma.draft) mn ms mb mt mw mg md].flatten) (f := ma.toldNot) C0 hH 4 rfl hi rfl d_Ref_clause_115 (fun H locs hH => ?_)
          refine lv_iinc (v := (x1 + 1)) (lv' := [(1, .int (x1 + 1)), (2, .int (ma.draft x1.toNatClampNeg)), (0, .ref (ad 28))]) hx hb d_Ref_clause_116 hl (k := 2) rfl rfl (by decide) rfl (fun ls hl => ?_)
          refine lv_goto (tgt := 35) hx hb d_Ref_clause_119 (by decide) ?_
          exact ih (x1 + 1) (mForm.mk ma.variables ma.clauses (upd ma.literals ((6 * ma.clauses) + x1).toNatClampNeg (ma.draft x1.toNatClampNeg)) ma.sizes (upd ma.told ma.clauses.toNatClampNeg ((ma.told ma.clauses.toNatClampNeg) ||| 0)) (upd ma.toldNot ma.clauses.toNatClampNeg ((ma.toldNot ma.clauses.toNatClampNeg) ||| 0)) ma.drafted ma.draft) _ _ _ h (lv_sub hl [2, 0] rfl) hH
        · have h := h.2 c
          refine lv_iconst (v := 1) hx hb d_Ref_clause_104 (by decide) ?_
          refine lv_iload_n hx hb d_Ref_clause_105 rfl (lv_at hl 0 rfl) ?_
          refine lv_ineg hx hb d_Ref_clause_106 ?_
          refine lv_iconst (v := 1) hx hb d_Ref_clause_107 (by decide) ?_
          refine lv_isub hx hb d_Ref_clause_108 ?_
          refine lv_ishl hx hb d_Ref_clause_109 ?_
          refine lv_goto (tgt := 114) hx hb d_Ref_clause_110 (by decide) ?_
          refine lv_ior hx hb d_Ref_clause_114 ?_
          obtain ⟨hi, h⟩ := h
          refine q_ast (ws' := [c_RE ad cA (mForm.mk ma.variables ma.clauses (upd ma.literals ((6 * ma.clauses) + x1).toNatClampNeg (ma.draft x1.toNatClampNeg)) ma.sizes (upd ma.told ma.clauses.toNatClampNeg ((ma.told ma.clauses.toNatClampNeg) ||| 0)) (upd ma.toldNot ma.clauses.toNatClampNeg ((ma.toldNot ma.clauses.toNatClampNeg) ||| ((1 : Int32) <<< (((-(ma.draft x1.toNatClampNeg)) - 1) &&& 31)))) ma.drafted ma.draft) mn ms mb mt mw mg md].flatten) (f := ma.toldNot) C0 hH 4 rfl hi rfl d_Ref_clause_115 (fun H locs hH => ?_)
          refine lv_iinc (v := (x1 + 1)) (lv' := [(1, .int (x1 + 1)), (2, .int (ma.draft x1.toNatClampNeg)), (0, .ref (ad 28))]) hx hb d_Ref_clause_116 hl (k := 2) rfl rfl (by decide) rfl (fun ls hl => ?_)
          refine lv_goto (tgt := 35) hx hb d_Ref_clause_119 (by decide) ?_
          exact ih (x1 + 1) (mForm.mk ma.variables ma.clauses (upd ma.literals ((6 * ma.clauses) + x1).toNatClampNeg (ma.draft x1.toNatClampNeg)) ma.sizes (upd ma.told ma.clauses.toNatClampNeg ((ma.told ma.clauses.toNatClampNeg) ||| 0)) (upd ma.toldNot ma.clauses.toNatClampNeg ((ma.toldNot ma.clauses.toNatClampNeg) ||| ((1 : Int32) <<< (((-(ma.draft x1.toNatClampNeg)) - 1) &&& 31)))) ma.drafted ma.draft) _ _ _ h (lv_sub hl [2, 0] rfl) hH
      · have h := h.2 c
        refine lv_iconst (v := 1) hx hb d_Ref_clause_79 (by decide) ?_
        refine lv_iload_n hx hb d_Ref_clause_80 rfl (lv_at hl 0 rfl) ?_
        refine lv_iconst (v := 1) hx hb d_Ref_clause_81 (by decide) ?_
        refine lv_isub hx hb d_Ref_clause_82 ?_
        refine lv_ishl hx hb d_Ref_clause_83 ?_
        refine lv_goto (tgt := 88) hx hb d_Ref_clause_84 (by decide) ?_
        refine lv_ior hx hb d_Ref_clause_88 ?_
        obtain ⟨hi, h⟩ := h
        refine q_ast (ws' := [c_RE ad cA (mForm.mk ma.variables ma.clauses (upd ma.literals ((6 * ma.clauses) + x1).toNatClampNeg (ma.draft x1.toNatClampNeg)) ma.sizes (upd ma.told ma.clauses.toNatClampNeg ((ma.told ma.clauses.toNatClampNeg) ||| ((1 : Int32) <<< (((ma.draft x1.toNatClampNeg) - 1) &&& 31)))) ma.toldNot ma.drafted ma.draft) mn ms mb mt mw mg md].flatten) (f := ma.told) C0 hH 3 rfl hi rfl d_Ref_clause_89 (fun H locs hH => ?_)
        refine lv_aload_n hx hb d_Ref_clause_90 rfl (lv_at hl 1 rfl) ?_
        refine q_get (v := .ref (ad 32)) C0 hH 0 rfl hc_8 5 (by decide) k_627 rfl d_Ref_clause_91 ?_
        refine lv_aload_n hx hb d_Ref_clause_94 rfl (lv_at hl 1 rfl) ?_
        refine q_get (v := .int ma.clauses) C0 hH 0 rfl hc_8 1 (by decide) k_623 rfl d_Ref_clause_95 ?_
        refine lv_dup2_11 hx hb d_Ref_clause_98 rfl rfl ?_
        obtain ⟨hi, h⟩ := h
        refine q_ald (f := ma.toldNot) C0 hH 4 rfl hi d_Ref_clause_99 ?_
        refine lv_iload_n hx hb d_Ref_clause_100 rfl (lv_at hl 0 rfl) ?_
        refine lv_if_ge (tgt := 113) hx hb d_Ref_clause_101 (by decide) (fun c => ?_) (fun c => ?_)
        · have h := h.1 c
          refine lv_iconst (v := 0) hx hb d_Ref_clause_113 (by decide) ?_
          refine lv_ior hx hb d_Ref_clause_114 ?_
          obtain ⟨hi, h⟩ := h
          refine q_ast (ws' := [c_RE ad cA (mForm.mk ma.variables ma.clauses (upd ma.literals ((6 * ma.clauses) + x1).toNatClampNeg (ma.draft x1.toNatClampNeg)) ma.sizes (upd ma.told ma.clauses.toNatClampNeg ((ma.told ma.clauses.toNatClampNeg) ||| ((1 : Int32) <<< (((ma.draft x1.toNatClampNeg) - 1) &&& 31)))) (upd ma.toldNot ma.clauses.toNatClampNeg ((ma.toldNot ma.clauses.toNatClampNeg) ||| 0)) ma.drafted ma.draft) mn ms mb mt mw mg md].flatten) (f := ma.toldNot) C0 hH 4 rfl hi rfl d_Ref_clause_115 (fun H locs hH => ?_)
          refine lv_iinc (v := (x1 + 1)) (lv' := [(1, .int (x1 + 1)), (2, .int (ma.draft x1.toNatClampNeg)), (0, .ref (ad 28))]) hx hb d_Ref_clause_116 hl (k := 2) rfl rfl (by decide) rfl (fun ls hl => ?_)
          refine lv_goto (tgt := 35) hx hb d_Ref_clause_119 (by decide) ?_
          exact ih (x1 + 1) (mForm.mk ma.variables ma.clauses (upd ma.literals ((6 * ma.clauses) + x1).toNatClampNeg (ma.draft x1.toNatClampNeg)) ma.sizes (upd ma.told ma.clauses.toNatClampNeg ((ma.told ma.clauses.toNatClampNeg) ||| ((1 : Int32) <<< (((ma.draft x1.toNatClampNeg) - 1) &&& 31)))) (upd ma.toldNot ma.clauses.toNatClampNeg ((ma.toldNot ma.clauses.toNatClampNeg) ||| 0)) ma.drafted ma.draft) _ _ _ h (lv_sub hl [2, 0] rfl) hH
        · have h := h.2 c
          refine lv_iconst (v := 1) hx hb d_Ref_clause_104 (by decide) ?_
          refine lv_iload_n hx hb d_Ref_clause_105 rfl (lv_at hl 0 rfl) ?_
          refine lv_ineg hx hb d_Ref_clause_106 ?_
          refine lv_iconst (v := 1) hx hb d_Ref_clause_107 (by decide) ?_
          refine lv_isub hx hb d_Ref_clause_108 ?_
          refine lv_ishl hx hb d_Ref_clause_109 ?_
          refine lv_goto (tgt := 114) hx hb d_Ref_clause_110 (by decide) ?_
          refine lv_ior hx hb d_Ref_clause_114 ?_
          obtain ⟨hi, h⟩ := h
          refine q_ast (ws' := [c_RE ad cA (mForm.mk ma.variables ma.clauses (upd ma.literals ((6 * ma.clauses) + x1).toNatClampNeg (ma.draft x1.toNatClampNeg)) ma.sizes (upd ma.told ma.clauses.toNatClampNeg ((ma.told ma.clauses.toNatClampNeg) ||| ((1 : Int32) <<< (((ma.draft x1.toNatClampNeg) - 1) &&& 31)))) (upd ma.toldNot ma.clauses.toNatClampNeg ((ma.toldNot ma.clauses.toNatClampNeg) ||| ((1 : Int32) <<< (((-(ma.draft x1.toNatClampNeg)) - 1) &&& 31)))) ma.drafted ma.draft) mn ms mb mt mw mg md].flatten) (f := ma.toldNot) C0 hH 4 rfl hi rfl d_Ref_clause_115 (fun H locs hH => ?_)
          refine lv_iinc (v := (x1 + 1)) (lv' := [(1, .int (x1 + 1)), (2, .int (ma.draft x1.toNatClampNeg)), (0, .ref (ad 28))]) hx hb d_Ref_clause_116 hl (k := 2) rfl rfl (by decide) rfl (fun ls hl => ?_)
          refine lv_goto (tgt := 35) hx hb d_Ref_clause_119 (by decide) ?_
          exact ih (x1 + 1) (mForm.mk ma.variables ma.clauses (upd ma.literals ((6 * ma.clauses) + x1).toNatClampNeg (ma.draft x1.toNatClampNeg)) ma.sizes (upd ma.told ma.clauses.toNatClampNeg ((ma.told ma.clauses.toNatClampNeg) ||| ((1 : Int32) <<< (((ma.draft x1.toNatClampNeg) - 1) &&& 31)))) (upd ma.toldNot ma.clauses.toNatClampNeg ((ma.toldNot ma.clauses.toNatClampNeg) ||| ((1 : Int32) <<< (((-(ma.draft x1.toNatClampNeg)) - 1) &&& 31)))) ma.drafted ma.draft) _ _ _ h (lv_sub hl [2, 0] rfl) hH
set_option maxHeartbeats 4000000 in
set_option maxRecDepth 100000 in
theorem c_Ref_clause (l : Launch) (dC : Nat → ClassId) (dI : Nat → Nat → Nat) (cA : ClassId) (ad : Nat → Nat) (ma : mForm) (mn : mKnow) (ms : mSat) (mb : mBack) (mt : mTask) (mw : (Nat → Int32)) (mg : mGo) (md : mCode) (Q : Int32 → mForm → mKnow → Prop) (sz : Nat) (h : w_Ref_clause ma mn Q) :
    q_Mi l y_Ref_clause b_Ref_clause 3 (some .int) 0 0 [.ref (ad 28)] dC dI cA ([c_RE ad cA ma mn ms mb mt mw mg md].flatten) (fun u : mForm × mKnow => [c_RE ad cA u.1 u.2 ms mb mt mw mg md].flatten) sz (fun r u => Q r u.1 u.2) := by
  refine q_meti (plainFor_of_name (by decide +kernel)) (Nat.le_of_ble_eq_true rfl) (fun {p e s m below meth c ls} C0 hl hH => ?_)
  obtain ⟨hx, hb, -⟩ := id C0
  have hA : ∀ q, s.heap.size ≤ q → va_A ([c_RE ad cA ma mn ms mb mt mw mg md].flatten) s.heap.size q := q_nA
  have hl : lv_has ls 3 [(0, .ref (ad 28))] := hl
  unfold w_Ref_clause at h
  refine lv_aload_n hx hb d_Ref_clause_0 rfl (lv_at hl 0 rfl) ?_
  refine q_get (v := .int ma.clauses) C0 hH 0 rfl hc_8 1 (by decide) k_623 rfl d_Ref_clause_1 ?_
  refine lv_sipush (v := 400) hx hb d_Ref_clause_4 (by decide) ?_
  refine lv_icmp_ne (tgt := 13) hx hb d_Ref_clause_7 (by decide) (fun c => ?_) (fun c => ?_)
  · have h := h.1 c
    refine lv_aload_n hx hb d_Ref_clause_13 rfl (lv_at hl 0 rfl) ?_
    refine q_get (v := .ref (ad 31)) C0 hH 0 rfl hc_8 4 (by decide) k_626 rfl d_Ref_clause_14 ?_
    refine lv_aload_n hx hb d_Ref_clause_17 rfl (lv_at hl 0 rfl) ?_
    refine q_get (v := .int ma.clauses) C0 hH 0 rfl hc_8 1 (by decide) k_623 rfl d_Ref_clause_18 ?_
    refine lv_iconst (v := 0) hx hb d_Ref_clause_21 (by decide) ?_
    obtain ⟨hi, h⟩ := h
    refine q_ast (ws' := [c_RE ad cA (mForm.mk ma.variables ma.clauses ma.literals ma.sizes (upd ma.told ma.clauses.toNatClampNeg 0) ma.toldNot ma.drafted ma.draft) mn ms mb mt mw mg md].flatten) (f := ma.told) C0 hH 3 rfl hi rfl d_Ref_clause_22 (fun H locs hH => ?_)
    refine lv_aload_n hx hb d_Ref_clause_23 rfl (lv_at hl 0 rfl) ?_
    refine q_get (v := .ref (ad 32)) C0 hH 0 rfl hc_8 5 (by decide) k_627 rfl d_Ref_clause_24 ?_
    refine lv_aload_n hx hb d_Ref_clause_27 rfl (lv_at hl 0 rfl) ?_
    refine q_get (v := .int ma.clauses) C0 hH 0 rfl hc_8 1 (by decide) k_623 rfl d_Ref_clause_28 ?_
    refine lv_iconst (v := 0) hx hb d_Ref_clause_31 (by decide) ?_
    obtain ⟨hi, h⟩ := h
    refine q_ast (ws' := [c_RE ad cA (mForm.mk ma.variables ma.clauses ma.literals ma.sizes (upd ma.told ma.clauses.toNatClampNeg 0) (upd ma.toldNot ma.clauses.toNatClampNeg 0) ma.drafted ma.draft) mn ms mb mt mw mg md].flatten) (f := ma.toldNot) C0 hH 4 rfl hi rfl d_Ref_clause_32 (fun H locs hH => ?_)
    refine lv_iconst (v := 0) hx hb d_Ref_clause_33 (by decide) ?_
    refine lv_istore_n (lv' := [(1, .int 0), (0, .ref (ad 28))]) hx hb d_Ref_clause_34 rfl hl (by decide) rfl (fun ls hl => ?_)
    obtain ⟨nn, h⟩ := h
    refine x_Ref_clause_L35 C0 hA mn ms mb mt mw mg md ?_ nn 0 (mForm.mk ma.variables ma.clauses ma.literals ma.sizes (upd ma.told ma.clauses.toNatClampNeg 0) (upd ma.toldNot ma.clauses.toNatClampNeg 0) ma.drafted ma.draft) _ _ _ h (lv_sub hl [1, 0] rfl) hH
    · intro ma_1 H locs ls h hl hH
      try dsimp only at h
      refine lv_aload_n hx hb d_Ref_clause_122 rfl (lv_at hl 0 rfl) ?_
      refine q_get (v := .ref (ad 30)) C0 hH 0 rfl hc_8 3 (by decide) k_625 rfl d_Ref_clause_123 ?_
      refine lv_aload_n hx hb d_Ref_clause_126 rfl (lv_at hl 0 rfl) ?_
      refine q_get (v := .int ma_1.clauses) C0 hH 0 rfl hc_8 1 (by decide) k_623 rfl d_Ref_clause_127 ?_
      refine lv_aload_n hx hb d_Ref_clause_130 rfl (lv_at hl 0 rfl) ?_
      refine q_get (v := .int ma_1.drafted) C0 hH 0 rfl hc_8 6 (by decide) k_628 rfl d_Ref_clause_131 ?_
      obtain ⟨hi, h⟩ := h
      refine q_ast (ws' := [c_RE ad cA (mForm.mk ma_1.variables ma_1.clauses ma_1.literals (upd ma_1.sizes ma_1.clauses.toNatClampNeg ma_1.drafted) ma_1.told ma_1.toldNot ma_1.drafted ma_1.draft) mn ms mb mt mw mg md].flatten) (f := ma_1.sizes) C0 hH 2 rfl hi rfl d_Ref_clause_134 (fun H locs hH => ?_)
      refine lv_aload_n hx hb d_Ref_clause_135 rfl (lv_at hl 0 rfl) ?_
      refine lv_iconst (v := 0) hx hb d_Ref_clause_136 (by decide) ?_
      refine q_puti (ws' := [c_RE ad cA (mForm.mk ma_1.variables ma_1.clauses ma_1.literals (upd ma_1.sizes ma_1.clauses.toNatClampNeg ma_1.drafted) ma_1.told ma_1.toldNot 0 ma_1.draft) mn ms mb mt mw mg md].flatten) C0 hH 0 rfl hc_8 6 (by decide) k_628 rfl rfl (Nat.le_of_ble_eq_true rfl) rfl d_Ref_clause_137 (fun H locs hH => ?_)
      refine lv_aload_n hx hb d_Ref_clause_140 rfl (lv_at hl 0 rfl) ?_
      refine lv_dup hx hb d_Ref_clause_141 rfl ?_
      refine q_get (v := .int ma_1.clauses) C0 hH 0 rfl hc_8 1 (by decide) k_623 rfl d_Ref_clause_142 ?_
      refine lv_iconst (v := 1) hx hb d_Ref_clause_145 (by decide) ?_
      refine lv_iadd hx hb d_Ref_clause_146 ?_
      refine q_puti (ws' := [c_RE ad cA (mForm.mk ma_1.variables (ma_1.clauses + 1) ma_1.literals (upd ma_1.sizes ma_1.clauses.toNatClampNeg ma_1.drafted) ma_1.told ma_1.toldNot 0 ma_1.draft) mn ms mb mt mw mg md].flatten) C0 hH 0 rfl hc_8 1 (by decide) k_623 rfl rfl (Nat.le_of_ble_eq_true rfl) rfl d_Ref_clause_147 (fun H locs hH => ?_)
      refine lv_aload_n hx hb d_Ref_clause_150 rfl (lv_at hl 0 rfl) ?_
      refine lv_iconst (v := 0) hx hb d_Ref_clause_151 (by decide) ?_
      refine q_putz (ws' := [c_RE ad cA (mForm.mk ma_1.variables (ma_1.clauses + 1) ma_1.literals (upd ma_1.sizes ma_1.clauses.toNatClampNeg ma_1.drafted) ma_1.told ma_1.toldNot 0 ma_1.draft) (mKnow.mk 0 mn.many mn.found) ms mb mt mw mg md].flatten) C0 hH 0 rfl hc_8 8 (by decide) k_630 rfl rfl (Or.inl rfl) (Nat.le_of_ble_eq_true rfl) rfl d_Ref_clause_152 (fun H locs hH => ?_)
      refine lv_aload_n hx hb d_Ref_clause_155 rfl (lv_at hl 0 rfl) ?_
      refine q_get (v := .int (ma_1.clauses + 1)) C0 hH 0 rfl hc_8 1 (by decide) k_623 rfl d_Ref_clause_156 ?_
      exact q_reti C0 hH ((mForm.mk ma_1.variables (ma_1.clauses + 1) ma_1.literals (upd ma_1.sizes ma_1.clauses.toNatClampNeg ma_1.drafted) ma_1.told ma_1.toldNot 0 ma_1.draft), (mKnow.mk 0 mn.many mn.found)) rfl h d_Ref_clause_159
  · have h := h.2 c
    refine lv_bipush (v := (-3)) hx hb d_Ref_clause_10 (by decide) ?_
    exact q_reti C0 hH (ma, mn) rfl h d_Ref_clause_12
theorem d_Ref_drop_0 : decode b_Ref_drop 0 = .ok (.aload_n 0, 1) := by decide +kernel
theorem d_Ref_drop_1 : decode b_Ref_drop 1 = .ok (.getfield 63, 3) := by decide +kernel
theorem d_Ref_drop_4 : decode b_Ref_drop 4 = .ok (.ifCond .ne 6, 3) := by decide +kernel
theorem d_Ref_drop_7 : decode b_Ref_drop 7 = .ok (.bipush (-2), 2) := by decide +kernel
theorem d_Ref_drop_9 : decode b_Ref_drop 9 = .ok (.ireturn, 1) := by decide +kernel
theorem d_Ref_drop_10 : decode b_Ref_drop 10 = .ok (.aload_n 0, 1) := by decide +kernel
theorem d_Ref_drop_11 : decode b_Ref_drop 11 = .ok (.dup, 1) := by decide +kernel
theorem d_Ref_drop_12 : decode b_Ref_drop 12 = .ok (.getfield 63, 3) := by decide +kernel
theorem d_Ref_drop_15 : decode b_Ref_drop 15 = .ok (.iconst 1, 1) := by decide +kernel
theorem d_Ref_drop_16 : decode b_Ref_drop 16 = .ok (.isub, 1) := by decide +kernel
theorem d_Ref_drop_17 : decode b_Ref_drop 17 = .ok (.putfield 63, 3) := by decide +kernel
theorem d_Ref_drop_20 : decode b_Ref_drop 20 = .ok (.aload_n 0, 1) := by decide +kernel
theorem d_Ref_drop_21 : decode b_Ref_drop 21 = .ok (.iconst 0, 1) := by decide +kernel
theorem d_Ref_drop_22 : decode b_Ref_drop 22 = .ok (.putfield 69, 3) := by decide +kernel
theorem d_Ref_drop_25 : decode b_Ref_drop 25 = .ok (.aload_n 0, 1) := by decide +kernel
theorem d_Ref_drop_26 : decode b_Ref_drop 26 = .ok (.getfield 63, 3) := by decide +kernel
theorem d_Ref_drop_29 : decode b_Ref_drop 29 = .ok (.ireturn, 1) := by decide +kernel
set_option maxHeartbeats 4000000 in
set_option maxRecDepth 100000 in
theorem c_Ref_drop (l : Launch) (dC : Nat → ClassId) (dI : Nat → Nat → Nat) (cA : ClassId) (ad : Nat → Nat) (ma : mForm) (mn : mKnow) (ms : mSat) (mb : mBack) (mt : mTask) (mw : (Nat → Int32)) (mg : mGo) (md : mCode) (Q : Int32 → mForm → mKnow → Prop) (sz : Nat) (h : w_Ref_drop ma mn Q) :
    q_Mi l y_Ref_drop b_Ref_drop 1 (some .int) 0 0 [.ref (ad 28)] dC dI cA ([c_RE ad cA ma mn ms mb mt mw mg md].flatten) (fun u : mForm × mKnow => [c_RE ad cA u.1 u.2 ms mb mt mw mg md].flatten) sz (fun r u => Q r u.1 u.2) := by
  refine q_meti (plainFor_of_name (by decide +kernel)) (Nat.le_of_ble_eq_true rfl) (fun {p e s m below meth c ls} C0 hl hH => ?_)
  obtain ⟨hx, hb, -⟩ := id C0
  have hA : ∀ q, s.heap.size ≤ q → va_A ([c_RE ad cA ma mn ms mb mt mw mg md].flatten) s.heap.size q := q_nA
  have hl : lv_has ls 1 [(0, .ref (ad 28))] := hl
  unfold w_Ref_drop at h
  refine lv_aload_n hx hb d_Ref_drop_0 rfl (lv_at hl 0 rfl) ?_
  refine q_get (v := .int ma.clauses) C0 hH 0 rfl hc_8 1 (by decide) k_623 rfl d_Ref_drop_1 ?_
  refine lv_if_ne (tgt := 10) hx hb d_Ref_drop_4 (by decide) (fun c => ?_) (fun c => ?_)
  · have h := h.1 c
    refine lv_aload_n hx hb d_Ref_drop_10 rfl (lv_at hl 0 rfl) ?_
    refine lv_dup hx hb d_Ref_drop_11 rfl ?_
    refine q_get (v := .int ma.clauses) C0 hH 0 rfl hc_8 1 (by decide) k_623 rfl d_Ref_drop_12 ?_
    refine lv_iconst (v := 1) hx hb d_Ref_drop_15 (by decide) ?_
    refine lv_isub hx hb d_Ref_drop_16 ?_
    refine q_puti (ws' := [c_RE ad cA (mForm.mk ma.variables (ma.clauses - 1) ma.literals ma.sizes ma.told ma.toldNot ma.drafted ma.draft) mn ms mb mt mw mg md].flatten) C0 hH 0 rfl hc_8 1 (by decide) k_623 rfl rfl (Nat.le_of_ble_eq_true rfl) rfl d_Ref_drop_17 (fun H locs hH => ?_)
    refine lv_aload_n hx hb d_Ref_drop_20 rfl (lv_at hl 0 rfl) ?_
    refine lv_iconst (v := 0) hx hb d_Ref_drop_21 (by decide) ?_
    refine q_putz (ws' := [c_RE ad cA (mForm.mk ma.variables (ma.clauses - 1) ma.literals ma.sizes ma.told ma.toldNot ma.drafted ma.draft) (mKnow.mk 0 mn.many mn.found) ms mb mt mw mg md].flatten) C0 hH 0 rfl hc_8 8 (by decide) k_630 rfl rfl (Or.inl rfl) (Nat.le_of_ble_eq_true rfl) rfl d_Ref_drop_22 (fun H locs hH => ?_)
    refine lv_aload_n hx hb d_Ref_drop_25 rfl (lv_at hl 0 rfl) ?_
    refine q_get (v := .int (ma.clauses - 1)) C0 hH 0 rfl hc_8 1 (by decide) k_623 rfl d_Ref_drop_26 ?_
    exact q_reti C0 hH ((mForm.mk ma.variables (ma.clauses - 1) ma.literals ma.sizes ma.told ma.toldNot ma.drafted ma.draft), (mKnow.mk 0 mn.many mn.found)) rfl h d_Ref_drop_29
  · have h := h.2 c
    refine lv_bipush (v := (-2)) hx hb d_Ref_drop_7 (by decide) ?_
    exact q_reti C0 hH (ma, mn) rfl h d_Ref_drop_9
theorem d_Ref_at_0 : decode b_Ref_at 0 = .ok (.iload_n 1, 1) := by decide +kernel
theorem d_Ref_at_1 : decode b_Ref_at 1 = .ok (.iconst 0, 1) := by decide +kernel
theorem d_Ref_at_2 : decode b_Ref_at 2 = .ok (.aload_n 0, 1) := by decide +kernel
theorem d_Ref_at_3 : decode b_Ref_at 3 = .ok (.getfield 63, 3) := by decide +kernel
theorem d_Ref_at_6 : decode b_Ref_at 6 = .ok (.iconst 1, 1) := by decide +kernel
theorem d_Ref_at_7 : decode b_Ref_at 7 = .ok (.isub, 1) := by decide +kernel
theorem d_Ref_at_8 : decode b_Ref_at 8 = .ok (.invokestatic 59, 3) := by decide +kernel
theorem d_Ref_at_11 : decode b_Ref_at 11 = .ok (.ifCond .eq 7, 3) := by decide +kernel
theorem d_Ref_at_14 : decode b_Ref_at 14 = .ok (.iload_n 2, 1) := by decide +kernel
theorem d_Ref_at_15 : decode b_Ref_at 15 = .ok (.ifCond .ge 5, 3) := by decide +kernel
theorem d_Ref_at_18 : decode b_Ref_at 18 = .ok (.iconst (-1), 1) := by decide +kernel
theorem d_Ref_at_19 : decode b_Ref_at 19 = .ok (.ireturn, 1) := by decide +kernel
theorem d_Ref_at_20 : decode b_Ref_at 20 = .ok (.iload_n 2, 1) := by decide +kernel
theorem d_Ref_at_21 : decode b_Ref_at 21 = .ok (.aload_n 0, 1) := by decide +kernel
theorem d_Ref_at_22 : decode b_Ref_at 22 = .ok (.getfield 13, 3) := by decide +kernel
theorem d_Ref_at_25 : decode b_Ref_at 25 = .ok (.iload_n 1, 1) := by decide +kernel
theorem d_Ref_at_26 : decode b_Ref_at 26 = .ok (.iaload, 1) := by decide +kernel
theorem d_Ref_at_27 : decode b_Ref_at 27 = .ok (.if_icmp .ge 17, 3) := by decide +kernel
theorem d_Ref_at_30 : decode b_Ref_at 30 = .ok (.aload_n 0, 1) := by decide +kernel
theorem d_Ref_at_31 : decode b_Ref_at 31 = .ok (.getfield 7, 3) := by decide +kernel
theorem d_Ref_at_34 : decode b_Ref_at 34 = .ok (.bipush 6, 2) := by decide +kernel
theorem d_Ref_at_36 : decode b_Ref_at 36 = .ok (.iload_n 1, 1) := by decide +kernel
theorem d_Ref_at_37 : decode b_Ref_at 37 = .ok (.imul, 1) := by decide +kernel
theorem d_Ref_at_38 : decode b_Ref_at 38 = .ok (.iload_n 2, 1) := by decide +kernel
theorem d_Ref_at_39 : decode b_Ref_at 39 = .ok (.iadd, 1) := by decide +kernel
theorem d_Ref_at_40 : decode b_Ref_at 40 = .ok (.iaload, 1) := by decide +kernel
theorem d_Ref_at_41 : decode b_Ref_at 41 = .ok (.goto 5, 3) := by decide +kernel
theorem d_Ref_at_44 : decode b_Ref_at 44 = .ok (.bipush (-9), 2) := by decide +kernel
theorem d_Ref_at_46 : decode b_Ref_at 46 = .ok (.ireturn, 1) := by decide +kernel
set_option maxHeartbeats 4000000 in
set_option maxRecDepth 100000 in
theorem c_Ref_at (l : Launch) (dC : Nat → ClassId) (dI : Nat → Nat → Nat) (cA : ClassId) (ad : Nat → Nat) (x1 : Int32) (x2 : Int32) (ma : mForm) (mn : mKnow) (ms : mSat) (mb : mBack) (mt : mTask) (mw : (Nat → Int32)) (mg : mGo) (md : mCode) (Q : Int32 → Prop) (sz : Nat) (h : w_Ref_at x1 x2 ma Q) :
    q_Mi l y_Ref_at b_Ref_at 3 (some .int) 1 22 [.ref (ad 28), .int x1, .int x2] dC dI cA ([c_RE ad cA ma mn ms mb mt mw mg md].flatten) (fun _ : Unit => [c_RE ad cA ma mn ms mb mt mw mg md].flatten) sz (fun r _ => Q r) := by
  refine q_meti (plainFor_of_name (by decide +kernel)) (Nat.le_of_ble_eq_true rfl) (fun {p e s m below meth c ls} C0 hl hH => ?_)
  obtain ⟨hx, hb, -⟩ := id C0
  have hA : ∀ q, s.heap.size ≤ q → va_A ([c_RE ad cA ma mn ms mb mt mw mg md].flatten) s.heap.size q := q_nA
  have hl : lv_has ls 3 [(0, .ref (ad 28)), (1, .int x1), (2, .int x2)] := hl
  unfold w_Ref_at at h
  refine lv_iload_n hx hb d_Ref_at_0 rfl (lv_at hl 1 rfl) ?_
  refine lv_iconst (v := 0) hx hb d_Ref_at_1 (by decide) ?_
  refine lv_aload_n hx hb d_Ref_at_2 rfl (lv_at hl 0 rfl) ?_
  refine q_get (v := .int ma.clauses) C0 hH 0 rfl hc_8 1 (by decide) k_623 rfl d_Ref_at_3 ?_
  refine lv_iconst (v := 1) hx hb d_Ref_at_6 (by decide) ?_
  refine lv_isub hx hb d_Ref_at_7 ?_
  refine q_calls (rest := []) C0 hH hA (c_Ref_in l dC dI cA ad x1 0 (ma.clauses - 1) _ _ h) Y_Ref_in k_735 ⟨Nat.le_of_ble_eq_true rfl, Nat.le_of_ble_eq_true rfl⟩ rfl rfl (Nat.le_of_ble_eq_true rfl) hl.1 d_Ref_at_8 ⟨Nat.le_refl 0, Nat.le_refl 0⟩ (fun r_1 H locs h hH => ?_)
  try dsimp only at h
  refine lv_if_eq (tgt := 18) hx hb d_Ref_at_11 (by decide) (fun c => ?_) (fun c => ?_)
  · have h := h.1 c
    refine lv_iconst (v := (-1)) hx hb d_Ref_at_18 (by decide) ?_
    exact q_reti C0 hH () rfl h d_Ref_at_19
  · have h := h.2 c
    refine lv_iload_n hx hb d_Ref_at_14 rfl (lv_at hl 2 rfl) ?_
    refine lv_if_ge (tgt := 20) hx hb d_Ref_at_15 (by decide) (fun c => ?_) (fun c => ?_)
    · have h := h.1 c
      refine lv_iload_n hx hb d_Ref_at_20 rfl (lv_at hl 2 rfl) ?_
      refine lv_aload_n hx hb d_Ref_at_21 rfl (lv_at hl 0 rfl) ?_
      refine q_get (v := .ref (ad 30)) C0 hH 0 rfl hc_8 3 (by decide) k_625 rfl d_Ref_at_22 ?_
      refine lv_iload_n hx hb d_Ref_at_25 rfl (lv_at hl 1 rfl) ?_
      obtain ⟨hi, h⟩ := h
      refine q_ald (f := ma.sizes) C0 hH 2 rfl hi d_Ref_at_26 ?_
      refine lv_icmp_ge (tgt := 44) hx hb d_Ref_at_27 (by decide) (fun c => ?_) (fun c => ?_)
      · have h := h.1 c
        refine lv_bipush (v := (-9)) hx hb d_Ref_at_44 (by decide) ?_
        exact q_reti C0 hH () rfl h d_Ref_at_46
      · have h := h.2 c
        refine lv_aload_n hx hb d_Ref_at_30 rfl (lv_at hl 0 rfl) ?_
        refine q_get (v := .ref (ad 29)) C0 hH 0 rfl hc_8 2 (by decide) k_624 rfl d_Ref_at_31 ?_
        refine lv_bipush (v := 6) hx hb d_Ref_at_34 (by decide) ?_
        refine lv_iload_n hx hb d_Ref_at_36 rfl (lv_at hl 1 rfl) ?_
        refine lv_imul hx hb d_Ref_at_37 ?_
        refine lv_iload_n hx hb d_Ref_at_38 rfl (lv_at hl 2 rfl) ?_
        refine lv_iadd hx hb d_Ref_at_39 ?_
        obtain ⟨hi, h⟩ := h
        refine q_ald (f := ma.literals) C0 hH 1 rfl hi d_Ref_at_40 ?_
        refine lv_goto (tgt := 46) hx hb d_Ref_at_41 (by decide) ?_
        exact q_reti C0 hH () rfl h d_Ref_at_46
    · have h := h.2 c
      refine lv_iconst (v := (-1)) hx hb d_Ref_at_18 (by decide) ?_
      exact q_reti C0 hH () rfl h d_Ref_at_19
theorem d_Ref_ones_0 : decode b_Ref_ones 0 = .ok (.iconst 0, 1) := by decide +kernel
theorem d_Ref_ones_1 : decode b_Ref_ones 1 = .ok (.istore_n 1, 1) := by decide +kernel
theorem d_Ref_ones_2 : decode b_Ref_ones 2 = .ok (.iload_n 0, 1) := by decide +kernel
theorem d_Ref_ones_3 : decode b_Ref_ones 3 = .ok (.istore_n 2, 1) := by decide +kernel
theorem d_Ref_ones_4 : decode b_Ref_ones 4 = .ok (.iload_n 2, 1) := by decide +kernel
theorem d_Ref_ones_5 : decode b_Ref_ones 5 = .ok (.ifCond .eq 15, 3) := by decide +kernel
theorem d_Ref_ones_8 : decode b_Ref_ones 8 = .ok (.iinc 1 1, 3) := by decide +kernel
theorem d_Ref_ones_11 : decode b_Ref_ones 11 = .ok (.iload_n 2, 1) := by decide +kernel
theorem d_Ref_ones_12 : decode b_Ref_ones 12 = .ok (.iload_n 2, 1) := by decide +kernel
theorem d_Ref_ones_13 : decode b_Ref_ones 13 = .ok (.iconst 1, 1) := by decide +kernel
theorem d_Ref_ones_14 : decode b_Ref_ones 14 = .ok (.isub, 1) := by decide +kernel
theorem d_Ref_ones_15 : decode b_Ref_ones 15 = .ok (.iand, 1) := by decide +kernel
theorem d_Ref_ones_16 : decode b_Ref_ones 16 = .ok (.istore_n 2, 1) := by decide +kernel
theorem d_Ref_ones_17 : decode b_Ref_ones 17 = .ok (.goto (-13), 3) := by decide +kernel
theorem d_Ref_ones_20 : decode b_Ref_ones 20 = .ok (.iload_n 1, 1) := by decide +kernel
theorem d_Ref_ones_21 : decode b_Ref_ones 21 = .ok (.ireturn, 1) := by decide +kernel
set_option maxHeartbeats 4000000 in
set_option maxRecDepth 100000 in
theorem x_Ref_ones_L4 {p : Program} {e : Env} {s : State} {m : MethodId} {args : Array Value} {below : List Frame} {meth : Method} {c : Code} {l : Launch} {dC : Nat → ClassId} {dI : Nat → Nat → Nat} {cA : ClassId} {ad : Nat → Nat} {w0 : va_W} (C0 : q_C p s m args meth c b_Ref_ones 3 (some .int) "PlanClausesModel" dC dI cA) (hA : ∀ q, s.heap.size ≤ q → va_A w0 s.heap.size q) {Q : Int32 → Prop} {K20 : Int32 → Prop}
    (hK20 : ∀ (x1 : Int32) (H : Heap) (locs : List Loc) (ls : Array Slot), K20 x1 → lv_has ls 3 [(1, .int x1)] → q_H dC dI (va_A w0 s.heap.size) s.heap H locs ([]) → W p l e (q_R 0 0) s m args below meth c H locs 0 0 (q_Zi below args s dC dI cA w0 (fun _ : Unit => []) (fun r _ => Q r)) (F0 m 20 ls [])) :
    ∀ (nn : Nat) (x1 : Int32) (x2 : Int32) (H : Heap) (locs : List Loc) (ls : Array Slot), w_Ref_ones_L4 K20 nn x1 x2 → lv_has ls 3 [(1, .int x1), (2, .int x2)] → q_H dC dI (va_A w0 s.heap.size) s.heap H locs ([]) → W p l e (q_R 0 0) s m args below meth c H locs 0 0 (q_Zi below args s dC dI cA w0 (fun _ : Unit => []) (fun r _ => Q r)) (F0 m 4 ls []) := by
  obtain ⟨hx, hb, -⟩ := id C0
  intro nn
  induction nn with
  | zero =>
    intro x1 x2 H locs ls h
    exact (show False from h).elim
  | succ nn ih =>
    intro x1 x2 H locs ls h hl hH
    rw [w_Ref_ones_L4] at h
    refine lv_iload_n hx hb d_Ref_ones_4 rfl (lv_at hl 1 rfl) ?_
    refine lv_if_eq (tgt := 20) hx hb d_Ref_ones_5 (by decide) (fun c => ?_) (fun c => ?_)
    · have h := h.1 c
      exact hK20 x1 _ _ _ h (lv_sub hl [0] rfl) hH
    · have h := h.2 c
      refine lv_iinc (v := (x1 + 1)) (lv' := [(1, .int (x1 + 1)), (2, .int x2)]) hx hb d_Ref_ones_8 hl (k := 0) rfl rfl (by decide) rfl (fun ls hl => ?_)
      refine lv_iload_n hx hb d_Ref_ones_11 rfl (lv_at hl 1 rfl) ?_
      refine lv_iload_n hx hb d_Ref_ones_12 rfl (lv_at hl 1 rfl) ?_
      refine lv_iconst (v := 1) hx hb d_Ref_ones_13 (by decide) ?_
      refine lv_isub hx hb d_Ref_ones_14 ?_
      refine lv_iand hx hb d_Ref_ones_15 ?_
      refine lv_istore_n (lv' := [(2, .int (x2 &&& (x2 - 1))), (1, .int (x1 + 1))]) hx hb d_Ref_ones_16 rfl hl (by decide) rfl (fun ls hl => ?_)
      refine lv_goto (tgt := 4) hx hb d_Ref_ones_17 (by decide) ?_
      exact ih (x1 + 1) (x2 &&& (x2 - 1)) _ _ _ h (lv_sub hl [1, 0] rfl) hH
set_option maxHeartbeats 4000000 in
set_option maxRecDepth 100000 in
theorem c_Ref_ones (l : Launch) (dC : Nat → ClassId) (dI : Nat → Nat → Nat) (cA : ClassId) (ad : Nat → Nat) (x0 : Int32) (Q : Int32 → Prop) (sz : Nat) (h : w_Ref_ones x0 Q) :
    q_Mi l y_Ref_ones b_Ref_ones 3 (some .int) 0 0 [.int x0] dC dI cA ([]) (fun _ : Unit => []) sz (fun r _ => Q r) := by
  refine q_meti (plainFor_of_name (by decide +kernel)) (Nat.le_of_ble_eq_true rfl) (fun {p e s m below meth c ls} C0 hl hH => ?_)
  obtain ⟨hx, hb, -⟩ := id C0
  have hA : ∀ q, s.heap.size ≤ q → va_A ([]) s.heap.size q := q_nA
  have hl : lv_has ls 3 [(0, .int x0)] := hl
  unfold w_Ref_ones at h
  refine lv_iconst (v := 0) hx hb d_Ref_ones_0 (by decide) ?_
  refine lv_istore_n (lv' := [(1, .int 0), (0, .int x0)]) hx hb d_Ref_ones_1 rfl hl (by decide) rfl (fun ls hl => ?_)
  refine lv_iload_n hx hb d_Ref_ones_2 rfl (lv_at hl 1 rfl) ?_
  refine lv_istore_n (lv' := [(2, .int x0), (1, .int 0), (0, .int x0)]) hx hb d_Ref_ones_3 rfl hl (by decide) rfl (fun ls hl => ?_)
  obtain ⟨nn, h⟩ := h
  refine x_Ref_ones_L4 (ad := ad) C0 hA ?_ nn 0 x0 _ _ _ h (lv_sub hl [1, 0] rfl) hH
  · intro x1_1 H locs ls h hl hH
    try dsimp only at h
    refine lv_iload_n hx hb d_Ref_ones_20 rfl (lv_at hl 0 rfl) ?_
    exact q_reti C0 hH () rfl h d_Ref_ones_21
