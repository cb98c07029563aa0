theorem d_PC_shortest_0 : decode b_PC_shortest 0 = .ok (.iconst 0, 1) := by decide +kernel
theorem d_PC_shortest_1 : decode b_PC_shortest 1 = .ok (.istore_n 1, 1) := by decide +kernel
theorem d_PC_shortest_2 : decode b_PC_shortest 2 = .ok (.iload_n 1, 1) := by decide +kernel
theorem d_PC_shortest_3 : decode b_PC_shortest 3 = .ok (.iconst 5, 1) := by decide +kernel
theorem d_PC_shortest_4 : decode b_PC_shortest 4 = .ok (.if_icmp .gt 29, 3) := by decide +kernel
theorem d_PC_shortest_7 : decode b_PC_shortest 7 = .ok (.aload_n 0, 1) := by decide +kernel
theorem d_PC_shortest_8 : decode b_PC_shortest 8 = .ok (.getfield 28, 3) := by decide +kernel
theorem d_PC_shortest_11 : decode b_PC_shortest 11 = .ok (.iload_n 1, 1) := by decide +kernel
theorem d_PC_shortest_12 : decode b_PC_shortest 12 = .ok (.aload_n 0, 1) := by decide +kernel
theorem d_PC_shortest_13 : decode b_PC_shortest 13 = .ok (.getfield 28, 3) := by decide +kernel
theorem d_PC_shortest_16 : decode b_PC_shortest 16 = .ok (.getfield 127, 3) := by decide +kernel
theorem d_PC_shortest_19 : decode b_PC_shortest 19 = .ok (.invokevirtual 130, 3) := by decide +kernel
theorem d_PC_shortest_22 : decode b_PC_shortest 22 = .ok (.ifCond .le 5, 3) := by decide +kernel
theorem d_PC_shortest_25 : decode b_PC_shortest 25 = .ok (.iload_n 1, 1) := by decide +kernel
theorem d_PC_shortest_26 : decode b_PC_shortest 26 = .ok (.ireturn, 1) := by decide +kernel
theorem d_PC_shortest_27 : decode b_PC_shortest 27 = .ok (.iinc 1 1, 3) := by decide +kernel
theorem d_PC_shortest_30 : decode b_PC_shortest 30 = .ok (.goto (-28), 3) := by decide +kernel
theorem d_PC_shortest_33 : decode b_PC_shortest 33 = .ok (.bipush (-9), 2) := by decide +kernel
theorem d_PC_shortest_35 : decode b_PC_shortest 35 = .ok (.ireturn, 1) := by decide +kernel
set_option maxHeartbeats 4000000 in
set_option maxRecDepth 100000 in
theorem x_PC_shortest_L2 {p : Program} {e : Env} {s : State} {m : MethodId} {args : Array Value} {below : List Frame} {meth : Method} {c : Code} {l : Launch} {dC : Nat → ClassId} {dI : Nat → Nat → Nat} {cA : ClassId} {ad : Nat → Nat} {w0 : va_W} (C0 : q_C p s m args meth c b_PC_shortest 2 (some .int) "PlanClauses" dC dI cA) (hA : ∀ q, s.heap.size ≤ q → va_A w0 s.heap.size q) (ta : tTask) {Q : Int32 → tWays → Prop} {K33 : tWays → Prop}
    (hK33 : ∀ (tw : tWays) (H : Heap) (locs : List Loc) (ls : Array Slot), K33 tw → lv_has ls 2 [] → q_H dC dI (va_A w0 s.heap.size) s.heap H locs ([c_PC ad, c_TA ad cA ta tw].flatten) → W p l e (q_R 3 69) s m args below meth c H locs 0 0 (q_Zi below args s dC dI cA w0 (fun u : tWays => [c_PC ad, c_TA ad cA ta u].flatten) (fun r u => Q r u)) (F0 m 33 ls [])) :
    ∀ (nn : Nat) (x1 : Int32) (tw : tWays) (H : Heap) (locs : List Loc) (ls : Array Slot), w_PC_shortest_L2 ta K33 Q nn x1 tw → lv_has ls 2 [(0, .ref (ad 0)), (1, .int x1)] → q_H dC dI (va_A w0 s.heap.size) s.heap H locs ([c_PC ad, c_TA ad cA ta tw].flatten) → W p l e (q_R 3 69) s m args below meth c H locs 0 0 (q_Zi below args s dC dI cA w0 (fun u : tWays => [c_PC ad, c_TA ad cA ta u].flatten) (fun r u => Q r u)) (F0 m 2 ls []) := by
  obtain ⟨hx, hb, -⟩ := id C0
  intro nn
  induction nn with
  | zero =>
    intro x1 tw H locs ls h
    exact (show False from h).elim
  | succ nn ih =>
    intro x1 tw H locs ls h hl hH
    rw [w_PC_shortest_L2] at h
    refine lv_iload_n hx hb d_PC_shortest_2 rfl (lv_at hl 1 rfl) ?_
    refine lv_iconst (v := 5) hx hb d_PC_shortest_3 (by decide) ?_
    refine lv_icmp_gt (tgt := 33) hx hb d_PC_shortest_4 (by decide) (fun c => ?_) (fun c => ?_)
    · have h := h.1 c
      exact hK33 tw _ _ _ h (lv_sub hl [] rfl) hH
    · have h := h.2 c
      refine lv_aload_n hx hb d_PC_shortest_7 rfl (lv_at hl 0 rfl) ?_
      refine q_get (v := .ref (ad 20)) C0 hH 0 rfl hc_0 2 (by decide) k_258 rfl d_PC_shortest_8 ?_
      refine lv_iload_n hx hb d_PC_shortest_11 rfl (lv_at hl 1 rfl) ?_
      refine lv_aload_n hx hb d_PC_shortest_12 rfl (lv_at hl 0 rfl) ?_
      refine q_get (v := .ref (ad 20)) C0 hH 0 rfl hc_0 2 (by decide) k_258 rfl d_PC_shortest_13 ?_
      refine q_get (v := .int ta.beginning) C0 hH 1 rfl hc_6 2 (by decide) k_195 rfl d_PC_shortest_16 ?_
      refine q_calli (rest := []) (ws' := fun u : tWays => [c_PC ad, c_TA ad cA ta u].flatten) C0 hH hA (c_Task_ways l dC dI cA ad x1 ta.beginning ta tw _ _ h) Y_Task_ways k_510 1 rfl hc_6 (q_pg [1] [0] [0, 1] 2 1 rfl (by decide) rfl (fun _ => rfl) rfl (by decide) (fun _ => rfl)) ⟨Nat.le_of_ble_eq_true rfl, Nat.le_of_ble_eq_true rfl⟩ rfl rfl (Nat.le_of_ble_eq_true rfl) hl.1 d_PC_shortest_19 ⟨Nat.le_refl 0, Nat.le_refl 0⟩ (fun r_1 u_1 H locs h hH => ?_)
      obtain ⟨tw_1, rfl⟩ : ∃ z, z = u_1 := ⟨_, rfl⟩
      try dsimp only at h
      have hH : q_H dC dI (va_A w0 s.heap.size) s.heap H locs ([c_PC ad, c_TA ad cA ta tw_1].flatten) := hH
      refine lv_if_le (tgt := 27) hx hb d_PC_shortest_22 (by decide) (fun c => ?_) (fun c => ?_)
      · have h := h.1 c
        refine lv_iinc (v := (x1 + 1)) (lv' := [(1, .int (x1 + 1)), (0, .ref (ad 0))]) hx hb d_PC_shortest_27 hl (k := 1) rfl rfl (by decide) rfl (fun ls hl => ?_)
        refine lv_goto (tgt := 2) hx hb d_PC_shortest_30 (by decide) ?_
        exact ih (x1 + 1) tw_1 _ _ _ h (lv_sub hl [1, 0] rfl) hH
      · have h := h.2 c
        refine lv_iload_n hx hb d_PC_shortest_25 rfl (lv_at hl 1 rfl) ?_
        exact q_reti C0 hH tw_1 rfl h d_PC_shortest_26
set_option maxHeartbeats 4000000 in
set_option maxRecDepth 100000 in
theorem c_PC_shortest (l : Launch) (dC : Nat → ClassId) (dI : Nat → Nat → Nat) (cA : ClassId) (ad : Nat → Nat) (ta : tTask) (tw : tWays) (Q : Int32 → tWays → Prop) (sz : Nat) (h : w_PC_shortest ta tw Q) :
    q_Mi l y_PC_shortest b_PC_shortest 2 (some .int) 3 69 [.ref (ad 0)] dC dI cA ([c_PC ad, c_TA ad cA ta tw].flatten) (fun u : tWays => [c_PC ad, c_TA ad cA ta u].flatten) sz (fun r u => Q r u) := by
  refine q_meti (plainFor_of_name (by decide +kernel)) (Nat.le_of_ble_eq_true rfl) (fun {p e s m below meth c ls} C0 hl hH => ?_)
  obtain ⟨hx, hb, -⟩ := id C0
  have hA : ∀ q, s.heap.size ≤ q → va_A ([c_PC ad, c_TA ad cA ta tw].flatten) s.heap.size q := q_nA
  have hl : lv_has ls 2 [(0, .ref (ad 0))] := hl
  unfold w_PC_shortest at h
  refine lv_iconst (v := 0) hx hb d_PC_shortest_0 (by decide) ?_
  refine lv_istore_n (lv' := [(1, .int 0), (0, .ref (ad 0))]) hx hb d_PC_shortest_1 rfl hl (by decide) rfl (fun ls hl => ?_)
  obtain ⟨nn, h⟩ := h
  refine x_PC_shortest_L2 C0 hA ta ?_ nn 0 tw _ _ _ h (lv_sub hl [1, 0] rfl) hH
  · intro tw_1 H locs ls h hl hH
    try dsimp only at h
    refine lv_bipush (v := (-9)) hx hb d_PC_shortest_33 (by decide) ?_
    exact q_reti C0 hH tw_1 rfl h d_PC_shortest_35
theorem d_PC_plans_0 : decode b_PC_plans 0 = .ok (.iload_n 1, 1) := by decide +kernel
theorem d_PC_plans_1 : decode b_PC_plans 1 = .ok (.invokestatic 124, 3) := by decide +kernel
theorem d_PC_plans_4 : decode b_PC_plans 4 = .ok (.ifCond .ne 5, 3) := by decide +kernel
theorem d_PC_plans_7 : decode b_PC_plans 7 = .ok (.iconst (-1), 1) := by decide +kernel
theorem d_PC_plans_8 : decode b_PC_plans 8 = .ok (.ireturn, 1) := by decide +kernel
theorem d_PC_plans_9 : decode b_PC_plans 9 = .ok (.aload_n 0, 1) := by decide +kernel
theorem d_PC_plans_10 : decode b_PC_plans 10 = .ok (.getfield 28, 3) := by decide +kernel
theorem d_PC_plans_13 : decode b_PC_plans 13 = .ok (.iload_n 1, 1) := by decide +kernel
theorem d_PC_plans_14 : decode b_PC_plans 14 = .ok (.aload_n 0, 1) := by decide +kernel
theorem d_PC_plans_15 : decode b_PC_plans 15 = .ok (.getfield 28, 3) := by decide +kernel
theorem d_PC_plans_18 : decode b_PC_plans 18 = .ok (.getfield 127, 3) := by decide +kernel
theorem d_PC_plans_21 : decode b_PC_plans 21 = .ok (.invokevirtual 130, 3) := by decide +kernel
theorem d_PC_plans_24 : decode b_PC_plans 24 = .ok (.ireturn, 1) := by decide +kernel
set_option maxHeartbeats 4000000 in
set_option maxRecDepth 100000 in
theorem c_PC_plans (l : Launch) (dC : Nat → ClassId) (dI : Nat → Nat → Nat) (cA : ClassId) (ad : Nat → Nat) (x1 : Int32) (ta : tTask) (tw : tWays) (Q : Int32 → tWays → Prop) (sz : Nat) (h : w_PC_plans x1 ta tw Q) :
    q_Mi l y_PC_plans b_PC_plans 2 (some .int) 3 69 [.ref (ad 0), .int x1] dC dI cA ([c_PC ad, c_TA ad cA ta tw].flatten) (fun u : tWays => [c_PC ad, c_TA ad cA ta u].flatten) sz (fun r u => Q r u) := by
  refine q_meti (plainFor_of_name (by decide +kernel)) (Nat.le_of_ble_eq_true rfl) (fun {p e s m below meth c ls} C0 hl hH => ?_)
  obtain ⟨hx, hb, -⟩ := id C0
  have hA : ∀ q, s.heap.size ≤ q → va_A ([c_PC ad, c_TA ad cA ta tw].flatten) s.heap.size q := q_nA
  have hl : lv_has ls 2 [(0, .ref (ad 0)), (1, .int x1)] := hl
  unfold w_PC_plans at h
  refine lv_iload_n hx hb d_PC_plans_0 rfl (lv_at hl 1 rfl) ?_
  refine q_calls (rest := []) C0 hH hA (c_PC_isLength l dC dI cA ad x1 _ _ h) Y_PC_isLength k_507 ⟨Nat.le_of_ble_eq_true rfl, Nat.le_of_ble_eq_true rfl⟩ rfl rfl (Nat.le_of_ble_eq_true rfl) hl.1 d_PC_plans_1 ⟨Nat.le_refl 0, Nat.le_refl 0⟩ (fun r_1 H locs h hH => ?_)
  try dsimp only at h
  refine lv_if_ne (tgt := 9) hx hb d_PC_plans_4 (by decide) (fun c => ?_) (fun c => ?_)
  · have h := h.1 c
    refine lv_aload_n hx hb d_PC_plans_9 rfl (lv_at hl 0 rfl) ?_
    refine q_get (v := .ref (ad 20)) C0 hH 0 rfl hc_0 2 (by decide) k_258 rfl d_PC_plans_10 ?_
    refine lv_iload_n hx hb d_PC_plans_13 rfl (lv_at hl 1 rfl) ?_
    refine lv_aload_n hx hb d_PC_plans_14 rfl (lv_at hl 0 rfl) ?_
    refine q_get (v := .ref (ad 20)) C0 hH 0 rfl hc_0 2 (by decide) k_258 rfl d_PC_plans_15 ?_
    refine q_get (v := .int ta.beginning) C0 hH 1 rfl hc_6 2 (by decide) k_195 rfl d_PC_plans_18 ?_
    refine q_calli (rest := []) (ws' := fun u : tWays => [c_PC ad, c_TA ad cA ta u].flatten) C0 hH hA (c_Task_ways l dC dI cA ad x1 ta.beginning ta tw _ _ h) Y_Task_ways k_510 1 rfl hc_6 (q_pg [1] [0] [0, 1] 2 1 rfl (by decide) rfl (fun _ => rfl) rfl (by decide) (fun _ => rfl)) ⟨Nat.le_of_ble_eq_true rfl, Nat.le_of_ble_eq_true rfl⟩ rfl rfl (Nat.le_of_ble_eq_true rfl) hl.1 d_PC_plans_21 ⟨Nat.le_refl 0, Nat.le_refl 0⟩ (fun r_2 u_2 H locs h hH => ?_)
    obtain ⟨tw_2, rfl⟩ : ∃ z, z = u_2 := ⟨_, rfl⟩
    try dsimp only at h
    have hH : q_H dC dI (va_A ([c_PC ad, c_TA ad cA ta tw].flatten) s.heap.size) s.heap H locs ([c_PC ad, c_TA ad cA ta tw_2].flatten) := hH
    exact q_reti C0 hH tw_2 rfl h d_PC_plans_24
  · have h := h.2 c
    refine lv_iconst (v := (-1)) hx hb d_PC_plans_7 (by decide) ?_
    exact q_reti C0 hH tw rfl h d_PC_plans_8
theorem d_Code_has_0 : decode b_Code_has 0 = .ok (.iload_n 0, 1) := by decide +kernel
theorem d_Code_has_1 : decode b_Code_has 1 = .ok (.iload_n 1, 1) := by decide +kernel
theorem d_Code_has_2 : decode b_Code_has 2 = .ok (.ishr, 1) := by decide +kernel
theorem d_Code_has_3 : decode b_Code_has 3 = .ok (.iconst 1, 1) := by decide +kernel
theorem d_Code_has_4 : decode b_Code_has 4 = .ok (.iand, 1) := by decide +kernel
theorem d_Code_has_5 : decode b_Code_has 5 = .ok (.ifCond .eq 7, 3) := by decide +kernel
theorem d_Code_has_8 : decode b_Code_has 8 = .ok (.iconst 1, 1) := by decide +kernel
theorem d_Code_has_9 : decode b_Code_has 9 = .ok (.goto 4, 3) := by decide +kernel
theorem d_Code_has_12 : decode b_Code_has 12 = .ok (.iconst 0, 1) := by decide +kernel
theorem d_Code_has_13 : decode b_Code_has 13 = .ok (.ireturn, 1) := by decide +kernel
set_option maxHeartbeats 4000000 in
set_option maxRecDepth 100000 in
theorem c_Code_has (l : Launch) (dC : Nat → ClassId) (dI : Nat → Nat → Nat) (cA : ClassId) (ad : Nat → Nat) (x0 : Int32) (x1 : Int32) (Q : Int32 → Prop) (sz : Nat) (h : w_Code_has x0 x1 Q) :
    q_Mi l y_Code_has b_Code_has 2 (some .boolean) 0 0 [.int x0, .int x1] dC dI cA ([]) (fun _ : Unit => []) sz (fun r _ => Q r) := by
  refine q_meti (plainFor_of_name (by decide +kernel)) (Nat.le_of_ble_eq_true rfl) (fun {p e s m below meth c ls} C0 hl hH => ?_)
  obtain ⟨hx, hb, -⟩ := id C0
  have hA : ∀ q, s.heap.size ≤ q → va_A ([]) s.heap.size q := q_nA
  have hl : lv_has ls 2 [(0, .int x0), (1, .int x1)] := hl
  unfold w_Code_has at h
  refine lv_iload_n hx hb d_Code_has_0 rfl (lv_at hl 0 rfl) ?_
  refine lv_iload_n hx hb d_Code_has_1 rfl (lv_at hl 1 rfl) ?_
  refine lv_ishr hx hb d_Code_has_2 ?_
  refine lv_iconst (v := 1) hx hb d_Code_has_3 (by decide) ?_
  refine lv_iand hx hb d_Code_has_4 ?_
  refine lv_if_eq (tgt := 12) hx hb d_Code_has_5 (by decide) (fun c => ?_) (fun c => ?_)
  · have h := h.1 c
    refine lv_iconst (v := 0) hx hb d_Code_has_12 (by decide) ?_
    exact q_retz C0 hH () rfl (Or.inl rfl) h d_Code_has_13
  · have h := h.2 c
    refine lv_iconst (v := 1) hx hb d_Code_has_8 (by decide) ?_
    refine lv_goto (tgt := 13) hx hb d_Code_has_9 (by decide) ?_
    exact q_retz C0 hH () rfl (Or.inr rfl) h d_Code_has_13
theorem d_Code_fact_0 : decode b_Code_fact 0 = .ok (.iconst 1, 1) := by decide +kernel
theorem d_Code_fact_1 : decode b_Code_fact 1 = .ok (.iload_n 2, 1) := by decide +kernel
theorem d_Code_fact_2 : decode b_Code_fact 2 = .ok (.aload_n 0, 1) := by decide +kernel
theorem d_Code_fact_3 : decode b_Code_fact 3 = .ok (.getfield 18, 3) := by decide +kernel
theorem d_Code_fact_6 : decode b_Code_fact 6 = .ok (.getfield 52, 3) := by decide +kernel
theorem d_Code_fact_9 : decode b_Code_fact 9 = .ok (.imul, 1) := by decide +kernel
theorem d_Code_fact_10 : decode b_Code_fact 10 = .ok (.iadd, 1) := by decide +kernel
theorem d_Code_fact_11 : decode b_Code_fact 11 = .ok (.iload_n 1, 1) := by decide +kernel
theorem d_Code_fact_12 : decode b_Code_fact 12 = .ok (.iadd, 1) := by decide +kernel
theorem d_Code_fact_13 : decode b_Code_fact 13 = .ok (.ireturn, 1) := by decide +kernel
set_option maxHeartbeats 4000000 in
set_option maxRecDepth 100000 in
theorem c_Code_fact (l : Launch) (dC : Nat → ClassId) (dI : Nat → Nat → Nat) (cA : ClassId) (ad : Nat → Nat) (x1 : Int32) (x2 : Int32) (ta : tTask) (tw : tWays) (co : tCode) (ct : tTold) (Q : Int32 → Prop) (sz : Nat) (h : w_Code_fact x1 x2 ta Q) :
    q_Mi l y_Code_fact b_Code_fact 3 (some .int) 0 0 [.ref (ad 25), .int x1, .int x2] dC dI cA ([c_TA ad cA ta tw, c_CO ad cA co ct].flatten) (fun _ : Unit => [c_TA ad cA ta tw, c_CO ad cA co ct].flatten) sz (fun r _ => Q r) := by
  refine q_meti (plainFor_of_name (by decide +kernel)) (Nat.le_of_ble_eq_true rfl) (fun {p e s m below meth c ls} C0 hl hH => ?_)
  obtain ⟨hx, hb, -⟩ := id C0
  have hA : ∀ q, s.heap.size ≤ q → va_A ([c_TA ad cA ta tw, c_CO ad cA co ct].flatten) s.heap.size q := q_nA
  have hl : lv_has ls 3 [(0, .ref (ad 25)), (1, .int x1), (2, .int x2)] := hl
  unfold w_Code_fact at h
  refine lv_iconst (v := 1) hx hb d_Code_fact_0 (by decide) ?_
  refine lv_iload_n hx hb d_Code_fact_1 rfl (lv_at hl 2 rfl) ?_
  refine lv_aload_n hx hb d_Code_fact_2 rfl (lv_at hl 0 rfl) ?_
  refine q_get (v := .ref (ad 20)) C0 hH 5 rfl hc_7 0 (by decide) k_232 rfl d_Code_fact_3 ?_
  refine q_get (v := .int ta.factCount) C0 hH 0 rfl hc_6 0 (by decide) k_188 rfl d_Code_fact_6 ?_
  refine lv_imul hx hb d_Code_fact_9 ?_
  refine lv_iadd hx hb d_Code_fact_10 ?_
  refine lv_iload_n hx hb d_Code_fact_11 rfl (lv_at hl 1 rfl) ?_
  refine lv_iadd hx hb d_Code_fact_12 ?_
  exact q_reti C0 hH () rfl h d_Code_fact_13
theorem d_Code_put_0 : decode b_Code_put 0 = .ok (.aload_n 0, 1) := by decide +kernel
theorem d_Code_put_1 : decode b_Code_put 1 = .ok (.getfield 33, 3) := by decide +kernel
theorem d_Code_put_4 : decode b_Code_put 4 = .ok (.sipush 982, 3) := by decide +kernel
theorem d_Code_put_7 : decode b_Code_put 7 = .ok (.if_icmp .ge 23, 3) := by decide +kernel
theorem d_Code_put_10 : decode b_Code_put 10 = .ok (.aload_n 0, 1) := by decide +kernel
theorem d_Code_put_11 : decode b_Code_put 11 = .ok (.getfield 9, 3) := by decide +kernel
theorem d_Code_put_14 : decode b_Code_put 14 = .ok (.aload_n 0, 1) := by decide +kernel
theorem d_Code_put_15 : decode b_Code_put 15 = .ok (.getfield 33, 3) := by decide +kernel
theorem d_Code_put_18 : decode b_Code_put 18 = .ok (.iload_n 1, 1) := by decide +kernel
theorem d_Code_put_19 : decode b_Code_put 19 = .ok (.iastore, 1) := by decide +kernel
theorem d_Code_put_20 : decode b_Code_put 20 = .ok (.aload_n 0, 1) := by decide +kernel
theorem d_Code_put_21 : decode b_Code_put 21 = .ok (.dup, 1) := by decide +kernel
theorem d_Code_put_22 : decode b_Code_put 22 = .ok (.getfield 33, 3) := by decide +kernel
theorem d_Code_put_25 : decode b_Code_put 25 = .ok (.iconst 1, 1) := by decide +kernel
theorem d_Code_put_26 : decode b_Code_put 26 = .ok (.iadd, 1) := by decide +kernel
theorem d_Code_put_27 : decode b_Code_put 27 = .ok (.putfield 33, 3) := by decide +kernel
theorem d_Code_put_30 : decode b_Code_put 30 = .ok (.return_, 1) := by decide +kernel
set_option maxHeartbeats 4000000 in
set_option maxRecDepth 100000 in
theorem c_Code_put (l : Launch) (dC : Nat → ClassId) (dI : Nat → Nat → Nat) (cA : ClassId) (ad : Nat → Nat) (x1 : Int32) (co : tCode) (ct : tTold) (Q : tCode → Prop) (sz : Nat) (h : w_Code_put x1 co Q) :
    q_Mv l y_Code_put b_Code_put 2 0 0 [.ref (ad 25), .int x1] dC dI cA ([c_CO ad cA co ct].flatten) (fun u : tCode => [c_CO ad cA u ct].flatten) sz (fun u => Q u) := by
  refine q_metv (plainFor_of_name (by decide +kernel)) (Nat.le_of_ble_eq_true rfl) (fun {p e s m below meth c ls} C0 hl hH => ?_)
  obtain ⟨hx, hb, -⟩ := id C0
  have hA : ∀ q, s.heap.size ≤ q → va_A ([c_CO ad cA co ct].flatten) s.heap.size q := q_nA
  have hl : lv_has ls 2 [(0, .ref (ad 25)), (1, .int x1)] := hl
  unfold w_Code_put at h
  refine lv_aload_n hx hb d_Code_put_0 rfl (lv_at hl 0 rfl) ?_
  refine q_get (v := .int co.literalCount) C0 hH 0 rfl hc_7 4 (by decide) k_237 rfl d_Code_put_1 ?_
  refine lv_sipush (v := 982) hx hb d_Code_put_4 (by decide) ?_
  refine lv_icmp_ge (tgt := 30) hx hb d_Code_put_7 (by decide) (fun c => ?_) (fun c => ?_)
  · have h := h.1 c
    exact q_retv C0 hH co rfl h d_Code_put_30
  · have h := h.2 c
    refine lv_aload_n hx hb d_Code_put_10 rfl (lv_at hl 0 rfl) ?_
    refine q_get (v := .ref (ad 26)) C0 hH 0 rfl hc_7 1 (by decide) k_233 rfl d_Code_put_11 ?_
    refine lv_aload_n hx hb d_Code_put_14 rfl (lv_at hl 0 rfl) ?_
    refine q_get (v := .int co.literalCount) C0 hH 0 rfl hc_7 4 (by decide) k_237 rfl d_Code_put_15 ?_
    refine lv_iload_n hx hb d_Code_put_18 rfl (lv_at hl 1 rfl) ?_
    obtain ⟨hi, h⟩ := h
    refine q_ast (ws' := [c_CO ad cA (tCode.mk (upd co.literals co.literalCount.toNatClampNeg x1) co.starts co.clauseCount co.literalCount) ct].flatten) (f := co.literals) C0 hH 1 rfl hi rfl d_Code_put_19 (fun H locs hH => ?_)
    refine lv_aload_n hx hb d_Code_put_20 rfl (lv_at hl 0 rfl) ?_
    refine lv_dup hx hb d_Code_put_21 rfl ?_
    refine q_get (v := .int co.literalCount) C0 hH 0 rfl hc_7 4 (by decide) k_237 rfl d_Code_put_22 ?_
    refine lv_iconst (v := 1) hx hb d_Code_put_25 (by decide) ?_
    refine lv_iadd hx hb d_Code_put_26 ?_
    refine q_puti (ws' := [c_CO ad cA (tCode.mk (upd co.literals co.literalCount.toNatClampNeg x1) co.starts co.clauseCount (co.literalCount + 1)) ct].flatten) C0 hH 0 rfl hc_7 4 (by decide) k_237 rfl rfl (Nat.le_of_ble_eq_true rfl) rfl d_Code_put_27 (fun H locs hH => ?_)
    exact q_retv C0 hH (tCode.mk (upd co.literals co.literalCount.toNatClampNeg x1) co.starts co.clauseCount (co.literalCount + 1)) rfl h d_Code_put_30
theorem d_Code_close_0 : decode b_Code_close 0 = .ok (.aload_n 0, 1) := by decide +kernel
theorem d_Code_close_1 : decode b_Code_close 1 = .ok (.getfield 30, 3) := by decide +kernel
theorem d_Code_close_4 : decode b_Code_close 4 = .ok (.sipush 422, 3) := by decide +kernel
theorem d_Code_close_7 : decode b_Code_close 7 = .ok (.if_icmp .ge 26, 3) := by decide +kernel
theorem d_Code_close_10 : decode b_Code_close 10 = .ok (.aload_n 0, 1) := by decide +kernel
theorem d_Code_close_11 : decode b_Code_close 11 = .ok (.dup, 1) := by decide +kernel
theorem d_Code_close_12 : decode b_Code_close 12 = .ok (.getfield 30, 3) := by decide +kernel
theorem d_Code_close_15 : decode b_Code_close 15 = .ok (.iconst 1, 1) := by decide +kernel
theorem d_Code_close_16 : decode b_Code_close 16 = .ok (.iadd, 1) := by decide +kernel
theorem d_Code_close_17 : decode b_Code_close 17 = .ok (.putfield 30, 3) := by decide +kernel
theorem d_Code_close_20 : decode b_Code_close 20 = .ok (.aload_n 0, 1) := by decide +kernel
theorem d_Code_close_21 : decode b_Code_close 21 = .ok (.getfield 15, 3) := by decide +kernel
theorem d_Code_close_24 : decode b_Code_close 24 = .ok (.aload_n 0, 1) := by decide +kernel
theorem d_Code_close_25 : decode b_Code_close 25 = .ok (.getfield 30, 3) := by decide +kernel
theorem d_Code_close_28 : decode b_Code_close 28 = .ok (.aload_n 0, 1) := by decide +kernel
theorem d_Code_close_29 : decode b_Code_close 29 = .ok (.getfield 33, 3) := by decide +kernel
theorem d_Code_close_32 : decode b_Code_close 32 = .ok (.iastore, 1) := by decide +kernel
theorem d_Code_close_33 : decode b_Code_close 33 = .ok (.return_, 1) := by decide +kernel
set_option maxHeartbeats 4000000 in
set_option maxRecDepth 100000 in
theorem c_Code_close (l : Launch) (dC : Nat → ClassId) (dI : Nat → Nat → Nat) (cA : ClassId) (ad : Nat → Nat) (co : tCode) (ct : tTold) (Q : tCode → Prop) (sz : Nat) (h : w_Code_close co Q) :
    q_Mv l y_Code_close b_Code_close 1 0 0 [.ref (ad 25)] dC dI cA ([c_CO ad cA co ct].flatten) (fun u : tCode => [c_CO ad cA u ct].flatten) sz (fun u => Q u) := by
  refine q_metv (plainFor_of_name (by decide +kernel)) (Nat.le_of_ble_eq_true rfl) (fun {p e s m below meth c ls} C0 hl hH => ?_)
  obtain ⟨hx, hb, -⟩ := id C0
  have hA : ∀ q, s.heap.size ≤ q → va_A ([c_CO ad cA co ct].flatten) s.heap.size q := q_nA
  have hl : lv_has ls 1 [(0, .ref (ad 25))] := hl
  unfold w_Code_close at h
  refine lv_aload_n hx hb d_Code_close_0 rfl (lv_at hl 0 rfl) ?_
  refine q_get (v := .int co.clauseCount) C0 hH 0 rfl hc_7 3 (by decide) k_235 rfl d_Code_close_1 ?_
  refine lv_sipush (v := 422) hx hb d_Code_close_4 (by decide) ?_
  refine lv_icmp_ge (tgt := 33) hx hb d_Code_close_7 (by decide) (fun c => ?_) (fun c => ?_)
  · have h := h.1 c
    exact q_retv C0 hH co rfl h d_Code_close_33
  · have h := h.2 c
    refine lv_aload_n hx hb d_Code_close_10 rfl (lv_at hl 0 rfl) ?_
    refine lv_dup hx hb d_Code_close_11 rfl ?_
    refine q_get (v := .int co.clauseCount) C0 hH 0 rfl hc_7 3 (by decide) k_235 rfl d_Code_close_12 ?_
    refine lv_iconst (v := 1) hx hb d_Code_close_15 (by decide) ?_
    refine lv_iadd hx hb d_Code_close_16 ?_
    refine q_puti (ws' := [c_CO ad cA (tCode.mk co.literals co.starts (co.clauseCount + 1) co.literalCount) ct].flatten) C0 hH 0 rfl hc_7 3 (by decide) k_235 rfl rfl (Nat.le_of_ble_eq_true rfl) rfl d_Code_close_17 (fun H locs hH => ?_)
    refine lv_aload_n hx hb d_Code_close_20 rfl (lv_at hl 0 rfl) ?_
    refine q_get (v := .ref (ad 27)) C0 hH 0 rfl hc_7 2 (by decide) k_234 rfl d_Code_close_21 ?_
    refine lv_aload_n hx hb d_Code_close_24 rfl (lv_at hl 0 rfl) ?_
    refine q_get (v := .int (co.clauseCount + 1)) C0 hH 0 rfl hc_7 3 (by decide) k_235 rfl d_Code_close_25 ?_
    refine lv_aload_n hx hb d_Code_close_28 rfl (lv_at hl 0 rfl) ?_
    refine q_get (v := .int co.literalCount) C0 hH 0 rfl hc_7 4 (by decide) k_237 rfl d_Code_close_29 ?_
    obtain ⟨hi, h⟩ := h
    refine q_ast (ws' := [c_CO ad cA (tCode.mk co.literals (upd co.starts (co.clauseCount + 1).toNatClampNeg co.literalCount) (co.clauseCount + 1) co.literalCount) ct].flatten) (f := co.starts) C0 hH 2 rfl hi rfl d_Code_close_32 (fun H locs hH => ?_)
    exact q_retv C0 hH (tCode.mk co.literals (upd co.starts (co.clauseCount + 1).toNatClampNeg co.literalCount) (co.clauseCount + 1) co.literalCount) rfl h d_Code_close_33
theorem d_Code_tellEnds_0 : decode b_Code_tellEnds 0 = .ok (.iconst 0, 1) := by decide +kernel
theorem d_Code_tellEnds_1 : decode b_Code_tellEnds 1 = .ok (.istore_n 1, 1) := by decide +kernel
theorem d_Code_tellEnds_2 : decode b_Code_tellEnds 2 = .ok (.iload_n 1, 1) := by decide +kernel
theorem d_Code_tellEnds_3 : decode b_Code_tellEnds 3 = .ok (.aload_n 0, 1) := by decide +kernel
theorem d_Code_tellEnds_4 : decode b_Code_tellEnds 4 = .ok (.getfield 18, 3) := by decide +kernel
theorem d_Code_tellEnds_7 : decode b_Code_tellEnds 7 = .ok (.getfield 52, 3) := by decide +kernel
theorem d_Code_tellEnds_10 : decode b_Code_tellEnds 10 = .ok (.if_icmp .ge 47, 3) := by decide +kernel
theorem d_Code_tellEnds_13 : decode b_Code_tellEnds 13 = .ok (.aload_n 0, 1) := by decide +kernel
theorem d_Code_tellEnds_14 : decode b_Code_tellEnds 14 = .ok (.aload_n 0, 1) := by decide +kernel
theorem d_Code_tellEnds_15 : decode b_Code_tellEnds 15 = .ok (.getfield 18, 3) := by decide +kernel
theorem d_Code_tellEnds_18 : decode b_Code_tellEnds 18 = .ok (.getfield 60, 3) := by decide +kernel
theorem d_Code_tellEnds_21 : decode b_Code_tellEnds 21 = .ok (.iload_n 1, 1) := by decide +kernel
theorem d_Code_tellEnds_22 : decode b_Code_tellEnds 22 = .ok (.invokestatic 63, 3) := by decide +kernel
theorem d_Code_tellEnds_25 : decode b_Code_tellEnds 25 = .ok (.ifCond .eq 12, 3) := by decide +kernel
theorem d_Code_tellEnds_28 : decode b_Code_tellEnds 28 = .ok (.aload_n 0, 1) := by decide +kernel
theorem d_Code_tellEnds_29 : decode b_Code_tellEnds 29 = .ok (.iload_n 1, 1) := by decide +kernel
theorem d_Code_tellEnds_30 : decode b_Code_tellEnds 30 = .ok (.iconst 0, 1) := by decide +kernel
theorem d_Code_tellEnds_31 : decode b_Code_tellEnds 31 = .ok (.invokevirtual 67, 3) := by decide +kernel
theorem d_Code_tellEnds_34 : decode b_Code_tellEnds 34 = .ok (.goto 10, 3) := by decide +kernel
theorem d_Code_tellEnds_37 : decode b_Code_tellEnds 37 = .ok (.aload_n 0, 1) := by decide +kernel
theorem d_Code_tellEnds_38 : decode b_Code_tellEnds 38 = .ok (.iload_n 1, 1) := by decide +kernel
theorem d_Code_tellEnds_39 : decode b_Code_tellEnds 39 = .ok (.iconst 0, 1) := by decide +kernel
theorem d_Code_tellEnds_40 : decode b_Code_tellEnds 40 = .ok (.invokevirtual 67, 3) := by decide +kernel
theorem d_Code_tellEnds_43 : decode b_Code_tellEnds 43 = .ok (.ineg, 1) := by decide +kernel
theorem d_Code_tellEnds_44 : decode b_Code_tellEnds 44 = .ok (.invokevirtual 71, 3) := by decide +kernel
theorem d_Code_tellEnds_47 : decode b_Code_tellEnds 47 = .ok (.aload_n 0, 1) := by decide +kernel
theorem d_Code_tellEnds_48 : decode b_Code_tellEnds 48 = .ok (.invokevirtual 74, 3) := by decide +kernel
theorem d_Code_tellEnds_51 : decode b_Code_tellEnds 51 = .ok (.iinc 1 1, 3) := by decide +kernel
theorem d_Code_tellEnds_54 : decode b_Code_tellEnds 54 = .ok (.goto (-52), 3) := by decide +kernel
theorem d_Code_tellEnds_57 : decode b_Code_tellEnds 57 = .ok (.iconst 0, 1) := by decide +kernel
theorem d_Code_tellEnds_58 : decode b_Code_tellEnds 58 = .ok (.istore_n 1, 1) := by decide +kernel
theorem d_Code_tellEnds_59 : decode b_Code_tellEnds 59 = .ok (.iload_n 1, 1) := by decide +kernel
theorem d_Code_tellEnds_60 : decode b_Code_tellEnds 60 = .ok (.aload_n 0, 1) := by decide +kernel
theorem d_Code_tellEnds_61 : decode b_Code_tellEnds 61 = .ok (.getfield 18, 3) := by decide +kernel
theorem d_Code_tellEnds_64 : decode b_Code_tellEnds 64 = .ok (.getfield 52, 3) := by decide +kernel
theorem d_Code_tellEnds_67 : decode b_Code_tellEnds 67 = .ok (.if_icmp .ge 40, 3) := by decide +kernel
theorem d_Code_tellEnds_70 : decode b_Code_tellEnds 70 = .ok (.aload_n 0, 1) := by decide +kernel
theorem d_Code_tellEnds_71 : decode b_Code_tellEnds 71 = .ok (.getfield 18, 3) := by decide +kernel
theorem d_Code_tellEnds_74 : decode b_Code_tellEnds 74 = .ok (.getfield 77, 3) := by decide +kernel
theorem d_Code_tellEnds_77 : decode b_Code_tellEnds 77 = .ok (.iload_n 1, 1) := by decide +kernel
theorem d_Code_tellEnds_78 : decode b_Code_tellEnds 78 = .ok (.invokestatic 63, 3) := by decide +kernel
theorem d_Code_tellEnds_81 : decode b_Code_tellEnds 81 = .ok (.ifCond .eq 20, 3) := by decide +kernel
theorem d_Code_tellEnds_84 : decode b_Code_tellEnds 84 = .ok (.aload_n 0, 1) := by decide +kernel
theorem d_Code_tellEnds_85 : decode b_Code_tellEnds 85 = .ok (.aload_n 0, 1) := by decide +kernel
theorem d_Code_tellEnds_86 : decode b_Code_tellEnds 86 = .ok (.iload_n 1, 1) := by decide +kernel
theorem d_Code_tellEnds_87 : decode b_Code_tellEnds 87 = .ok (.aload_n 0, 1) := by decide +kernel
theorem d_Code_tellEnds_88 : decode b_Code_tellEnds 88 = .ok (.getfield 26, 3) := by decide +kernel
theorem d_Code_tellEnds_91 : decode b_Code_tellEnds 91 = .ok (.invokevirtual 67, 3) := by decide +kernel
theorem d_Code_tellEnds_94 : decode b_Code_tellEnds 94 = .ok (.invokevirtual 71, 3) := by decide +kernel
theorem d_Code_tellEnds_97 : decode b_Code_tellEnds 97 = .ok (.aload_n 0, 1) := by decide +kernel
theorem d_Code_tellEnds_98 : decode b_Code_tellEnds 98 = .ok (.invokevirtual 74, 3) := by decide +kernel
theorem d_Code_tellEnds_101 : decode b_Code_tellEnds 101 = .ok (.iinc 1 1, 3) := by decide +kernel
theorem d_Code_tellEnds_104 : decode b_Code_tellEnds 104 = .ok (.goto (-45), 3) := by decide +kernel
theorem d_Code_tellEnds_107 : decode b_Code_tellEnds 107 = .ok (.return_, 1) := by decide +kernel
set_option maxHeartbeats 4000000 in
set_option maxRecDepth 100000 in
theorem x_Code_tellEnds_L59 {p : Program} {e : Env} {s : State} {m : MethodId} {args : Array Value} {below : List Frame} {meth : Method} {c : Code} {l : Launch} {dC : Nat → ClassId} {dI : Nat → Nat → Nat} {cA : ClassId} {ad : Nat → Nat} {w0 : va_W} (C0 : q_C p s m args meth c b_Code_tellEnds 2 none "PlanClauses$Code" dC dI cA) (hA : ∀ q, s.heap.size ≤ q → va_A w0 s.heap.size q) (ta : tTask) (tw : tWays) (ct : tTold) {Q : tCode → Prop} {K107 : tCode → Prop}
    (hK107 : ∀ (co : tCode) (H : Heap) (locs : List Loc) (ls : Array Slot), K107 co → lv_has ls 2 [] → q_H dC dI (va_A w0 s.heap.size) s.heap H locs ([c_TA ad cA ta tw, c_CO ad cA co ct].flatten) → W p l e (q_R 1 22) s m args below meth c H locs 0 0 (q_Zv below args s dC dI cA w0 (fun u : tCode => [c_TA ad cA ta tw, c_CO ad cA u ct].flatten) (fun u => Q u)) (F0 m 107 ls [])) :
    ∀ (nn : Nat) (x1 : Int32) (co : tCode) (H : Heap) (locs : List Loc) (ls : Array Slot), w_Code_tellEnds_L59 ta ct K107 nn x1 co → lv_has ls 2 [(0, .ref (ad 25)), (1, .int x1)] → q_H dC dI (va_A w0 s.heap.size) s.heap H locs ([c_TA ad cA ta tw, c_CO ad cA co ct].flatten) → W p l e (q_R 1 22) s m args below meth c H locs 0 0 (q_Zv below args s dC dI cA w0 (fun u : tCode => [c_TA ad cA ta tw, c_CO ad cA u ct].flatten) (fun u => Q u)) (F0 m 59 ls []) := by
  obtain ⟨hx, hb, -⟩ := id C0
  intro nn
  induction nn with
  | zero =>
    intro x1 co H locs ls h
    exact (show False from h).elim
  | succ nn ih =>
    intro x1 co H locs ls h hl hH
    rw [w_Code_tellEnds_L59] at h
    refine lv_iload_n hx hb d_Code_tellEnds_59 rfl (lv_at hl 1 rfl) ?_
    refine lv_aload_n hx hb d_Code_tellEnds_60 rfl (lv_at hl 0 rfl) ?_
    refine q_get (v := .ref (ad 20)) C0 hH 5 rfl hc_7 0 (by decide) k_232 rfl d_Code_tellEnds_61 ?_
    refine q_get (v := .int ta.factCount) C0 hH 0 rfl hc_6 0 (by decide) k_188 rfl d_Code_tellEnds_64 ?_
    refine lv_icmp_ge (tgt := 107) hx hb d_Code_tellEnds_67 (by decide) (fun c => ?_) (fun c => ?_)
    · have h := h.1 c
      exact hK107 co _ _ _ h (lv_sub hl [] rfl) hH
    · have h := h.2 c
      refine lv_aload_n hx hb d_Code_tellEnds_70 rfl (lv_at hl 0 rfl) ?_
      refine q_get (v := .ref (ad 20)) C0 hH 5 rfl hc_7 0 (by decide) k_232 rfl d_Code_tellEnds_71 ?_
      refine q_get (v := .int ta.goal) C0 hH 0 rfl hc_6 3 (by decide) k_197 rfl d_Code_tellEnds_74 ?_
      refine lv_iload_n hx hb d_Code_tellEnds_77 rfl (lv_at hl 1 rfl) ?_
      refine q_calls (rest := []) C0 hH hA (c_Code_has l dC dI cA ad ta.goal x1 _ _ h) Y_Code_has k_565 ⟨Nat.le_of_ble_eq_true rfl, Nat.le_of_ble_eq_true rfl⟩ rfl rfl (Nat.le_of_ble_eq_true rfl) hl.1 d_Code_tellEnds_78 ⟨Nat.le_refl 0, Nat.le_refl 0⟩ (fun r_1 H locs h hH => ?_)
      try dsimp only at h
      refine lv_if_eq (tgt := 101) hx hb d_Code_tellEnds_81 (by decide) (fun c => ?_) (fun c => ?_)
      · have h := h.1 c
        refine lv_iinc (v := (x1 + 1)) (lv' := [(1, .int (x1 + 1)), (0, .ref (ad 25))]) hx hb d_Code_tellEnds_101 hl (k := 1) rfl rfl (by decide) rfl (fun ls hl => ?_)
        refine lv_goto (tgt := 59) hx hb d_Code_tellEnds_104 (by decide) ?_
        exact ih (x1 + 1) co _ _ _ h (lv_sub hl [1, 0] rfl) hH
      · have h := h.2 c
        refine lv_aload_n hx hb d_Code_tellEnds_84 rfl (lv_at hl 0 rfl) ?_
        refine lv_aload_n hx hb d_Code_tellEnds_85 rfl (lv_at hl 0 rfl) ?_
        refine lv_iload_n hx hb d_Code_tellEnds_86 rfl (lv_at hl 1 rfl) ?_
        refine lv_aload_n hx hb d_Code_tellEnds_87 rfl (lv_at hl 0 rfl) ?_
        refine q_get (v := .int ct.steps) C0 hH 5 rfl hc_7 5 (by decide) k_239 rfl d_Code_tellEnds_88 ?_
        refine q_calli (rest := [.ref (ad 25)]) (ws' := fun _ : Unit => [c_TA ad cA ta tw, c_CO ad cA co ct].flatten) C0 hH hA (c_Code_fact l dC dI cA ad x1 ct.steps ta tw co ct _ _ h) Y_Code_fact k_568 5 rfl hc_7 (q_pg [0, 1] [] [0, 1] 2 2 rfl (by decide) rfl (fun _ => rfl) rfl (by decide) (fun _ => rfl)) ⟨Nat.le_of_ble_eq_true rfl, Nat.le_of_ble_eq_true rfl⟩ rfl rfl (Nat.le_of_ble_eq_true rfl) hl.1 d_Code_tellEnds_91 ⟨Nat.le_refl 0, Nat.le_refl 0⟩ (fun r_2 u_2 H locs h hH => ?_)
        try dsimp only at h
        have hH : q_H dC dI (va_A w0 s.heap.size) s.heap H locs ([c_TA ad cA ta tw, c_CO ad cA co ct].flatten) := hH
        refine q_callv (rest := []) (ws' := fun u : tCode => [c_TA ad cA ta tw, c_CO ad cA u ct].flatten) C0 hH hA (c_Code_put l dC dI cA ad r_2 co ct _ _ h) Y_Code_put k_572 5 rfl hc_7 (q_pg [1] [0] [0, 1] 2 1 rfl (by decide) rfl (fun _ => rfl) rfl (by decide) (fun _ => rfl)) ⟨Nat.le_of_ble_eq_true rfl, Nat.le_of_ble_eq_true rfl⟩ rfl rfl (Nat.le_of_ble_eq_true rfl) hl.1 d_Code_tellEnds_94 ⟨Nat.le_refl 0, Nat.le_refl 0⟩ (fun u_3 H locs h hH => ?_)
        obtain ⟨co_3, rfl⟩ : ∃ z, z = u_3 := ⟨_, rfl⟩
        try dsimp only at h
        have hH : q_H dC dI (va_A w0 s.heap.size) s.heap H locs ([c_TA ad cA ta tw, c_CO ad cA co_3 ct].flatten) := hH
        refine lv_aload_n hx hb d_Code_tellEnds_97 rfl (lv_at hl 0 rfl) ?_
        refine q_callv (rest := []) (ws' := fun u : tCode => [c_TA ad cA ta tw, c_CO ad cA u ct].flatten) C0 hH hA (c_Code_close l dC dI cA ad co_3 ct _ _ h) Y_Code_close k_576 5 rfl hc_7 (q_pg [1] [0] [0, 1] 2 1 rfl (by decide) rfl (fun _ => rfl) rfl (by decide) (fun _ => rfl)) ⟨Nat.le_of_ble_eq_true rfl, Nat.le_of_ble_eq_true rfl⟩ rfl rfl (Nat.le_of_ble_eq_true rfl) hl.1 d_Code_tellEnds_98 ⟨Nat.le_refl 0, Nat.le_refl 0⟩ (fun u_4 H locs h hH => ?_)
        obtain ⟨co_4, rfl⟩ : ∃ z, z = u_4 := ⟨_, rfl⟩
        try dsimp only at h
        have hH : q_H dC dI (va_A w0 s.heap.size) s.heap H locs ([c_TA ad cA ta tw, c_CO ad cA co_4 ct].flatten) := hH
        refine lv_iinc (v := (x1 + 1)) (lv' := [(1, .int (x1 + 1)), (0, .ref (ad 25))]) hx hb d_Code_tellEnds_101 hl (k := 1) rfl rfl (by decide) rfl (fun ls hl => ?_)
        refine lv_goto (tgt := 59) hx hb d_Code_tellEnds_104 (by decide) ?_
        exact ih (x1 + 1) co_4 _ _ _ h (lv_sub hl [1, 0] rfl) hH
set_option maxHeartbeats 4000000 in
set_option maxRecDepth 100000 in
theorem x_Code_tellEnds_L2 {p : Program} {e : Env} {s : State} {m : MethodId} {args : Array Value} {below : List Frame} {meth : Method} {c : Code} {l : Launch} {dC : Nat → ClassId} {dI : Nat → Nat → Nat} {cA : ClassId} {ad : Nat → Nat} {w0 : va_W} (C0 : q_C p s m args meth c b_Code_tellEnds 2 none "PlanClauses$Code" dC dI cA) (hA : ∀ q, s.heap.size ≤ q → va_A w0 s.heap.size q) (ta : tTask) (tw : tWays) (ct : tTold) {Q : tCode → Prop} {K57 : tCode → Prop}
    (hK57 : ∀ (co : tCode) (H : Heap) (locs : List Loc) (ls : Array Slot), K57 co → lv_has ls 2 [(0, .ref (ad 25))] → q_H dC dI (va_A w0 s.heap.size) s.heap H locs ([c_TA ad cA ta tw, c_CO ad cA co ct].flatten) → W p l e (q_R 1 22) s m args below meth c H locs 0 0 (q_Zv below args s dC dI cA w0 (fun u : tCode => [c_TA ad cA ta tw, c_CO ad cA u ct].flatten) (fun u => Q u)) (F0 m 57 ls [])) :
    ∀ (nn : Nat) (x1 : Int32) (co : tCode) (H : Heap) (locs : List Loc) (ls : Array Slot), w_Code_tellEnds_L2 ta K57 nn x1 co → lv_has ls 2 [(0, .ref (ad 25)), (1, .int x1)] → q_H dC dI (va_A w0 s.heap.size) s.heap H locs ([c_TA ad cA ta tw, c_CO ad cA co ct].flatten) → W p l e (q_R 1 22) s m args below meth c H locs 0 0 (q_Zv below args s dC dI cA w0 (fun u : tCode => [c_TA ad cA ta tw, c_CO ad cA u ct].flatten) (fun u => Q u)) (F0 m 2 ls []) := by
  obtain ⟨hx, hb, -⟩ := id C0
  intro nn
  induction nn with
  | zero =>
    intro x1 co H locs ls h
    exact (show False from h).elim
  | succ nn ih =>
    intro x1 co H locs ls h hl hH
    rw [w_Code_tellEnds_L2] at h
    refine lv_iload_n hx hb d_Code_tellEnds_2 rfl (lv_at hl 1 rfl) ?_
    refine lv_aload_n hx hb d_Code_tellEnds_3 rfl (lv_at hl 0 rfl) ?_
    refine q_get (v := .ref (ad 20)) C0 hH 5 rfl hc_7 0 (by decide) k_232 rfl d_Code_tellEnds_4 ?_
    refine q_get (v := .int ta.factCount) C0 hH 0 rfl hc_6 0 (by decide) k_188 rfl d_Code_tellEnds_7 ?_
    refine lv_icmp_ge (tgt := 57) hx hb d_Code_tellEnds_10 (by decide) (fun c => ?_) (fun c => ?_)
    · have h := h.1 c
      exact hK57 co _ _ _ h (lv_sub hl [0] rfl) hH
    · have h := h.2 c
      refine lv_aload_n hx hb d_Code_tellEnds_13 rfl (lv_at hl 0 rfl) ?_
      refine lv_aload_n hx hb d_Code_tellEnds_14 rfl (lv_at hl 0 rfl) ?_
      refine q_get (v := .ref (ad 20)) C0 hH 5 rfl hc_7 0 (by decide) k_232 rfl d_Code_tellEnds_15 ?_
      refine q_get (v := .int ta.beginning) C0 hH 0 rfl hc_6 2 (by decide) k_194 rfl d_Code_tellEnds_18 ?_
      refine lv_iload_n hx hb d_Code_tellEnds_21 rfl (lv_at hl 1 rfl) ?_
      refine q_calls (rest := [.ref (ad 25)]) C0 hH hA (c_Code_has l dC dI cA ad ta.beginning x1 _ _ h) Y_Code_has k_565 ⟨Nat.le_of_ble_eq_true rfl, Nat.le_of_ble_eq_true rfl⟩ rfl rfl (Nat.le_of_ble_eq_true rfl) hl.1 d_Code_tellEnds_22 ⟨Nat.le_refl 0, Nat.le_refl 0⟩ (fun r_1 H locs h hH => ?_)
      try dsimp only at h
      refine lv_if_eq (tgt := 37) hx hb d_Code_tellEnds_25 (by decide) (fun c => ?_) (fun c => ?_)
      · have h := h.1 c
        refine lv_aload_n hx hb d_Code_tellEnds_37 rfl (lv_at hl 0 rfl) ?_
        refine lv_iload_n hx hb d_Code_tellEnds_38 rfl (lv_at hl 1 rfl) ?_
        refine lv_iconst (v := 0) hx hb d_Code_tellEnds_39 (by decide) ?_
        refine q_calli (rest := [.ref (ad 25)]) (ws' := fun _ : Unit => [c_TA ad cA ta tw, c_CO ad cA co ct].flatten) C0 hH hA (c_Code_fact l dC dI cA ad x1 0 ta tw co ct _ _ h) Y_Code_fact k_568 5 rfl hc_7 (q_pg [0, 1] [] [0, 1] 2 2 rfl (by decide) rfl (fun _ => rfl) rfl (by decide) (fun _ => rfl)) ⟨Nat.le_of_ble_eq_true rfl, Nat.le_of_ble_eq_true rfl⟩ rfl rfl (Nat.le_of_ble_eq_true rfl) hl.1 d_Code_tellEnds_40 ⟨Nat.le_refl 0, Nat.le_refl 0⟩ (fun r_2 u_2 H locs h hH => ?_)
        try dsimp only at h
        have hH : q_H dC dI (va_A w0 s.heap.size) s.heap H locs ([c_TA ad cA ta tw, c_CO ad cA co ct].flatten) := hH
        refine lv_ineg hx hb d_Code_tellEnds_43 ?_
        refine q_callv (rest := []) (ws' := fun u : tCode => [c_TA ad cA ta tw, c_CO ad cA u ct].flatten) C0 hH hA (c_Code_put l dC dI cA ad (-r_2) co ct _ _ h) Y_Code_put k_572 5 rfl hc_7 (q_pg [1] [0] [0, 1] 2 1 rfl (by decide) rfl (fun _ => rfl) rfl (by decide) (fun _ => rfl)) ⟨Nat.le_of_ble_eq_true rfl, Nat.le_of_ble_eq_true rfl⟩ rfl rfl (Nat.le_of_ble_eq_true rfl) hl.1 d_Code_tellEnds_44 ⟨Nat.le_refl 0, Nat.le_refl 0⟩ (fun u_3 H locs h hH => ?_)
        obtain ⟨co_3, rfl⟩ : ∃ z, z = u_3 := ⟨_, rfl⟩
        try dsimp only at h
        have hH : q_H dC dI (va_A w0 s.heap.size) s.heap H locs ([c_TA ad cA ta tw, c_CO ad cA co_3 ct].flatten) := hH
        refine lv_aload_n hx hb d_Code_tellEnds_47 rfl (lv_at hl 0 rfl) ?_
        refine q_callv (rest := []) (ws' := fun u : tCode => [c_TA ad cA ta tw, c_CO ad cA u ct].flatten) C0 hH hA (c_Code_close l dC dI cA ad co_3 ct _ _ h) Y_Code_close k_576 5 rfl hc_7 (q_pg [1] [0] [0, 1] 2 1 rfl (by decide) rfl (fun _ => rfl) rfl (by decide) (fun _ => rfl)) ⟨Nat.le_of_ble_eq_true rfl, Nat.le_of_ble_eq_true rfl⟩ rfl rfl (Nat.le_of_ble_eq_true rfl) hl.1 d_Code_tellEnds_48 ⟨Nat.le_refl 0, Nat.le_refl 0⟩ (fun u_4 H locs h hH => ?_)
        obtain ⟨co_4, rfl⟩ : ∃ z, z = u_4 := ⟨_, rfl⟩
        try dsimp only at h
        have hH : q_H dC dI (va_A w0 s.heap.size) s.heap H locs ([c_TA ad cA ta tw, c_CO ad cA co_4 ct].flatten) := hH
        refine lv_iinc (v := (x1 + 1)) (lv' := [(1, .int (x1 + 1)), (0, .ref (ad 25))]) hx hb d_Code_tellEnds_51 hl (k := 1) rfl rfl (by decide) rfl (fun ls hl => ?_)
        refine lv_goto (tgt := 2) hx hb d_Code_tellEnds_54 (by decide) ?_
        exact ih (x1 + 1) co_4 _ _ _ h (lv_sub hl [1, 0] rfl) hH
      · have h := h.2 c
        refine lv_aload_n hx hb d_Code_tellEnds_28 rfl (lv_at hl 0 rfl) ?_
        refine lv_iload_n hx hb d_Code_tellEnds_29 rfl (lv_at hl 1 rfl) ?_
        refine lv_iconst (v := 0) hx hb d_Code_tellEnds_30 (by decide) ?_
        refine q_calli (rest := [.ref (ad 25)]) (ws' := fun _ : Unit => [c_TA ad cA ta tw, c_CO ad cA co ct].flatten) C0 hH hA (c_Code_fact l dC dI cA ad x1 0 ta tw co ct _ _ h) Y_Code_fact k_568 5 rfl hc_7 (q_pg [0, 1] [] [0, 1] 2 2 rfl (by decide) rfl (fun _ => rfl) rfl (by decide) (fun _ => rfl)) ⟨Nat.le_of_ble_eq_true rfl, Nat.le_of_ble_eq_true rfl⟩ rfl rfl (Nat.le_of_ble_eq_true rfl) hl.1 d_Code_tellEnds_31 ⟨Nat.le_refl 0, Nat.le_refl 0⟩ (fun r_5 u_5 H locs h hH => ?_)
        try dsimp only at h
        have hH : q_H dC dI (va_A w0 s.heap.size) s.heap H locs ([c_TA ad cA ta tw, c_CO ad cA co ct].flatten) := hH
        refine lv_goto (tgt := 44) hx hb d_Code_tellEnds_34 (by decide) ?_
        refine q_callv (rest := []) (ws' := fun u : tCode => [c_TA ad cA ta tw, c_CO ad cA u ct].flatten) C0 hH hA (c_Code_put l dC dI cA ad r_5 co ct _ _ h) Y_Code_put k_572 5 rfl hc_7 (q_pg [1] [0] [0, 1] 2 1 rfl (by decide) rfl (fun _ => rfl) rfl (by decide) (fun _ => rfl)) ⟨Nat.le_of_ble_eq_true rfl, Nat.le_of_ble_eq_true rfl⟩ rfl rfl (Nat.le_of_ble_eq_true rfl) hl.1 d_Code_tellEnds_44 ⟨Nat.le_refl 0, Nat.le_refl 0⟩ (fun u_6 H locs h hH => ?_)
        obtain ⟨co_6, rfl⟩ : ∃ z, z = u_6 := ⟨_, rfl⟩
        try dsimp only at h
        have hH : q_H dC dI (va_A w0 s.heap.size) s.heap H locs ([c_TA ad cA ta tw, c_CO ad cA co_6 ct].flatten) := hH
        refine lv_aload_n hx hb d_Code_tellEnds_47 rfl (lv_at hl 0 rfl) ?_
        refine q_callv (rest := []) (ws' := fun u : tCode => [c_TA ad cA ta tw, c_CO ad cA u ct].flatten) C0 hH hA (c_Code_close l dC dI cA ad co_6 ct _ _ h) Y_Code_close k_576 5 rfl hc_7 (q_pg [1] [0] [0, 1] 2 1 rfl (by decide) rfl (fun _ => rfl) rfl (by decide) (fun _ => rfl)) ⟨Nat.le_of_ble_eq_true rfl, Nat.le_of_ble_eq_true rfl⟩ rfl rfl (Nat.le_of_ble_eq_true rfl) hl.1 d_Code_tellEnds_48 ⟨Nat.le_refl 0, Nat.le_refl 0⟩ (fun u_7 H locs h hH => ?_)
        obtain ⟨co_7, rfl⟩ : ∃ z, z = u_7 := ⟨_, rfl⟩
        try dsimp only at h
        have hH : q_H dC dI (va_A w0 s.heap.size) s.heap H locs ([c_TA ad cA ta tw, c_CO ad cA co_7 ct].flatten) := hH
        refine lv_iinc (v := (x1 + 1)) (lv' := [(1, .int (x1 + 1)), (0, .ref (ad 25))]) hx hb d_Code_tellEnds_51 hl (k := 1) rfl rfl (by decide) rfl (fun ls hl => ?_)
        refine lv_goto (tgt := 2) hx hb d_Code_tellEnds_54 (by decide) ?_
        exact ih (x1 + 1) co_7 _ _ _ h (lv_sub hl [1, 0] rfl) hH
set_option maxHeartbeats 4000000 in
set_option maxRecDepth 100000 in
theorem c_Code_tellEnds (l : Launch) (dC : Nat → ClassId) (dI : Nat → Nat → Nat) (cA : ClassId) (ad : Nat → Nat) (ta : tTask) (tw : tWays) (co : tCode) (ct : tTold) (Q : tCode → Prop) (sz : Nat) (h : w_Code_tellEnds ta co ct Q) :
    q_Mv l y_Code_tellEnds b_Code_tellEnds 2 1 22 [.ref (ad 25)] dC dI cA ([c_TA ad cA ta tw, c_CO ad cA co ct].flatten) (fun u : tCode => [c_TA ad cA ta tw, c_CO ad cA u ct].flatten) sz (fun u => Q u) := by
  refine q_metv (plainFor_of_name (by decide +kernel)) (Nat.le_of_ble_eq_true rfl) (fun {p e s m below meth c ls} C0 hl hH => ?_)
  obtain ⟨hx, hb, -⟩ := id C0
  have hA : ∀ q, s.heap.size ≤ q → va_A ([c_TA ad cA ta tw, c_CO ad cA co ct].flatten) s.heap.size q := q_nA
  have hl : lv_has ls 2 [(0, .ref (ad 25))] := hl
  unfold w_Code_tellEnds at h
  refine lv_iconst (v := 0) hx hb d_Code_tellEnds_0 (by decide) ?_
  refine lv_istore_n (lv' := [(1, .int 0), (0, .ref (ad 25))]) hx hb d_Code_tellEnds_1 rfl hl (by decide) rfl (fun ls hl => ?_)
  obtain ⟨nn, h⟩ := h
  refine x_Code_tellEnds_L2 C0 hA ta tw ct ?_ nn 0 co _ _ _ h (lv_sub hl [1, 0] rfl) hH
  · intro co_1 H locs ls h hl hH
    try dsimp only at h
    refine lv_iconst (v := 0) hx hb d_Code_tellEnds_57 (by decide) ?_
    refine lv_istore_n (lv' := [(1, .int 0), (0, .ref (ad 25))]) hx hb d_Code_tellEnds_58 rfl hl (by decide) rfl (fun ls hl => ?_)
    obtain ⟨nn, h⟩ := h
    refine x_Code_tellEnds_L59 C0 hA ta tw ct ?_ nn 0 co_1 _ _ _ h (lv_sub hl [1, 0] rfl) hH
    · intro co_2 H locs ls h hl hH
      try dsimp only at h
      exact q_retv C0 hH co_2 rfl h d_Code_tellEnds_107
theorem d_Code_done_0 : decode b_Code_done 0 = .ok (.iconst 1, 1) := by decide +kernel
theorem d_Code_done_1 : decode b_Code_done 1 = .ok (.aload_n 0, 1) := by decide +kernel
theorem d_Code_done_2 : decode b_Code_done 2 = .ok (.getfield 26, 3) := by decide +kernel
theorem d_Code_done_5 : decode b_Code_done 5 = .ok (.iconst 1, 1) := by decide +kernel
theorem d_Code_done_6 : decode b_Code_done 6 = .ok (.iadd, 1) := by decide +kernel
theorem d_Code_done_7 : decode b_Code_done 7 = .ok (.aload_n 0, 1) := by decide +kernel
theorem d_Code_done_8 : decode b_Code_done 8 = .ok (.getfield 18, 3) := by decide +kernel
theorem d_Code_done_11 : decode b_Code_done 11 = .ok (.getfield 52, 3) := by decide +kernel
theorem d_Code_done_14 : decode b_Code_done 14 = .ok (.imul, 1) := by decide +kernel
theorem d_Code_done_15 : decode b_Code_done 15 = .ok (.iadd, 1) := by decide +kernel
theorem d_Code_done_16 : decode b_Code_done 16 = .ok (.iload_n 2, 1) := by decide +kernel
theorem d_Code_done_17 : decode b_Code_done 17 = .ok (.aload_n 0, 1) := by decide +kernel
theorem d_Code_done_18 : decode b_Code_done 18 = .ok (.getfield 18, 3) := by decide +kernel
theorem d_Code_done_21 : decode b_Code_done 21 = .ok (.getfield 57, 3) := by decide +kernel
theorem d_Code_done_24 : decode b_Code_done 24 = .ok (.imul, 1) := by decide +kernel
theorem d_Code_done_25 : decode b_Code_done 25 = .ok (.iadd, 1) := by decide +kernel
theorem d_Code_done_26 : decode b_Code_done 26 = .ok (.iload_n 1, 1) := by decide +kernel
theorem d_Code_done_27 : decode b_Code_done 27 = .ok (.iadd, 1) := by decide +kernel
theorem d_Code_done_28 : decode b_Code_done 28 = .ok (.ireturn, 1) := by decide +kernel
set_option maxHeartbeats 4000000 in
set_option maxRecDepth 100000 in
theorem c_Code_done (l : Launch) (dC : Nat → ClassId) (dI : Nat → Nat → Nat) (cA : ClassId) (ad : Nat → Nat) (x1 : Int32) (x2 : Int32) (ta : tTask) (tw : tWays) (co : tCode) (ct : tTold) (Q : Int32 → Prop) (sz : Nat) (h : w_Code_done x1 x2 ta ct Q) :
    q_Mi l y_Code_done b_Code_done 3 (some .int) 0 0 [.ref (ad 25), .int x1, .int x2] dC dI cA ([c_TA ad cA ta tw, c_CO ad cA co ct].flatten) (fun _ : Unit => [c_TA ad cA ta tw, c_CO ad cA co ct].flatten) sz (fun r _ => Q r) := by
  refine q_meti (plainFor_of_name (by decide +kernel)) (Nat.le_of_ble_eq_true rfl) (fun {p e s m below meth c ls} C0 hl hH => ?_)
  obtain ⟨hx, hb, -⟩ := id C0
  have hA : ∀ q, s.heap.size ≤ q → va_A ([c_TA ad cA ta tw, c_CO ad cA co ct].flatten) s.heap.size q := q_nA
  have hl : lv_has ls 3 [(0, .ref (ad 25)), (1, .int x1), (2, .int x2)] := hl
  unfold w_Code_done at h
  refine lv_iconst (v := 1) hx hb d_Code_done_0 (by decide) ?_
  refine lv_aload_n hx hb d_Code_done_1 rfl (lv_at hl 0 rfl) ?_
  refine q_get (v := .int ct.steps) C0 hH 5 rfl hc_7 5 (by decide) k_239 rfl d_Code_done_2 ?_
  refine lv_iconst (v := 1) hx hb d_Code_done_5 (by decide) ?_
  refine lv_iadd hx hb d_Code_done_6 ?_
  refine lv_aload_n hx hb d_Code_done_7 rfl (lv_at hl 0 rfl) ?_
  refine q_get (v := .ref (ad 20)) C0 hH 5 rfl hc_7 0 (by decide) k_232 rfl d_Code_done_8 ?_
  refine q_get (v := .int ta.factCount) C0 hH 0 rfl hc_6 0 (by decide) k_188 rfl d_Code_done_11 ?_
  refine lv_imul hx hb d_Code_done_14 ?_
  refine lv_iadd hx hb d_Code_done_15 ?_
  refine lv_iload_n hx hb d_Code_done_16 rfl (lv_at hl 2 rfl) ?_
  refine lv_aload_n hx hb d_Code_done_17 rfl (lv_at hl 0 rfl) ?_
  refine q_get (v := .ref (ad 20)) C0 hH 5 rfl hc_7 0 (by decide) k_232 rfl d_Code_done_18 ?_
  refine q_get (v := .int ta.actionCount) C0 hH 0 rfl hc_6 1 (by decide) k_191 rfl d_Code_done_21 ?_
  refine lv_imul hx hb d_Code_done_24 ?_
  refine lv_iadd hx hb d_Code_done_25 ?_
  refine lv_iload_n hx hb d_Code_done_26 rfl (lv_at hl 1 rfl) ?_
  refine lv_iadd hx hb d_Code_done_27 ?_
  exact q_reti C0 hH () rfl h d_Code_done_28
theorem d_Code_tellAsked_0 : decode b_Code_tellAsked 0 = .ok (.iconst 0, 1) := by decide +kernel
theorem d_Code_tellAsked_1 : decode b_Code_tellAsked 1 = .ok (.istore_n 2, 1) := by decide +kernel
theorem d_Code_tellAsked_2 : decode b_Code_tellAsked 2 = .ok (.iload_n 2, 1) := by decide +kernel
theorem d_Code_tellAsked_3 : decode b_Code_tellAsked 3 = .ok (.aload_n 0, 1) := by decide +kernel
theorem d_Code_tellAsked_4 : decode b_Code_tellAsked 4 = .ok (.getfield 18, 3) := by decide +kernel
theorem d_Code_tellAsked_7 : decode b_Code_tellAsked 7 = .ok (.getfield 57, 3) := by decide +kernel
theorem d_Code_tellAsked_10 : decode b_Code_tellAsked 10 = .ok (.if_icmp .ge 69, 3) := by decide +kernel
theorem d_Code_tellAsked_13 : decode b_Code_tellAsked 13 = .ok (.iconst 0, 1) := by decide +kernel
theorem d_Code_tellAsked_14 : decode b_Code_tellAsked 14 = .ok (.istore_n 3, 1) := by decide +kernel
theorem d_Code_tellAsked_15 : decode b_Code_tellAsked 15 = .ok (.iload_n 3, 1) := by decide +kernel
theorem d_Code_tellAsked_16 : decode b_Code_tellAsked 16 = .ok (.aload_n 0, 1) := by decide +kernel
theorem d_Code_tellAsked_17 : decode b_Code_tellAsked 17 = .ok (.getfield 18, 3) := by decide +kernel
theorem d_Code_tellAsked_20 : decode b_Code_tellAsked 20 = .ok (.getfield 52, 3) := by decide +kernel
theorem d_Code_tellAsked_23 : decode b_Code_tellAsked 23 = .ok (.if_icmp .ge 50, 3) := by decide +kernel
theorem d_Code_tellAsked_26 : decode b_Code_tellAsked 26 = .ok (.aload_n 0, 1) := by decide +kernel
theorem d_Code_tellAsked_27 : decode b_Code_tellAsked 27 = .ok (.getfield 18, 3) := by decide +kernel
theorem d_Code_tellAsked_30 : decode b_Code_tellAsked 30 = .ok (.getfield 80, 3) := by decide +kernel
theorem d_Code_tellAsked_33 : decode b_Code_tellAsked 33 = .ok (.iload_n 2, 1) := by decide +kernel
theorem d_Code_tellAsked_34 : decode b_Code_tellAsked 34 = .ok (.iaload, 1) := by decide +kernel
theorem d_Code_tellAsked_35 : decode b_Code_tellAsked 35 = .ok (.iload_n 3, 1) := by decide +kernel
theorem d_Code_tellAsked_36 : decode b_Code_tellAsked 36 = .ok (.invokestatic 63, 3) := by decide +kernel
theorem d_Code_tellAsked_39 : decode b_Code_tellAsked 39 = .ok (.ifCond .eq 28, 3) := by decide +kernel
theorem d_Code_tellAsked_42 : decode b_Code_tellAsked 42 = .ok (.aload_n 0, 1) := by decide +kernel
theorem d_Code_tellAsked_43 : decode b_Code_tellAsked 43 = .ok (.aload_n 0, 1) := by decide +kernel
theorem d_Code_tellAsked_44 : decode b_Code_tellAsked 44 = .ok (.iload_n 2, 1) := by decide +kernel
theorem d_Code_tellAsked_45 : decode b_Code_tellAsked 45 = .ok (.iload_n 1, 1) := by decide +kernel
theorem d_Code_tellAsked_46 : decode b_Code_tellAsked 46 = .ok (.invokevirtual 83, 3) := by decide +kernel
theorem d_Code_tellAsked_49 : decode b_Code_tellAsked 49 = .ok (.ineg, 1) := by decide +kernel
theorem d_Code_tellAsked_50 : decode b_Code_tellAsked 50 = .ok (.invokevirtual 71, 3) := by decide +kernel
theorem d_Code_tellAsked_53 : decode b_Code_tellAsked 53 = .ok (.aload_n 0, 1) := by decide +kernel
theorem d_Code_tellAsked_54 : decode b_Code_tellAsked 54 = .ok (.aload_n 0, 1) := by decide +kernel
theorem d_Code_tellAsked_55 : decode b_Code_tellAsked 55 = .ok (.iload_n 3, 1) := by decide +kernel
theorem d_Code_tellAsked_56 : decode b_Code_tellAsked 56 = .ok (.iload_n 1, 1) := by decide +kernel
theorem d_Code_tellAsked_57 : decode b_Code_tellAsked 57 = .ok (.invokevirtual 67, 3) := by decide +kernel
theorem d_Code_tellAsked_60 : decode b_Code_tellAsked 60 = .ok (.invokevirtual 71, 3) := by decide +kernel
theorem d_Code_tellAsked_63 : decode b_Code_tellAsked 63 = .ok (.aload_n 0, 1) := by decide +kernel
theorem d_Code_tellAsked_64 : decode b_Code_tellAsked 64 = .ok (.invokevirtual 74, 3) := by decide +kernel
theorem d_Code_tellAsked_67 : decode b_Code_tellAsked 67 = .ok (.iinc 3 1, 3) := by decide +kernel
theorem d_Code_tellAsked_70 : decode b_Code_tellAsked 70 = .ok (.goto (-55), 3) := by decide +kernel
theorem d_Code_tellAsked_73 : decode b_Code_tellAsked 73 = .ok (.iinc 2 1, 3) := by decide +kernel
theorem d_Code_tellAsked_76 : decode b_Code_tellAsked 76 = .ok (.goto (-74), 3) := by decide +kernel
theorem d_Code_tellAsked_79 : decode b_Code_tellAsked 79 = .ok (.return_, 1) := by decide +kernel
set_option maxHeartbeats 4000000 in
set_option maxRecDepth 100000 in
theorem x_Code_tellAsked_L15 {p : Program} {e : Env} {s : State} {m : MethodId} {args : Array Value} {below : List Frame} {meth : Method} {c : Code} {l : Launch} {dC : Nat → ClassId} {dI : Nat → Nat → Nat} {cA : ClassId} {ad : Nat → Nat} {w0 : va_W} (C0 : q_C p s m args meth c b_Code_tellAsked 4 none "PlanClauses$Code" dC dI cA) (hA : ∀ q, s.heap.size ≤ q → va_A w0 s.heap.size q) (x1 : Int32) (x2 : Int32) (ta : tTask) (tw : tWays) (ct : tTold) {Q : tCode → Prop} {K73 : tCode → Prop}
    (hK73 : ∀ (co : tCode) (H : Heap) (locs : List Loc) (ls : Array Slot), K73 co → lv_has ls 4 [(0, .ref (ad 25)), (1, .int x1), (2, .int x2)] → q_H dC dI (va_A w0 s.heap.size) s.heap H locs ([c_TA ad cA ta tw, c_CO ad cA co ct].flatten) → W p l e (q_R 1 22) s m args below meth c H locs 0 0 (q_Zv below args s dC dI cA w0 (fun u : tCode => [c_TA ad cA ta tw, c_CO ad cA u ct].flatten) (fun u => Q u)) (F0 m 73 ls [])) :
    ∀ (nn : Nat) (x3 : Int32) (co : tCode) (H : Heap) (locs : List Loc) (ls : Array Slot), w_Code_tellAsked_L15 x1 x2 ta ct K73 nn x3 co → lv_has ls 4 [(0, .ref (ad 25)), (1, .int x1), (2, .int x2), (3, .int x3)] → q_H dC dI (va_A w0 s.heap.size) s.heap H locs ([c_TA ad cA ta tw, c_CO ad cA co ct].flatten) → W p l e (q_R 1 22) s m args below meth c H locs 0 0 (q_Zv below args s dC dI cA w0 (fun u : tCode => [c_TA ad cA ta tw, c_CO ad cA u ct].flatten) (fun u => Q u)) (F0 m 15 ls []) := by
  obtain ⟨hx, hb, -⟩ := id C0
  intro nn
  induction nn with
  | zero =>
    intro x3 co H locs ls h
    exact (show False from h).elim
  | succ nn ih =>
    intro x3 co H locs ls h hl hH
    rw [w_Code_tellAsked_L15] at h
    refine lv_iload_n hx hb d_Code_tellAsked_15 rfl (lv_at hl 3 rfl) ?_
    refine lv_aload_n hx hb d_Code_tellAsked_16 rfl (lv_at hl 0 rfl) ?_
    refine q_get (v := .ref (ad 20)) C0 hH 5 rfl hc_7 0 (by decide) k_232 rfl d_Code_tellAsked_17 ?_
    refine q_get (v := .int ta.factCount) C0 hH 0 rfl hc_6 0 (by decide) k_188 rfl d_Code_tellAsked_20 ?_
    refine lv_icmp_ge (tgt := 73) hx hb d_Code_tellAsked_23 (by decide) (fun c => ?_) (fun c => ?_)
    · have h := h.1 c
      exact hK73 co _ _ _ h (lv_sub hl [0, 1, 2] rfl) hH
    · have h := h.2 c
      refine lv_aload_n hx hb d_Code_tellAsked_26 rfl (lv_at hl 0 rfl) ?_
      refine q_get (v := .ref (ad 20)) C0 hH 5 rfl hc_7 0 (by decide) k_232 rfl d_Code_tellAsked_27 ?_
      refine q_get (v := .ref (ad 21)) C0 hH 0 rfl hc_6 4 (by decide) k_200 rfl d_Code_tellAsked_30 ?_
      refine lv_iload_n hx hb d_Code_tellAsked_33 rfl (lv_at hl 2 rfl) ?_
      obtain ⟨hi, h⟩ := h
      refine q_ald (f := ta.asks) C0 hH 1 rfl hi d_Code_tellAsked_34 ?_
      refine lv_iload_n hx hb d_Code_tellAsked_35 rfl (lv_at hl 3 rfl) ?_
      refine q_calls (rest := []) C0 hH hA (c_Code_has l dC dI cA ad (ta.asks x2.toNatClampNeg) x3 _ _ h) Y_Code_has k_565 ⟨Nat.le_of_ble_eq_true rfl, Nat.le_of_ble_eq_true rfl⟩ rfl rfl (Nat.le_of_ble_eq_true rfl) hl.1 d_Code_tellAsked_36 ⟨Nat.le_refl 0, Nat.le_refl 0⟩ (fun r_1 H locs h hH => ?_)
      try dsimp only at h
      refine lv_if_eq (tgt := 67) hx hb d_Code_tellAsked_39 (by decide) (fun c => ?_) (fun c => ?_)
      · have h := h.1 c
        refine lv_iinc (v := (x3 + 1)) (lv' := [(3, .int (x3 + 1)), (0, .ref (ad 25)), (1, .int x1), (2, .int x2)]) hx hb d_Code_tellAsked_67 hl (k := 3) rfl rfl (by decide) rfl (fun ls hl => ?_)
        refine lv_goto (tgt := 15) hx hb d_Code_tellAsked_70 (by decide) ?_
        exact ih (x3 + 1) co _ _ _ h (lv_sub hl [1, 2, 3, 0] rfl) hH
      · have h := h.2 c
        refine lv_aload_n hx hb d_Code_tellAsked_42 rfl (lv_at hl 0 rfl) ?_
        refine lv_aload_n hx hb d_Code_tellAsked_43 rfl (lv_at hl 0 rfl) ?_
        refine lv_iload_n hx hb d_Code_tellAsked_44 rfl (lv_at hl 2 rfl) ?_
        refine lv_iload_n hx hb d_Code_tellAsked_45 rfl (lv_at hl 1 rfl) ?_
        refine q_calli (rest := [.ref (ad 25)]) (ws' := fun _ : Unit => [c_TA ad cA ta tw, c_CO ad cA co ct].flatten) C0 hH hA (c_Code_done l dC dI cA ad x2 x1 ta tw co ct _ _ h) Y_Code_done k_584 5 rfl hc_7 (q_pg [0, 1] [] [0, 1] 2 2 rfl (by decide) rfl (fun _ => rfl) rfl (by decide) (fun _ => rfl)) ⟨Nat.le_of_ble_eq_true rfl, Nat.le_of_ble_eq_true rfl⟩ rfl rfl (Nat.le_of_ble_eq_true rfl) hl.1 d_Code_tellAsked_46 ⟨Nat.le_refl 0, Nat.le_refl 0⟩ (fun r_2 u_2 H locs h hH => ?_)
        try dsimp only at h
        have hH : q_H dC dI (va_A w0 s.heap.size) s.heap H locs ([c_TA ad cA ta tw, c_CO ad cA co ct].flatten) := hH
        refine lv_ineg hx hb d_Code_tellAsked_49 ?_
        refine q_callv (rest := []) (ws' := fun u : tCode => [c_TA ad cA ta tw, c_CO ad cA u ct].flatten) C0 hH hA (c_Code_put l dC dI cA ad (-r_2) co ct _ _ h) Y_Code_put k_572 5 rfl hc_7 (q_pg [1] [0] [0, 1] 2 1 rfl (by decide) rfl (fun _ => rfl) rfl (by decide) (fun _ => rfl)) ⟨Nat.le_of_ble_eq_true rfl, Nat.le_of_ble_eq_true rfl⟩ rfl rfl (Nat.le_of_ble_eq_true rfl) hl.1 d_Code_tellAsked_50 ⟨Nat.le_refl 0, Nat.le_refl 0⟩ (fun u_3 H locs h hH => ?_)
        obtain ⟨co_3, rfl⟩ : ∃ z, z = u_3 := ⟨_, rfl⟩
        try dsimp only at h
        have hH : q_H dC dI (va_A w0 s.heap.size) s.heap H locs ([c_TA ad cA ta tw, c_CO ad cA co_3 ct].flatten) := hH
        refine lv_aload_n hx hb d_Code_tellAsked_53 rfl (lv_at hl 0 rfl) ?_
        refine lv_aload_n hx hb d_Code_tellAsked_54 rfl (lv_at hl 0 rfl) ?_
        refine lv_iload_n hx hb d_Code_tellAsked_55 rfl (lv_at hl 3 rfl) ?_
        refine lv_iload_n hx hb d_Code_tellAsked_56 rfl (lv_at hl 1 rfl) ?_
        refine q_calli (rest := [.ref (ad 25)]) (ws' := fun _ : Unit => [c_TA ad cA ta tw, c_CO ad cA co_3 ct].flatten) C0 hH hA (c_Code_fact l dC dI cA ad x3 x1 ta tw co_3 ct _ _ h) Y_Code_fact k_568 5 rfl hc_7 (q_pg [0, 1] [] [0, 1] 2 2 rfl (by decide) rfl (fun _ => rfl) rfl (by decide) (fun _ => rfl)) ⟨Nat.le_of_ble_eq_true rfl, Nat.le_of_ble_eq_true rfl⟩ rfl rfl (Nat.le_of_ble_eq_true rfl) hl.1 d_Code_tellAsked_57 ⟨Nat.le_refl 0, Nat.le_refl 0⟩ (fun r_4 u_4 H locs h hH => ?_)
        try dsimp only at h
        have hH : q_H dC dI (va_A w0 s.heap.size) s.heap H locs ([c_TA ad cA ta tw, c_CO ad cA co_3 ct].flatten) := hH
        refine q_callv (rest := []) (ws' := fun u : tCode => [c_TA ad cA ta tw, c_CO ad cA u ct].flatten) C0 hH hA (c_Code_put l dC dI cA ad r_4 co_3 ct _ _ h) Y_Code_put k_572 5 rfl hc_7 (q_pg [1] [0] [0, 1] 2 1 rfl (by decide) rfl (fun _ => rfl) rfl (by decide) (fun _ => rfl)) ⟨Nat.le_of_ble_eq_true rfl, Nat.le_of_ble_eq_true rfl⟩ rfl rfl (Nat.le_of_ble_eq_true rfl) hl.1 d_Code_tellAsked_60 ⟨Nat.le_refl 0, Nat.le_refl 0⟩ (fun u_5 H locs h hH => ?_)
        obtain ⟨co_5, rfl⟩ : ∃ z, z = u_5 := ⟨_, rfl⟩
        try dsimp only at h
        have hH : q_H dC dI (va_A w0 s.heap.size) s.heap H locs ([c_TA ad cA ta tw, c_CO ad cA co_5 ct].flatten) := hH
        refine lv_aload_n hx hb d_Code_tellAsked_63 rfl (lv_at hl 0 rfl) ?_
        refine q_callv (rest := []) (ws' := fun u : tCode => [c_TA ad cA ta tw, c_CO ad cA u ct].flatten) C0 hH hA (c_Code_close l dC dI cA ad co_5 ct _ _ h) Y_Code_close k_576 5 rfl hc_7 (q_pg [1] [0] [0, 1] 2 1 rfl (by decide) rfl (fun _ => rfl) rfl (by decide) (fun _ => rfl)) ⟨Nat.le_of_ble_eq_true rfl, Nat.le_of_ble_eq_true rfl⟩ rfl rfl (Nat.le_of_ble_eq_true rfl) hl.1 d_Code_tellAsked_64 ⟨Nat.le_refl 0, Nat.le_refl 0⟩ (fun u_6 H locs h hH => ?_)
        obtain ⟨co_6, rfl⟩ : ∃ z, z = u_6 := ⟨_, rfl⟩
        try dsimp only at h
        have hH : q_H dC dI (va_A w0 s.heap.size) s.heap H locs ([c_TA ad cA ta tw, c_CO ad cA co_6 ct].flatten) := hH
        refine lv_iinc (v := (x3 + 1)) (lv' := [(3, .int (x3 + 1)), (0, .ref (ad 25)), (1, .int x1), (2, .int x2)]) hx hb d_Code_tellAsked_67 hl (k := 3) rfl rfl (by decide) rfl (fun ls hl => ?_)
        refine lv_goto (tgt := 15) hx hb d_Code_tellAsked_70 (by decide) ?_
        exact ih (x3 + 1) co_6 _ _ _ h (lv_sub hl [1, 2, 3, 0] rfl) hH
set_option maxHeartbeats 4000000 in
set_option maxRecDepth 100000 in
theorem x_Code_tellAsked_L2 {p : Program} {e : Env} {s : State} {m : MethodId} {args : Array Value} {below : List Frame} {meth : Method} {c : Code} {l : Launch} {dC : Nat → ClassId} {dI : Nat → Nat → Nat} {cA : ClassId} {ad : Nat → Nat} {w0 : va_W} (C0 : q_C p s m args meth c b_Code_tellAsked 4 none "PlanClauses$Code" dC dI cA) (hA : ∀ q, s.heap.size ≤ q → va_A w0 s.heap.size q) (x1 : Int32) (ta : tTask) (tw : tWays) (ct : tTold) {Q : tCode → Prop} {K79 : tCode → Prop}
    (hK79 : ∀ (co : tCode) (H : Heap) (locs : List Loc) (ls : Array Slot), K79 co → lv_has ls 4 [] → q_H dC dI (va_A w0 s.heap.size) s.heap H locs ([c_TA ad cA ta tw, c_CO ad cA co ct].flatten) → W p l e (q_R 1 22) s m args below meth c H locs 0 0 (q_Zv below args s dC dI cA w0 (fun u : tCode => [c_TA ad cA ta tw, c_CO ad cA u ct].flatten) (fun u => Q u)) (F0 m 79 ls [])) :
    ∀ (nn : Nat) (x2 : Int32) (co : tCode) (H : Heap) (locs : List Loc) (ls : Array Slot), w_Code_tellAsked_L2 x1 ta ct K79 nn x2 co → lv_has ls 4 [(0, .ref (ad 25)), (1, .int x1), (2, .int x2)] → q_H dC dI (va_A w0 s.heap.size) s.heap H locs ([c_TA ad cA ta tw, c_CO ad cA co ct].flatten) → W p l e (q_R 1 22) s m args below meth c H locs 0 0 (q_Zv below args s dC dI cA w0 (fun u : tCode => [c_TA ad cA ta tw, c_CO ad cA u ct].flatten) (fun u => Q u)) (F0 m 2 ls []) := by
  obtain ⟨hx, hb, -⟩ := id C0
  intro nn
  induction nn with
  | zero =>
    intro x2 co H locs ls h
    exact (show False from h).elim
  | succ nn ih =>
    intro x2 co H locs ls h hl hH
    rw [w_Code_tellAsked_L2] at h
    refine lv_iload_n hx hb d_Code_tellAsked_2 rfl (lv_at hl 2 rfl) ?_
    refine lv_aload_n hx hb d_Code_tellAsked_3 rfl (lv_at hl 0 rfl) ?_
    refine q_get (v := .ref (ad 20)) C0 hH 5 rfl hc_7 0 (by decide) k_232 rfl d_Code_tellAsked_4 ?_
    refine q_get (v := .int ta.actionCount) C0 hH 0 rfl hc_6 1 (by decide) k_191 rfl d_Code_tellAsked_7 ?_
    refine lv_icmp_ge (tgt := 79) hx hb d_Code_tellAsked_10 (by decide) (fun c => ?_) (fun c => ?_)
    · have h := h.1 c
      exact hK79 co _ _ _ h (lv_sub hl [] rfl) hH
    · have h := h.2 c
      refine lv_iconst (v := 0) hx hb d_Code_tellAsked_13 (by decide) ?_
      refine lv_istore_n (lv' := [(3, .int 0), (0, .ref (ad 25)), (1, .int x1), (2, .int x2)]) hx hb d_Code_tellAsked_14 rfl hl (by decide) rfl (fun ls hl => ?_)
      obtain ⟨nn, h⟩ := h
      refine x_Code_tellAsked_L15 C0 hA x1 x2 ta tw ct ?_ nn 0 co _ _ _ h (lv_sub hl [1, 2, 3, 0] rfl) hH
      · intro co_1 H locs ls h hl hH
        try dsimp only at h
        refine lv_iinc (v := (x2 + 1)) (lv' := [(2, .int (x2 + 1)), (0, .ref (ad 25)), (1, .int x1)]) hx hb d_Code_tellAsked_73 hl (k := 2) rfl rfl (by decide) rfl (fun ls hl => ?_)
        refine lv_goto (tgt := 2) hx hb d_Code_tellAsked_76 (by decide) ?_
        exact ih (x2 + 1) co_1 _ _ _ h (lv_sub hl [1, 2, 0] rfl) hH
set_option maxHeartbeats 4000000 in
set_option maxRecDepth 100000 in
theorem c_Code_tellAsked (l : Launch) (dC : Nat → ClassId) (dI : Nat → Nat → Nat) (cA : ClassId) (ad : Nat → Nat) (x1 : Int32) (ta : tTask) (tw : tWays) (co : tCode) (ct : tTold) (Q : tCode → Prop) (sz : Nat) (h : w_Code_tellAsked x1 ta co ct Q) :
    q_Mv l y_Code_tellAsked b_Code_tellAsked 4 1 22 [.ref (ad 25), .int x1] dC dI cA ([c_TA ad cA ta tw, c_CO ad cA co ct].flatten) (fun u : tCode => [c_TA ad cA ta tw, c_CO ad cA u ct].flatten) sz (fun u => Q u) := by
  refine q_metv (plainFor_of_name (by decide +kernel)) (Nat.le_of_ble_eq_true rfl) (fun {p e s m below meth c ls} C0 hl hH => ?_)
  obtain ⟨hx, hb, -⟩ := id C0
  have hA : ∀ q, s.heap.size ≤ q → va_A ([c_TA ad cA ta tw, c_CO ad cA co ct].flatten) s.heap.size q := q_nA
  have hl : lv_has ls 4 [(0, .ref (ad 25)), (1, .int x1)] := hl
  unfold w_Code_tellAsked at h
  refine lv_iconst (v := 0) hx hb d_Code_tellAsked_0 (by decide) ?_
  refine lv_istore_n (lv' := [(2, .int 0), (0, .ref (ad 25)), (1, .int x1)]) hx hb d_Code_tellAsked_1 rfl hl (by decide) rfl (fun ls hl => ?_)
  obtain ⟨nn, h⟩ := h
  refine x_Code_tellAsked_L2 C0 hA x1 ta tw ct ?_ nn 0 co _ _ _ h (lv_sub hl [1, 2, 0] rfl) hH
  · intro co_1 H locs ls h hl hH
    try dsimp only at h
    exact q_retv C0 hH co_1 rfl h d_Code_tellAsked_79
theorem d_Code_tellChanged_0 : decode b_Code_tellChanged 0 = .ok (.iconst 0, 1) := by decide +kernel
theorem d_Code_tellChanged_1 : decode b_Code_tellChanged 1 = .ok (.istore_n 2, 1) := by decide +kernel
theorem d_Code_tellChanged_2 : decode b_Code_tellChanged 2 = .ok (.iload_n 2, 1) := by decide +kernel
theorem d_Code_tellChanged_3 : decode b_Code_tellChanged 3 = .ok (.aload_n 0, 1) := by decide +kernel
theorem d_Code_tellChanged_4 : decode b_Code_tellChanged 4 = .ok (.getfield 18, 3) := by decide +kernel
theorem d_Code_tellChanged_7 : decode b_Code_tellChanged 7 = .ok (.getfield 57, 3) := by decide +kernel
theorem d_Code_tellChanged_10 : decode b_Code_tellChanged 10 = .ok (.if_icmp .ge 108, 3) := by decide +kernel
theorem d_Code_tellChanged_13 : decode b_Code_tellChanged 13 = .ok (.iconst 0, 1) := by decide +kernel
theorem d_Code_tellChanged_14 : decode b_Code_tellChanged 14 = .ok (.istore_n 3, 1) := by decide +kernel
theorem d_Code_tellChanged_15 : decode b_Code_tellChanged 15 = .ok (.iload_n 3, 1) := by decide +kernel
theorem d_Code_tellChanged_16 : decode b_Code_tellChanged 16 = .ok (.aload_n 0, 1) := by decide +kernel
theorem d_Code_tellChanged_17 : decode b_Code_tellChanged 17 = .ok (.getfield 18, 3) := by decide +kernel
theorem d_Code_tellChanged_20 : decode b_Code_tellChanged 20 = .ok (.getfield 52, 3) := by decide +kernel
theorem d_Code_tellChanged_23 : decode b_Code_tellChanged 23 = .ok (.if_icmp .ge 89, 3) := by decide +kernel
theorem d_Code_tellChanged_26 : decode b_Code_tellChanged 26 = .ok (.aload_n 0, 1) := by decide +kernel
theorem d_Code_tellChanged_27 : decode b_Code_tellChanged 27 = .ok (.getfield 18, 3) := by decide +kernel
theorem d_Code_tellChanged_30 : decode b_Code_tellChanged 30 = .ok (.getfield 86, 3) := by decide +kernel
theorem d_Code_tellChanged_33 : decode b_Code_tellChanged 33 = .ok (.iload_n 2, 1) := by decide +kernel
theorem d_Code_tellChanged_34 : decode b_Code_tellChanged 34 = .ok (.iaload, 1) := by decide +kernel
theorem d_Code_tellChanged_35 : decode b_Code_tellChanged 35 = .ok (.iload_n 3, 1) := by decide +kernel
theorem d_Code_tellChanged_36 : decode b_Code_tellChanged 36 = .ok (.invokestatic 63, 3) := by decide +kernel
theorem d_Code_tellChanged_39 : decode b_Code_tellChanged 39 = .ok (.istore 4, 2) := by decide +kernel
theorem d_Code_tellChanged_41 : decode b_Code_tellChanged 41 = .ok (.iload 4, 2) := by decide +kernel
theorem d_Code_tellChanged_43 : decode b_Code_tellChanged 43 = .ok (.ifCond .ne 19, 3) := by decide +kernel
theorem d_Code_tellChanged_46 : decode b_Code_tellChanged 46 = .ok (.aload_n 0, 1) := by decide +kernel
theorem d_Code_tellChanged_47 : decode b_Code_tellChanged 47 = .ok (.getfield 18, 3) := by decide +kernel
theorem d_Code_tellChanged_50 : decode b_Code_tellChanged 50 = .ok (.getfield 89, 3) := by decide +kernel
theorem d_Code_tellChanged_53 : decode b_Code_tellChanged 53 = .ok (.iload_n 2, 1) := by decide +kernel
theorem d_Code_tellChanged_54 : decode b_Code_tellChanged 54 = .ok (.iaload, 1) := by decide +kernel
theorem d_Code_tellChanged_55 : decode b_Code_tellChanged 55 = .ok (.iload_n 3, 1) := by decide +kernel
theorem d_Code_tellChanged_56 : decode b_Code_tellChanged 56 = .ok (.invokestatic 63, 3) := by decide +kernel
theorem d_Code_tellChanged_59 : decode b_Code_tellChanged 59 = .ok (.ifCond .eq 47, 3) := by decide +kernel
theorem d_Code_tellChanged_62 : decode b_Code_tellChanged 62 = .ok (.aload_n 0, 1) := by decide +kernel
theorem d_Code_tellChanged_63 : decode b_Code_tellChanged 63 = .ok (.aload_n 0, 1) := by decide +kernel
theorem d_Code_tellChanged_64 : decode b_Code_tellChanged 64 = .ok (.iload_n 2, 1) := by decide +kernel
theorem d_Code_tellChanged_65 : decode b_Code_tellChanged 65 = .ok (.iload_n 1, 1) := by decide +kernel
theorem d_Code_tellChanged_66 : decode b_Code_tellChanged 66 = .ok (.invokevirtual 83, 3) := by decide +kernel
theorem d_Code_tellChanged_69 : decode b_Code_tellChanged 69 = .ok (.ineg, 1) := by decide +kernel
theorem d_Code_tellChanged_70 : decode b_Code_tellChanged 70 = .ok (.invokevirtual 71, 3) := by decide +kernel
theorem d_Code_tellChanged_73 : decode b_Code_tellChanged 73 = .ok (.aload_n 0, 1) := by decide +kernel
theorem d_Code_tellChanged_74 : decode b_Code_tellChanged 74 = .ok (.iload 4, 2) := by decide +kernel
theorem d_Code_tellChanged_76 : decode b_Code_tellChanged 76 = .ok (.ifCond .eq 14, 3) := by decide +kernel
theorem d_Code_tellChanged_79 : decode b_Code_tellChanged 79 = .ok (.aload_n 0, 1) := by decide +kernel
theorem d_Code_tellChanged_80 : decode b_Code_tellChanged 80 = .ok (.iload_n 3, 1) := by decide +kernel
theorem d_Code_tellChanged_81 : decode b_Code_tellChanged 81 = .ok (.iload_n 1, 1) := by decide +kernel
theorem d_Code_tellChanged_82 : decode b_Code_tellChanged 82 = .ok (.iconst 1, 1) := by decide +kernel
theorem d_Code_tellChanged_83 : decode b_Code_tellChanged 83 = .ok (.iadd, 1) := by decide +kernel
theorem d_Code_tellChanged_84 : decode b_Code_tellChanged 84 = .ok (.invokevirtual 67, 3) := by decide +kernel
theorem d_Code_tellChanged_87 : decode b_Code_tellChanged 87 = .ok (.goto 12, 3) := by decide +kernel
theorem d_Code_tellChanged_90 : decode b_Code_tellChanged 90 = .ok (.aload_n 0, 1) := by decide +kernel
theorem d_Code_tellChanged_91 : decode b_Code_tellChanged 91 = .ok (.iload_n 3, 1) := by decide +kernel
theorem d_Code_tellChanged_92 : decode b_Code_tellChanged 92 = .ok (.iload_n 1, 1) := by decide +kernel
theorem d_Code_tellChanged_93 : decode b_Code_tellChanged 93 = .ok (.iconst 1, 1) := by decide +kernel
theorem d_Code_tellChanged_94 : decode b_Code_tellChanged 94 = .ok (.iadd, 1) := by decide +kernel
theorem d_Code_tellChanged_95 : decode b_Code_tellChanged 95 = .ok (.invokevirtual 67, 3) := by decide +kernel
theorem d_Code_tellChanged_98 : decode b_Code_tellChanged 98 = .ok (.ineg, 1) := by decide +kernel
theorem d_Code_tellChanged_99 : decode b_Code_tellChanged 99 = .ok (.invokevirtual 71, 3) := by decide +kernel
theorem d_Code_tellChanged_102 : decode b_Code_tellChanged 102 = .ok (.aload_n 0, 1) := by decide +kernel
theorem d_Code_tellChanged_103 : decode b_Code_tellChanged 103 = .ok (.invokevirtual 74, 3) := by decide +kernel
theorem d_Code_tellChanged_106 : decode b_Code_tellChanged 106 = .ok (.iinc 3 1, 3) := by decide +kernel
theorem d_Code_tellChanged_109 : decode b_Code_tellChanged 109 = .ok (.goto (-94), 3) := by decide +kernel
theorem d_Code_tellChanged_112 : decode b_Code_tellChanged 112 = .ok (.iinc 2 1, 3) := by decide +kernel
theorem d_Code_tellChanged_115 : decode b_Code_tellChanged 115 = .ok (.goto (-113), 3) := by decide +kernel
theorem d_Code_tellChanged_118 : decode b_Code_tellChanged 118 = .ok (.return_, 1) := by decide +kernel
set_option maxHeartbeats 4000000 in
set_option maxRecDepth 100000 in
theorem x_Code_tellChanged_L15 {p : Program} {e : Env} {s : State} {m : MethodId} {args : Array Value} {below : List Frame} {meth : Method} {c : Code} {l : Launch} {dC : Nat → ClassId} {dI : Nat → Nat → Nat} {cA : ClassId} {ad : Nat → Nat} {w0 : va_W} (C0 : q_C p s m args meth c b_Code_tellChanged 5 none "PlanClauses$Code" dC dI cA) (hA : ∀ q, s.heap.size ≤ q → va_A w0 s.heap.size q) (x1 : Int32) (x2 : Int32) (ta : tTask) (tw : tWays) (ct : tTold) {Q : tCode → Prop} {K112 : tCode → Prop}
    (hK112 : ∀ (co : tCode) (H : Heap) (locs : List Loc) (ls : Array Slot), K112 co → lv_has ls 5 [(0, .ref (ad 25)), (1, .int x1), (2, .int x2)] → q_H dC dI (va_A w0 s.heap.size) s.heap H locs ([c_TA ad cA ta tw, c_CO ad cA co ct].flatten) → W p l e (q_R 1 22) s m args below meth c H locs 0 0 (q_Zv below args s dC dI cA w0 (fun u : tCode => [c_TA ad cA ta tw, c_CO ad cA u ct].flatten) (fun u => Q u)) (F0 m 112 ls [])) :
    ∀ (nn : Nat) (x3 : Int32) (co : tCode) (H : Heap) (locs : List Loc) (ls : Array Slot), w_Code_tellChanged_L15 x1 x2 ta ct K112 nn x3 co → lv_has ls 5 [(0, .ref (ad 25)), (1, .int x1), (2, .int x2), (3, .int x3)] → q_H dC dI (va_A w0 s.heap.size) s.heap H locs ([c_TA ad cA ta tw, c_CO ad cA co ct].flatten) → W p l e (q_R 1 22) s m args below meth c H locs 0 0 (q_Zv below args s dC dI cA w0 (fun u : tCode => [c_TA ad cA ta tw, c_CO ad cA u ct].flatten) (fun u => Q u)) (F0 m 15 ls []) := by
  obtain ⟨hx, hb, -⟩ := id C0
  intro nn
  induction nn with
  | zero =>
    intro x3 co H locs ls h
    exact (show False from h).elim
  | succ nn ih =>
    intro x3 co H locs ls h hl hH
    rw [w_Code_tellChanged_L15] at h
    refine lv_iload_n hx hb d_Code_tellChanged_15 rfl (lv_at hl 3 rfl) ?_
    refine lv_aload_n hx hb d_Code_tellChanged_16 rfl (lv_at hl 0 rfl) ?_
    refine q_get (v := .ref (ad 20)) C0 hH 5 rfl hc_7 0 (by decide) k_232 rfl d_Code_tellChanged_17 ?_
    refine q_get (v := .int ta.factCount) C0 hH 0 rfl hc_6 0 (by decide) k_188 rfl d_Code_tellChanged_20 ?_
    refine lv_icmp_ge (tgt := 112) hx hb d_Code_tellChanged_23 (by decide) (fun c => ?_) (fun c => ?_)
    · have h := h.1 c
      exact hK112 co _ _ _ h (lv_sub hl [0, 1, 2] rfl) hH
    · have h := h.2 c
      refine lv_aload_n hx hb d_Code_tellChanged_26 rfl (lv_at hl 0 rfl) ?_
      refine q_get (v := .ref (ad 20)) C0 hH 5 rfl hc_7 0 (by decide) k_232 rfl d_Code_tellChanged_27 ?_
      refine q_get (v := .ref (ad 22)) C0 hH 0 rfl hc_6 5 (by decide) k_202 rfl d_Code_tellChanged_30 ?_
      refine lv_iload_n hx hb d_Code_tellChanged_33 rfl (lv_at hl 2 rfl) ?_
      obtain ⟨hi, h⟩ := h
      refine q_ald (f := ta.adds) C0 hH 2 rfl hi d_Code_tellChanged_34 ?_
      refine lv_iload_n hx hb d_Code_tellChanged_35 rfl (lv_at hl 3 rfl) ?_
      refine q_calls (rest := []) C0 hH hA (c_Code_has l dC dI cA ad (ta.adds x2.toNatClampNeg) x3 _ _ h) Y_Code_has k_565 ⟨Nat.le_of_ble_eq_true rfl, Nat.le_of_ble_eq_true rfl⟩ rfl rfl (Nat.le_of_ble_eq_true rfl) hl.1 d_Code_tellChanged_36 ⟨Nat.le_refl 0, Nat.le_refl 0⟩ (fun r_1 H locs h hH => ?_)
      try dsimp only at h
      refine lv_istore (lv' := [(4, .int r_1), (0, .ref (ad 25)), (1, .int x1), (2, .int x2), (3, .int x3)]) hx hb d_Code_tellChanged_39 hl (by decide) rfl (fun ls hl => ?_)
      refine lv_iload hx hb d_Code_tellChanged_41 (lv_at hl 0 rfl) ?_
      refine lv_if_ne (tgt := 62) hx hb d_Code_tellChanged_43 (by decide) (fun c => ?_) (fun c => ?_)
      · have h := h.1 c
        refine lv_aload_n hx hb d_Code_tellChanged_62 rfl (lv_at hl 1 rfl) ?_
        refine lv_aload_n hx hb d_Code_tellChanged_63 rfl (lv_at hl 1 rfl) ?_
        refine lv_iload_n hx hb d_Code_tellChanged_64 rfl (lv_at hl 3 rfl) ?_
        refine lv_iload_n hx hb d_Code_tellChanged_65 rfl (lv_at hl 2 rfl) ?_
        refine q_calli (rest := [.ref (ad 25)]) (ws' := fun _ : Unit => [c_TA ad cA ta tw, c_CO ad cA co ct].flatten) C0 hH hA (c_Code_done l dC dI cA ad x2 x1 ta tw co ct _ _ h) Y_Code_done k_584 5 rfl hc_7 (q_pg [0, 1] [] [0, 1] 2 2 rfl (by decide) rfl (fun _ => rfl) rfl (by decide) (fun _ => rfl)) ⟨Nat.le_of_ble_eq_true rfl, Nat.le_of_ble_eq_true rfl⟩ rfl rfl (Nat.le_of_ble_eq_true rfl) hl.1 d_Code_tellChanged_66 ⟨Nat.le_refl 0, Nat.le_refl 0⟩ (fun r_2 u_2 H locs h hH => ?_)
        try dsimp only at h
        have hH : q_H dC dI (va_A w0 s.heap.size) s.heap H locs ([c_TA ad cA ta tw, c_CO ad cA co ct].flatten) := hH
        refine lv_ineg hx hb d_Code_tellChanged_69 ?_
        refine q_callv (rest := []) (ws' := fun u : tCode => [c_TA ad cA ta tw, c_CO ad cA u ct].flatten) C0 hH hA (c_Code_put l dC dI cA ad (-r_2) co ct _ _ h) Y_Code_put k_572 5 rfl hc_7 (q_pg [1] [0] [0, 1] 2 1 rfl (by decide) rfl (fun _ => rfl) rfl (by decide) (fun _ => rfl)) ⟨Nat.le_of_ble_eq_true rfl, Nat.le_of_ble_eq_true rfl⟩ rfl rfl (Nat.le_of_ble_eq_true rfl) hl.1 d_Code_tellChanged_70 ⟨Nat.le_refl 0, Nat.le_refl 0⟩ (fun u_3 H locs h hH => ?_)
        obtain ⟨co_3, rfl⟩ : ∃ z, z = u_3 := ⟨_, rfl⟩
        try dsimp only at h
        have hH : q_H dC dI (va_A w0 s.heap.size) s.heap H locs ([c_TA ad cA ta tw, c_CO ad cA co_3 ct].flatten) := hH
        refine lv_aload_n hx hb d_Code_tellChanged_73 rfl (lv_at hl 1 rfl) ?_
        refine lv_iload hx hb d_Code_tellChanged_74 (lv_at hl 0 rfl) ?_
        refine lv_if_eq (tgt := 90) hx hb d_Code_tellChanged_76 (by decide) (fun c => ?_) (fun c => ?_)
        · have h := h.1 c
          refine lv_aload_n hx hb d_Code_tellChanged_90 rfl (lv_at hl 1 rfl) ?_
          refine lv_iload_n hx hb d_Code_tellChanged_91 rfl (lv_at hl 4 rfl) ?_
          refine lv_iload_n hx hb d_Code_tellChanged_92 rfl (lv_at hl 2 rfl) ?_
          refine lv_iconst (v := 1) hx hb d_Code_tellChanged_93 (by decide) ?_
          refine lv_iadd hx hb d_Code_tellChanged_94 ?_
          refine q_calli (rest := [.ref (ad 25)]) (ws' := fun _ : Unit => [c_TA ad cA ta tw, c_CO ad cA co_3 ct].flatten) C0 hH hA (c_Code_fact l dC dI cA ad x3 (x1 + 1) ta tw co_3 ct _ _ h) Y_Code_fact k_568 5 rfl hc_7 (q_pg [0, 1] [] [0, 1] 2 2 rfl (by decide) rfl (fun _ => rfl) rfl (by decide) (fun _ => rfl)) ⟨Nat.le_of_ble_eq_true rfl, Nat.le_of_ble_eq_true rfl⟩ rfl rfl (Nat.le_of_ble_eq_true rfl) hl.1 d_Code_tellChanged_95 ⟨Nat.le_refl 0, Nat.le_refl 0⟩ (fun r_4 u_4 H locs h hH => ?_)
          try dsimp only at h
          have hH : q_H dC dI (va_A w0 s.heap.size) s.heap H locs ([c_TA ad cA ta tw, c_CO ad cA co_3 ct].flatten) := hH
          refine lv_ineg hx hb d_Code_tellChanged_98 ?_
          refine q_callv (rest := []) (ws' := fun u : tCode => [c_TA ad cA ta tw, c_CO ad cA u ct].flatten) C0 hH hA (c_Code_put l dC dI cA ad (-r_4) co_3 ct _ _ h) Y_Code_put k_572 5 rfl hc_7 (q_pg [1] [0] [0, 1] 2 1 rfl (by decide) rfl (fun _ => rfl) rfl (by decide) (fun _ => rfl)) ⟨Nat.le_of_ble_eq_true rfl, Nat.le_of_ble_eq_true rfl⟩ rfl rfl (Nat.le_of_ble_eq_true rfl) hl.1 d_Code_tellChanged_99 ⟨Nat.le_refl 0, Nat.le_refl 0⟩ (fun u_5 H locs h hH => ?_)
          obtain ⟨co_5, rfl⟩ : ∃ z, z = u_5 := ⟨_, rfl⟩
          try dsimp only at h
          have hH : q_H dC dI (va_A w0 s.heap.size) s.heap H locs ([c_TA ad cA ta tw, c_CO ad cA co_5 ct].flatten) := hH
          refine lv_aload_n hx hb d_Code_tellChanged_102 rfl (lv_at hl 1 rfl) ?_
          refine q_callv (rest := []) (ws' := fun u : tCode => [c_TA ad cA ta tw, c_CO ad cA u ct].flatten) C0 hH hA (c_Code_close l dC dI cA ad co_5 ct _ _ h) Y_Code_close k_576 5 rfl hc_7 (q_pg [1] [0] [0, 1] 2 1 rfl (by decide) rfl (fun _ => rfl) rfl (by decide) (fun _ => rfl)) ⟨Nat.le_of_ble_eq_true rfl, Nat.le_of_ble_eq_true rfl⟩ rfl rfl (Nat.le_of_ble_eq_true rfl) hl.1 d_Code_tellChanged_103 ⟨Nat.le_refl 0, Nat.le_refl 0⟩ (fun u_6 H locs h hH => ?_)
          obtain ⟨co_6, rfl⟩ : ∃ z, z = u_6 := ⟨_, rfl⟩
          try dsimp only at h
          have hH : q_H dC dI (va_A w0 s.heap.size) s.heap H locs ([c_TA ad cA ta tw, c_CO ad cA co_6 ct].flatten) := hH
          refine lv_iinc (v := (x3 + 1)) (lv' := [(3, .int (x3 + 1)), (4, .int r_1), (0, .ref (ad 25)), (1, .int x1), (2, .int x2)]) hx hb d_Code_tellChanged_106 hl (k := 4) rfl rfl (by decide) rfl (fun ls hl => ?_)
          refine lv_goto (tgt := 15) hx hb d_Code_tellChanged_109 (by decide) ?_
          exact ih (x3 + 1) co_6 _ _ _ h (lv_sub hl [2, 3, 4, 0] rfl) hH
        · have h := h.2 c
          refine lv_aload_n hx hb d_Code_tellChanged_79 rfl (lv_at hl 1 rfl) ?_
          refine lv_iload_n hx hb d_Code_tellChanged_80 rfl (lv_at hl 4 rfl) ?_
          refine lv_iload_n hx hb d_Code_tellChanged_81 rfl (lv_at hl 2 rfl) ?_
          refine lv_iconst (v := 1) hx hb d_Code_tellChanged_82 (by decide) ?_
          refine lv_iadd hx hb d_Code_tellChanged_83 ?_
          refine q_calli (rest := [.ref (ad 25)]) (ws' := fun _ : Unit => [c_TA ad cA ta tw, c_CO ad cA co_3 ct].flatten) C0 hH hA (c_Code_fact l dC dI cA ad x3 (x1 + 1) ta tw co_3 ct _ _ h) Y_Code_fact k_568 5 rfl hc_7 (q_pg [0, 1] [] [0, 1] 2 2 rfl (by decide) rfl (fun _ => rfl) rfl (by decide) (fun _ => rfl)) ⟨Nat.le_of_ble_eq_true rfl, Nat.le_of_ble_eq_true rfl⟩ rfl rfl (Nat.le_of_ble_eq_true rfl) hl.1 d_Code_tellChanged_84 ⟨Nat.le_refl 0, Nat.le_refl 0⟩ (fun r_7 u_7 H locs h hH => ?_)
          try dsimp only at h
          have hH : q_H dC dI (va_A w0 s.heap.size) s.heap H locs ([c_TA ad cA ta tw, c_CO ad cA co_3 ct].flatten) := hH
          refine lv_goto (tgt := 99) hx hb d_Code_tellChanged_87 (by decide) ?_
          refine q_callv (rest := []) (ws' := fun u : tCode => [c_TA ad cA ta tw, c_CO ad cA u ct].flatten) C0 hH hA (c_Code_put l dC dI cA ad r_7 co_3 ct _ _ h) Y_Code_put k_572 5 rfl hc_7 (q_pg [1] [0] [0, 1] 2 1 rfl (by decide) rfl (fun _ => rfl) rfl (by decide) (fun _ => rfl)) ⟨Nat.le_of_ble_eq_true rfl, Nat.le_of_ble_eq_true rfl⟩ rfl rfl (Nat.le_of_ble_eq_true rfl) hl.1 d_Code_tellChanged_99 ⟨Nat.le_refl 0, Nat.le_refl 0⟩ (fun u_8 H locs h hH => ?_)
          obtain ⟨co_8, rfl⟩ : ∃ z, z = u_8 := ⟨_, rfl⟩
          try dsimp only at h
          have hH : q_H dC dI (va_A w0 s.heap.size) s.heap H locs ([c_TA ad cA ta tw, c_CO ad cA co_8 ct].flatten) := hH
          refine lv_aload_n hx hb d_Code_tellChanged_102 rfl (lv_at hl 1 rfl) ?_
          refine q_callv (rest := []) (ws' := fun u : tCode => [c_TA ad cA ta tw, c_CO ad cA u ct].flatten) C0 hH hA (c_Code_close l dC dI cA ad co_8 ct _ _ h) Y_Code_close k_576 5 rfl hc_7 (q_pg [1] [0] [0, 1] 2 1 rfl (by decide) rfl (fun _ => rfl) rfl (by decide) (fun _ => rfl)) ⟨Nat.le_of_ble_eq_true rfl, Nat.le_of_ble_eq_true rfl⟩ rfl rfl (Nat.le_of_ble_eq_true rfl) hl.1 d_Code_tellChanged_103 ⟨Nat.le_refl 0, Nat.le_refl 0⟩ (fun u_9 H locs h hH => ?_)
          obtain ⟨co_9, rfl⟩ : ∃ z, z = u_9 := ⟨_, rfl⟩
          try dsimp only at h
          have hH : q_H dC dI (va_A w0 s.heap.size) s.heap H locs ([c_TA ad cA ta tw, c_CO ad cA co_9 ct].flatten) := hH
          refine lv_iinc (v := (x3 + 1)) (lv' := [(3, .int (x3 + 1)), (4, .int r_1), (0, .ref (ad 25)), (1, .int x1), (2, .int x2)]) hx hb d_Code_tellChanged_106 hl (k := 4) rfl rfl (by decide) rfl (fun ls hl => ?_)
          refine lv_goto (tgt := 15) hx hb d_Code_tellChanged_109 (by decide) ?_
          exact ih (x3 + 1) co_9 _ _ _ h (lv_sub hl [2, 3, 4, 0] rfl) hH
      · have h := h.2 c
        refine lv_aload_n hx hb d_Code_tellChanged_46 rfl (lv_at hl 1 rfl) ?_
        refine q_get (v := .ref (ad 20)) C0 hH 5 rfl hc_7 0 (by decide) k_232 rfl d_Code_tellChanged_47 ?_
        refine q_get (v := .ref (ad 23)) C0 hH 0 rfl hc_6 6 (by decide) k_204 rfl d_Code_tellChanged_50 ?_
        refine lv_iload_n hx hb d_Code_tellChanged_53 rfl (lv_at hl 3 rfl) ?_
        obtain ⟨hi, h⟩ := h
        refine q_ald (f := ta.takes) C0 hH 3 rfl hi d_Code_tellChanged_54 ?_
        refine lv_iload_n hx hb d_Code_tellChanged_55 rfl (lv_at hl 4 rfl) ?_
        refine q_calls (rest := []) C0 hH hA (c_Code_has l dC dI cA ad (ta.takes x2.toNatClampNeg) x3 _ _ h) Y_Code_has k_565 ⟨Nat.le_of_ble_eq_true rfl, Nat.le_of_ble_eq_true rfl⟩ rfl rfl (Nat.le_of_ble_eq_true rfl) hl.1 d_Code_tellChanged_56 ⟨Nat.le_refl 0, Nat.le_refl 0⟩ (fun r_10 H locs h hH => ?_)
        try dsimp only at h
        refine lv_if_eq (tgt := 106) hx hb d_Code_tellChanged_59 (by decide) (fun c => ?_) (fun c => ?_)
        · have h := h.1 c
          refine lv_iinc (v := (x3 + 1)) (lv' := [(3, .int (x3 + 1)), (4, .int r_1), (0, .ref (ad 25)), (1, .int x1), (2, .int x2)]) hx hb d_Code_tellChanged_106 hl (k := 4) rfl rfl (by decide) rfl (fun ls hl => ?_)
          refine lv_goto (tgt := 15) hx hb d_Code_tellChanged_109 (by decide) ?_
          exact ih (x3 + 1) co _ _ _ h (lv_sub hl [2, 3, 4, 0] rfl) hH
        · have h := h.2 c
          refine lv_aload_n hx hb d_Code_tellChanged_62 rfl (lv_at hl 1 rfl) ?_
          refine lv_aload_n hx hb d_Code_tellChanged_63 rfl (lv_at hl 1 rfl) ?_
          refine lv_iload_n hx hb d_Code_tellChanged_64 rfl (lv_at hl 3 rfl) ?_
          refine lv_iload_n hx hb d_Code_tellChanged_65 rfl (lv_at hl 2 rfl) ?_
          refine q_calli (rest := [.ref (ad 25)]) (ws' := fun _ : Unit => [c_TA ad cA ta tw, c_CO ad cA co ct].flatten) C0 hH hA (c_Code_done l dC dI cA ad x2 x1 ta tw co ct _ _ h) Y_Code_done k_584 5 rfl hc_7 (q_pg [0, 1] [] [0, 1] 2 2 rfl (by decide) rfl (fun _ => rfl) rfl (by decide) (fun _ => rfl)) ⟨Nat.le_of_ble_eq_true rfl, Nat.le_of_ble_eq_true rfl⟩ rfl rfl (Nat.le_of_ble_eq_true rfl) hl.1 d_Code_tellChanged_66 ⟨Nat.le_refl 0, Nat.le_refl 0⟩ (fun r_11 u_11 H locs h hH => ?_)
          try dsimp only at h
          have hH : q_H dC dI (va_A w0 s.heap.size) s.heap H locs ([c_TA ad cA ta tw, c_CO ad cA co ct].flatten) := hH
          refine lv_ineg hx hb d_Code_tellChanged_69 ?_
          refine q_callv (rest := []) (ws' := fun u : tCode => [c_TA ad cA ta tw, c_CO ad cA u ct].flatten) C0 hH hA (c_Code_put l dC dI cA ad (-r_11) co ct _ _ h) Y_Code_put k_572 5 rfl hc_7 (q_pg [1] [0] [0, 1] 2 1 rfl (by decide) rfl (fun _ => rfl) rfl (by decide) (fun _ => rfl)) ⟨Nat.le_of_ble_eq_true rfl, Nat.le_of_ble_eq_true rfl⟩ rfl rfl (Nat.le_of_ble_eq_true rfl) hl.1 d_Code_tellChanged_70 ⟨Nat.le_refl 0, Nat.le_refl 0⟩ (fun u_12 H locs h hH => ?_)
          obtain ⟨co_12, rfl⟩ : ∃ z, z = u_12 := ⟨_, rfl⟩
          try dsimp only at h
          have hH : q_H dC dI (va_A w0 s.heap.size) s.heap H locs ([c_TA ad cA ta tw, c_CO ad cA co_12 ct].flatten) := hH
          refine lv_aload_n hx hb d_Code_tellChanged_73 rfl (lv_at hl 1 rfl) ?_
          refine lv_iload hx hb d_Code_tellChanged_74 (lv_at hl 0 rfl) ?_
          refine lv_if_eq (tgt := 90) hx hb d_Code_tellChanged_76 (by decide) (fun c => ?_) (fun c => ?_)
          · have h := h.1 c
            refine lv_aload_n hx hb d_Code_tellChanged_90 rfl (lv_at hl 1 rfl) ?_
            refine lv_iload_n hx hb d_Code_tellChanged_91 rfl (lv_at hl 4 rfl) ?_
            refine lv_iload_n hx hb d_Code_tellChanged_92 rfl (lv_at hl 2 rfl) ?_
            refine lv_iconst (v := 1) hx hb d_Code_tellChanged_93 (by decide) ?_
            refine lv_iadd hx hb d_Code_tellChanged_94 ?_
            refine q_calli (rest := [.ref (ad 25)]) (ws' := fun _ : Unit => [c_TA ad cA ta tw, c_CO ad cA co_12 ct].flatten) C0 hH hA (c_Code_fact l dC dI cA ad x3 (x1 + 1) ta tw co_12 ct _ _ h) Y_Code_fact k_568 5 rfl hc_7 (q_pg [0, 1] [] [0, 1] 2 2 rfl (by decide) rfl (fun _ => rfl) rfl (by decide) (fun _ => rfl)) ⟨Nat.le_of_ble_eq_true rfl, Nat.le_of_ble_eq_true rfl⟩ rfl rfl (Nat.le_of_ble_eq_true rfl) hl.1 d_Code_tellChanged_95 ⟨Nat.le_refl 0, Nat.le_refl 0⟩ (fun r_13 u_13 H locs h hH => ?_)
            try dsimp only at h
            have hH : q_H dC dI (va_A w0 s.heap.size) s.heap H locs ([c_TA ad cA ta tw, c_CO ad cA co_12 ct].flatten) := hH
            refine lv_ineg hx hb d_Code_tellChanged_98 ?_
            refine q_callv (rest := []) (ws' := fun u : tCode => [c_TA ad cA ta tw, c_CO ad cA u ct].flatten) C0 hH hA (c_Code_put l dC dI cA ad (-r_13) co_12 ct _ _ h) Y_Code_put k_572 5 rfl hc_7 (q_pg [1] [0] [0, 1] 2 1 rfl (by decide) rfl (fun _ => rfl) rfl (by decide) (fun _ => rfl)) ⟨Nat.le_of_ble_eq_true rfl, Nat.le_of_ble_eq_true rfl⟩ rfl rfl (Nat.le_of_ble_eq_true rfl) hl.1 d_Code_tellChanged_99 ⟨Nat.le_refl 0, Nat.le_refl 0⟩ (fun u_14 H locs h hH => ?_)
            obtain ⟨co_14, rfl⟩ : ∃ z, z = u_14 := ⟨_, rfl⟩
            try dsimp only at h
            have hH : q_H dC dI (va_A w0 s.heap.size) s.heap H locs ([c_TA ad cA ta tw, c_CO ad cA co_14 ct].flatten) := hH
            refine lv_aload_n hx hb d_Code_tellChanged_102 rfl (lv_at hl 1 rfl) ?_
            refine q_callv (rest := []) (ws' := fun u : tCode => [c_TA ad cA ta tw, c_CO ad cA u ct].flatten) C0 hH hA (c_Code_close l dC dI cA ad co_14 ct _ _ h) Y_Code_close k_576 5 rfl hc_7 (q_pg [1] [0] [0, 1] 2 1 rfl (by decide) rfl (fun _ => rfl) rfl (by decide) (fun _ => rfl)) ⟨Nat.le_of_ble_eq_true rfl, Nat.le_of_ble_eq_true rfl⟩ rfl rfl (Nat.le_of_ble_eq_true rfl) hl.1 d_Code_tellChanged_103 ⟨Nat.le_refl 0, Nat.le_refl 0⟩ (fun u_15 H locs h hH => ?_)
            obtain ⟨co_15, rfl⟩ : ∃ z, z = u_15 := ⟨_, rfl⟩
            try dsimp only at h
            have hH : q_H dC dI (va_A w0 s.heap.size) s.heap H locs ([c_TA ad cA ta tw, c_CO ad cA co_15 ct].flatten) := hH
            refine lv_iinc (v := (x3 + 1)) (lv' := [(3, .int (x3 + 1)), (4, .int r_1), (0, .ref (ad 25)), (1, .int x1), (2, .int x2)]) hx hb d_Code_tellChanged_106 hl (k := 4) rfl rfl (by decide) rfl (fun ls hl => ?_)
            refine lv_goto (tgt := 15) hx hb d_Code_tellChanged_109 (by decide) ?_
            exact ih (x3 + 1) co_15 _ _ _ h (lv_sub hl [2, 3, 4, 0] rfl) hH
          · have h := h.2 c
            refine lv_aload_n hx hb d_Code_tellChanged_79 rfl (lv_at hl 1 rfl) ?_
            refine lv_iload_n hx hb d_Code_tellChanged_80 rfl (lv_at hl 4 rfl) ?_
            refine lv_iload_n hx hb d_Code_tellChanged_81 rfl (lv_at hl 2 rfl) ?_
            refine lv_iconst (v := 1) hx hb d_Code_tellChanged_82 (by decide) ?_
            refine lv_iadd hx hb d_Code_tellChanged_83 ?_
            refine q_calli (rest := [.ref (ad 25)]) (ws' := fun _ : Unit => [c_TA ad cA ta tw, c_CO ad cA co_12 ct].flatten) C0 hH hA (c_Code_fact l dC dI cA ad x3 (x1 + 1) ta tw co_12 ct _ _ h) Y_Code_fact k_568 5 rfl hc_7 (q_pg [0, 1] [] [0, 1] 2 2 rfl (by decide) rfl (fun _ => rfl) rfl (by decide) (fun _ => rfl)) ⟨Nat.le_of_ble_eq_true rfl, Nat.le_of_ble_eq_true rfl⟩ rfl rfl (Nat.le_of_ble_eq_true rfl) hl.1 d_Code_tellChanged_84 ⟨Nat.le_refl 0, Nat.le_refl 0⟩ (fun r_16 u_16 H locs h hH => ?_)
            try dsimp only at h
            have hH : q_H dC dI (va_A w0 s.heap.size) s.heap H locs ([c_TA ad cA ta tw, c_CO ad cA co_12 ct].flatten) := hH
            refine lv_goto (tgt := 99) hx hb d_Code_tellChanged_87 (by decide) ?_
            refine q_callv (rest := []) (ws' := fun u : tCode => [c_TA ad cA ta tw, c_CO ad cA u ct].flatten) C0 hH hA (c_Code_put l dC dI cA ad r_16 co_12 ct _ _ h) Y_Code_put k_572 5 rfl hc_7 (q_pg [1] [0] [0, 1] 2 1 rfl (by decide) rfl (fun _ => rfl) rfl (by decide) (fun _ => rfl)) ⟨Nat.le_of_ble_eq_true rfl, Nat.le_of_ble_eq_true rfl⟩ rfl rfl (Nat.le_of_ble_eq_true rfl) hl.1 d_Code_tellChanged_99 ⟨Nat.le_refl 0, Nat.le_refl 0⟩ (fun u_17 H locs h hH => ?_)
            obtain ⟨co_17, rfl⟩ : ∃ z, z = u_17 := ⟨_, rfl⟩
            try dsimp only at h
            have hH : q_H dC dI (va_A w0 s.heap.size) s.heap H locs ([c_TA ad cA ta tw, c_CO ad cA co_17 ct].flatten) := hH
            refine lv_aload_n hx hb d_Code_tellChanged_102 rfl (lv_at hl 1 rfl) ?_
            refine q_callv (rest := []) (ws' := fun u : tCode => [c_TA ad cA ta tw, c_CO ad cA u ct].flatten) C0 hH hA (c_Code_close l dC dI cA ad co_17 ct _ _ h) Y_Code_close k_576 5 rfl hc_7 (q_pg [1] [0] [0, 1] 2 1 rfl (by decide) rfl (fun _ => rfl) rfl (by decide) (fun _ => rfl)) ⟨Nat.le_of_ble_eq_true rfl, Nat.le_of_ble_eq_true rfl⟩ rfl rfl (Nat.le_of_ble_eq_true rfl) hl.1 d_Code_tellChanged_103 ⟨Nat.le_refl 0, Nat.le_refl 0⟩ (fun u_18 H locs h hH => ?_)
            obtain ⟨co_18, rfl⟩ : ∃ z, z = u_18 := ⟨_, rfl⟩
            try dsimp only at h
            have hH : q_H dC dI (va_A w0 s.heap.size) s.heap H locs ([c_TA ad cA ta tw, c_CO ad cA co_18 ct].flatten) := hH
            refine lv_iinc (v := (x3 + 1)) (lv' := [(3, .int (x3 + 1)), (4, .int r_1), (0, .ref (ad 25)), (1, .int x1), (2, .int x2)]) hx hb d_Code_tellChanged_106 hl (k := 4) rfl rfl (by decide) rfl (fun ls hl => ?_)
            refine lv_goto (tgt := 15) hx hb d_Code_tellChanged_109 (by decide) ?_
            exact ih (x3 + 1) co_18 _ _ _ h (lv_sub hl [2, 3, 4, 0] rfl) hH
set_option maxHeartbeats 4000000 in
set_option maxRecDepth 100000 in
theorem x_Code_tellChanged_L2 {p : Program} {e : Env} {s : State} {m : MethodId} {args : Array Value} {below : List Frame} {meth : Method} {c : Code} {l : Launch} {dC : Nat → ClassId} {dI : Nat → Nat → Nat} {cA : ClassId} {ad : Nat → Nat} {w0 : va_W} (C0 : q_C p s m args meth c b_Code_tellChanged 5 none "PlanClauses$Code" dC dI cA) (hA : ∀ q, s.heap.size ≤ q → va_A w0 s.heap.size q) (x1 : Int32) (ta : tTask) (tw : tWays) (ct : tTold) {Q : tCode → Prop} {K118 : tCode → Prop}
    (hK118 : ∀ (co : tCode) (H : Heap) (locs : List Loc) (ls : Array Slot), K118 co → lv_has ls 5 [] → q_H dC dI (va_A w0 s.heap.size) s.heap H locs ([c_TA ad cA ta tw, c_CO ad cA co ct].flatten) → W p l e (q_R 1 22) s m args below meth c H locs 0 0 (q_Zv below args s dC dI cA w0 (fun u : tCode => [c_TA ad cA ta tw, c_CO ad cA u ct].flatten) (fun u => Q u)) (F0 m 118 ls [])) :
    ∀ (nn : Nat) (x2 : Int32) (co : tCode) (H : Heap) (locs : List Loc) (ls : Array Slot), w_Code_tellChanged_L2 x1 ta ct K118 nn x2 co → lv_has ls 5 [(0, .ref (ad 25)), (1, .int x1), (2, .int x2)] → q_H dC dI (va_A w0 s.heap.size) s.heap H locs ([c_TA ad cA ta tw, c_CO ad cA co ct].flatten) → W p l e (q_R 1 22) s m args below meth c H locs 0 0 (q_Zv below args s dC dI cA w0 (fun u : tCode => [c_TA ad cA ta tw, c_CO ad cA u ct].flatten) (fun u => Q u)) (F0 m 2 ls []) := by
  obtain ⟨hx, hb, -⟩ := id C0
  intro nn
  induction nn with
  | zero =>
    intro x2 co H locs ls h
    exact (show False from h).elim
  | succ nn ih =>
    intro x2 co H locs ls h hl hH
    rw [w_Code_tellChanged_L2] at h
    refine lv_iload_n hx hb d_Code_tellChanged_2 rfl (lv_at hl 2 rfl) ?_
    refine lv_aload_n hx hb d_Code_tellChanged_3 rfl (lv_at hl 0 rfl) ?_
    refine q_get (v := .ref (ad 20)) C0 hH 5 rfl hc_7 0 (by decide) k_232 rfl d_Code_tellChanged_4 ?_
    refine q_get (v := .int ta.actionCount) C0 hH 0 rfl hc_6 1 (by decide) k_191 rfl d_Code_tellChanged_7 ?_
    refine lv_icmp_ge (tgt := 118) hx hb d_Code_tellChanged_10 (by decide) (fun c => ?_) (fun c => ?_)
    · have h := h.1 c
      exact hK118 co _ _ _ h (lv_sub hl [] rfl) hH
    · have h := h.2 c
      refine lv_iconst (v := 0) hx hb d_Code_tellChanged_13 (by decide) ?_
      refine lv_istore_n (lv' := [(3, .int 0), (0, .ref (ad 25)), (1, .int x1), (2, .int x2)]) hx hb d_Code_tellChanged_14 rfl hl (by decide) rfl (fun ls hl => ?_)
      obtain ⟨nn, h⟩ := h
      refine x_Code_tellChanged_L15 C0 hA x1 x2 ta tw ct ?_ nn 0 co _ _ _ h (lv_sub hl [1, 2, 3, 0] rfl) hH
      · intro co_1 H locs ls h hl hH
        try dsimp only at h
        refine lv_iinc (v := (x2 + 1)) (lv' := [(2, .int (x2 + 1)), (0, .ref (ad 25)), (1, .int x1)]) hx hb d_Code_tellChanged_112 hl (k := 2) rfl rfl (by decide) rfl (fun ls hl => ?_)
        refine lv_goto (tgt := 2) hx hb d_Code_tellChanged_115 (by decide) ?_
        exact ih (x2 + 1) co_1 _ _ _ h (lv_sub hl [1, 2, 0] rfl) hH
set_option maxHeartbeats 4000000 in
set_option maxRecDepth 100000 in
theorem c_Code_tellChanged (l : Launch) (dC : Nat → ClassId) (dI : Nat → Nat → Nat) (cA : ClassId) (ad : Nat → Nat) (x1 : Int32) (ta : tTask) (tw : tWays) (co : tCode) (ct : tTold) (Q : tCode → Prop) (sz : Nat) (h : w_Code_tellChanged x1 ta co ct Q) :
    q_Mv l y_Code_tellChanged b_Code_tellChanged 5 1 22 [.ref (ad 25), .int x1] dC dI cA ([c_TA ad cA ta tw, c_CO ad cA co ct].flatten) (fun u : tCode => [c_TA ad cA ta tw, c_CO ad cA u ct].flatten) sz (fun u => Q u) := by
  refine q_metv (plainFor_of_name (by decide +kernel)) (Nat.le_of_ble_eq_true rfl) (fun {p e s m below meth c ls} C0 hl hH => ?_)
  obtain ⟨hx, hb, -⟩ := id C0
  have hA : ∀ q, s.heap.size ≤ q → va_A ([c_TA ad cA ta tw, c_CO ad cA co ct].flatten) s.heap.size q := q_nA
  have hl : lv_has ls 5 [(0, .ref (ad 25)), (1, .int x1)] := hl
  unfold w_Code_tellChanged at h
  refine lv_iconst (v := 0) hx hb d_Code_tellChanged_0 (by decide) ?_
  refine lv_istore_n (lv' := [(2, .int 0), (0, .ref (ad 25)), (1, .int x1)]) hx hb d_Code_tellChanged_1 rfl hl (by decide) rfl (fun ls hl => ?_)
  obtain ⟨nn, h⟩ := h
  refine x_Code_tellChanged_L2 C0 hA x1 ta tw ct ?_ nn 0 co _ _ _ h (lv_sub hl [1, 2, 0] rfl) hH
  · intro co_1 H locs ls h hl hH
    try dsimp only at h
    exact q_retv C0 hH co_1 rfl h d_Code_tellChanged_118
theorem d_Code_putActionsWith_0 : decode b_Code_putActionsWith 0 = .ok (.iconst 0, 1) := by decide +kernel
theorem d_Code_putActionsWith_1 : decode b_Code_putActionsWith 1 = .ok (.istore 4, 2) := by decide +kernel
theorem d_Code_putActionsWith_3 : decode b_Code_putActionsWith 3 = .ok (.iload 4, 2) := by decide +kernel
theorem d_Code_putActionsWith_5 : decode b_Code_putActionsWith 5 = .ok (.aload_n 0, 1) := by decide +kernel
theorem d_Code_putActionsWith_6 : decode b_Code_putActionsWith 6 = .ok (.getfield 18, 3) := by decide +kernel
theorem d_Code_putActionsWith_9 : decode b_Code_putActionsWith 9 = .ok (.getfield 57, 3) := by decide +kernel
theorem d_Code_putActionsWith_12 : decode b_Code_putActionsWith 12 = .ok (.if_icmp .ge 38, 3) := by decide +kernel
theorem d_Code_putActionsWith_15 : decode b_Code_putActionsWith 15 = .ok (.iload 4, 2) := by decide +kernel
theorem d_Code_putActionsWith_17 : decode b_Code_putActionsWith 17 = .ok (.aload_n 1, 1) := by decide +kernel
theorem d_Code_putActionsWith_18 : decode b_Code_putActionsWith 18 = .ok (.arraylength, 1) := by decide +kernel
theorem d_Code_putActionsWith_19 : decode b_Code_putActionsWith 19 = .ok (.if_icmp .ge 31, 3) := by decide +kernel
theorem d_Code_putActionsWith_22 : decode b_Code_putActionsWith 22 = .ok (.aload_n 1, 1) := by decide +kernel
theorem d_Code_putActionsWith_23 : decode b_Code_putActionsWith 23 = .ok (.iload 4, 2) := by decide +kernel
theorem d_Code_putActionsWith_25 : decode b_Code_putActionsWith 25 = .ok (.iaload, 1) := by decide +kernel
theorem d_Code_putActionsWith_26 : decode b_Code_putActionsWith 26 = .ok (.iload_n 2, 1) := by decide +kernel
theorem d_Code_putActionsWith_27 : decode b_Code_putActionsWith 27 = .ok (.invokestatic 63, 3) := by decide +kernel
theorem d_Code_putActionsWith_30 : decode b_Code_putActionsWith 30 = .ok (.ifCond .eq 14, 3) := by decide +kernel
theorem d_Code_putActionsWith_33 : decode b_Code_putActionsWith 33 = .ok (.aload_n 0, 1) := by decide +kernel
theorem d_Code_putActionsWith_34 : decode b_Code_putActionsWith 34 = .ok (.aload_n 0, 1) := by decide +kernel
theorem d_Code_putActionsWith_35 : decode b_Code_putActionsWith 35 = .ok (.iload 4, 2) := by decide +kernel
theorem d_Code_putActionsWith_37 : decode b_Code_putActionsWith 37 = .ok (.iload_n 3, 1) := by decide +kernel
theorem d_Code_putActionsWith_38 : decode b_Code_putActionsWith 38 = .ok (.invokevirtual 83, 3) := by decide +kernel
theorem d_Code_putActionsWith_41 : decode b_Code_putActionsWith 41 = .ok (.invokevirtual 71, 3) := by decide +kernel
theorem d_Code_putActionsWith_44 : decode b_Code_putActionsWith 44 = .ok (.iinc 4 1, 3) := by decide +kernel
theorem d_Code_putActionsWith_47 : decode b_Code_putActionsWith 47 = .ok (.goto (-44), 3) := by decide +kernel
theorem d_Code_putActionsWith_50 : decode b_Code_putActionsWith 50 = .ok (.return_, 1) := by decide +kernel
set_option maxHeartbeats 4000000 in
set_option maxRecDepth 100000 in
theorem x_Code_putActionsWith_adds_L3 {p : Program} {e : Env} {s : State} {m : MethodId} {args : Array Value} {below : List Frame} {meth : Method} {c : Code} {l : Launch} {dC : Nat → ClassId} {dI : Nat → Nat → Nat} {cA : ClassId} {ad : Nat → Nat} {w0 : va_W} (C0 : q_C p s m args meth c b_Code_putActionsWith 5 none "PlanClauses$Code" dC dI cA) (hA : ∀ q, s.heap.size ≤ q → va_A w0 s.heap.size q) (x2 : Int32) (x3 : Int32) (ta : tTask) (tw : tWays) (ct : tTold) {Q : tCode → Prop} {K50 : tCode → Prop}
    (hK50 : ∀ (co : tCode) (H : Heap) (locs : List Loc) (ls : Array Slot), K50 co → lv_has ls 5 [] → q_H dC dI (va_A w0 s.heap.size) s.heap H locs ([c_TA ad cA ta tw, c_CO ad cA co ct].flatten) → W p l e (q_R 1 22) s m args below meth c H locs 0 0 (q_Zv below args s dC dI cA w0 (fun u : tCode => [c_TA ad cA ta tw, c_CO ad cA u ct].flatten) (fun u => Q u)) (F0 m 50 ls [])) :
    ∀ (nn : Nat) (x4 : Int32) (co : tCode) (H : Heap) (locs : List Loc) (ls : Array Slot), w_Code_putActionsWith_L3 x2 x3 ta.adds ta ct K50 nn x4 co → lv_has ls 5 [(0, .ref (ad 25)), (1, .ref (ad 22)), (2, .int x2), (3, .int x3), (4, .int x4)] → q_H dC dI (va_A w0 s.heap.size) s.heap H locs ([c_TA ad cA ta tw, c_CO ad cA co ct].flatten) → W p l e (q_R 1 22) s m args below meth c H locs 0 0 (q_Zv below args s dC dI cA w0 (fun u : tCode => [c_TA ad cA ta tw, c_CO ad cA u ct].flatten) (fun u => Q u)) (F0 m 3 ls []) := by
  obtain ⟨hx, hb, -⟩ := id C0
  intro nn
  induction nn with
  | zero =>
    intro x4 co H locs ls h
    exact (show False from h).elim
  | succ nn ih =>
    intro x4 co H locs ls h hl hH
    rw [w_Code_putActionsWith_L3] at h
    refine lv_iload hx hb d_Code_putActionsWith_3 (lv_at hl 4 rfl) ?_
    refine lv_aload_n hx hb d_Code_putActionsWith_5 rfl (lv_at hl 0 rfl) ?_
    refine q_get (v := .ref (ad 20)) C0 hH 5 rfl hc_7 0 (by decide) k_232 rfl d_Code_putActionsWith_6 ?_
    refine q_get (v := .int ta.actionCount) C0 hH 0 rfl hc_6 1 (by decide) k_191 rfl d_Code_putActionsWith_9 ?_
    refine lv_icmp_ge (tgt := 50) hx hb d_Code_putActionsWith_12 (by decide) (fun c => ?_) (fun c => ?_)
    · have h := h.1 c
      exact hK50 co _ _ _ h (lv_sub hl [] rfl) hH
    · have h := h.2 c
      refine lv_iload hx hb d_Code_putActionsWith_15 (lv_at hl 4 rfl) ?_
      refine lv_aload_n hx hb d_Code_putActionsWith_17 rfl (lv_at hl 1 rfl) ?_
      refine q_alen (n := 5) (f := ta.adds) C0 hH 2 rfl d_Code_putActionsWith_18 ?_
      refine lv_icmp_ge (tgt := 50) hx hb d_Code_putActionsWith_19 (by decide) (fun c => ?_) (fun c => ?_)
      · have h := h.1 c
        exact hK50 co _ _ _ h (lv_sub hl [] rfl) hH
      · have h := h.2 c
        refine lv_aload_n hx hb d_Code_putActionsWith_22 rfl (lv_at hl 1 rfl) ?_
        refine lv_iload hx hb d_Code_putActionsWith_23 (lv_at hl 4 rfl) ?_
        obtain ⟨hi, h⟩ := h
        refine q_ald (f := ta.adds) C0 hH 2 rfl hi d_Code_putActionsWith_25 ?_
        refine lv_iload_n hx hb d_Code_putActionsWith_26 rfl (lv_at hl 2 rfl) ?_
        refine q_calls (rest := []) C0 hH hA (c_Code_has l dC dI cA ad (ta.adds x4.toNatClampNeg) x2 _ _ h) Y_Code_has k_565 ⟨Nat.le_of_ble_eq_true rfl, Nat.le_of_ble_eq_true rfl⟩ rfl rfl (Nat.le_of_ble_eq_true rfl) hl.1 d_Code_putActionsWith_27 ⟨Nat.le_refl 0, Nat.le_refl 0⟩ (fun r_1 H locs h hH => ?_)
        try dsimp only at h
        refine lv_if_eq (tgt := 44) hx hb d_Code_putActionsWith_30 (by decide) (fun c => ?_) (fun c => ?_)
        · have h := h.1 c
          refine lv_iinc (v := (x4 + 1)) (lv' := [(4, .int (x4 + 1)), (0, .ref (ad 25)), (1, .ref (ad 22)), (2, .int x2), (3, .int x3)]) hx hb d_Code_putActionsWith_44 hl (k := 4) rfl rfl (by decide) rfl (fun ls hl => ?_)
          refine lv_goto (tgt := 3) hx hb d_Code_putActionsWith_47 (by decide) ?_
          exact ih (x4 + 1) co _ _ _ h (lv_sub hl [1, 2, 3, 4, 0] rfl) hH
        · have h := h.2 c
          refine lv_aload_n hx hb d_Code_putActionsWith_33 rfl (lv_at hl 0 rfl) ?_
          refine lv_aload_n hx hb d_Code_putActionsWith_34 rfl (lv_at hl 0 rfl) ?_
          refine lv_iload hx hb d_Code_putActionsWith_35 (lv_at hl 4 rfl) ?_
          refine lv_iload_n hx hb d_Code_putActionsWith_37 rfl (lv_at hl 3 rfl) ?_
          refine q_calli (rest := [.ref (ad 25)]) (ws' := fun _ : Unit => [c_TA ad cA ta tw, c_CO ad cA co ct].flatten) C0 hH hA (c_Code_done l dC dI cA ad x4 x3 ta tw co ct _ _ h) Y_Code_done k_584 5 rfl hc_7 (q_pg [0, 1] [] [0, 1] 2 2 rfl (by decide) rfl (fun _ => rfl) rfl (by decide) (fun _ => rfl)) ⟨Nat.le_of_ble_eq_true rfl, Nat.le_of_ble_eq_true rfl⟩ rfl rfl (Nat.le_of_ble_eq_true rfl) hl.1 d_Code_putActionsWith_38 ⟨Nat.le_refl 0, Nat.le_refl 0⟩ (fun r_2 u_2 H locs h hH => ?_)
          try dsimp only at h
          have hH : q_H dC dI (va_A w0 s.heap.size) s.heap H locs ([c_TA ad cA ta tw, c_CO ad cA co ct].flatten) := hH
          refine q_callv (rest := []) (ws' := fun u : tCode => [c_TA ad cA ta tw, c_CO ad cA u ct].flatten) C0 hH hA (c_Code_put l dC dI cA ad r_2 co ct _ _ h) Y_Code_put k_572 5 rfl hc_7 (q_pg [1] [0] [0, 1] 2 1 rfl (by decide) rfl (fun _ => rfl) rfl (by decide) (fun _ => rfl)) ⟨Nat.le_of_ble_eq_true rfl, Nat.le_of_ble_eq_true rfl⟩ rfl rfl (Nat.le_of_ble_eq_true rfl) hl.1 d_Code_putActionsWith_41 ⟨Nat.le_refl 0, Nat.le_refl 0⟩ (fun u_3 H locs h hH => ?_)
          obtain ⟨co_3, rfl⟩ : ∃ z, z = u_3 := ⟨_, rfl⟩
          try dsimp only at h
          have hH : q_H dC dI (va_A w0 s.heap.size) s.heap H locs ([c_TA ad cA ta tw, c_CO ad cA co_3 ct].flatten) := hH
          refine lv_iinc (v := (x4 + 1)) (lv' := [(4, .int (x4 + 1)), (0, .ref (ad 25)), (1, .ref (ad 22)), (2, .int x2), (3, .int x3)]) hx hb d_Code_putActionsWith_44 hl (k := 4) rfl rfl (by decide) rfl (fun ls hl => ?_)
          refine lv_goto (tgt := 3) hx hb d_Code_putActionsWith_47 (by decide) ?_
          exact ih (x4 + 1) co_3 _ _ _ h (lv_sub hl [1, 2, 3, 4, 0] rfl) hH
set_option maxHeartbeats 4000000 in
set_option maxRecDepth 100000 in
theorem c_Code_putActionsWith_adds (l : Launch) (dC : Nat → ClassId) (dI : Nat → Nat → Nat) (cA : ClassId) (ad : Nat → Nat) (x2 : Int32) (x3 : Int32) (ta : tTask) (tw : tWays) (co : tCode) (ct : tTold) (Q : tCode → Prop) (sz : Nat) (h : w_Code_putActionsWith ta.adds x2 x3 ta co ct Q) :
    q_Mv l y_Code_putActionsWith b_Code_putActionsWith 5 1 22 [.ref (ad 25), .ref (ad 22), .int x2, .int x3] dC dI cA ([c_TA ad cA ta tw, c_CO ad cA co ct].flatten) (fun u : tCode => [c_TA ad cA ta tw, c_CO ad cA u ct].flatten) sz (fun u => Q u) := by
  refine q_metv (plainFor_of_name (by decide +kernel)) (Nat.le_of_ble_eq_true rfl) (fun {p e s m below meth c ls} C0 hl hH => ?_)
  obtain ⟨hx, hb, -⟩ := id C0
  have hA : ∀ q, s.heap.size ≤ q → va_A ([c_TA ad cA ta tw, c_CO ad cA co ct].flatten) s.heap.size q := q_nA
  have hl : lv_has ls 5 [(0, .ref (ad 25)), (1, .ref (ad 22)), (2, .int x2), (3, .int x3)] := hl
  unfold w_Code_putActionsWith at h
  refine lv_iconst (v := 0) hx hb d_Code_putActionsWith_0 (by decide) ?_
  refine lv_istore (lv' := [(4, .int 0), (0, .ref (ad 25)), (1, .ref (ad 22)), (2, .int x2), (3, .int x3)]) hx hb d_Code_putActionsWith_1 hl (by decide) rfl (fun ls hl => ?_)
  obtain ⟨nn, h⟩ := h
  refine x_Code_putActionsWith_adds_L3 C0 hA x2 x3 ta tw ct ?_ nn 0 co _ _ _ h (lv_sub hl [1, 2, 3, 4, 0] rfl) hH
  · intro co_1 H locs ls h hl hH
    try dsimp only at h
    exact q_retv C0 hH co_1 rfl h d_Code_putActionsWith_50
set_option maxHeartbeats 4000000 in
set_option maxRecDepth 100000 in
theorem x_Code_putActionsWith_takes_L3 {p : Program} {e : Env} {s : State} {m : MethodId} {args : Array Value} {below : List Frame} {meth : Method} {c : Code} {l : Launch} {dC : Nat → ClassId} {dI : Nat → Nat → Nat} {cA : ClassId} {ad : Nat → Nat} {w0 : va_W} (C0 : q_C p s m args meth c b_Code_putActionsWith 5 none "PlanClauses$Code" dC dI cA) (hA : ∀ q, s.heap.size ≤ q → va_A w0 s.heap.size q) (x2 : Int32) (x3 : Int32) (ta : tTask) (tw : tWays) (ct : tTold) {Q : tCode → Prop} {K50 : tCode → Prop}
    (hK50 : ∀ (co : tCode) (H : Heap) (locs : List Loc) (ls : Array Slot), K50 co → lv_has ls 5 [] → q_H dC dI (va_A w0 s.heap.size) s.heap H locs ([c_TA ad cA ta tw, c_CO ad cA co ct].flatten) → W p l e (q_R 1 22) s m args below meth c H locs 0 0 (q_Zv below args s dC dI cA w0 (fun u : tCode => [c_TA ad cA ta tw, c_CO ad cA u ct].flatten) (fun u => Q u)) (F0 m 50 ls [])) :
    ∀ (nn : Nat) (x4 : Int32) (co : tCode) (H : Heap) (locs : List Loc) (ls : Array Slot), w_Code_putActionsWith_L3 x2 x3 ta.takes ta ct K50 nn x4 co → lv_has ls 5 [(0, .ref (ad 25)), (1, .ref (ad 23)), (2, .int x2), (3, .int x3), (4, .int x4)] → q_H dC dI (va_A w0 s.heap.size) s.heap H locs ([c_TA ad cA ta tw, c_CO ad cA co ct].flatten) → W p l e (q_R 1 22) s m args below meth c H locs 0 0 (q_Zv below args s dC dI cA w0 (fun u : tCode => [c_TA ad cA ta tw, c_CO ad cA u ct].flatten) (fun u => Q u)) (F0 m 3 ls []) := by
  obtain ⟨hx, hb, -⟩ := id C0
  intro nn
  induction nn with
  | zero =>
    intro x4 co H locs ls h
    exact (show False from h).elim
  | succ nn ih =>
    intro x4 co H locs ls h hl hH
    rw [w_Code_putActionsWith_L3] at h
    refine lv_iload hx hb d_Code_putActionsWith_3 (lv_at hl 4 rfl) ?_
    refine lv_aload_n hx hb d_Code_putActionsWith_5 rfl (lv_at hl 0 rfl) ?_
    refine q_get (v := .ref (ad 20)) C0 hH 5 rfl hc_7 0 (by decide) k_232 rfl d_Code_putActionsWith_6 ?_
    refine q_get (v := .int ta.actionCount) C0 hH 0 rfl hc_6 1 (by decide) k_191 rfl d_Code_putActionsWith_9 ?_
    refine lv_icmp_ge (tgt := 50) hx hb d_Code_putActionsWith_12 (by decide) (fun c => ?_) (fun c => ?_)
    · have h := h.1 c
      exact hK50 co _ _ _ h (lv_sub hl [] rfl) hH
    · have h := h.2 c
      refine lv_iload hx hb d_Code_putActionsWith_15 (lv_at hl 4 rfl) ?_
      refine lv_aload_n hx hb d_Code_putActionsWith_17 rfl (lv_at hl 1 rfl) ?_
      refine q_alen (n := 5) (f := ta.takes) C0 hH 3 rfl d_Code_putActionsWith_18 ?_
      refine lv_icmp_ge (tgt := 50) hx hb d_Code_putActionsWith_19 (by decide) (fun c => ?_) (fun c => ?_)
      · have h := h.1 c
        exact hK50 co _ _ _ h (lv_sub hl [] rfl) hH
      · have h := h.2 c
        refine lv_aload_n hx hb d_Code_putActionsWith_22 rfl (lv_at hl 1 rfl) ?_
        refine lv_iload hx hb d_Code_putActionsWith_23 (lv_at hl 4 rfl) ?_
        obtain ⟨hi, h⟩ := h
        refine q_ald (f := ta.takes) C0 hH 3 rfl hi d_Code_putActionsWith_25 ?_
        refine lv_iload_n hx hb d_Code_putActionsWith_26 rfl (lv_at hl 2 rfl) ?_
        refine q_calls (rest := []) C0 hH hA (c_Code_has l dC dI cA ad (ta.takes x4.toNatClampNeg) x2 _ _ h) Y_Code_has k_565 ⟨Nat.le_of_ble_eq_true rfl, Nat.le_of_ble_eq_true rfl⟩ rfl rfl (Nat.le_of_ble_eq_true rfl) hl.1 d_Code_putActionsWith_27 ⟨Nat.le_refl 0, Nat.le_refl 0⟩ (fun r_1 H locs h hH => ?_)
        try dsimp only at h
        refine lv_if_eq (tgt := 44) hx hb d_Code_putActionsWith_30 (by decide) (fun c => ?_) (fun c => ?_)
        · have h := h.1 c
          refine lv_iinc (v := (x4 + 1)) (lv' := [(4, .int (x4 + 1)), (0, .ref (ad 25)), (1, .ref (ad 23)), (2, .int x2), (3, .int x3)]) hx hb d_Code_putActionsWith_44 hl (k := 4) rfl rfl (by decide) rfl (fun ls hl => ?_)
          refine lv_goto (tgt := 3) hx hb d_Code_putActionsWith_47 (by decide) ?_
          exact ih (x4 + 1) co _ _ _ h (lv_sub hl [1, 2, 3, 4, 0] rfl) hH
        · have h := h.2 c
          refine lv_aload_n hx hb d_Code_putActionsWith_33 rfl (lv_at hl 0 rfl) ?_
          refine lv_aload_n hx hb d_Code_putActionsWith_34 rfl (lv_at hl 0 rfl) ?_
          refine lv_iload hx hb d_Code_putActionsWith_35 (lv_at hl 4 rfl) ?_
          refine lv_iload_n hx hb d_Code_putActionsWith_37 rfl (lv_at hl 3 rfl) ?_
          refine q_calli (rest := [.ref (ad 25)]) (ws' := fun _ : Unit => [c_TA ad cA ta tw, c_CO ad cA co ct].flatten) C0 hH hA (c_Code_done l dC dI cA ad x4 x3 ta tw co ct _ _ h) Y_Code_done k_584 5 rfl hc_7 (q_pg [0, 1] [] [0, 1] 2 2 rfl (by decide) rfl (fun _ => rfl) rfl (by decide) (fun _ => rfl)) ⟨Nat.le_of_ble_eq_true rfl, Nat.le_of_ble_eq_true rfl⟩ rfl rfl (Nat.le_of_ble_eq_true rfl) hl.1 d_Code_putActionsWith_38 ⟨Nat.le_refl 0, Nat.le_refl 0⟩ (fun r_2 u_2 H locs h hH => ?_)
          try dsimp only at h
          have hH : q_H dC dI (va_A w0 s.heap.size) s.heap H locs ([c_TA ad cA ta tw, c_CO ad cA co ct].flatten) := hH
          refine q_callv (rest := []) (ws' := fun u : tCode => [c_TA ad cA ta tw, c_CO ad cA u ct].flatten) C0 hH hA (c_Code_put l dC dI cA ad r_2 co ct _ _ h) Y_Code_put k_572 5 rfl hc_7 (q_pg [1] [0] [0, 1] 2 1 rfl (by decide) rfl (fun _ => rfl) rfl (by decide) (fun _ => rfl)) ⟨Nat.le_of_ble_eq_true rfl, Nat.le_of_ble_eq_true rfl⟩ rfl rfl (Nat.le_of_ble_eq_true rfl) hl.1 d_Code_putActionsWith_41 ⟨Nat.le_refl 0, Nat.le_refl 0⟩ (fun u_3 H locs h hH => ?_)
          obtain ⟨co_3, rfl⟩ : ∃ z, z = u_3 := ⟨_, rfl⟩
          try dsimp only at h
          have hH : q_H dC dI (va_A w0 s.heap.size) s.heap H locs ([c_TA ad cA ta tw, c_CO ad cA co_3 ct].flatten) := hH
          refine lv_iinc (v := (x4 + 1)) (lv' := [(4, .int (x4 + 1)), (0, .ref (ad 25)), (1, .ref (ad 23)), (2, .int x2), (3, .int x3)]) hx hb d_Code_putActionsWith_44 hl (k := 4) rfl rfl (by decide) rfl (fun ls hl => ?_)
          refine lv_goto (tgt := 3) hx hb d_Code_putActionsWith_47 (by decide) ?_
          exact ih (x4 + 1) co_3 _ _ _ h (lv_sub hl [1, 2, 3, 4, 0] rfl) hH
set_option maxHeartbeats 4000000 in
set_option maxRecDepth 100000 in
theorem c_Code_putActionsWith_takes (l : Launch) (dC : Nat → ClassId) (dI : Nat → Nat → Nat) (cA : ClassId) (ad : Nat → Nat) (x2 : Int32) (x3 : Int32) (ta : tTask) (tw : tWays) (co : tCode) (ct : tTold) (Q : tCode → Prop) (sz : Nat) (h : w_Code_putActionsWith ta.takes x2 x3 ta co ct Q) :
    q_Mv l y_Code_putActionsWith b_Code_putActionsWith 5 1 22 [.ref (ad 25), .ref (ad 23), .int x2, .int x3] dC dI cA ([c_TA ad cA ta tw, c_CO ad cA co ct].flatten) (fun u : tCode => [c_TA ad cA ta tw, c_CO ad cA u ct].flatten) sz (fun u => Q u) := by
  refine q_metv (plainFor_of_name (by decide +kernel)) (Nat.le_of_ble_eq_true rfl) (fun {p e s m below meth c ls} C0 hl hH => ?_)
  obtain ⟨hx, hb, -⟩ := id C0
  have hA : ∀ q, s.heap.size ≤ q → va_A ([c_TA ad cA ta tw, c_CO ad cA co ct].flatten) s.heap.size q := q_nA
  have hl : lv_has ls 5 [(0, .ref (ad 25)), (1, .ref (ad 23)), (2, .int x2), (3, .int x3)] := hl
  unfold w_Code_putActionsWith at h
  refine lv_iconst (v := 0) hx hb d_Code_putActionsWith_0 (by decide) ?_
  refine lv_istore (lv' := [(4, .int 0), (0, .ref (ad 25)), (1, .ref (ad 23)), (2, .int x2), (3, .int x3)]) hx hb d_Code_putActionsWith_1 hl (by decide) rfl (fun ls hl => ?_)
  obtain ⟨nn, h⟩ := h
  refine x_Code_putActionsWith_takes_L3 C0 hA x2 x3 ta tw ct ?_ nn 0 co _ _ _ h (lv_sub hl [1, 2, 3, 4, 0] rfl) hH
  · intro co_1 H locs ls h hl hH
    try dsimp only at h
    exact q_retv C0 hH co_1 rfl h d_Code_putActionsWith_50
theorem d_Code_tellKept_0 : decode b_Code_tellKept 0 = .ok (.iconst 0, 1) := by decide +kernel
theorem d_Code_tellKept_1 : decode b_Code_tellKept 1 = .ok (.istore_n 2, 1) := by decide +kernel
theorem d_Code_tellKept_2 : decode b_Code_tellKept 2 = .ok (.iload_n 2, 1) := by decide +kernel
theorem d_Code_tellKept_3 : decode b_Code_tellKept 3 = .ok (.aload_n 0, 1) := by decide +kernel
theorem d_Code_tellKept_4 : decode b_Code_tellKept 4 = .ok (.getfield 18, 3) := by decide +kernel
theorem d_Code_tellKept_7 : decode b_Code_tellKept 7 = .ok (.getfield 52, 3) := by decide +kernel
theorem d_Code_tellKept_10 : decode b_Code_tellKept 10 = .ok (.if_icmp .ge 89, 3) := by decide +kernel
theorem d_Code_tellKept_13 : decode b_Code_tellKept 13 = .ok (.aload_n 0, 1) := by decide +kernel
theorem d_Code_tellKept_14 : decode b_Code_tellKept 14 = .ok (.aload_n 0, 1) := by decide +kernel
theorem d_Code_tellKept_15 : decode b_Code_tellKept 15 = .ok (.iload_n 2, 1) := by decide +kernel
theorem d_Code_tellKept_16 : decode b_Code_tellKept 16 = .ok (.iload_n 1, 1) := by decide +kernel
theorem d_Code_tellKept_17 : decode b_Code_tellKept 17 = .ok (.invokevirtual 67, 3) := by decide +kernel
theorem d_Code_tellKept_20 : decode b_Code_tellKept 20 = .ok (.invokevirtual 71, 3) := by decide +kernel
theorem d_Code_tellKept_23 : decode b_Code_tellKept 23 = .ok (.aload_n 0, 1) := by decide +kernel
theorem d_Code_tellKept_24 : decode b_Code_tellKept 24 = .ok (.aload_n 0, 1) := by decide +kernel
theorem d_Code_tellKept_25 : decode b_Code_tellKept 25 = .ok (.iload_n 2, 1) := by decide +kernel
theorem d_Code_tellKept_26 : decode b_Code_tellKept 26 = .ok (.iload_n 1, 1) := by decide +kernel
theorem d_Code_tellKept_27 : decode b_Code_tellKept 27 = .ok (.iconst 1, 1) := by decide +kernel
theorem d_Code_tellKept_28 : decode b_Code_tellKept 28 = .ok (.iadd, 1) := by decide +kernel
theorem d_Code_tellKept_29 : decode b_Code_tellKept 29 = .ok (.invokevirtual 67, 3) := by decide +kernel
theorem d_Code_tellKept_32 : decode b_Code_tellKept 32 = .ok (.ineg, 1) := by decide +kernel
theorem d_Code_tellKept_33 : decode b_Code_tellKept 33 = .ok (.invokevirtual 71, 3) := by decide +kernel
theorem d_Code_tellKept_36 : decode b_Code_tellKept 36 = .ok (.aload_n 0, 1) := by decide +kernel
theorem d_Code_tellKept_37 : decode b_Code_tellKept 37 = .ok (.aload_n 0, 1) := by decide +kernel
theorem d_Code_tellKept_38 : decode b_Code_tellKept 38 = .ok (.getfield 18, 3) := by decide +kernel
theorem d_Code_tellKept_41 : decode b_Code_tellKept 41 = .ok (.getfield 86, 3) := by decide +kernel
theorem d_Code_tellKept_44 : decode b_Code_tellKept 44 = .ok (.iload_n 2, 1) := by decide +kernel
theorem d_Code_tellKept_45 : decode b_Code_tellKept 45 = .ok (.iload_n 1, 1) := by decide +kernel
theorem d_Code_tellKept_46 : decode b_Code_tellKept 46 = .ok (.invokevirtual 92, 3) := by decide +kernel
theorem d_Code_tellKept_49 : decode b_Code_tellKept 49 = .ok (.aload_n 0, 1) := by decide +kernel
theorem d_Code_tellKept_50 : decode b_Code_tellKept 50 = .ok (.invokevirtual 74, 3) := by decide +kernel
theorem d_Code_tellKept_53 : decode b_Code_tellKept 53 = .ok (.aload_n 0, 1) := by decide +kernel
theorem d_Code_tellKept_54 : decode b_Code_tellKept 54 = .ok (.aload_n 0, 1) := by decide +kernel
theorem d_Code_tellKept_55 : decode b_Code_tellKept 55 = .ok (.iload_n 2, 1) := by decide +kernel
theorem d_Code_tellKept_56 : decode b_Code_tellKept 56 = .ok (.iload_n 1, 1) := by decide +kernel
theorem d_Code_tellKept_57 : decode b_Code_tellKept 57 = .ok (.invokevirtual 67, 3) := by decide +kernel
theorem d_Code_tellKept_60 : decode b_Code_tellKept 60 = .ok (.ineg, 1) := by decide +kernel
theorem d_Code_tellKept_61 : decode b_Code_tellKept 61 = .ok (.invokevirtual 71, 3) := by decide +kernel
theorem d_Code_tellKept_64 : decode b_Code_tellKept 64 = .ok (.aload_n 0, 1) := by decide +kernel
theorem d_Code_tellKept_65 : decode b_Code_tellKept 65 = .ok (.aload_n 0, 1) := by decide +kernel
theorem d_Code_tellKept_66 : decode b_Code_tellKept 66 = .ok (.iload_n 2, 1) := by decide +kernel
theorem d_Code_tellKept_67 : decode b_Code_tellKept 67 = .ok (.iload_n 1, 1) := by decide +kernel
theorem d_Code_tellKept_68 : decode b_Code_tellKept 68 = .ok (.iconst 1, 1) := by decide +kernel
theorem d_Code_tellKept_69 : decode b_Code_tellKept 69 = .ok (.iadd, 1) := by decide +kernel
theorem d_Code_tellKept_70 : decode b_Code_tellKept 70 = .ok (.invokevirtual 67, 3) := by decide +kernel
theorem d_Code_tellKept_73 : decode b_Code_tellKept 73 = .ok (.invokevirtual 71, 3) := by decide +kernel
theorem d_Code_tellKept_76 : decode b_Code_tellKept 76 = .ok (.aload_n 0, 1) := by decide +kernel
theorem d_Code_tellKept_77 : decode b_Code_tellKept 77 = .ok (.aload_n 0, 1) := by decide +kernel
theorem d_Code_tellKept_78 : decode b_Code_tellKept 78 = .ok (.getfield 18, 3) := by decide +kernel
theorem d_Code_tellKept_81 : decode b_Code_tellKept 81 = .ok (.getfield 89, 3) := by decide +kernel
theorem d_Code_tellKept_84 : decode b_Code_tellKept 84 = .ok (.iload_n 2, 1) := by decide +kernel
theorem d_Code_tellKept_85 : decode b_Code_tellKept 85 = .ok (.iload_n 1, 1) := by decide +kernel
theorem d_Code_tellKept_86 : decode b_Code_tellKept 86 = .ok (.invokevirtual 92, 3) := by decide +kernel
theorem d_Code_tellKept_89 : decode b_Code_tellKept 89 = .ok (.aload_n 0, 1) := by decide +kernel
theorem d_Code_tellKept_90 : decode b_Code_tellKept 90 = .ok (.invokevirtual 74, 3) := by decide +kernel
theorem d_Code_tellKept_93 : decode b_Code_tellKept 93 = .ok (.iinc 2 1, 3) := by decide +kernel
theorem d_Code_tellKept_96 : decode b_Code_tellKept 96 = .ok (.goto (-94), 3) := by decide +kernel
theorem d_Code_tellKept_99 : decode b_Code_tellKept 99 = .ok (.return_, 1) := by decide +kernel
set_option maxHeartbeats 4000000 in
set_option maxRecDepth 100000 in
theorem x_Code_tellKept_L2 {p : Program} {e : Env} {s : State} {m : MethodId} {args : Array Value} {below : List Frame} {meth : Method} {c : Code} {l : Launch} {dC : Nat → ClassId} {dI : Nat → Nat → Nat} {cA : ClassId} {ad : Nat → Nat} {w0 : va_W} (C0 : q_C p s m args meth c b_Code_tellKept 3 none "PlanClauses$Code" dC dI cA) (hA : ∀ q, s.heap.size ≤ q → va_A w0 s.heap.size q) (x1 : Int32) (ta : tTask) (tw : tWays) (ct : tTold) {Q : tCode → Prop} {K99 : tCode → Prop}
    (hK99 : ∀ (co : tCode) (H : Heap) (locs : List Loc) (ls : Array Slot), K99 co → lv_has ls 3 [] → q_H dC dI (va_A w0 s.heap.size) s.heap H locs ([c_TA ad cA ta tw, c_CO ad cA co ct].flatten) → W p l e (q_R 2 46) s m args below meth c H locs 0 0 (q_Zv below args s dC dI cA w0 (fun u : tCode => [c_TA ad cA ta tw, c_CO ad cA u ct].flatten) (fun u => Q u)) (F0 m 99 ls [])) :
    ∀ (nn : Nat) (x2 : Int32) (co : tCode) (H : Heap) (locs : List Loc) (ls : Array Slot), w_Code_tellKept_L2 x1 ta ct K99 nn x2 co → lv_has ls 3 [(0, .ref (ad 25)), (1, .int x1), (2, .int x2)] → q_H dC dI (va_A w0 s.heap.size) s.heap H locs ([c_TA ad cA ta tw, c_CO ad cA co ct].flatten) → W p l e (q_R 2 46) s m args below meth c H locs 0 0 (q_Zv below args s dC dI cA w0 (fun u : tCode => [c_TA ad cA ta tw, c_CO ad cA u ct].flatten) (fun u => Q u)) (F0 m 2 ls []) := by
  obtain ⟨hx, hb, -⟩ := id C0
  intro nn
  induction nn with
  | zero =>
    intro x2 co H locs ls h
    exact (show False from h).elim
  | succ nn ih =>
    intro x2 co H locs ls h hl hH
    rw [w_Code_tellKept_L2] at h
    refine lv_iload_n hx hb d_Code_tellKept_2 rfl (lv_at hl 2 rfl) ?_
    refine lv_aload_n hx hb d_Code_tellKept_3 rfl (lv_at hl 0 rfl) ?_
    refine q_get (v := .ref (ad 20)) C0 hH 5 rfl hc_7 0 (by decide) k_232 rfl d_Code_tellKept_4 ?_
    refine q_get (v := .int ta.factCount) C0 hH 0 rfl hc_6 0 (by decide) k_188 rfl d_Code_tellKept_7 ?_
    refine lv_icmp_ge (tgt := 99) hx hb d_Code_tellKept_10 (by decide) (fun c => ?_) (fun c => ?_)
    · have h := h.1 c
      exact hK99 co _ _ _ h (lv_sub hl [] rfl) hH
    · have h := h.2 c
      refine lv_aload_n hx hb d_Code_tellKept_13 rfl (lv_at hl 0 rfl) ?_
      refine lv_aload_n hx hb d_Code_tellKept_14 rfl (lv_at hl 0 rfl) ?_
      refine lv_iload_n hx hb d_Code_tellKept_15 rfl (lv_at hl 2 rfl) ?_
      refine lv_iload_n hx hb d_Code_tellKept_16 rfl (lv_at hl 1 rfl) ?_
      refine q_calli (rest := [.ref (ad 25)]) (ws' := fun _ : Unit => [c_TA ad cA ta tw, c_CO ad cA co ct].flatten) C0 hH hA (c_Code_fact l dC dI cA ad x2 x1 ta tw co ct _ _ h) Y_Code_fact k_568 5 rfl hc_7 (q_pg [0, 1] [] [0, 1] 2 2 rfl (by decide) rfl (fun _ => rfl) rfl (by decide) (fun _ => rfl)) ⟨Nat.le_of_ble_eq_true rfl, Nat.le_of_ble_eq_true rfl⟩ rfl rfl (Nat.le_of_ble_eq_true rfl) hl.1 d_Code_tellKept_17 ⟨Nat.le_refl 0, Nat.le_refl 0⟩ (fun r_1 u_1 H locs h hH => ?_)
      try dsimp only at h
      have hH : q_H dC dI (va_A w0 s.heap.size) s.heap H locs ([c_TA ad cA ta tw, c_CO ad cA co ct].flatten) := hH
      refine q_callv (rest := []) (ws' := fun u : tCode => [c_TA ad cA ta tw, c_CO ad cA u ct].flatten) C0 hH hA (c_Code_put l dC dI cA ad r_1 co ct _ _ h) Y_Code_put k_572 5 rfl hc_7 (q_pg [1] [0] [0, 1] 2 1 rfl (by decide) rfl (fun _ => rfl) rfl (by decide) (fun _ => rfl)) ⟨Nat.le_of_ble_eq_true rfl, Nat.le_of_ble_eq_true rfl⟩ rfl rfl (Nat.le_of_ble_eq_true rfl) hl.1 d_Code_tellKept_20 ⟨Nat.le_refl 0, Nat.le_refl 0⟩ (fun u_2 H locs h hH => ?_)
      obtain ⟨co_2, rfl⟩ : ∃ z, z = u_2 := ⟨_, rfl⟩
      try dsimp only at h
      have hH : q_H dC dI (va_A w0 s.heap.size) s.heap H locs ([c_TA ad cA ta tw, c_CO ad cA co_2 ct].flatten) := hH
      refine lv_aload_n hx hb d_Code_tellKept_23 rfl (lv_at hl 0 rfl) ?_
      refine lv_aload_n hx hb d_Code_tellKept_24 rfl (lv_at hl 0 rfl) ?_
      refine lv_iload_n hx hb d_Code_tellKept_25 rfl (lv_at hl 2 rfl) ?_
      refine lv_iload_n hx hb d_Code_tellKept_26 rfl (lv_at hl 1 rfl) ?_
      refine lv_iconst (v := 1) hx hb d_Code_tellKept_27 (by decide) ?_
      refine lv_iadd hx hb d_Code_tellKept_28 ?_
      refine q_calli (rest := [.ref (ad 25)]) (ws' := fun _ : Unit => [c_TA ad cA ta tw, c_CO ad cA co_2 ct].flatten) C0 hH hA (c_Code_fact l dC dI cA ad x2 (x1 + 1) ta tw co_2 ct _ _ h) Y_Code_fact k_568 5 rfl hc_7 (q_pg [0, 1] [] [0, 1] 2 2 rfl (by decide) rfl (fun _ => rfl) rfl (by decide) (fun _ => rfl)) ⟨Nat.le_of_ble_eq_true rfl, Nat.le_of_ble_eq_true rfl⟩ rfl rfl (Nat.le_of_ble_eq_true rfl) hl.1 d_Code_tellKept_29 ⟨Nat.le_refl 0, Nat.le_refl 0⟩ (fun r_3 u_3 H locs h hH => ?_)
      try dsimp only at h
      have hH : q_H dC dI (va_A w0 s.heap.size) s.heap H locs ([c_TA ad cA ta tw, c_CO ad cA co_2 ct].flatten) := hH
      refine lv_ineg hx hb d_Code_tellKept_32 ?_
      refine q_callv (rest := []) (ws' := fun u : tCode => [c_TA ad cA ta tw, c_CO ad cA u ct].flatten) C0 hH hA (c_Code_put l dC dI cA ad (-r_3) co_2 ct _ _ h) Y_Code_put k_572 5 rfl hc_7 (q_pg [1] [0] [0, 1] 2 1 rfl (by decide) rfl (fun _ => rfl) rfl (by decide) (fun _ => rfl)) ⟨Nat.le_of_ble_eq_true rfl, Nat.le_of_ble_eq_true rfl⟩ rfl rfl (Nat.le_of_ble_eq_true rfl) hl.1 d_Code_tellKept_33 ⟨Nat.le_refl 0, Nat.le_refl 0⟩ (fun u_4 H locs h hH => ?_)
      obtain ⟨co_4, rfl⟩ : ∃ z, z = u_4 := ⟨_, rfl⟩
      try dsimp only at h
      have hH : q_H dC dI (va_A w0 s.heap.size) s.heap H locs ([c_TA ad cA ta tw, c_CO ad cA co_4 ct].flatten) := hH
      refine lv_aload_n hx hb d_Code_tellKept_36 rfl (lv_at hl 0 rfl) ?_
      refine lv_aload_n hx hb d_Code_tellKept_37 rfl (lv_at hl 0 rfl) ?_
      refine q_get (v := .ref (ad 20)) C0 hH 5 rfl hc_7 0 (by decide) k_232 rfl d_Code_tellKept_38 ?_
      refine q_get (v := .ref (ad 22)) C0 hH 0 rfl hc_6 5 (by decide) k_202 rfl d_Code_tellKept_41 ?_
      refine lv_iload_n hx hb d_Code_tellKept_44 rfl (lv_at hl 2 rfl) ?_
      refine lv_iload_n hx hb d_Code_tellKept_45 rfl (lv_at hl 1 rfl) ?_
      refine q_callv (rest := []) (ws' := fun u : tCode => [c_TA ad cA ta tw, c_CO ad cA u ct].flatten) C0 hH hA (c_Code_putActionsWith_adds l dC dI cA ad x2 x1 ta tw co_4 ct _ _ h) Y_Code_putActionsWith k_596 5 rfl hc_7 (q_pg [0, 1] [] [0, 1] 2 2 rfl (by decide) rfl (fun _ => rfl) rfl (by decide) (fun _ => rfl)) ⟨Nat.le_of_ble_eq_true rfl, Nat.le_of_ble_eq_true rfl⟩ rfl rfl (Nat.le_of_ble_eq_true rfl) hl.1 d_Code_tellKept_46 ⟨Nat.le_refl 0, Nat.le_refl 0⟩ (fun u_5 H locs h hH => ?_)
      obtain ⟨co_5, rfl⟩ : ∃ z, z = u_5 := ⟨_, rfl⟩
      try dsimp only at h
      have hH : q_H dC dI (va_A w0 s.heap.size) s.heap H locs ([c_TA ad cA ta tw, c_CO ad cA co_5 ct].flatten) := hH
      refine lv_aload_n hx hb d_Code_tellKept_49 rfl (lv_at hl 0 rfl) ?_
      refine q_callv (rest := []) (ws' := fun u : tCode => [c_TA ad cA ta tw, c_CO ad cA u ct].flatten) C0 hH hA (c_Code_close l dC dI cA ad co_5 ct _ _ h) Y_Code_close k_576 5 rfl hc_7 (q_pg [1] [0] [0, 1] 2 1 rfl (by decide) rfl (fun _ => rfl) rfl (by decide) (fun _ => rfl)) ⟨Nat.le_of_ble_eq_true rfl, Nat.le_of_ble_eq_true rfl⟩ rfl rfl (Nat.le_of_ble_eq_true rfl) hl.1 d_Code_tellKept_50 ⟨Nat.le_refl 0, Nat.le_refl 0⟩ (fun u_6 H locs h hH => ?_)
      obtain ⟨co_6, rfl⟩ : ∃ z, z = u_6 := ⟨_, rfl⟩
      try dsimp only at h
      have hH : q_H dC dI (va_A w0 s.heap.size) s.heap H locs ([c_TA ad cA ta tw, c_CO ad cA co_6 ct].flatten) := hH
      refine lv_aload_n hx hb d_Code_tellKept_53 rfl (lv_at hl 0 rfl) ?_
      refine lv_aload_n hx hb d_Code_tellKept_54 rfl (lv_at hl 0 rfl) ?_
      refine lv_iload_n hx hb d_Code_tellKept_55 rfl (lv_at hl 2 rfl) ?_
      refine lv_iload_n hx hb d_Code_tellKept_56 rfl (lv_at hl 1 rfl) ?_
      refine q_calli (rest := [.ref (ad 25)]) (ws' := fun _ : Unit => [c_TA ad cA ta tw, c_CO ad cA co_6 ct].flatten) C0 hH hA (c_Code_fact l dC dI cA ad x2 x1 ta tw co_6 ct _ _ h) Y_Code_fact k_568 5 rfl hc_7 (q_pg [0, 1] [] [0, 1] 2 2 rfl (by decide) rfl (fun _ => rfl) rfl (by decide) (fun _ => rfl)) ⟨Nat.le_of_ble_eq_true rfl, Nat.le_of_ble_eq_true rfl⟩ rfl rfl (Nat.le_of_ble_eq_true rfl) hl.1 d_Code_tellKept_57 ⟨Nat.le_refl 0, Nat.le_refl 0⟩ (fun r_7 u_7 H locs h hH => ?_)
      try dsimp only at h
      have hH : q_H dC dI (va_A w0 s.heap.size) s.heap H locs ([c_TA ad cA ta tw, c_CO ad cA co_6 ct].flatten) := hH
      refine lv_ineg hx hb d_Code_tellKept_60 ?_
      refine q_callv (rest := []) (ws' := fun u : tCode => [c_TA ad cA ta tw, c_CO ad cA u ct].flatten) C0 hH hA (c_Code_put l dC dI cA ad (-r_7) co_6 ct _ _ h) Y_Code_put k_572 5 rfl hc_7 (q_pg [1] [0] [0, 1] 2 1 rfl (by decide) rfl (fun _ => rfl) rfl (by decide) (fun _ => rfl)) ⟨Nat.le_of_ble_eq_true rfl, Nat.le_of_ble_eq_true rfl⟩ rfl rfl (Nat.le_of_ble_eq_true rfl) hl.1 d_Code_tellKept_61 ⟨Nat.le_refl 0, Nat.le_refl 0⟩ (fun u_8 H locs h hH => ?_)
      obtain ⟨co_8, rfl⟩ : ∃ z, z = u_8 := ⟨_, rfl⟩
      try dsimp only at h
      have hH : q_H dC dI (va_A w0 s.heap.size) s.heap H locs ([c_TA ad cA ta tw, c_CO ad cA co_8 ct].flatten) := hH
      refine lv_aload_n hx hb d_Code_tellKept_64 rfl (lv_at hl 0 rfl) ?_
      refine lv_aload_n hx hb d_Code_tellKept_65 rfl (lv_at hl 0 rfl) ?_
      refine lv_iload_n hx hb d_Code_tellKept_66 rfl (lv_at hl 2 rfl) ?_
      refine lv_iload_n hx hb d_Code_tellKept_67 rfl (lv_at hl 1 rfl) ?_
      refine lv_iconst (v := 1) hx hb d_Code_tellKept_68 (by decide) ?_
      refine lv_iadd hx hb d_Code_tellKept_69 ?_
      refine q_calli (rest := [.ref (ad 25)]) (ws' := fun _ : Unit => [c_TA ad cA ta tw, c_CO ad cA co_8 ct].flatten) C0 hH hA (c_Code_fact l dC dI cA ad x2 (x1 + 1) ta tw co_8 ct _ _ h) Y_Code_fact k_568 5 rfl hc_7 (q_pg [0, 1] [] [0, 1] 2 2 rfl (by decide) rfl (fun _ => rfl) rfl (by decide) (fun _ => rfl)) ⟨Nat.le_of_ble_eq_true rfl, Nat.le_of_ble_eq_true rfl⟩ rfl rfl (Nat.le_of_ble_eq_true rfl) hl.1 d_Code_tellKept_70 ⟨Nat.le_refl 0, Nat.le_refl 0⟩ (fun r_9 u_9 H locs h hH => ?_)
      try dsimp only at h
      have hH : q_H dC dI (va_A w0 s.heap.size) s.heap H locs ([c_TA ad cA ta tw, c_CO ad cA co_8 ct].flatten) := hH
      refine q_callv (rest := []) (ws' := fun u : tCode => [c_TA ad cA ta tw, c_CO ad cA u ct].flatten) C0 hH hA (c_Code_put l dC dI cA ad r_9 co_8 ct _ _ h) Y_Code_put k_572 5 rfl hc_7 (q_pg [1] [0] [0, 1] 2 1 rfl (by decide) rfl (fun _ => rfl) rfl (by decide) (fun _ => rfl)) ⟨Nat.le_of_ble_eq_true rfl, Nat.le_of_ble_eq_true rfl⟩ rfl rfl (Nat.le_of_ble_eq_true rfl) hl.1 d_Code_tellKept_73 ⟨Nat.le_refl 0, Nat.le_refl 0⟩ (fun u_10 H locs h hH => ?_)
      obtain ⟨co_10, rfl⟩ : ∃ z, z = u_10 := ⟨_, rfl⟩
      try dsimp only at h
      have hH : q_H dC dI (va_A w0 s.heap.size) s.heap H locs ([c_TA ad cA ta tw, c_CO ad cA co_10 ct].flatten) := hH
      refine lv_aload_n hx hb d_Code_tellKept_76 rfl (lv_at hl 0 rfl) ?_
      refine lv_aload_n hx hb d_Code_tellKept_77 rfl (lv_at hl 0 rfl) ?_
      refine q_get (v := .ref (ad 20)) C0 hH 5 rfl hc_7 0 (by decide) k_232 rfl d_Code_tellKept_78 ?_
      refine q_get (v := .ref (ad 23)) C0 hH 0 rfl hc_6 6 (by decide) k_204 rfl d_Code_tellKept_81 ?_
      refine lv_iload_n hx hb d_Code_tellKept_84 rfl (lv_at hl 2 rfl) ?_
      refine lv_iload_n hx hb d_Code_tellKept_85 rfl (lv_at hl 1 rfl) ?_
      refine q_callv (rest := []) (ws' := fun u : tCode => [c_TA ad cA ta tw, c_CO ad cA u ct].flatten) C0 hH hA (c_Code_putActionsWith_takes l dC dI cA ad x2 x1 ta tw co_10 ct _ _ h) Y_Code_putActionsWith k_596 5 rfl hc_7 (q_pg [0, 1] [] [0, 1] 2 2 rfl (by decide) rfl (fun _ => rfl) rfl (by decide) (fun _ => rfl)) ⟨Nat.le_of_ble_eq_true rfl, Nat.le_of_ble_eq_true rfl⟩ rfl rfl (Nat.le_of_ble_eq_true rfl) hl.1 d_Code_tellKept_86 ⟨Nat.le_refl 0, Nat.le_refl 0⟩ (fun u_11 H locs h hH => ?_)
      obtain ⟨co_11, rfl⟩ : ∃ z, z = u_11 := ⟨_, rfl⟩
      try dsimp only at h
      have hH : q_H dC dI (va_A w0 s.heap.size) s.heap H locs ([c_TA ad cA ta tw, c_CO ad cA co_11 ct].flatten) := hH
      refine lv_aload_n hx hb d_Code_tellKept_89 rfl (lv_at hl 0 rfl) ?_
      refine q_callv (rest := []) (ws' := fun u : tCode => [c_TA ad cA ta tw, c_CO ad cA u ct].flatten) C0 hH hA (c_Code_close l dC dI cA ad co_11 ct _ _ h) Y_Code_close k_576 5 rfl hc_7 (q_pg [1] [0] [0, 1] 2 1 rfl (by decide) rfl (fun _ => rfl) rfl (by decide) (fun _ => rfl)) ⟨Nat.le_of_ble_eq_true rfl, Nat.le_of_ble_eq_true rfl⟩ rfl rfl (Nat.le_of_ble_eq_true rfl) hl.1 d_Code_tellKept_90 ⟨Nat.le_refl 0, Nat.le_refl 0⟩ (fun u_12 H locs h hH => ?_)
      obtain ⟨co_12, rfl⟩ : ∃ z, z = u_12 := ⟨_, rfl⟩
      try dsimp only at h
      have hH : q_H dC dI (va_A w0 s.heap.size) s.heap H locs ([c_TA ad cA ta tw, c_CO ad cA co_12 ct].flatten) := hH
      refine lv_iinc (v := (x2 + 1)) (lv' := [(2, .int (x2 + 1)), (0, .ref (ad 25)), (1, .int x1)]) hx hb d_Code_tellKept_93 hl (k := 2) rfl rfl (by decide) rfl (fun ls hl => ?_)
      refine lv_goto (tgt := 2) hx hb d_Code_tellKept_96 (by decide) ?_
      exact ih (x2 + 1) co_12 _ _ _ h (lv_sub hl [1, 2, 0] rfl) hH
set_option maxHeartbeats 4000000 in
set_option maxRecDepth 100000 in
theorem c_Code_tellKept (l : Launch) (dC : Nat → ClassId) (dI : Nat → Nat → Nat) (cA : ClassId) (ad : Nat → Nat) (x1 : Int32) (ta : tTask) (tw : tWays) (co : tCode) (ct : tTold) (Q : tCode → Prop) (sz : Nat) (h : w_Code_tellKept x1 ta co ct Q) :
    q_Mv l y_Code_tellKept b_Code_tellKept 3 2 46 [.ref (ad 25), .int x1] dC dI cA ([c_TA ad cA ta tw, c_CO ad cA co ct].flatten) (fun u : tCode => [c_TA ad cA ta tw, c_CO ad cA u ct].flatten) sz (fun u => Q u) := by
  refine q_metv (plainFor_of_name (by decide +kernel)) (Nat.le_of_ble_eq_true rfl) (fun {p e s m below meth c ls} C0 hl hH => ?_)
  obtain ⟨hx, hb, -⟩ := id C0
  have hA : ∀ q, s.heap.size ≤ q → va_A ([c_TA ad cA ta tw, c_CO ad cA co ct].flatten) s.heap.size q := q_nA
  have hl : lv_has ls 3 [(0, .ref (ad 25)), (1, .int x1)] := hl
  unfold w_Code_tellKept at h
  refine lv_iconst (v := 0) hx hb d_Code_tellKept_0 (by decide) ?_
  refine lv_istore_n (lv' := [(2, .int 0), (0, .ref (ad 25)), (1, .int x1)]) hx hb d_Code_tellKept_1 rfl hl (by decide) rfl (fun ls hl => ?_)
  obtain ⟨nn, h⟩ := h
  refine x_Code_tellKept_L2 C0 hA x1 ta tw ct ?_ nn 0 co _ _ _ h (lv_sub hl [1, 2, 0] rfl) hH
  · intro co_1 H locs ls h hl hH
    try dsimp only at h
    exact q_retv C0 hH co_1 rfl h d_Code_tellKept_99
theorem d_Code_tellPairs_0 : decode b_Code_tellPairs 0 = .ok (.iconst 0, 1) := by decide +kernel
theorem d_Code_tellPairs_1 : decode b_Code_tellPairs 1 = .ok (.istore_n 2, 1) := by decide +kernel
theorem d_Code_tellPairs_2 : decode b_Code_tellPairs 2 = .ok (.iload_n 2, 1) := by decide +kernel
theorem d_Code_tellPairs_3 : decode b_Code_tellPairs 3 = .ok (.aload_n 0, 1) := by decide +kernel
theorem d_Code_tellPairs_4 : decode b_Code_tellPairs 4 = .ok (.getfield 18, 3) := by decide +kernel
theorem d_Code_tellPairs_7 : decode b_Code_tellPairs 7 = .ok (.getfield 57, 3) := by decide +kernel
theorem d_Code_tellPairs_10 : decode b_Code_tellPairs 10 = .ok (.if_icmp .ge 56, 3) := by decide +kernel
theorem d_Code_tellPairs_13 : decode b_Code_tellPairs 13 = .ok (.iload_n 2, 1) := by decide +kernel
theorem d_Code_tellPairs_14 : decode b_Code_tellPairs 14 = .ok (.iconst 1, 1) := by decide +kernel
theorem d_Code_tellPairs_15 : decode b_Code_tellPairs 15 = .ok (.iadd, 1) := by decide +kernel
theorem d_Code_tellPairs_16 : decode b_Code_tellPairs 16 = .ok (.istore_n 3, 1) := by decide +kernel
theorem d_Code_tellPairs_17 : decode b_Code_tellPairs 17 = .ok (.iload_n 3, 1) := by decide +kernel
theorem d_Code_tellPairs_18 : decode b_Code_tellPairs 18 = .ok (.aload_n 0, 1) := by decide +kernel
theorem d_Code_tellPairs_19 : decode b_Code_tellPairs 19 = .ok (.getfield 18, 3) := by decide +kernel
theorem d_Code_tellPairs_22 : decode b_Code_tellPairs 22 = .ok (.getfield 57, 3) := by decide +kernel
theorem d_Code_tellPairs_25 : decode b_Code_tellPairs 25 = .ok (.if_icmp .ge 35, 3) := by decide +kernel
theorem d_Code_tellPairs_28 : decode b_Code_tellPairs 28 = .ok (.aload_n 0, 1) := by decide +kernel
theorem d_Code_tellPairs_29 : decode b_Code_tellPairs 29 = .ok (.aload_n 0, 1) := by decide +kernel
theorem d_Code_tellPairs_30 : decode b_Code_tellPairs 30 = .ok (.iload_n 2, 1) := by decide +kernel
theorem d_Code_tellPairs_31 : decode b_Code_tellPairs 31 = .ok (.iload_n 1, 1) := by decide +kernel
theorem d_Code_tellPairs_32 : decode b_Code_tellPairs 32 = .ok (.invokevirtual 83, 3) := by decide +kernel
theorem d_Code_tellPairs_35 : decode b_Code_tellPairs 35 = .ok (.ineg, 1) := by decide +kernel
theorem d_Code_tellPairs_36 : decode b_Code_tellPairs 36 = .ok (.invokevirtual 71, 3) := by decide +kernel
theorem d_Code_tellPairs_39 : decode b_Code_tellPairs 39 = .ok (.aload_n 0, 1) := by decide +kernel
theorem d_Code_tellPairs_40 : decode b_Code_tellPairs 40 = .ok (.aload_n 0, 1) := by decide +kernel
theorem d_Code_tellPairs_41 : decode b_Code_tellPairs 41 = .ok (.iload_n 3, 1) := by decide +kernel
theorem d_Code_tellPairs_42 : decode b_Code_tellPairs 42 = .ok (.iload_n 1, 1) := by decide +kernel
theorem d_Code_tellPairs_43 : decode b_Code_tellPairs 43 = .ok (.invokevirtual 83, 3) := by decide +kernel
theorem d_Code_tellPairs_46 : decode b_Code_tellPairs 46 = .ok (.ineg, 1) := by decide +kernel
theorem d_Code_tellPairs_47 : decode b_Code_tellPairs 47 = .ok (.invokevirtual 71, 3) := by decide +kernel
theorem d_Code_tellPairs_50 : decode b_Code_tellPairs 50 = .ok (.aload_n 0, 1) := by decide +kernel
theorem d_Code_tellPairs_51 : decode b_Code_tellPairs 51 = .ok (.invokevirtual 74, 3) := by decide +kernel
theorem d_Code_tellPairs_54 : decode b_Code_tellPairs 54 = .ok (.iinc 3 1, 3) := by decide +kernel
theorem d_Code_tellPairs_57 : decode b_Code_tellPairs 57 = .ok (.goto (-40), 3) := by decide +kernel
theorem d_Code_tellPairs_60 : decode b_Code_tellPairs 60 = .ok (.iinc 2 1, 3) := by decide +kernel
theorem d_Code_tellPairs_63 : decode b_Code_tellPairs 63 = .ok (.goto (-61), 3) := by decide +kernel
theorem d_Code_tellPairs_66 : decode b_Code_tellPairs 66 = .ok (.return_, 1) := by decide +kernel
set_option maxHeartbeats 4000000 in
set_option maxRecDepth 100000 in
theorem x_Code_tellPairs_L17 {p : Program} {e : Env} {s : State} {m : MethodId} {args : Array Value} {below : List Frame} {meth : Method} {c : Code} {l : Launch} {dC : Nat → ClassId} {dI : Nat → Nat → Nat} {cA : ClassId} {ad : Nat → Nat} {w0 : va_W} (C0 : q_C p s m args meth c b_Code_tellPairs 4 none "PlanClauses$Code" dC dI cA) (hA : ∀ q, s.heap.size ≤ q → va_A w0 s.heap.size q) (x1 : Int32) (x2 : Int32) (ta : tTask) (tw : tWays) (ct : tTold) {Q : tCode → Prop} {K60 : tCode → Prop}
    (hK60 : ∀ (co : tCode) (H : Heap) (locs : List Loc) (ls : Array Slot), K60 co → lv_has ls 4 [(0, .ref (ad 25)), (1, .int x1), (2, .int x2)] → q_H dC dI (va_A w0 s.heap.size) s.heap H locs ([c_TA ad cA ta tw, c_CO ad cA co ct].flatten) → W p l e (q_R 1 22) s m args below meth c H locs 0 0 (q_Zv below args s dC dI cA w0 (fun u : tCode => [c_TA ad cA ta tw, c_CO ad cA u ct].flatten) (fun u => Q u)) (F0 m 60 ls [])) :
    ∀ (nn : Nat) (x3 : Int32) (co : tCode) (H : Heap) (locs : List Loc) (ls : Array Slot), w_Code_tellPairs_L17 x1 x2 ta ct K60 nn x3 co → lv_has ls 4 [(0, .ref (ad 25)), (1, .int x1), (2, .int x2), (3, .int x3)] → q_H dC dI (va_A w0 s.heap.size) s.heap H locs ([c_TA ad cA ta tw, c_CO ad cA co ct].flatten) → W p l e (q_R 1 22) s m args below meth c H locs 0 0 (q_Zv below args s dC dI cA w0 (fun u : tCode => [c_TA ad cA ta tw, c_CO ad cA u ct].flatten) (fun u => Q u)) (F0 m 17 ls []) := by
  obtain ⟨hx, hb, -⟩ := id C0
  intro nn
  induction nn with
  | zero =>
    intro x3 co H locs ls h
    exact (show False from h).elim
  | succ nn ih =>
    intro x3 co H locs ls h hl hH
    rw [w_Code_tellPairs_L17] at h
    refine lv_iload_n hx hb d_Code_tellPairs_17 rfl (lv_at hl 3 rfl) ?_
    refine lv_aload_n hx hb d_Code_tellPairs_18 rfl (lv_at hl 0 rfl) ?_
    refine q_get (v := .ref (ad 20)) C0 hH 5 rfl hc_7 0 (by decide) k_232 rfl d_Code_tellPairs_19 ?_
    refine q_get (v := .int ta.actionCount) C0 hH 0 rfl hc_6 1 (by decide) k_191 rfl d_Code_tellPairs_22 ?_
    refine lv_icmp_ge (tgt := 60) hx hb d_Code_tellPairs_25 (by decide) (fun c => ?_) (fun c => ?_)
    · have h := h.1 c
      exact hK60 co _ _ _ h (lv_sub hl [0, 1, 2] rfl) hH
    · have h := h.2 c
      refine lv_aload_n hx hb d_Code_tellPairs_28 rfl (lv_at hl 0 rfl) ?_
      refine lv_aload_n hx hb d_Code_tellPairs_29 rfl (lv_at hl 0 rfl) ?_
      refine lv_iload_n hx hb d_Code_tellPairs_30 rfl (lv_at hl 2 rfl) ?_
      refine lv_iload_n hx hb d_Code_tellPairs_31 rfl (lv_at hl 1 rfl) ?_
      refine q_calli (rest := [.ref (ad 25)]) (ws' := fun _ : Unit => [c_TA ad cA ta tw, c_CO ad cA co ct].flatten) C0 hH hA (c_Code_done l dC dI cA ad x2 x1 ta tw co ct _ _ h) Y_Code_done k_584 5 rfl hc_7 (q_pg [0, 1] [] [0, 1] 2 2 rfl (by decide) rfl (fun _ => rfl) rfl (by decide) (fun _ => rfl)) ⟨Nat.le_of_ble_eq_true rfl, Nat.le_of_ble_eq_true rfl⟩ rfl rfl (Nat.le_of_ble_eq_true rfl) hl.1 d_Code_tellPairs_32 ⟨Nat.le_refl 0, Nat.le_refl 0⟩ (fun r_1 u_1 H locs h hH => ?_)
      try dsimp only at h
      have hH : q_H dC dI (va_A w0 s.heap.size) s.heap H locs ([c_TA ad cA ta tw, c_CO ad cA co ct].flatten) := hH
      refine lv_ineg hx hb d_Code_tellPairs_35 ?_
      refine q_callv (rest := []) (ws' := fun u : tCode => [c_TA ad cA ta tw, c_CO ad cA u ct].flatten) C0 hH hA (c_Code_put l dC dI cA ad (-r_1) co ct _ _ h) Y_Code_put k_572 5 rfl hc_7 (q_pg [1] [0] [0, 1] 2 1 rfl (by decide) rfl (fun _ => rfl) rfl (by decide) (fun _ => rfl)) ⟨Nat.le_of_ble_eq_true rfl, Nat.le_of_ble_eq_true rfl⟩ rfl rfl (Nat.le_of_ble_eq_true rfl) hl.1 d_Code_tellPairs_36 ⟨Nat.le_refl 0, Nat.le_refl 0⟩ (fun u_2 H locs h hH => ?_)
      obtain ⟨co_2, rfl⟩ : ∃ z, z = u_2 := ⟨_, rfl⟩
      try dsimp only at h
      have hH : q_H dC dI (va_A w0 s.heap.size) s.heap H locs ([c_TA ad cA ta tw, c_CO ad cA co_2 ct].flatten) := hH
      refine lv_aload_n hx hb d_Code_tellPairs_39 rfl (lv_at hl 0 rfl) ?_
      refine lv_aload_n hx hb d_Code_tellPairs_40 rfl (lv_at hl 0 rfl) ?_
      refine lv_iload_n hx hb d_Code_tellPairs_41 rfl (lv_at hl 3 rfl) ?_
      refine lv_iload_n hx hb d_Code_tellPairs_42 rfl (lv_at hl 1 rfl) ?_
      refine q_calli (rest := [.ref (ad 25)]) (ws' := fun _ : Unit => [c_TA ad cA ta tw, c_CO ad cA co_2 ct].flatten) C0 hH hA (c_Code_done l dC dI cA ad x3 x1 ta tw co_2 ct _ _ h) Y_Code_done k_584 5 rfl hc_7 (q_pg [0, 1] [] [0, 1] 2 2 rfl (by decide) rfl (fun _ => rfl) rfl (by decide) (fun _ => rfl)) ⟨Nat.le_of_ble_eq_true rfl, Nat.le_of_ble_eq_true rfl⟩ rfl rfl (Nat.le_of_ble_eq_true rfl) hl.1 d_Code_tellPairs_43 ⟨Nat.le_refl 0, Nat.le_refl 0⟩ (fun r_3 u_3 H locs h hH => ?_)
      try dsimp only at h
      have hH : q_H dC dI (va_A w0 s.heap.size) s.heap H locs ([c_TA ad cA ta tw, c_CO ad cA co_2 ct].flatten) := hH
      refine lv_ineg hx hb d_Code_tellPairs_46 ?_
      refine q_callv (rest := []) (ws' := fun u : tCode => [c_TA ad cA ta tw, c_CO ad cA u ct].flatten) C0 hH hA (c_Code_put l dC dI cA ad (-r_3) co_2 ct _ _ h) Y_Code_put k_572 5 rfl hc_7 (q_pg [1] [0] [0, 1] 2 1 rfl (by decide) rfl (fun _ => rfl) rfl (by decide) (fun _ => rfl)) ⟨Nat.le_of_ble_eq_true rfl, Nat.le_of_ble_eq_true rfl⟩ rfl rfl (Nat.le_of_ble_eq_true rfl) hl.1 d_Code_tellPairs_47 ⟨Nat.le_refl 0, Nat.le_refl 0⟩ (fun u_4 H locs h hH => ?_)
      obtain ⟨co_4, rfl⟩ : ∃ z, z = u_4 := ⟨_, rfl⟩
      try dsimp only at h
      have hH : q_H dC dI (va_A w0 s.heap.size) s.heap H locs ([c_TA ad cA ta tw, c_CO ad cA co_4 ct].flatten) := hH
      refine lv_aload_n hx hb d_Code_tellPairs_50 rfl (lv_at hl 0 rfl) ?_
      refine q_callv (rest := []) (ws' := fun u : tCode => [c_TA ad cA ta tw, c_CO ad cA u ct].flatten) C0 hH hA (c_Code_close l dC dI cA ad co_4 ct _ _ h) Y_Code_close k_576 5 rfl hc_7 (q_pg [1] [0] [0, 1] 2 1 rfl (by decide) rfl (fun _ => rfl) rfl (by decide) (fun _ => rfl)) ⟨Nat.le_of_ble_eq_true rfl, Nat.le_of_ble_eq_true rfl⟩ rfl rfl (Nat.le_of_ble_eq_true rfl) hl.1 d_Code_tellPairs_51 ⟨Nat.le_refl 0, Nat.le_refl 0⟩ (fun u_5 H locs h hH => ?_)
      obtain ⟨co_5, rfl⟩ : ∃ z, z = u_5 := ⟨_, rfl⟩
      try dsimp only at h
      have hH : q_H dC dI (va_A w0 s.heap.size) s.heap H locs ([c_TA ad cA ta tw, c_CO ad cA co_5 ct].flatten) := hH
      refine lv_iinc (v := (x3 + 1)) (lv' := [(3, .int (x3 + 1)), (0, .ref (ad 25)), (1, .int x1), (2, .int x2)]) hx hb d_Code_tellPairs_54 hl (k := 3) rfl rfl (by decide) rfl (fun ls hl => ?_)
      refine lv_goto (tgt := 17) hx hb d_Code_tellPairs_57 (by decide) ?_
      exact ih (x3 + 1) co_5 _ _ _ h (lv_sub hl [1, 2, 3, 0] rfl) hH
set_option maxHeartbeats 4000000 in
set_option maxRecDepth 100000 in
theorem x_Code_tellPairs_L2 {p : Program} {e : Env} {s : State} {m : MethodId} {args : Array Value} {below : List Frame} {meth : Method} {c : Code} {l : Launch} {dC : Nat → ClassId} {dI : Nat → Nat → Nat} {cA : ClassId} {ad : Nat → Nat} {w0 : va_W} (C0 : q_C p s m args meth c b_Code_tellPairs 4 none "PlanClauses$Code" dC dI cA) (hA : ∀ q, s.heap.size ≤ q → va_A w0 s.heap.size q) (x1 : Int32) (ta : tTask) (tw : tWays) (ct : tTold) {Q : tCode → Prop} {K66 : tCode → Prop}
    (hK66 : ∀ (co : tCode) (H : Heap) (locs : List Loc) (ls : Array Slot), K66 co → lv_has ls 4 [] → q_H dC dI (va_A w0 s.heap.size) s.heap H locs ([c_TA ad cA ta tw, c_CO ad cA co ct].flatten) → W p l e (q_R 1 22) s m args below meth c H locs 0 0 (q_Zv below args s dC dI cA w0 (fun u : tCode => [c_TA ad cA ta tw, c_CO ad cA u ct].flatten) (fun u => Q u)) (F0 m 66 ls [])) :
    ∀ (nn : Nat) (x2 : Int32) (co : tCode) (H : Heap) (locs : List Loc) (ls : Array Slot), w_Code_tellPairs_L2 x1 ta ct K66 nn x2 co → lv_has ls 4 [(0, .ref (ad 25)), (1, .int x1), (2, .int x2)] → q_H dC dI (va_A w0 s.heap.size) s.heap H locs ([c_TA ad cA ta tw, c_CO ad cA co ct].flatten) → W p l e (q_R 1 22) s m args below meth c H locs 0 0 (q_Zv below args s dC dI cA w0 (fun u : tCode => [c_TA ad cA ta tw, c_CO ad cA u ct].flatten) (fun u => Q u)) (F0 m 2 ls []) := by
  obtain ⟨hx, hb, -⟩ := id C0
  intro nn
  induction nn with
  | zero =>
    intro x2 co H locs ls h
    exact (show False from h).elim
  | succ nn ih =>
    intro x2 co H locs ls h hl hH
    rw [w_Code_tellPairs_L2] at h
    refine lv_iload_n hx hb d_Code_tellPairs_2 rfl (lv_at hl 2 rfl) ?_
    refine lv_aload_n hx hb d_Code_tellPairs_3 rfl (lv_at hl 0 rfl) ?_
    refine q_get (v := .ref (ad 20)) C0 hH 5 rfl hc_7 0 (by decide) k_232 rfl d_Code_tellPairs_4 ?_
    refine q_get (v := .int ta.actionCount) C0 hH 0 rfl hc_6 1 (by decide) k_191 rfl d_Code_tellPairs_7 ?_
    refine lv_icmp_ge (tgt := 66) hx hb d_Code_tellPairs_10 (by decide) (fun c => ?_) (fun c => ?_)
    · have h := h.1 c
      exact hK66 co _ _ _ h (lv_sub hl [] rfl) hH
    · have h := h.2 c
      refine lv_iload_n hx hb d_Code_tellPairs_13 rfl (lv_at hl 2 rfl) ?_
      refine lv_iconst (v := 1) hx hb d_Code_tellPairs_14 (by decide) ?_
      refine lv_iadd hx hb d_Code_tellPairs_15 ?_
      refine lv_istore_n (lv' := [(3, .int (x2 + 1)), (0, .ref (ad 25)), (1, .int x1), (2, .int x2)]) hx hb d_Code_tellPairs_16 rfl hl (by decide) rfl (fun ls hl => ?_)
      obtain ⟨nn, h⟩ := h
      refine x_Code_tellPairs_L17 C0 hA x1 x2 ta tw ct ?_ nn (x2 + 1) co _ _ _ h (lv_sub hl [1, 2, 3, 0] rfl) hH
      · intro co_1 H locs ls h hl hH
        try dsimp only at h
        refine lv_iinc (v := (x2 + 1)) (lv' := [(2, .int (x2 + 1)), (0, .ref (ad 25)), (1, .int x1)]) hx hb d_Code_tellPairs_60 hl (k := 2) rfl rfl (by decide) rfl (fun ls hl => ?_)
        refine lv_goto (tgt := 2) hx hb d_Code_tellPairs_63 (by decide) ?_
        exact ih (x2 + 1) co_1 _ _ _ h (lv_sub hl [1, 2, 0] rfl) hH
set_option maxHeartbeats 4000000 in
set_option maxRecDepth 100000 in
theorem c_Code_tellPairs (l : Launch) (dC : Nat → ClassId) (dI : Nat → Nat → Nat) (cA : ClassId) (ad : Nat → Nat) (x1 : Int32) (ta : tTask) (tw : tWays) (co : tCode) (ct : tTold) (Q : tCode → Prop) (sz : Nat) (h : w_Code_tellPairs x1 ta co ct Q) :
    q_Mv l y_Code_tellPairs b_Code_tellPairs 4 1 22 [.ref (ad 25), .int x1] dC dI cA ([c_TA ad cA ta tw, c_CO ad cA co ct].flatten) (fun u : tCode => [c_TA ad cA ta tw, c_CO ad cA u ct].flatten) sz (fun u => Q u) := by
  refine q_metv (plainFor_of_name (by decide +kernel)) (Nat.le_of_ble_eq_true rfl) (fun {p e s m below meth c ls} C0 hl hH => ?_)
  obtain ⟨hx, hb, -⟩ := id C0
  have hA : ∀ q, s.heap.size ≤ q → va_A ([c_TA ad cA ta tw, c_CO ad cA co ct].flatten) s.heap.size q := q_nA
  have hl : lv_has ls 4 [(0, .ref (ad 25)), (1, .int x1)] := hl
  unfold w_Code_tellPairs at h
  refine lv_iconst (v := 0) hx hb d_Code_tellPairs_0 (by decide) ?_
  refine lv_istore_n (lv' := [(2, .int 0), (0, .ref (ad 25)), (1, .int x1)]) hx hb d_Code_tellPairs_1 rfl hl (by decide) rfl (fun ls hl => ?_)
  obtain ⟨nn, h⟩ := h
  refine x_Code_tellPairs_L2 C0 hA x1 ta tw ct ?_ nn 0 co _ _ _ h (lv_sub hl [1, 2, 0] rfl) hH
  · intro co_1 H locs ls h hl hH
    try dsimp only at h
    exact q_retv C0 hH co_1 rfl h d_Code_tellPairs_66
