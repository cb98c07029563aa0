theorem d_Trail_conclude_0 : decode b_Trail_conclude 0 = .ok (.aload_n 0, 1) := by decide +kernel
theorem d_Trail_conclude_1 : decode b_Trail_conclude 1 = .ok (.getfield 31, 3) := by decide +kernel
theorem d_Trail_conclude_4 : decode b_Trail_conclude 4 = .ok (.bipush 30, 2) := by decide +kernel
theorem d_Trail_conclude_6 : decode b_Trail_conclude 6 = .ok (.if_icmp .lt 4, 3) := by decide +kernel
theorem d_Trail_conclude_9 : decode b_Trail_conclude 9 = .ok (.return_, 1) := by decide +kernel
theorem d_Trail_conclude_10 : decode b_Trail_conclude 10 = .ok (.aload_n 0, 1) := by decide +kernel
theorem d_Trail_conclude_11 : decode b_Trail_conclude 11 = .ok (.getfield 9, 3) := by decide +kernel
theorem d_Trail_conclude_14 : decode b_Trail_conclude 14 = .ok (.aload_n 0, 1) := by decide +kernel
theorem d_Trail_conclude_15 : decode b_Trail_conclude 15 = .ok (.getfield 31, 3) := by decide +kernel
theorem d_Trail_conclude_18 : decode b_Trail_conclude 18 = .ok (.iload_n 1, 1) := by decide +kernel
theorem d_Trail_conclude_19 : decode b_Trail_conclude 19 = .ok (.iastore, 1) := by decide +kernel
theorem d_Trail_conclude_20 : decode b_Trail_conclude 20 = .ok (.aload_n 0, 1) := by decide +kernel
theorem d_Trail_conclude_21 : decode b_Trail_conclude 21 = .ok (.getfield 15, 3) := by decide +kernel
theorem d_Trail_conclude_24 : decode b_Trail_conclude 24 = .ok (.aload_n 0, 1) := by decide +kernel
theorem d_Trail_conclude_25 : decode b_Trail_conclude 25 = .ok (.getfield 31, 3) := by decide +kernel
theorem d_Trail_conclude_28 : decode b_Trail_conclude 28 = .ok (.iload_n 2, 1) := by decide +kernel
theorem d_Trail_conclude_29 : decode b_Trail_conclude 29 = .ok (.iastore, 1) := by decide +kernel
theorem d_Trail_conclude_30 : decode b_Trail_conclude 30 = .ok (.aload_n 0, 1) := by decide +kernel
theorem d_Trail_conclude_31 : decode b_Trail_conclude 31 = .ok (.getfield 18, 3) := by decide +kernel
theorem d_Trail_conclude_34 : decode b_Trail_conclude 34 = .ok (.aload_n 0, 1) := by decide +kernel
theorem d_Trail_conclude_35 : decode b_Trail_conclude 35 = .ok (.getfield 31, 3) := by decide +kernel
theorem d_Trail_conclude_38 : decode b_Trail_conclude 38 = .ok (.iload_n 3, 1) := by decide +kernel
theorem d_Trail_conclude_39 : decode b_Trail_conclude 39 = .ok (.iastore, 1) := by decide +kernel
theorem d_Trail_conclude_40 : decode b_Trail_conclude 40 = .ok (.aload_n 0, 1) := by decide +kernel
theorem d_Trail_conclude_41 : decode b_Trail_conclude 41 = .ok (.dup, 1) := by decide +kernel
theorem d_Trail_conclude_42 : decode b_Trail_conclude 42 = .ok (.getfield 31, 3) := by decide +kernel
theorem d_Trail_conclude_45 : decode b_Trail_conclude 45 = .ok (.iconst 1, 1) := by decide +kernel
theorem d_Trail_conclude_46 : decode b_Trail_conclude 46 = .ok (.iadd, 1) := by decide +kernel
theorem d_Trail_conclude_47 : decode b_Trail_conclude 47 = .ok (.putfield 31, 3) := by decide +kernel
theorem d_Trail_conclude_50 : decode b_Trail_conclude 50 = .ok (.iload_n 2, 1) := by decide +kernel
theorem d_Trail_conclude_51 : decode b_Trail_conclude 51 = .ok (.iload_n 1, 1) := by decide +kernel
theorem d_Trail_conclude_52 : decode b_Trail_conclude 52 = .ok (.iand, 1) := by decide +kernel
theorem d_Trail_conclude_53 : decode b_Trail_conclude 53 = .ok (.ifCond .eq 16, 3) := by decide +kernel
theorem d_Trail_conclude_56 : decode b_Trail_conclude 56 = .ok (.aload_n 0, 1) := by decide +kernel
theorem d_Trail_conclude_57 : decode b_Trail_conclude 57 = .ok (.dup, 1) := by decide +kernel
theorem d_Trail_conclude_58 : decode b_Trail_conclude 58 = .ok (.getfield 24, 3) := by decide +kernel
theorem d_Trail_conclude_61 : decode b_Trail_conclude 61 = .ok (.iload_n 1, 1) := by decide +kernel
theorem d_Trail_conclude_62 : decode b_Trail_conclude 62 = .ok (.ior, 1) := by decide +kernel
theorem d_Trail_conclude_63 : decode b_Trail_conclude 63 = .ok (.putfield 24, 3) := by decide +kernel
theorem d_Trail_conclude_66 : decode b_Trail_conclude 66 = .ok (.goto 13, 3) := by decide +kernel
theorem d_Trail_conclude_69 : decode b_Trail_conclude 69 = .ok (.aload_n 0, 1) := by decide +kernel
theorem d_Trail_conclude_70 : decode b_Trail_conclude 70 = .ok (.dup, 1) := by decide +kernel
theorem d_Trail_conclude_71 : decode b_Trail_conclude 71 = .ok (.getfield 28, 3) := by decide +kernel
theorem d_Trail_conclude_74 : decode b_Trail_conclude 74 = .ok (.iload_n 1, 1) := by decide +kernel
theorem d_Trail_conclude_75 : decode b_Trail_conclude 75 = .ok (.ior, 1) := by decide +kernel
theorem d_Trail_conclude_76 : decode b_Trail_conclude 76 = .ok (.putfield 28, 3) := by decide +kernel
theorem d_Trail_conclude_79 : decode b_Trail_conclude 79 = .ok (.return_, 1) := by decide +kernel
set_option maxHeartbeats 4000000 in
set_option maxRecDepth 100000 in
theorem c_Trail_conclude (l : Launch) (dC : Nat → ClassId) (dI : Nat → Nat → Nat) (cA : ClassId) (ad : Nat → Nat) (x1 : Int32) (x2 : Int32) (x3 : Int32) (tr : tTrail) (Q : tTrail → Prop) (sz : Nat) (h : w_Trail_conclude x1 x2 x3 tr Q) :
    q_Mv l y_Trail_conclude b_Trail_conclude 4 0 0 [.ref (ad 15), .int x1, .int x2, .int x3] dC dI cA ([c_TR ad cA tr].flatten) (fun u : tTrail => [c_TR ad cA u].flatten) sz (fun u => Q u) := by
  refine q_metv (plainFor_of_name (by decide +kernel)) (Nat.le_of_ble_eq_true rfl) (fun {p e s m below meth c ls} C0 hl hH => ?_)
  obtain ⟨hx, hb, -⟩ := id C0
  have hA : ∀ q, s.heap.size ≤ q → va_A ([c_TR ad cA tr].flatten) s.heap.size q := q_nA
  have hl : lv_has ls 4 [(0, .ref (ad 15)), (1, .int x1), (2, .int x2), (3, .int x3)] := hl
  unfold w_Trail_conclude at h
  refine lv_aload_n hx hb d_Trail_conclude_0 rfl (lv_at hl 0 rfl) ?_
  refine q_get (v := .int tr.length) C0 hH 0 rfl hc_5 2 (by decide) k_101 rfl d_Trail_conclude_1 ?_
  refine lv_bipush (v := 30) hx hb d_Trail_conclude_4 (by decide) ?_
  refine lv_icmp_lt (tgt := 10) hx hb d_Trail_conclude_6 (by decide) (fun c => ?_) (fun c => ?_)
  · have h := h.1 c
    refine lv_aload_n hx hb d_Trail_conclude_10 rfl (lv_at hl 0 rfl) ?_
    refine q_get (v := .ref (ad 16)) C0 hH 0 rfl hc_5 4 (by decide) k_105 rfl d_Trail_conclude_11 ?_
    refine lv_aload_n hx hb d_Trail_conclude_14 rfl (lv_at hl 0 rfl) ?_
    refine q_get (v := .int tr.length) C0 hH 0 rfl hc_5 2 (by decide) k_101 rfl d_Trail_conclude_15 ?_
    refine lv_iload_n hx hb d_Trail_conclude_18 rfl (lv_at hl 1 rfl) ?_
    obtain ⟨hi, h⟩ := h
    refine q_ast (ws' := [c_TR ad cA (tTrail.mk tr.trues tr.falses tr.length tr.level (upd tr.order tr.length.toNatClampNeg x1) tr.whyTrue tr.whyFalse tr.ahead)].flatten) (f := tr.order) C0 hH 1 rfl hi rfl d_Trail_conclude_19 (fun H locs hH => ?_)
    refine lv_aload_n hx hb d_Trail_conclude_20 rfl (lv_at hl 0 rfl) ?_
    refine q_get (v := .ref (ad 17)) C0 hH 0 rfl hc_5 5 (by decide) k_107 rfl d_Trail_conclude_21 ?_
    refine lv_aload_n hx hb d_Trail_conclude_24 rfl (lv_at hl 0 rfl) ?_
    refine q_get (v := .int tr.length) C0 hH 0 rfl hc_5 2 (by decide) k_101 rfl d_Trail_conclude_25 ?_
    refine lv_iload_n hx hb d_Trail_conclude_28 rfl (lv_at hl 2 rfl) ?_
    obtain ⟨hi, h⟩ := h
    refine q_ast (ws' := [c_TR ad cA (tTrail.mk tr.trues tr.falses tr.length tr.level (upd tr.order tr.length.toNatClampNeg x1) (upd tr.whyTrue tr.length.toNatClampNeg x2) tr.whyFalse tr.ahead)].flatten) (f := tr.whyTrue) C0 hH 2 rfl hi rfl d_Trail_conclude_29 (fun H locs hH => ?_)
    refine lv_aload_n hx hb d_Trail_conclude_30 rfl (lv_at hl 0 rfl) ?_
    refine q_get (v := .ref (ad 18)) C0 hH 0 rfl hc_5 6 (by decide) k_109 rfl d_Trail_conclude_31 ?_
    refine lv_aload_n hx hb d_Trail_conclude_34 rfl (lv_at hl 0 rfl) ?_
    refine q_get (v := .int tr.length) C0 hH 0 rfl hc_5 2 (by decide) k_101 rfl d_Trail_conclude_35 ?_
    refine lv_iload_n hx hb d_Trail_conclude_38 rfl (lv_at hl 3 rfl) ?_
    obtain ⟨hi, h⟩ := h
    refine q_ast (ws' := [c_TR ad cA (tTrail.mk tr.trues tr.falses tr.length tr.level (upd tr.order tr.length.toNatClampNeg x1) (upd tr.whyTrue tr.length.toNatClampNeg x2) (upd tr.whyFalse tr.length.toNatClampNeg x3) tr.ahead)].flatten) (f := tr.whyFalse) C0 hH 3 rfl hi rfl d_Trail_conclude_39 (fun H locs hH => ?_)
    refine lv_aload_n hx hb d_Trail_conclude_40 rfl (lv_at hl 0 rfl) ?_
    refine lv_dup hx hb d_Trail_conclude_41 rfl ?_
    refine q_get (v := .int tr.length) C0 hH 0 rfl hc_5 2 (by decide) k_101 rfl d_Trail_conclude_42 ?_
    refine lv_iconst (v := 1) hx hb d_Trail_conclude_45 (by decide) ?_
    refine lv_iadd hx hb d_Trail_conclude_46 ?_
    refine q_puti (ws' := [c_TR ad cA (tTrail.mk tr.trues tr.falses (tr.length + 1) tr.level (upd tr.order tr.length.toNatClampNeg x1) (upd tr.whyTrue tr.length.toNatClampNeg x2) (upd tr.whyFalse tr.length.toNatClampNeg x3) tr.ahead)].flatten) C0 hH 0 rfl hc_5 2 (by decide) k_101 rfl rfl (Nat.le_of_ble_eq_true rfl) rfl d_Trail_conclude_47 (fun H locs hH => ?_)
    refine lv_iload_n hx hb d_Trail_conclude_50 rfl (lv_at hl 2 rfl) ?_
    refine lv_iload_n hx hb d_Trail_conclude_51 rfl (lv_at hl 1 rfl) ?_
    refine lv_iand hx hb d_Trail_conclude_52 ?_
    refine lv_if_eq (tgt := 69) hx hb d_Trail_conclude_53 (by decide) (fun c => ?_) (fun c => ?_)
    · have h := h.1 c
      refine lv_aload_n hx hb d_Trail_conclude_69 rfl (lv_at hl 0 rfl) ?_
      refine lv_dup hx hb d_Trail_conclude_70 rfl ?_
      refine q_get (v := .int tr.falses) C0 hH 0 rfl hc_5 1 (by decide) k_99 rfl d_Trail_conclude_71 ?_
      refine lv_iload_n hx hb d_Trail_conclude_74 rfl (lv_at hl 1 rfl) ?_
      refine lv_ior hx hb d_Trail_conclude_75 ?_
      refine q_puti (ws' := [c_TR ad cA (tTrail.mk tr.trues (tr.falses ||| x1) (tr.length + 1) tr.level (upd tr.order tr.length.toNatClampNeg x1) (upd tr.whyTrue tr.length.toNatClampNeg x2) (upd tr.whyFalse tr.length.toNatClampNeg x3) tr.ahead)].flatten) C0 hH 0 rfl hc_5 1 (by decide) k_99 rfl rfl (Nat.le_of_ble_eq_true rfl) rfl d_Trail_conclude_76 (fun H locs hH => ?_)
      exact q_retv C0 hH (tTrail.mk tr.trues (tr.falses ||| x1) (tr.length + 1) tr.level (upd tr.order tr.length.toNatClampNeg x1) (upd tr.whyTrue tr.length.toNatClampNeg x2) (upd tr.whyFalse tr.length.toNatClampNeg x3) tr.ahead) rfl h d_Trail_conclude_79
    · have h := h.2 c
      refine lv_aload_n hx hb d_Trail_conclude_56 rfl (lv_at hl 0 rfl) ?_
      refine lv_dup hx hb d_Trail_conclude_57 rfl ?_
      refine q_get (v := .int tr.trues) C0 hH 0 rfl hc_5 0 (by decide) k_97 rfl d_Trail_conclude_58 ?_
      refine lv_iload_n hx hb d_Trail_conclude_61 rfl (lv_at hl 1 rfl) ?_
      refine lv_ior hx hb d_Trail_conclude_62 ?_
      refine q_puti (ws' := [c_TR ad cA (tTrail.mk (tr.trues ||| x1) tr.falses (tr.length + 1) tr.level (upd tr.order tr.length.toNatClampNeg x1) (upd tr.whyTrue tr.length.toNatClampNeg x2) (upd tr.whyFalse tr.length.toNatClampNeg x3) tr.ahead)].flatten) C0 hH 0 rfl hc_5 0 (by decide) k_97 rfl rfl (Nat.le_of_ble_eq_true rfl) rfl d_Trail_conclude_63 (fun H locs hH => ?_)
      refine lv_goto (tgt := 79) hx hb d_Trail_conclude_66 (by decide) ?_
      exact q_retv C0 hH (tTrail.mk (tr.trues ||| x1) tr.falses (tr.length + 1) tr.level (upd tr.order tr.length.toNatClampNeg x1) (upd tr.whyTrue tr.length.toNatClampNeg x2) (upd tr.whyFalse tr.length.toNatClampNeg x3) tr.ahead) rfl h d_Trail_conclude_79
  · have h := h.2 c
    exact q_retv C0 hH tr rfl h d_Trail_conclude_9
theorem d_Sear_holds_0 : decode b_Sear_holds 0 = .ok (.iconst 0, 1) := by decide +kernel
theorem d_Sear_holds_1 : decode b_Sear_holds 1 = .ok (.istore_n 3, 1) := by decide +kernel
theorem d_Sear_holds_2 : decode b_Sear_holds 2 = .ok (.iload_n 3, 1) := by decide +kernel
theorem d_Sear_holds_3 : decode b_Sear_holds 3 = .ok (.iload_n 2, 1) := by decide +kernel
theorem d_Sear_holds_4 : decode b_Sear_holds 4 = .ok (.if_icmp .ge 114, 3) := by decide +kernel
theorem d_Sear_holds_7 : decode b_Sear_holds 7 = .ok (.aload_n 1, 1) := by decide +kernel
theorem d_Sear_holds_8 : decode b_Sear_holds 8 = .ok (.getfield 100, 3) := by decide +kernel
theorem d_Sear_holds_11 : decode b_Sear_holds 11 = .ok (.iload_n 3, 1) := by decide +kernel
theorem d_Sear_holds_12 : decode b_Sear_holds 12 = .ok (.iaload, 1) := by decide +kernel
theorem d_Sear_holds_13 : decode b_Sear_holds 13 = .ok (.istore 4, 2) := by decide +kernel
theorem d_Sear_holds_15 : decode b_Sear_holds 15 = .ok (.aload_n 1, 1) := by decide +kernel
theorem d_Sear_holds_16 : decode b_Sear_holds 16 = .ok (.getfield 103, 3) := by decide +kernel
theorem d_Sear_holds_19 : decode b_Sear_holds 19 = .ok (.iload_n 3, 1) := by decide +kernel
theorem d_Sear_holds_20 : decode b_Sear_holds 20 = .ok (.iaload, 1) := by decide +kernel
theorem d_Sear_holds_21 : decode b_Sear_holds 21 = .ok (.istore 5, 2) := by decide +kernel
theorem d_Sear_holds_23 : decode b_Sear_holds 23 = .ok (.iload 4, 2) := by decide +kernel
theorem d_Sear_holds_25 : decode b_Sear_holds 25 = .ok (.aload_n 0, 1) := by decide +kernel
theorem d_Sear_holds_26 : decode b_Sear_holds 26 = .ok (.getfield 23, 3) := by decide +kernel
theorem d_Sear_holds_29 : decode b_Sear_holds 29 = .ok (.getfield 82, 3) := by decide +kernel
theorem d_Sear_holds_32 : decode b_Sear_holds 32 = .ok (.iand, 1) := by decide +kernel
theorem d_Sear_holds_33 : decode b_Sear_holds 33 = .ok (.iload 5, 2) := by decide +kernel
theorem d_Sear_holds_35 : decode b_Sear_holds 35 = .ok (.aload_n 0, 1) := by decide +kernel
theorem d_Sear_holds_36 : decode b_Sear_holds 36 = .ok (.getfield 23, 3) := by decide +kernel
theorem d_Sear_holds_39 : decode b_Sear_holds 39 = .ok (.getfield 79, 3) := by decide +kernel
theorem d_Sear_holds_42 : decode b_Sear_holds 42 = .ok (.iand, 1) := by decide +kernel
theorem d_Sear_holds_43 : decode b_Sear_holds 43 = .ok (.ior, 1) := by decide +kernel
theorem d_Sear_holds_44 : decode b_Sear_holds 44 = .ok (.ifCond .ne 68, 3) := by decide +kernel
theorem d_Sear_holds_47 : decode b_Sear_holds 47 = .ok (.iload 4, 2) := by decide +kernel
theorem d_Sear_holds_49 : decode b_Sear_holds 49 = .ok (.iload 5, 2) := by decide +kernel
theorem d_Sear_holds_51 : decode b_Sear_holds 51 = .ok (.ior, 1) := by decide +kernel
theorem d_Sear_holds_52 : decode b_Sear_holds 52 = .ok (.aload_n 0, 1) := by decide +kernel
theorem d_Sear_holds_53 : decode b_Sear_holds 53 = .ok (.getfield 23, 3) := by decide +kernel
theorem d_Sear_holds_56 : decode b_Sear_holds 56 = .ok (.getfield 82, 3) := by decide +kernel
theorem d_Sear_holds_59 : decode b_Sear_holds 59 = .ok (.aload_n 0, 1) := by decide +kernel
theorem d_Sear_holds_60 : decode b_Sear_holds 60 = .ok (.getfield 23, 3) := by decide +kernel
theorem d_Sear_holds_63 : decode b_Sear_holds 63 = .ok (.getfield 79, 3) := by decide +kernel
theorem d_Sear_holds_66 : decode b_Sear_holds 66 = .ok (.ior, 1) := by decide +kernel
theorem d_Sear_holds_67 : decode b_Sear_holds 67 = .ok (.iconst (-1), 1) := by decide +kernel
theorem d_Sear_holds_68 : decode b_Sear_holds 68 = .ok (.ixor, 1) := by decide +kernel
theorem d_Sear_holds_69 : decode b_Sear_holds 69 = .ok (.iand, 1) := by decide +kernel
theorem d_Sear_holds_70 : decode b_Sear_holds 70 = .ok (.istore 6, 2) := by decide +kernel
theorem d_Sear_holds_72 : decode b_Sear_holds 72 = .ok (.iload 6, 2) := by decide +kernel
theorem d_Sear_holds_74 : decode b_Sear_holds 74 = .ok (.ifCond .ne 17, 3) := by decide +kernel
theorem d_Sear_holds_77 : decode b_Sear_holds 77 = .ok (.aload_n 0, 1) := by decide +kernel
theorem d_Sear_holds_78 : decode b_Sear_holds 78 = .ok (.iload 4, 2) := by decide +kernel
theorem d_Sear_holds_80 : decode b_Sear_holds 80 = .ok (.putfield 106, 3) := by decide +kernel
theorem d_Sear_holds_83 : decode b_Sear_holds 83 = .ok (.aload_n 0, 1) := by decide +kernel
theorem d_Sear_holds_84 : decode b_Sear_holds 84 = .ok (.iload 5, 2) := by decide +kernel
theorem d_Sear_holds_86 : decode b_Sear_holds 86 = .ok (.putfield 109, 3) := by decide +kernel
theorem d_Sear_holds_89 : decode b_Sear_holds 89 = .ok (.iconst 0, 1) := by decide +kernel
theorem d_Sear_holds_90 : decode b_Sear_holds 90 = .ok (.ireturn, 1) := by decide +kernel
theorem d_Sear_holds_91 : decode b_Sear_holds 91 = .ok (.iload 6, 2) := by decide +kernel
theorem d_Sear_holds_93 : decode b_Sear_holds 93 = .ok (.invokestatic 112, 3) := by decide +kernel
theorem d_Sear_holds_96 : decode b_Sear_holds 96 = .ok (.ifCond .ne 16, 3) := by decide +kernel
theorem d_Sear_holds_99 : decode b_Sear_holds 99 = .ok (.aload_n 0, 1) := by decide +kernel
theorem d_Sear_holds_100 : decode b_Sear_holds 100 = .ok (.getfield 23, 3) := by decide +kernel
theorem d_Sear_holds_103 : decode b_Sear_holds 103 = .ok (.iload 6, 2) := by decide +kernel
theorem d_Sear_holds_105 : decode b_Sear_holds 105 = .ok (.iload 4, 2) := by decide +kernel
theorem d_Sear_holds_107 : decode b_Sear_holds 107 = .ok (.iload 5, 2) := by decide +kernel
theorem d_Sear_holds_109 : decode b_Sear_holds 109 = .ok (.invokevirtual 116, 3) := by decide +kernel
theorem d_Sear_holds_112 : decode b_Sear_holds 112 = .ok (.iinc 3 1, 3) := by decide +kernel
theorem d_Sear_holds_115 : decode b_Sear_holds 115 = .ok (.goto (-113), 3) := by decide +kernel
theorem d_Sear_holds_118 : decode b_Sear_holds 118 = .ok (.iconst 1, 1) := by decide +kernel
theorem d_Sear_holds_119 : decode b_Sear_holds 119 = .ok (.ireturn, 1) := by decide +kernel
set_option maxHeartbeats 4000000 in
set_option maxRecDepth 100000 in
theorem x_Sear_holds_fr_L2 {p : Program} {e : Env} {s : State} {m : MethodId} {args : Array Value} {below : List Frame} {meth : Method} {c : Code} {l : Launch} {dC : Nat → ClassId} {dI : Nat → Nat → Nat} {cA : ClassId} {ad : Nat → Nat} {w0 : va_W} (C0 : q_C p s m args meth c b_Sear_holds 7 (some .boolean) "PlanClauses$Search" dC dI cA) (hA : ∀ q, s.heap.size ≤ q → va_A w0 s.heap.size q) (x2 : Int32) (fr : tRows) (se : tSear) (sw : (Nat → Int32)) {Q : Int32 → tClash → tTrail → Prop} {K118 : tClash → tTrail → Prop}
    (hK118 : ∀ (sk : tClash) (tr : tTrail) (H : Heap) (locs : List Loc) (ls : Array Slot), K118 sk tr → lv_has ls 7 [] → q_H dC dI (va_A w0 s.heap.size) s.heap H locs ([c_FR ad cA fr, c_SE ad cA se sk sw, c_TR ad cA tr].flatten) → W p l e (q_R 1 23) s m args below meth c H locs 0 0 (q_Zi below args s dC dI cA w0 (fun u : tClash × tTrail => [c_FR ad cA fr, c_SE ad cA se u.1 sw, c_TR ad cA u.2].flatten) (fun r u => Q r u.1 u.2)) (F0 m 118 ls [])) :
    ∀ (nn : Nat) (x3 : Int32) (sk : tClash) (tr : tTrail) (H : Heap) (locs : List Loc) (ls : Array Slot), w_Sear_holds_L2 x2 fr K118 Q nn x3 sk tr → lv_has ls 7 [(0, .ref (ad 13)), (1, .ref (ad 5)), (2, .int x2), (3, .int x3)] → q_H dC dI (va_A w0 s.heap.size) s.heap H locs ([c_FR ad cA fr, c_SE ad cA se sk sw, c_TR ad cA tr].flatten) → W p l e (q_R 1 23) s m args below meth c H locs 0 0 (q_Zi below args s dC dI cA w0 (fun u : tClash × tTrail => [c_FR ad cA fr, c_SE ad cA se u.1 sw, c_TR ad cA u.2].flatten) (fun r u => Q r u.1 u.2)) (F0 m 2 ls []) := by
  obtain ⟨hx, hb, -⟩ := id C0
  intro nn
  induction nn with
  | zero =>
    intro x3 sk tr H locs ls h
    exact (show False from h).elim
  | succ nn ih =>
    intro x3 sk tr H locs ls h hl hH
    rw [w_Sear_holds_L2] at h
    refine lv_iload_n hx hb d_Sear_holds_2 rfl (lv_at hl 3 rfl) ?_
    refine lv_iload_n hx hb d_Sear_holds_3 rfl (lv_at hl 2 rfl) ?_
    refine lv_icmp_ge (tgt := 118) hx hb d_Sear_holds_4 (by decide) (fun c => ?_) (fun c => ?_)
    · have h := h.1 c
      exact hK118 sk tr _ _ _ h (lv_sub hl [] rfl) hH
    · have h := h.2 c
      refine lv_aload_n hx hb d_Sear_holds_7 rfl (lv_at hl 1 rfl) ?_
      refine q_get (v := .ref (ad 6)) C0 hH 0 rfl hc_2 0 (by decide) k_33 rfl d_Sear_holds_8 ?_
      refine lv_iload_n hx hb d_Sear_holds_11 rfl (lv_at hl 3 rfl) ?_
      obtain ⟨hi, h⟩ := h
      refine q_ald (f := fr.wantTrue) C0 hH 1 rfl hi d_Sear_holds_12 ?_
      refine lv_istore (lv' := [(4, .int (fr.wantTrue x3.toNatClampNeg)), (0, .ref (ad 13)), (1, .ref (ad 5)), (2, .int x2), (3, .int x3)]) hx hb d_Sear_holds_13 hl (by decide) rfl (fun ls hl => ?_)
      refine lv_aload_n hx hb d_Sear_holds_15 rfl (lv_at hl 2 rfl) ?_
      refine q_get (v := .ref (ad 7)) C0 hH 0 rfl hc_2 1 (by decide) k_35 rfl d_Sear_holds_16 ?_
      refine lv_iload_n hx hb d_Sear_holds_19 rfl (lv_at hl 4 rfl) ?_
      obtain ⟨hi, h⟩ := h
      refine q_ald (f := fr.wantFalse) C0 hH 2 rfl hi d_Sear_holds_20 ?_
      refine lv_istore (lv' := [(5, .int (fr.wantFalse x3.toNatClampNeg)), (4, .int (fr.wantTrue x3.toNatClampNeg)), (0, .ref (ad 13)), (1, .ref (ad 5)), (2, .int x2), (3, .int x3)]) hx hb d_Sear_holds_21 hl (by decide) rfl (fun ls hl => ?_)
      refine lv_iload hx hb d_Sear_holds_23 (lv_at hl 1 rfl) ?_
      refine lv_aload_n hx hb d_Sear_holds_25 rfl (lv_at hl 2 rfl) ?_
      refine q_get (v := .ref (ad 15)) C0 hH 3 rfl hc_4 2 (by decide) k_132 rfl d_Sear_holds_26 ?_
      refine q_get (v := .int tr.trues) C0 hH 5 rfl hc_5 0 (by decide) k_98 rfl d_Sear_holds_29 ?_
      refine lv_iand hx hb d_Sear_holds_32 ?_
      refine lv_iload hx hb d_Sear_holds_33 (lv_at hl 0 rfl) ?_
      refine lv_aload_n hx hb d_Sear_holds_35 rfl (lv_at hl 2 rfl) ?_
      refine q_get (v := .ref (ad 15)) C0 hH 3 rfl hc_4 2 (by decide) k_132 rfl d_Sear_holds_36 ?_
      refine q_get (v := .int tr.falses) C0 hH 5 rfl hc_5 1 (by decide) k_100 rfl d_Sear_holds_39 ?_
      refine lv_iand hx hb d_Sear_holds_42 ?_
      refine lv_ior hx hb d_Sear_holds_43 ?_
      refine lv_if_ne (tgt := 112) hx hb d_Sear_holds_44 (by decide) (fun c => ?_) (fun c => ?_)
      · have h := h.1 c
        refine lv_iinc (v := (x3 + 1)) (lv' := [(3, .int (x3 + 1)), (5, .int (fr.wantFalse x3.toNatClampNeg)), (4, .int (fr.wantTrue x3.toNatClampNeg)), (0, .ref (ad 13)), (1, .ref (ad 5)), (2, .int x2)]) hx hb d_Sear_holds_112 hl (k := 5) rfl rfl (by decide) rfl (fun ls hl => ?_)
        refine lv_goto (tgt := 2) hx hb d_Sear_holds_115 (by decide) ?_
        exact ih (x3 + 1) sk tr _ _ _ h (lv_sub hl [3, 4, 5, 0] rfl) hH
      · have h := h.2 c
        refine lv_iload hx hb d_Sear_holds_47 (lv_at hl 1 rfl) ?_
        refine lv_iload hx hb d_Sear_holds_49 (lv_at hl 0 rfl) ?_
        refine lv_ior hx hb d_Sear_holds_51 ?_
        refine lv_aload_n hx hb d_Sear_holds_52 rfl (lv_at hl 2 rfl) ?_
        refine q_get (v := .ref (ad 15)) C0 hH 3 rfl hc_4 2 (by decide) k_132 rfl d_Sear_holds_53 ?_
        refine q_get (v := .int tr.trues) C0 hH 5 rfl hc_5 0 (by decide) k_98 rfl d_Sear_holds_56 ?_
        refine lv_aload_n hx hb d_Sear_holds_59 rfl (lv_at hl 2 rfl) ?_
        refine q_get (v := .ref (ad 15)) C0 hH 3 rfl hc_4 2 (by decide) k_132 rfl d_Sear_holds_60 ?_
        refine q_get (v := .int tr.falses) C0 hH 5 rfl hc_5 1 (by decide) k_100 rfl d_Sear_holds_63 ?_
        refine lv_ior hx hb d_Sear_holds_66 ?_
        refine lv_iconst (v := (-1)) hx hb d_Sear_holds_67 (by decide) ?_
        refine lv_ixor hx hb d_Sear_holds_68 ?_
        refine lv_iand hx hb d_Sear_holds_69 ?_
        refine lv_istore (lv' := [(6, .int (((fr.wantTrue x3.toNatClampNeg) ||| (fr.wantFalse x3.toNatClampNeg)) &&& ((tr.trues ||| tr.falses) ^^^ (-1)))), (5, .int (fr.wantFalse x3.toNatClampNeg)), (4, .int (fr.wantTrue x3.toNatClampNeg)), (0, .ref (ad 13)), (1, .ref (ad 5)), (2, .int x2), (3, .int x3)]) hx hb d_Sear_holds_70 hl (by decide) rfl (fun ls hl => ?_)
        refine lv_iload hx hb d_Sear_holds_72 (lv_at hl 0 rfl) ?_
        refine lv_if_ne (tgt := 91) hx hb d_Sear_holds_74 (by decide) (fun c => ?_) (fun c => ?_)
        · have h := h.1 c
          refine lv_iload hx hb d_Sear_holds_91 (lv_at hl 0 rfl) ?_
          refine q_calls (rest := []) C0 hH hA (c_Sear_areSeveral l dC dI cA ad (((fr.wantTrue x3.toNatClampNeg) ||| (fr.wantFalse x3.toNatClampNeg)) &&& ((tr.trues ||| tr.falses) ^^^ (-1))) _ _ h) Y_Sear_areSeveral k_375 ⟨Nat.le_of_ble_eq_true rfl, Nat.le_of_ble_eq_true rfl⟩ rfl rfl (Nat.le_of_ble_eq_true rfl) hl.1 d_Sear_holds_93 ⟨Nat.le_refl 0, Nat.le_refl 0⟩ (fun r_1 H locs h hH => ?_)
          try dsimp only at h
          refine lv_if_ne (tgt := 112) hx hb d_Sear_holds_96 (by decide) (fun c => ?_) (fun c => ?_)
          · have h := h.1 c
            refine lv_iinc (v := (x3 + 1)) (lv' := [(3, .int (x3 + 1)), (6, .int (((fr.wantTrue x3.toNatClampNeg) ||| (fr.wantFalse x3.toNatClampNeg)) &&& ((tr.trues ||| tr.falses) ^^^ (-1)))), (5, .int (fr.wantFalse x3.toNatClampNeg)), (4, .int (fr.wantTrue x3.toNatClampNeg)), (0, .ref (ad 13)), (1, .ref (ad 5)), (2, .int x2)]) hx hb d_Sear_holds_112 hl (k := 6) rfl rfl (by decide) rfl (fun ls hl => ?_)
            refine lv_goto (tgt := 2) hx hb d_Sear_holds_115 (by decide) ?_
            exact ih (x3 + 1) sk tr _ _ _ h (lv_sub hl [4, 5, 6, 0] rfl) hH
          · have h := h.2 c
            refine lv_aload_n hx hb d_Sear_holds_99 rfl (lv_at hl 3 rfl) ?_
            refine q_get (v := .ref (ad 15)) C0 hH 3 rfl hc_4 2 (by decide) k_132 rfl d_Sear_holds_100 ?_
            refine lv_iload hx hb d_Sear_holds_103 (lv_at hl 0 rfl) ?_
            refine lv_iload hx hb d_Sear_holds_105 (lv_at hl 2 rfl) ?_
            refine lv_iload hx hb d_Sear_holds_107 (lv_at hl 1 rfl) ?_
            refine q_callv (rest := []) (ws' := fun u : tTrail => [c_FR ad cA fr, c_SE ad cA se sk sw, c_TR ad cA u].flatten) C0 hH hA (c_Trail_conclude l dC dI cA ad (((fr.wantTrue x3.toNatClampNeg) ||| (fr.wantFalse x3.toNatClampNeg)) &&& ((tr.trues ||| tr.falses) ^^^ (-1))) (fr.wantTrue x3.toNatClampNeg) (fr.wantFalse x3.toNatClampNeg) tr _ _ h) Y_Trail_conclude k_378 5 rfl hc_5 (q_pg [2] [0, 1] [0, 1, 2] 3 1 rfl (by decide) rfl (fun _ => rfl) rfl (by decide) (fun _ => rfl)) ⟨Nat.le_of_ble_eq_true rfl, Nat.le_of_ble_eq_true rfl⟩ rfl rfl (Nat.le_of_ble_eq_true rfl) hl.1 d_Sear_holds_109 ⟨Nat.le_refl 0, Nat.le_refl 0⟩ (fun u_2 H locs h hH => ?_)
            obtain ⟨tr_2, rfl⟩ : ∃ z, z = u_2 := ⟨_, rfl⟩
            try dsimp only at h
            have hH : q_H dC dI (va_A w0 s.heap.size) s.heap H locs ([c_FR ad cA fr, c_SE ad cA se sk sw, c_TR ad cA tr_2].flatten) := hH
            refine lv_iinc (v := (x3 + 1)) (lv' := [(3, .int (x3 + 1)), (6, .int (((fr.wantTrue x3.toNatClampNeg) ||| (fr.wantFalse x3.toNatClampNeg)) &&& ((tr.trues ||| tr.falses) ^^^ (-1)))), (5, .int (fr.wantFalse x3.toNatClampNeg)), (4, .int (fr.wantTrue x3.toNatClampNeg)), (0, .ref (ad 13)), (1, .ref (ad 5)), (2, .int x2)]) hx hb d_Sear_holds_112 hl (k := 6) rfl rfl (by decide) rfl (fun ls hl => ?_)
            refine lv_goto (tgt := 2) hx hb d_Sear_holds_115 (by decide) ?_
            exact ih (x3 + 1) sk tr_2 _ _ _ h (lv_sub hl [4, 5, 6, 0] rfl) hH
        · have h := h.2 c
          refine lv_aload_n hx hb d_Sear_holds_77 rfl (lv_at hl 3 rfl) ?_
          refine lv_iload hx hb d_Sear_holds_78 (lv_at hl 2 rfl) ?_
          refine q_puti (ws' := [c_FR ad cA fr, c_SE ad cA se (tClash.mk (fr.wantTrue x3.toNatClampNeg) sk.clashFalse) sw, c_TR ad cA tr].flatten) C0 hH 3 rfl hc_4 5 (by decide) k_135 rfl rfl (Nat.le_of_ble_eq_true rfl) rfl d_Sear_holds_80 (fun H locs hH => ?_)
          refine lv_aload_n hx hb d_Sear_holds_83 rfl (lv_at hl 3 rfl) ?_
          refine lv_iload hx hb d_Sear_holds_84 (lv_at hl 1 rfl) ?_
          refine q_puti (ws' := [c_FR ad cA fr, c_SE ad cA se (tClash.mk (fr.wantTrue x3.toNatClampNeg) (fr.wantFalse x3.toNatClampNeg)) sw, c_TR ad cA tr].flatten) C0 hH 3 rfl hc_4 6 (by decide) k_136 rfl rfl (Nat.le_of_ble_eq_true rfl) rfl d_Sear_holds_86 (fun H locs hH => ?_)
          refine lv_iconst (v := 0) hx hb d_Sear_holds_89 (by decide) ?_
          exact q_retz C0 hH ((tClash.mk (fr.wantTrue x3.toNatClampNeg) (fr.wantFalse x3.toNatClampNeg)), tr) rfl (Or.inl rfl) h d_Sear_holds_90
set_option maxHeartbeats 4000000 in
set_option maxRecDepth 100000 in
theorem c_Sear_holds_fr (l : Launch) (dC : Nat → ClassId) (dI : Nat → Nat → Nat) (cA : ClassId) (ad : Nat → Nat) (x2 : Int32) (fr : tRows) (se : tSear) (sk : tClash) (sw : (Nat → Int32)) (tr : tTrail) (Q : Int32 → tClash → tTrail → Prop) (sz : Nat) (h : w_Sear_holds x2 fr sk tr Q) :
    q_Mi l y_Sear_holds b_Sear_holds 7 (some .boolean) 1 23 [.ref (ad 13), .ref (ad 5), .int x2] dC dI cA ([c_FR ad cA fr, c_SE ad cA se sk sw, c_TR ad cA tr].flatten) (fun u : tClash × tTrail => [c_FR ad cA fr, c_SE ad cA se u.1 sw, c_TR ad cA u.2].flatten) sz (fun r u => Q r u.1 u.2) := by
  refine q_meti (plainFor_of_name (by decide +kernel)) (Nat.le_of_ble_eq_true rfl) (fun {p e s m below meth c ls} C0 hl hH => ?_)
  obtain ⟨hx, hb, -⟩ := id C0
  have hA : ∀ q, s.heap.size ≤ q → va_A ([c_FR ad cA fr, c_SE ad cA se sk sw, c_TR ad cA tr].flatten) s.heap.size q := q_nA
  have hl : lv_has ls 7 [(0, .ref (ad 13)), (1, .ref (ad 5)), (2, .int x2)] := hl
  unfold w_Sear_holds at h
  refine lv_iconst (v := 0) hx hb d_Sear_holds_0 (by decide) ?_
  refine lv_istore_n (lv' := [(3, .int 0), (0, .ref (ad 13)), (1, .ref (ad 5)), (2, .int x2)]) hx hb d_Sear_holds_1 rfl hl (by decide) rfl (fun ls hl => ?_)
  obtain ⟨nn, h⟩ := h
  refine x_Sear_holds_fr_L2 C0 hA x2 fr se sw ?_ nn 0 sk tr _ _ _ h (lv_sub hl [1, 2, 3, 0] rfl) hH
  · intro sk_1 tr_1 H locs ls h hl hH
    try dsimp only at h
    refine lv_iconst (v := 1) hx hb d_Sear_holds_118 (by decide) ?_
    exact q_retz C0 hH (sk_1, tr_1) rfl (Or.inr rfl) h d_Sear_holds_119
set_option maxHeartbeats 4000000 in
set_option maxRecDepth 100000 in
theorem x_Sear_holds_lr_L2 {p : Program} {e : Env} {s : State} {m : MethodId} {args : Array Value} {below : List Frame} {meth : Method} {c : Code} {l : Launch} {dC : Nat → ClassId} {dI : Nat → Nat → Nat} {cA : ClassId} {ad : Nat → Nat} {w0 : va_W} (C0 : q_C p s m args meth c b_Sear_holds 7 (some .boolean) "PlanClauses$Search" dC dI cA) (hA : ∀ q, s.heap.size ≤ q → va_A w0 s.heap.size q) (x2 : Int32) (lr : tRows) (se : tSear) (sw : (Nat → Int32)) {Q : Int32 → tClash → tTrail → Prop} {K118 : tClash → tTrail → Prop}
    (hK118 : ∀ (sk : tClash) (tr : tTrail) (H : Heap) (locs : List Loc) (ls : Array Slot), K118 sk tr → lv_has ls 7 [] → q_H dC dI (va_A w0 s.heap.size) s.heap H locs ([c_LR ad cA lr, c_SE ad cA se sk sw, c_TR ad cA tr].flatten) → W p l e (q_R 1 23) s m args below meth c H locs 0 0 (q_Zi below args s dC dI cA w0 (fun u : tClash × tTrail => [c_LR ad cA lr, c_SE ad cA se u.1 sw, c_TR ad cA u.2].flatten) (fun r u => Q r u.1 u.2)) (F0 m 118 ls [])) :
    ∀ (nn : Nat) (x3 : Int32) (sk : tClash) (tr : tTrail) (H : Heap) (locs : List Loc) (ls : Array Slot), w_Sear_holds_L2 x2 lr K118 Q nn x3 sk tr → lv_has ls 7 [(0, .ref (ad 13)), (1, .ref (ad 8)), (2, .int x2), (3, .int x3)] → q_H dC dI (va_A w0 s.heap.size) s.heap H locs ([c_LR ad cA lr, c_SE ad cA se sk sw, c_TR ad cA tr].flatten) → W p l e (q_R 1 23) s m args below meth c H locs 0 0 (q_Zi below args s dC dI cA w0 (fun u : tClash × tTrail => [c_LR ad cA lr, c_SE ad cA se u.1 sw, c_TR ad cA u.2].flatten) (fun r u => Q r u.1 u.2)) (F0 m 2 ls []) := by
  obtain ⟨hx, hb, -⟩ := id C0
  intro nn
  induction nn with
  | zero =>
    intro x3 sk tr H locs ls h
    exact (show False from h).elim
  | succ nn ih =>
    intro x3 sk tr H locs ls h hl hH
    rw [w_Sear_holds_L2] at h
    refine lv_iload_n hx hb d_Sear_holds_2 rfl (lv_at hl 3 rfl) ?_
    refine lv_iload_n hx hb d_Sear_holds_3 rfl (lv_at hl 2 rfl) ?_
    refine lv_icmp_ge (tgt := 118) hx hb d_Sear_holds_4 (by decide) (fun c => ?_) (fun c => ?_)
    · have h := h.1 c
      exact hK118 sk tr _ _ _ h (lv_sub hl [] rfl) hH
    · have h := h.2 c
      refine lv_aload_n hx hb d_Sear_holds_7 rfl (lv_at hl 1 rfl) ?_
      refine q_get (v := .ref (ad 9)) C0 hH 0 rfl hc_2 0 (by decide) k_33 rfl d_Sear_holds_8 ?_
      refine lv_iload_n hx hb d_Sear_holds_11 rfl (lv_at hl 3 rfl) ?_
      obtain ⟨hi, h⟩ := h
      refine q_ald (f := lr.wantTrue) C0 hH 1 rfl hi d_Sear_holds_12 ?_
      refine lv_istore (lv' := [(4, .int (lr.wantTrue x3.toNatClampNeg)), (0, .ref (ad 13)), (1, .ref (ad 8)), (2, .int x2), (3, .int x3)]) hx hb d_Sear_holds_13 hl (by decide) rfl (fun ls hl => ?_)
      refine lv_aload_n hx hb d_Sear_holds_15 rfl (lv_at hl 2 rfl) ?_
      refine q_get (v := .ref (ad 10)) C0 hH 0 rfl hc_2 1 (by decide) k_35 rfl d_Sear_holds_16 ?_
      refine lv_iload_n hx hb d_Sear_holds_19 rfl (lv_at hl 4 rfl) ?_
      obtain ⟨hi, h⟩ := h
      refine q_ald (f := lr.wantFalse) C0 hH 2 rfl hi d_Sear_holds_20 ?_
      refine lv_istore (lv' := [(5, .int (lr.wantFalse x3.toNatClampNeg)), (4, .int (lr.wantTrue x3.toNatClampNeg)), (0, .ref (ad 13)), (1, .ref (ad 8)), (2, .int x2), (3, .int x3)]) hx hb d_Sear_holds_21 hl (by decide) rfl (fun ls hl => ?_)
      refine lv_iload hx hb d_Sear_holds_23 (lv_at hl 1 rfl) ?_
      refine lv_aload_n hx hb d_Sear_holds_25 rfl (lv_at hl 2 rfl) ?_
      refine q_get (v := .ref (ad 15)) C0 hH 3 rfl hc_4 2 (by decide) k_132 rfl d_Sear_holds_26 ?_
      refine q_get (v := .int tr.trues) C0 hH 5 rfl hc_5 0 (by decide) k_98 rfl d_Sear_holds_29 ?_
      refine lv_iand hx hb d_Sear_holds_32 ?_
      refine lv_iload hx hb d_Sear_holds_33 (lv_at hl 0 rfl) ?_
      refine lv_aload_n hx hb d_Sear_holds_35 rfl (lv_at hl 2 rfl) ?_
      refine q_get (v := .ref (ad 15)) C0 hH 3 rfl hc_4 2 (by decide) k_132 rfl d_Sear_holds_36 ?_
      refine q_get (v := .int tr.falses) C0 hH 5 rfl hc_5 1 (by decide) k_100 rfl d_Sear_holds_39 ?_
      refine lv_iand hx hb d_Sear_holds_42 ?_
      refine lv_ior hx hb d_Sear_holds_43 ?_
      refine lv_if_ne (tgt := 112) hx hb d_Sear_holds_44 (by decide) (fun c => ?_) (fun c => ?_)
      · have h := h.1 c
        refine lv_iinc (v := (x3 + 1)) (lv' := [(3, .int (x3 + 1)), (5, .int (lr.wantFalse x3.toNatClampNeg)), (4, .int (lr.wantTrue x3.toNatClampNeg)), (0, .ref (ad 13)), (1, .ref (ad 8)), (2, .int x2)]) hx hb d_Sear_holds_112 hl (k := 5) rfl rfl (by decide) rfl (fun ls hl => ?_)
        refine lv_goto (tgt := 2) hx hb d_Sear_holds_115 (by decide) ?_
        exact ih (x3 + 1) sk tr _ _ _ h (lv_sub hl [3, 4, 5, 0] rfl) hH
      · have h := h.2 c
        refine lv_iload hx hb d_Sear_holds_47 (lv_at hl 1 rfl) ?_
        refine lv_iload hx hb d_Sear_holds_49 (lv_at hl 0 rfl) ?_
        refine lv_ior hx hb d_Sear_holds_51 ?_
        refine lv_aload_n hx hb d_Sear_holds_52 rfl (lv_at hl 2 rfl) ?_
        refine q_get (v := .ref (ad 15)) C0 hH 3 rfl hc_4 2 (by decide) k_132 rfl d_Sear_holds_53 ?_
        refine q_get (v := .int tr.trues) C0 hH 5 rfl hc_5 0 (by decide) k_98 rfl d_Sear_holds_56 ?_
        refine lv_aload_n hx hb d_Sear_holds_59 rfl (lv_at hl 2 rfl) ?_
        refine q_get (v := .ref (ad 15)) C0 hH 3 rfl hc_4 2 (by decide) k_132 rfl d_Sear_holds_60 ?_
        refine q_get (v := .int tr.falses) C0 hH 5 rfl hc_5 1 (by decide) k_100 rfl d_Sear_holds_63 ?_
        refine lv_ior hx hb d_Sear_holds_66 ?_
        refine lv_iconst (v := (-1)) hx hb d_Sear_holds_67 (by decide) ?_
        refine lv_ixor hx hb d_Sear_holds_68 ?_
        refine lv_iand hx hb d_Sear_holds_69 ?_
        refine lv_istore (lv' := [(6, .int (((lr.wantTrue x3.toNatClampNeg) ||| (lr.wantFalse x3.toNatClampNeg)) &&& ((tr.trues ||| tr.falses) ^^^ (-1)))), (5, .int (lr.wantFalse x3.toNatClampNeg)), (4, .int (lr.wantTrue x3.toNatClampNeg)), (0, .ref (ad 13)), (1, .ref (ad 8)), (2, .int x2), (3, .int x3)]) hx hb d_Sear_holds_70 hl (by decide) rfl (fun ls hl => ?_)
        refine lv_iload hx hb d_Sear_holds_72 (lv_at hl 0 rfl) ?_
        refine lv_if_ne (tgt := 91) hx hb d_Sear_holds_74 (by decide) (fun c => ?_) (fun c => ?_)
        · have h := h.1 c
          refine lv_iload hx hb d_Sear_holds_91 (lv_at hl 0 rfl) ?_
          refine q_calls (rest := []) C0 hH hA (c_Sear_areSeveral l dC dI cA ad (((lr.wantTrue x3.toNatClampNeg) ||| (lr.wantFalse x3.toNatClampNeg)) &&& ((tr.trues ||| tr.falses) ^^^ (-1))) _ _ h) Y_Sear_areSeveral k_375 ⟨Nat.le_of_ble_eq_true rfl, Nat.le_of_ble_eq_true rfl⟩ rfl rfl (Nat.le_of_ble_eq_true rfl) hl.1 d_Sear_holds_93 ⟨Nat.le_refl 0, Nat.le_refl 0⟩ (fun r_1 H locs h hH => ?_)
          try dsimp only at h
          refine lv_if_ne (tgt := 112) hx hb d_Sear_holds_96 (by decide) (fun c => ?_) (fun c => ?_)
          · have h := h.1 c
            refine lv_iinc (v := (x3 + 1)) (lv' := [(3, .int (x3 + 1)), (6, .int (((lr.wantTrue x3.toNatClampNeg) ||| (lr.wantFalse x3.toNatClampNeg)) &&& ((tr.trues ||| tr.falses) ^^^ (-1)))), (5, .int (lr.wantFalse x3.toNatClampNeg)), (4, .int (lr.wantTrue x3.toNatClampNeg)), (0, .ref (ad 13)), (1, .ref (ad 8)), (2, .int x2)]) hx hb d_Sear_holds_112 hl (k := 6) rfl rfl (by decide) rfl (fun ls hl => ?_)
            refine lv_goto (tgt := 2) hx hb d_Sear_holds_115 (by decide) ?_
            exact ih (x3 + 1) sk tr _ _ _ h (lv_sub hl [4, 5, 6, 0] rfl) hH
          · have h := h.2 c
            refine lv_aload_n hx hb d_Sear_holds_99 rfl (lv_at hl 3 rfl) ?_
            refine q_get (v := .ref (ad 15)) C0 hH 3 rfl hc_4 2 (by decide) k_132 rfl d_Sear_holds_100 ?_
            refine lv_iload hx hb d_Sear_holds_103 (lv_at hl 0 rfl) ?_
            refine lv_iload hx hb d_Sear_holds_105 (lv_at hl 2 rfl) ?_
            refine lv_iload hx hb d_Sear_holds_107 (lv_at hl 1 rfl) ?_
            refine q_callv (rest := []) (ws' := fun u : tTrail => [c_LR ad cA lr, c_SE ad cA se sk sw, c_TR ad cA u].flatten) C0 hH hA (c_Trail_conclude l dC dI cA ad (((lr.wantTrue x3.toNatClampNeg) ||| (lr.wantFalse x3.toNatClampNeg)) &&& ((tr.trues ||| tr.falses) ^^^ (-1))) (lr.wantTrue x3.toNatClampNeg) (lr.wantFalse x3.toNatClampNeg) tr _ _ h) Y_Trail_conclude k_378 5 rfl hc_5 (q_pg [2] [0, 1] [0, 1, 2] 3 1 rfl (by decide) rfl (fun _ => rfl) rfl (by decide) (fun _ => rfl)) ⟨Nat.le_of_ble_eq_true rfl, Nat.le_of_ble_eq_true rfl⟩ rfl rfl (Nat.le_of_ble_eq_true rfl) hl.1 d_Sear_holds_109 ⟨Nat.le_refl 0, Nat.le_refl 0⟩ (fun u_2 H locs h hH => ?_)
            obtain ⟨tr_2, rfl⟩ : ∃ z, z = u_2 := ⟨_, rfl⟩
            try dsimp only at h
            have hH : q_H dC dI (va_A w0 s.heap.size) s.heap H locs ([c_LR ad cA lr, c_SE ad cA se sk sw, c_TR ad cA tr_2].flatten) := hH
            refine lv_iinc (v := (x3 + 1)) (lv' := [(3, .int (x3 + 1)), (6, .int (((lr.wantTrue x3.toNatClampNeg) ||| (lr.wantFalse x3.toNatClampNeg)) &&& ((tr.trues ||| tr.falses) ^^^ (-1)))), (5, .int (lr.wantFalse x3.toNatClampNeg)), (4, .int (lr.wantTrue x3.toNatClampNeg)), (0, .ref (ad 13)), (1, .ref (ad 8)), (2, .int x2)]) hx hb d_Sear_holds_112 hl (k := 6) rfl rfl (by decide) rfl (fun ls hl => ?_)
            refine lv_goto (tgt := 2) hx hb d_Sear_holds_115 (by decide) ?_
            exact ih (x3 + 1) sk tr_2 _ _ _ h (lv_sub hl [4, 5, 6, 0] rfl) hH
        · have h := h.2 c
          refine lv_aload_n hx hb d_Sear_holds_77 rfl (lv_at hl 3 rfl) ?_
          refine lv_iload hx hb d_Sear_holds_78 (lv_at hl 2 rfl) ?_
          refine q_puti (ws' := [c_LR ad cA lr, c_SE ad cA se (tClash.mk (lr.wantTrue x3.toNatClampNeg) sk.clashFalse) sw, c_TR ad cA tr].flatten) C0 hH 3 rfl hc_4 5 (by decide) k_135 rfl rfl (Nat.le_of_ble_eq_true rfl) rfl d_Sear_holds_80 (fun H locs hH => ?_)
          refine lv_aload_n hx hb d_Sear_holds_83 rfl (lv_at hl 3 rfl) ?_
          refine lv_iload hx hb d_Sear_holds_84 (lv_at hl 1 rfl) ?_
          refine q_puti (ws' := [c_LR ad cA lr, c_SE ad cA se (tClash.mk (lr.wantTrue x3.toNatClampNeg) (lr.wantFalse x3.toNatClampNeg)) sw, c_TR ad cA tr].flatten) C0 hH 3 rfl hc_4 6 (by decide) k_136 rfl rfl (Nat.le_of_ble_eq_true rfl) rfl d_Sear_holds_86 (fun H locs hH => ?_)
          refine lv_iconst (v := 0) hx hb d_Sear_holds_89 (by decide) ?_
          exact q_retz C0 hH ((tClash.mk (lr.wantTrue x3.toNatClampNeg) (lr.wantFalse x3.toNatClampNeg)), tr) rfl (Or.inl rfl) h d_Sear_holds_90
set_option maxHeartbeats 4000000 in
set_option maxRecDepth 100000 in
theorem c_Sear_holds_lr (l : Launch) (dC : Nat → ClassId) (dI : Nat → Nat → Nat) (cA : ClassId) (ad : Nat → Nat) (x2 : Int32) (lr : tRows) (se : tSear) (sk : tClash) (sw : (Nat → Int32)) (tr : tTrail) (Q : Int32 → tClash → tTrail → Prop) (sz : Nat) (h : w_Sear_holds x2 lr sk tr Q) :
    q_Mi l y_Sear_holds b_Sear_holds 7 (some .boolean) 1 23 [.ref (ad 13), .ref (ad 8), .int x2] dC dI cA ([c_LR ad cA lr, c_SE ad cA se sk sw, c_TR ad cA tr].flatten) (fun u : tClash × tTrail => [c_LR ad cA lr, c_SE ad cA se u.1 sw, c_TR ad cA u.2].flatten) sz (fun r u => Q r u.1 u.2) := by
  refine q_meti (plainFor_of_name (by decide +kernel)) (Nat.le_of_ble_eq_true rfl) (fun {p e s m below meth c ls} C0 hl hH => ?_)
  obtain ⟨hx, hb, -⟩ := id C0
  have hA : ∀ q, s.heap.size ≤ q → va_A ([c_LR ad cA lr, c_SE ad cA se sk sw, c_TR ad cA tr].flatten) s.heap.size q := q_nA
  have hl : lv_has ls 7 [(0, .ref (ad 13)), (1, .ref (ad 8)), (2, .int x2)] := hl
  unfold w_Sear_holds at h
  refine lv_iconst (v := 0) hx hb d_Sear_holds_0 (by decide) ?_
  refine lv_istore_n (lv' := [(3, .int 0), (0, .ref (ad 13)), (1, .ref (ad 8)), (2, .int x2)]) hx hb d_Sear_holds_1 rfl hl (by decide) rfl (fun ls hl => ?_)
  obtain ⟨nn, h⟩ := h
  refine x_Sear_holds_lr_L2 C0 hA x2 lr se sw ?_ nn 0 sk tr _ _ _ h (lv_sub hl [1, 2, 3, 0] rfl) hH
  · intro sk_1 tr_1 H locs ls h hl hH
    try dsimp only at h
    refine lv_iconst (v := 1) hx hb d_Sear_holds_118 (by decide) ?_
    exact q_retz C0 hH (sk_1, tr_1) rfl (Or.inr rfl) h d_Sear_holds_119
theorem d_Sear_propagate_0 : decode b_Sear_propagate 0 = .ok (.iconst (-1), 1) := by decide +kernel
theorem d_Sear_propagate_1 : decode b_Sear_propagate 1 = .ok (.istore_n 1, 1) := by decide +kernel
theorem d_Sear_propagate_2 : decode b_Sear_propagate 2 = .ok (.iconst 0, 1) := by decide +kernel
theorem d_Sear_propagate_3 : decode b_Sear_propagate 3 = .ok (.istore_n 2, 1) := by decide +kernel
theorem d_Sear_propagate_4 : decode b_Sear_propagate 4 = .ok (.iload_n 2, 1) := by decide +kernel
theorem d_Sear_propagate_5 : decode b_Sear_propagate 5 = .ok (.bipush 30, 2) := by decide +kernel
theorem d_Sear_propagate_7 : decode b_Sear_propagate 7 = .ok (.if_icmp .gt 66, 3) := by decide +kernel
theorem d_Sear_propagate_10 : decode b_Sear_propagate 10 = .ok (.aload_n 0, 1) := by decide +kernel
theorem d_Sear_propagate_11 : decode b_Sear_propagate 11 = .ok (.getfield 23, 3) := by decide +kernel
theorem d_Sear_propagate_14 : decode b_Sear_propagate 14 = .ok (.getfield 93, 3) := by decide +kernel
theorem d_Sear_propagate_17 : decode b_Sear_propagate 17 = .ok (.iload_n 1, 1) := by decide +kernel
theorem d_Sear_propagate_18 : decode b_Sear_propagate 18 = .ok (.if_icmp .eq 55, 3) := by decide +kernel
theorem d_Sear_propagate_21 : decode b_Sear_propagate 21 = .ok (.aload_n 0, 1) := by decide +kernel
theorem d_Sear_propagate_22 : decode b_Sear_propagate 22 = .ok (.getfield 23, 3) := by decide +kernel
theorem d_Sear_propagate_25 : decode b_Sear_propagate 25 = .ok (.getfield 93, 3) := by decide +kernel
theorem d_Sear_propagate_28 : decode b_Sear_propagate 28 = .ok (.istore_n 1, 1) := by decide +kernel
theorem d_Sear_propagate_29 : decode b_Sear_propagate 29 = .ok (.aload_n 0, 1) := by decide +kernel
theorem d_Sear_propagate_30 : decode b_Sear_propagate 30 = .ok (.aload_n 0, 1) := by decide +kernel
theorem d_Sear_propagate_31 : decode b_Sear_propagate 31 = .ok (.getfield 31, 3) := by decide +kernel
theorem d_Sear_propagate_34 : decode b_Sear_propagate 34 = .ok (.getfield 35, 3) := by decide +kernel
theorem d_Sear_propagate_37 : decode b_Sear_propagate 37 = .ok (.aload_n 0, 1) := by decide +kernel
theorem d_Sear_propagate_38 : decode b_Sear_propagate 38 = .ok (.getfield 53, 3) := by decide +kernel
theorem d_Sear_propagate_41 : decode b_Sear_propagate 41 = .ok (.invokevirtual 96, 3) := by decide +kernel
theorem d_Sear_propagate_44 : decode b_Sear_propagate 44 = .ok (.ifCond .eq 21, 3) := by decide +kernel
theorem d_Sear_propagate_47 : decode b_Sear_propagate 47 = .ok (.aload_n 0, 1) := by decide +kernel
theorem d_Sear_propagate_48 : decode b_Sear_propagate 48 = .ok (.aload_n 0, 1) := by decide +kernel
theorem d_Sear_propagate_49 : decode b_Sear_propagate 49 = .ok (.getfield 14, 3) := by decide +kernel
theorem d_Sear_propagate_52 : decode b_Sear_propagate 52 = .ok (.aload_n 0, 1) := by decide +kernel
theorem d_Sear_propagate_53 : decode b_Sear_propagate 53 = .ok (.getfield 14, 3) := by decide +kernel
theorem d_Sear_propagate_56 : decode b_Sear_propagate 56 = .ok (.getfield 40, 3) := by decide +kernel
theorem d_Sear_propagate_59 : decode b_Sear_propagate 59 = .ok (.invokevirtual 96, 3) := by decide +kernel
theorem d_Sear_propagate_62 : decode b_Sear_propagate 62 = .ok (.ifCond .ne 5, 3) := by decide +kernel
theorem d_Sear_propagate_65 : decode b_Sear_propagate 65 = .ok (.iconst 0, 1) := by decide +kernel
theorem d_Sear_propagate_66 : decode b_Sear_propagate 66 = .ok (.ireturn, 1) := by decide +kernel
theorem d_Sear_propagate_67 : decode b_Sear_propagate 67 = .ok (.iinc 2 1, 3) := by decide +kernel
theorem d_Sear_propagate_70 : decode b_Sear_propagate 70 = .ok (.goto (-66), 3) := by decide +kernel
theorem d_Sear_propagate_73 : decode b_Sear_propagate 73 = .ok (.iconst 1, 1) := by decide +kernel
theorem d_Sear_propagate_74 : decode b_Sear_propagate 74 = .ok (.ireturn, 1) := by decide +kernel
set_option maxHeartbeats 4000000 in
set_option maxRecDepth 100000 in
theorem x_Sear_propagate_L4 {p : Program} {e : Env} {s : State} {m : MethodId} {args : Array Value} {below : List Frame} {meth : Method} {c : Code} {l : Launch} {dC : Nat → ClassId} {dI : Nat → Nat → Nat} {cA : ClassId} {ad : Nat → Nat} {w0 : va_W} (C0 : q_C p s m args meth c b_Sear_propagate 3 (some .boolean) "PlanClauses$Search" dC dI cA) (hA : ∀ q, s.heap.size ≤ q → va_A w0 s.heap.size q) (fo : tForm) (fr : tRows) (lr : tRows) (se : tSear) (sw : (Nat → Int32)) {Q : Int32 → tClash → tTrail → Prop} {K73 : tClash → tTrail → Prop}
    (hK73 : ∀ (sk : tClash) (tr : tTrail) (H : Heap) (locs : List Loc) (ls : Array Slot), K73 sk tr → lv_has ls 3 [] → q_H dC dI (va_A w0 s.heap.size) s.heap H locs ([c_FO ad cA fo, c_FR ad cA fr, c_LR ad cA lr, c_SE ad cA se sk sw, c_TR ad cA tr].flatten) → W p l e (q_R 2 49) s m args below meth c H locs 0 0 (q_Zi below args s dC dI cA w0 (fun u : tClash × tTrail => [c_FO ad cA fo, c_FR ad cA fr, c_LR ad cA lr, c_SE ad cA se u.1 sw, c_TR ad cA u.2].flatten) (fun r u => Q r u.1 u.2)) (F0 m 73 ls [])) :
    ∀ (nn : Nat) (x1 : Int32) (x2 : Int32) (sk : tClash) (tr : tTrail) (H : Heap) (locs : List Loc) (ls : Array Slot), w_Sear_propagate_L4 fr lr se K73 Q nn x1 x2 sk tr → lv_has ls 3 [(0, .ref (ad 13)), (1, .int x1), (2, .int x2)] → q_H dC dI (va_A w0 s.heap.size) s.heap H locs ([c_FO ad cA fo, c_FR ad cA fr, c_LR ad cA lr, c_SE ad cA se sk sw, c_TR ad cA tr].flatten) → W p l e (q_R 2 49) s m args below meth c H locs 0 0 (q_Zi below args s dC dI cA w0 (fun u : tClash × tTrail => [c_FO ad cA fo, c_FR ad cA fr, c_LR ad cA lr, c_SE ad cA se u.1 sw, c_TR ad cA u.2].flatten) (fun r u => Q r u.1 u.2)) (F0 m 4 ls []) := by
  obtain ⟨hx, hb, -⟩ := id C0
  intro nn
  induction nn with
  | zero =>
    intro x1 x2 sk tr H locs ls h
    exact (show False from h).elim
  | succ nn ih =>
    intro x1 x2 sk tr H locs ls h hl hH
    rw [w_Sear_propagate_L4] at h
    refine lv_iload_n hx hb d_Sear_propagate_4 rfl (lv_at hl 2 rfl) ?_
    refine lv_bipush (v := 30) hx hb d_Sear_propagate_5 (by decide) ?_
    refine lv_icmp_gt (tgt := 73) hx hb d_Sear_propagate_7 (by decide) (fun c => ?_) (fun c => ?_)
    · have h := h.1 c
      exact hK73 sk tr _ _ _ h (lv_sub hl [] rfl) hH
    · have h := h.2 c
      refine lv_aload_n hx hb d_Sear_propagate_10 rfl (lv_at hl 0 rfl) ?_
      refine q_get (v := .ref (ad 15)) C0 hH 10 rfl hc_4 2 (by decide) k_132 rfl d_Sear_propagate_11 ?_
      refine q_get (v := .int tr.length) C0 hH 12 rfl hc_5 2 (by decide) k_102 rfl d_Sear_propagate_14 ?_
      refine lv_iload_n hx hb d_Sear_propagate_17 rfl (lv_at hl 1 rfl) ?_
      refine lv_icmp_eq (tgt := 73) hx hb d_Sear_propagate_18 (by decide) (fun c => ?_) (fun c => ?_)
      · have h := h.1 c
        exact hK73 sk tr _ _ _ h (lv_sub hl [] rfl) hH
      · have h := h.2 c
        refine lv_aload_n hx hb d_Sear_propagate_21 rfl (lv_at hl 0 rfl) ?_
        refine q_get (v := .ref (ad 15)) C0 hH 10 rfl hc_4 2 (by decide) k_132 rfl d_Sear_propagate_22 ?_
        refine q_get (v := .int tr.length) C0 hH 12 rfl hc_5 2 (by decide) k_102 rfl d_Sear_propagate_25 ?_
        refine lv_istore_n (lv' := [(1, .int tr.length), (0, .ref (ad 13)), (2, .int x2)]) hx hb d_Sear_propagate_28 rfl hl (by decide) rfl (fun ls hl => ?_)
        refine lv_aload_n hx hb d_Sear_propagate_29 rfl (lv_at hl 1 rfl) ?_
        refine lv_aload_n hx hb d_Sear_propagate_30 rfl (lv_at hl 1 rfl) ?_
        refine q_get (v := .ref (ad 1)) C0 hH 10 rfl hc_4 0 (by decide) k_130 rfl d_Sear_propagate_31 ?_
        refine q_get (v := .ref (ad 5)) C0 hH 0 rfl hc_1 5 (by decide) k_61 rfl d_Sear_propagate_34 ?_
        refine lv_aload_n hx hb d_Sear_propagate_37 rfl (lv_at hl 1 rfl) ?_
        refine q_get (v := .int se.clauses) C0 hH 10 rfl hc_4 4 (by decide) k_134 rfl d_Sear_propagate_38 ?_
        refine q_calli (rest := []) (ws' := fun u : tClash × tTrail => [c_FO ad cA fo, c_FR ad cA fr, c_LR ad cA lr, c_SE ad cA se u.1 sw, c_TR ad cA u.2].flatten) C0 hH hA (c_Sear_holds_fr l dC dI cA ad se.clauses fr se sk sw tr _ _ h) Y_Sear_holds k_371 10 rfl hc_4 (q_pg [1, 3, 4] [0, 2] [0, 2, 1, 3, 4] 5 3 rfl (by decide) rfl (fun _ => rfl) rfl (by decide) (fun _ => rfl)) ⟨Nat.le_of_ble_eq_true rfl, Nat.le_of_ble_eq_true rfl⟩ rfl rfl (Nat.le_of_ble_eq_true rfl) hl.1 d_Sear_propagate_41 ⟨Nat.le_refl 0, Nat.le_refl 0⟩ (fun r_1 u_1 H locs h hH => ?_)
        obtain ⟨sk_1, tr_1⟩ := u_1
        try dsimp only at h
        have hH : q_H dC dI (va_A w0 s.heap.size) s.heap H locs ([c_FO ad cA fo, c_FR ad cA fr, c_LR ad cA lr, c_SE ad cA se sk_1 sw, c_TR ad cA tr_1].flatten) := hH
        refine lv_if_eq (tgt := 65) hx hb d_Sear_propagate_44 (by decide) (fun c => ?_) (fun c => ?_)
        · have h := h.1 c
          refine lv_iconst (v := 0) hx hb d_Sear_propagate_65 (by decide) ?_
          exact q_retz C0 hH (sk_1, tr_1) rfl (Or.inl rfl) h d_Sear_propagate_66
        · have h := h.2 c
          refine lv_aload_n hx hb d_Sear_propagate_47 rfl (lv_at hl 1 rfl) ?_
          refine lv_aload_n hx hb d_Sear_propagate_48 rfl (lv_at hl 1 rfl) ?_
          refine q_get (v := .ref (ad 8)) C0 hH 10 rfl hc_4 1 (by decide) k_131 rfl d_Sear_propagate_49 ?_
          refine lv_aload_n hx hb d_Sear_propagate_52 rfl (lv_at hl 1 rfl) ?_
          refine q_get (v := .ref (ad 8)) C0 hH 10 rfl hc_4 1 (by decide) k_131 rfl d_Sear_propagate_53 ?_
          refine q_get (v := .int lr.size) C0 hH 7 rfl hc_2 2 (by decide) k_37 rfl d_Sear_propagate_56 ?_
          refine q_calli (rest := []) (ws' := fun u : tClash × tTrail => [c_FO ad cA fo, c_FR ad cA fr, c_LR ad cA lr, c_SE ad cA se u.1 sw, c_TR ad cA u.2].flatten) C0 hH hA (c_Sear_holds_lr l dC dI cA ad lr.size lr se sk_1 sw tr_1 _ _ h) Y_Sear_holds k_371 10 rfl hc_4 (q_pg [2, 3, 4] [0, 1] [0, 1, 2, 3, 4] 5 3 rfl (by decide) rfl (fun _ => rfl) rfl (by decide) (fun _ => rfl)) ⟨Nat.le_of_ble_eq_true rfl, Nat.le_of_ble_eq_true rfl⟩ rfl rfl (Nat.le_of_ble_eq_true rfl) hl.1 d_Sear_propagate_59 ⟨Nat.le_refl 0, Nat.le_refl 0⟩ (fun r_2 u_2 H locs h hH => ?_)
          obtain ⟨sk_2, tr_2⟩ := u_2
          try dsimp only at h
          have hH : q_H dC dI (va_A w0 s.heap.size) s.heap H locs ([c_FO ad cA fo, c_FR ad cA fr, c_LR ad cA lr, c_SE ad cA se sk_2 sw, c_TR ad cA tr_2].flatten) := hH
          refine lv_if_ne (tgt := 67) hx hb d_Sear_propagate_62 (by decide) (fun c => ?_) (fun c => ?_)
          · have h := h.1 c
            refine lv_iinc (v := (x2 + 1)) (lv' := [(2, .int (x2 + 1)), (1, .int tr.length), (0, .ref (ad 13))]) hx hb d_Sear_propagate_67 hl (k := 2) rfl rfl (by decide) rfl (fun ls hl => ?_)
            refine lv_goto (tgt := 4) hx hb d_Sear_propagate_70 (by decide) ?_
            exact ih tr.length (x2 + 1) sk_2 tr_2 _ _ _ h (lv_sub hl [2, 1, 0] rfl) hH
          · have h := h.2 c
            refine lv_iconst (v := 0) hx hb d_Sear_propagate_65 (by decide) ?_
            exact q_retz C0 hH (sk_2, tr_2) rfl (Or.inl rfl) h d_Sear_propagate_66
set_option maxHeartbeats 4000000 in
set_option maxRecDepth 100000 in
theorem c_Sear_propagate (l : Launch) (dC : Nat → ClassId) (dI : Nat → Nat → Nat) (cA : ClassId) (ad : Nat → Nat) (fo : tForm) (fr : tRows) (lr : tRows) (se : tSear) (sk : tClash) (sw : (Nat → Int32)) (tr : tTrail) (Q : Int32 → tClash → tTrail → Prop) (sz : Nat) (h : w_Sear_propagate fr lr se sk tr Q) :
    q_Mi l y_Sear_propagate b_Sear_propagate 3 (some .boolean) 2 49 [.ref (ad 13)] dC dI cA ([c_FO ad cA fo, c_FR ad cA fr, c_LR ad cA lr, c_SE ad cA se sk sw, c_TR ad cA tr].flatten) (fun u : tClash × tTrail => [c_FO ad cA fo, c_FR ad cA fr, c_LR ad cA lr, c_SE ad cA se u.1 sw, c_TR ad cA u.2].flatten) sz (fun r u => Q r u.1 u.2) := by
  refine q_meti (plainFor_of_name (by decide +kernel)) (Nat.le_of_ble_eq_true rfl) (fun {p e s m below meth c ls} C0 hl hH => ?_)
  obtain ⟨hx, hb, -⟩ := id C0
  have hA : ∀ q, s.heap.size ≤ q → va_A ([c_FO ad cA fo, c_FR ad cA fr, c_LR ad cA lr, c_SE ad cA se sk sw, c_TR ad cA tr].flatten) s.heap.size q := q_nA
  have hl : lv_has ls 3 [(0, .ref (ad 13))] := hl
  unfold w_Sear_propagate at h
  refine lv_iconst (v := (-1)) hx hb d_Sear_propagate_0 (by decide) ?_
  refine lv_istore_n (lv' := [(1, .int (-1)), (0, .ref (ad 13))]) hx hb d_Sear_propagate_1 rfl hl (by decide) rfl (fun ls hl => ?_)
  refine lv_iconst (v := 0) hx hb d_Sear_propagate_2 (by decide) ?_
  refine lv_istore_n (lv' := [(2, .int 0), (1, .int (-1)), (0, .ref (ad 13))]) hx hb d_Sear_propagate_3 rfl hl (by decide) rfl (fun ls hl => ?_)
  obtain ⟨nn, h⟩ := h
  refine x_Sear_propagate_L4 C0 hA fo fr lr se sw ?_ nn (-1) 0 sk tr _ _ _ h (lv_sub hl [2, 1, 0] rfl) hH
  · intro sk_1 tr_1 H locs ls h hl hH
    try dsimp only at h
    refine lv_iconst (v := 1) hx hb d_Sear_propagate_73 (by decide) ?_
    exact q_retz C0 hH (sk_1, tr_1) rfl (Or.inr rfl) h d_Sear_propagate_74
set_option maxHeartbeats 4000000 in
set_option maxRecDepth 100000 in
theorem c_Rows_add_lr (l : Launch) (dC : Nat → ClassId) (dI : Nat → Nat → Nat) (cA : ClassId) (ad : Nat → Nat) (x1 : Int32) (x2 : Int32) (lr : tRows) (Q : tRows → Prop) (sz : Nat) (h : w_Rows_add x1 x2 lr Q) :
    q_Mv l y_Rows_add b_Rows_add 5 0 0 [.ref (ad 8), .int x1, .int x2] dC dI cA ([c_LR ad cA lr].flatten) (fun u : tRows => [c_LR ad cA u].flatten) sz (fun u => Q u) := by
  refine q_metv (plainFor_of_name (by decide +kernel)) (Nat.le_of_ble_eq_true rfl) (fun {p e s m below meth c ls} C0 hl hH => ?_)
  obtain ⟨hx, hb, -⟩ := id C0
  have hA : ∀ q, s.heap.size ≤ q → va_A ([c_LR ad cA lr].flatten) s.heap.size q := q_nA
  have hl : lv_has ls 5 [(0, .ref (ad 8)), (1, .int x1), (2, .int x2)] := hl
  unfold w_Rows_add at h
  refine lv_aload_n hx hb d_Rows_add_0 rfl (lv_at hl 0 rfl) ?_
  refine q_get (v := .ref (ad 9)) C0 hH 0 rfl hc_2 0 (by decide) k_32 rfl d_Rows_add_1 ?_
  refine q_alen (n := lr.room) (f := lr.wantTrue) C0 hH 1 rfl d_Rows_add_4 ?_
  refine lv_istore_n (lv' := [(3, .int (nI lr.room)), (0, .ref (ad 8)), (1, .int x1), (2, .int x2)]) hx hb d_Rows_add_5 rfl hl (by decide) rfl (fun ls hl => ?_)
  refine lv_aload_n hx hb d_Rows_add_6 rfl (lv_at hl 1 rfl) ?_
  refine q_get (v := .int lr.size) C0 hH 0 rfl hc_2 2 (by decide) k_36 rfl d_Rows_add_7 ?_
  refine lv_istore (lv' := [(4, .int lr.size), (3, .int (nI lr.room)), (0, .ref (ad 8)), (1, .int x1), (2, .int x2)]) hx hb d_Rows_add_10 hl (by decide) rfl (fun ls hl => ?_)
  refine lv_aload_n hx hb d_Rows_add_12 rfl (lv_at hl 2 rfl) ?_
  refine q_get (v := .int lr.size) C0 hH 0 rfl hc_2 2 (by decide) k_36 rfl d_Rows_add_13 ?_
  refine lv_iload_n hx hb d_Rows_add_16 rfl (lv_at hl 1 rfl) ?_
  refine lv_icmp_ge (tgt := 33) hx hb d_Rows_add_17 (by decide) (fun c => ?_) (fun c => ?_)
  · have h := h.1 c
    refine lv_aload_n hx hb d_Rows_add_33 rfl (lv_at hl 2 rfl) ?_
    refine q_get (v := .int lr.oldest) C0 hH 0 rfl hc_2 3 (by decide) k_41 rfl d_Rows_add_34 ?_
    refine lv_istore (lv' := [(4, .int lr.oldest), (3, .int (nI lr.room)), (0, .ref (ad 8)), (1, .int x1), (2, .int x2)]) hx hb d_Rows_add_37 hl (by decide) rfl (fun ls hl => ?_)
    refine lv_aload_n hx hb d_Rows_add_39 rfl (lv_at hl 2 rfl) ?_
    refine lv_aload_n hx hb d_Rows_add_40 rfl (lv_at hl 2 rfl) ?_
    refine q_get (v := .int lr.oldest) C0 hH 0 rfl hc_2 3 (by decide) k_41 rfl d_Rows_add_41 ?_
    refine lv_iconst (v := 1) hx hb d_Rows_add_44 (by decide) ?_
    refine lv_iadd hx hb d_Rows_add_45 ?_
    refine lv_iload_n hx hb d_Rows_add_46 rfl (lv_at hl 1 rfl) ?_
    refine lv_icmp_ge (tgt := 59) hx hb d_Rows_add_47 (by decide) (fun c => ?_) (fun c => ?_)
    · have h := h.1 c
      refine lv_iconst (v := 0) hx hb d_Rows_add_59 (by decide) ?_
      refine q_puti (ws' := [c_LR ad cA (tRows.mk lr.wantTrue lr.wantFalse lr.size 0 lr.room)].flatten) C0 hH 0 rfl hc_2 3 (by decide) k_41 rfl rfl (Nat.le_of_ble_eq_true rfl) rfl d_Rows_add_60 (fun H locs hH => ?_)
      refine lv_iload hx hb d_Rows_add_63 (lv_at hl 0 rfl) ?_
      refine lv_iload_n hx hb d_Rows_add_65 rfl (lv_at hl 1 rfl) ?_
      refine lv_icmp_ge (tgt := 85) hx hb d_Rows_add_66 (by decide) (fun c => ?_) (fun c => ?_)
      · have h := h.1 c
        exact q_retv C0 hH (tRows.mk lr.wantTrue lr.wantFalse lr.size 0 lr.room) rfl h d_Rows_add_85
      · have h := h.2 c
        refine lv_aload_n hx hb d_Rows_add_69 rfl (lv_at hl 2 rfl) ?_
        refine q_get (v := .ref (ad 9)) C0 hH 0 rfl hc_2 0 (by decide) k_32 rfl d_Rows_add_70 ?_
        refine lv_iload hx hb d_Rows_add_73 (lv_at hl 0 rfl) ?_
        refine lv_iload_n hx hb d_Rows_add_75 rfl (lv_at hl 3 rfl) ?_
        obtain ⟨hi, h⟩ := h
        refine q_ast (ws' := [c_LR ad cA (tRows.mk (upd lr.wantTrue lr.oldest.toNatClampNeg x1) lr.wantFalse lr.size 0 lr.room)].flatten) (f := lr.wantTrue) C0 hH 1 rfl hi rfl d_Rows_add_76 (fun H locs hH => ?_)
        refine lv_aload_n hx hb d_Rows_add_77 rfl (lv_at hl 2 rfl) ?_
        refine q_get (v := .ref (ad 10)) C0 hH 0 rfl hc_2 1 (by decide) k_34 rfl d_Rows_add_78 ?_
        refine lv_iload hx hb d_Rows_add_81 (lv_at hl 0 rfl) ?_
        refine lv_iload_n hx hb d_Rows_add_83 rfl (lv_at hl 4 rfl) ?_
        obtain ⟨hi, h⟩ := h
        refine q_ast (ws' := [c_LR ad cA (tRows.mk (upd lr.wantTrue lr.oldest.toNatClampNeg x1) (upd lr.wantFalse lr.oldest.toNatClampNeg x2) lr.size 0 lr.room)].flatten) (f := lr.wantFalse) C0 hH 2 rfl hi rfl d_Rows_add_84 (fun H locs hH => ?_)
        exact q_retv C0 hH (tRows.mk (upd lr.wantTrue lr.oldest.toNatClampNeg x1) (upd lr.wantFalse lr.oldest.toNatClampNeg x2) lr.size 0 lr.room) rfl h d_Rows_add_85
    · have h := h.2 c
      refine lv_aload_n hx hb d_Rows_add_50 rfl (lv_at hl 2 rfl) ?_
      refine q_get (v := .int lr.oldest) C0 hH 0 rfl hc_2 3 (by decide) k_41 rfl d_Rows_add_51 ?_
      refine lv_iconst (v := 1) hx hb d_Rows_add_54 (by decide) ?_
      refine lv_iadd hx hb d_Rows_add_55 ?_
      refine lv_goto (tgt := 60) hx hb d_Rows_add_56 (by decide) ?_
      refine q_puti (ws' := [c_LR ad cA (tRows.mk lr.wantTrue lr.wantFalse lr.size (lr.oldest + 1) lr.room)].flatten) C0 hH 0 rfl hc_2 3 (by decide) k_41 rfl rfl (Nat.le_of_ble_eq_true rfl) rfl d_Rows_add_60 (fun H locs hH => ?_)
      refine lv_iload hx hb d_Rows_add_63 (lv_at hl 0 rfl) ?_
      refine lv_iload_n hx hb d_Rows_add_65 rfl (lv_at hl 1 rfl) ?_
      refine lv_icmp_ge (tgt := 85) hx hb d_Rows_add_66 (by decide) (fun c => ?_) (fun c => ?_)
      · have h := h.1 c
        exact q_retv C0 hH (tRows.mk lr.wantTrue lr.wantFalse lr.size (lr.oldest + 1) lr.room) rfl h d_Rows_add_85
      · have h := h.2 c
        refine lv_aload_n hx hb d_Rows_add_69 rfl (lv_at hl 2 rfl) ?_
        refine q_get (v := .ref (ad 9)) C0 hH 0 rfl hc_2 0 (by decide) k_32 rfl d_Rows_add_70 ?_
        refine lv_iload hx hb d_Rows_add_73 (lv_at hl 0 rfl) ?_
        refine lv_iload_n hx hb d_Rows_add_75 rfl (lv_at hl 3 rfl) ?_
        obtain ⟨hi, h⟩ := h
        refine q_ast (ws' := [c_LR ad cA (tRows.mk (upd lr.wantTrue lr.oldest.toNatClampNeg x1) lr.wantFalse lr.size (lr.oldest + 1) lr.room)].flatten) (f := lr.wantTrue) C0 hH 1 rfl hi rfl d_Rows_add_76 (fun H locs hH => ?_)
        refine lv_aload_n hx hb d_Rows_add_77 rfl (lv_at hl 2 rfl) ?_
        refine q_get (v := .ref (ad 10)) C0 hH 0 rfl hc_2 1 (by decide) k_34 rfl d_Rows_add_78 ?_
        refine lv_iload hx hb d_Rows_add_81 (lv_at hl 0 rfl) ?_
        refine lv_iload_n hx hb d_Rows_add_83 rfl (lv_at hl 4 rfl) ?_
        obtain ⟨hi, h⟩ := h
        refine q_ast (ws' := [c_LR ad cA (tRows.mk (upd lr.wantTrue lr.oldest.toNatClampNeg x1) (upd lr.wantFalse lr.oldest.toNatClampNeg x2) lr.size (lr.oldest + 1) lr.room)].flatten) (f := lr.wantFalse) C0 hH 2 rfl hi rfl d_Rows_add_84 (fun H locs hH => ?_)
        exact q_retv C0 hH (tRows.mk (upd lr.wantTrue lr.oldest.toNatClampNeg x1) (upd lr.wantFalse lr.oldest.toNatClampNeg x2) lr.size (lr.oldest + 1) lr.room) rfl h d_Rows_add_85
  · have h := h.2 c
    refine lv_aload_n hx hb d_Rows_add_20 rfl (lv_at hl 2 rfl) ?_
    refine lv_dup hx hb d_Rows_add_21 rfl ?_
    refine q_get (v := .int lr.size) C0 hH 0 rfl hc_2 2 (by decide) k_36 rfl d_Rows_add_22 ?_
    refine lv_iconst (v := 1) hx hb d_Rows_add_25 (by decide) ?_
    refine lv_iadd hx hb d_Rows_add_26 ?_
    refine q_puti (ws' := [c_LR ad cA (tRows.mk lr.wantTrue lr.wantFalse (lr.size + 1) lr.oldest lr.room)].flatten) C0 hH 0 rfl hc_2 2 (by decide) k_36 rfl rfl (Nat.le_of_ble_eq_true rfl) rfl d_Rows_add_27 (fun H locs hH => ?_)
    refine lv_goto (tgt := 63) hx hb d_Rows_add_30 (by decide) ?_
    refine lv_iload hx hb d_Rows_add_63 (lv_at hl 0 rfl) ?_
    refine lv_iload_n hx hb d_Rows_add_65 rfl (lv_at hl 1 rfl) ?_
    refine lv_icmp_ge (tgt := 85) hx hb d_Rows_add_66 (by decide) (fun c => ?_) (fun c => ?_)
    · have h := h.1 c
      exact q_retv C0 hH (tRows.mk lr.wantTrue lr.wantFalse (lr.size + 1) lr.oldest lr.room) rfl h d_Rows_add_85
    · have h := h.2 c
      refine lv_aload_n hx hb d_Rows_add_69 rfl (lv_at hl 2 rfl) ?_
      refine q_get (v := .ref (ad 9)) C0 hH 0 rfl hc_2 0 (by decide) k_32 rfl d_Rows_add_70 ?_
      refine lv_iload hx hb d_Rows_add_73 (lv_at hl 0 rfl) ?_
      refine lv_iload_n hx hb d_Rows_add_75 rfl (lv_at hl 3 rfl) ?_
      obtain ⟨hi, h⟩ := h
      refine q_ast (ws' := [c_LR ad cA (tRows.mk (upd lr.wantTrue lr.size.toNatClampNeg x1) lr.wantFalse (lr.size + 1) lr.oldest lr.room)].flatten) (f := lr.wantTrue) C0 hH 1 rfl hi rfl d_Rows_add_76 (fun H locs hH => ?_)
      refine lv_aload_n hx hb d_Rows_add_77 rfl (lv_at hl 2 rfl) ?_
      refine q_get (v := .ref (ad 10)) C0 hH 0 rfl hc_2 1 (by decide) k_34 rfl d_Rows_add_78 ?_
      refine lv_iload hx hb d_Rows_add_81 (lv_at hl 0 rfl) ?_
      refine lv_iload_n hx hb d_Rows_add_83 rfl (lv_at hl 4 rfl) ?_
      obtain ⟨hi, h⟩ := h
      refine q_ast (ws' := [c_LR ad cA (tRows.mk (upd lr.wantTrue lr.size.toNatClampNeg x1) (upd lr.wantFalse lr.size.toNatClampNeg x2) (lr.size + 1) lr.oldest lr.room)].flatten) (f := lr.wantFalse) C0 hH 2 rfl hi rfl d_Rows_add_84 (fun H locs hH => ?_)
      exact q_retv C0 hH (tRows.mk (upd lr.wantTrue lr.size.toNatClampNeg x1) (upd lr.wantFalse lr.size.toNatClampNeg x2) (lr.size + 1) lr.oldest lr.room) rfl h d_Rows_add_85
theorem d_Trail_revise_0 : decode b_Trail_revise 0 = .ok (.iload_n 2, 1) := by decide +kernel
theorem d_Trail_revise_1 : decode b_Trail_revise 1 = .ok (.iload_n 3, 1) := by decide +kernel
theorem d_Trail_revise_2 : decode b_Trail_revise 2 = .ok (.ior, 1) := by decide +kernel
theorem d_Trail_revise_3 : decode b_Trail_revise 3 = .ok (.iload_n 1, 1) := by decide +kernel
theorem d_Trail_revise_4 : decode b_Trail_revise 4 = .ok (.iconst (-1), 1) := by decide +kernel
theorem d_Trail_revise_5 : decode b_Trail_revise 5 = .ok (.ixor, 1) := by decide +kernel
theorem d_Trail_revise_6 : decode b_Trail_revise 6 = .ok (.iand, 1) := by decide +kernel
theorem d_Trail_revise_7 : decode b_Trail_revise 7 = .ok (.istore 4, 2) := by decide +kernel
theorem d_Trail_revise_9 : decode b_Trail_revise 9 = .ok (.iconst 0, 1) := by decide +kernel
theorem d_Trail_revise_10 : decode b_Trail_revise 10 = .ok (.istore 5, 2) := by decide +kernel
theorem d_Trail_revise_12 : decode b_Trail_revise 12 = .ok (.iload 5, 2) := by decide +kernel
theorem d_Trail_revise_14 : decode b_Trail_revise 14 = .ok (.iconst 1, 1) := by decide +kernel
theorem d_Trail_revise_15 : decode b_Trail_revise 15 = .ok (.iadd, 1) := by decide +kernel
theorem d_Trail_revise_16 : decode b_Trail_revise 16 = .ok (.aload_n 0, 1) := by decide +kernel
theorem d_Trail_revise_17 : decode b_Trail_revise 17 = .ok (.getfield 34, 3) := by decide +kernel
theorem d_Trail_revise_20 : decode b_Trail_revise 20 = .ok (.if_icmp .ge 26, 3) := by decide +kernel
theorem d_Trail_revise_23 : decode b_Trail_revise 23 = .ok (.iload 4, 2) := by decide +kernel
theorem d_Trail_revise_25 : decode b_Trail_revise 25 = .ok (.aload_n 0, 1) := by decide +kernel
theorem d_Trail_revise_26 : decode b_Trail_revise 26 = .ok (.getfield 21, 3) := by decide +kernel
theorem d_Trail_revise_29 : decode b_Trail_revise 29 = .ok (.iload 5, 2) := by decide +kernel
theorem d_Trail_revise_31 : decode b_Trail_revise 31 = .ok (.iconst 1, 1) := by decide +kernel
theorem d_Trail_revise_32 : decode b_Trail_revise 32 = .ok (.iadd, 1) := by decide +kernel
theorem d_Trail_revise_33 : decode b_Trail_revise 33 = .ok (.iaload, 1) := by decide +kernel
theorem d_Trail_revise_34 : decode b_Trail_revise 34 = .ok (.iconst (-1), 1) := by decide +kernel
theorem d_Trail_revise_35 : decode b_Trail_revise 35 = .ok (.ixor, 1) := by decide +kernel
theorem d_Trail_revise_36 : decode b_Trail_revise 36 = .ok (.iand, 1) := by decide +kernel
theorem d_Trail_revise_37 : decode b_Trail_revise 37 = .ok (.ifCond .eq 9, 3) := by decide +kernel
theorem d_Trail_revise_40 : decode b_Trail_revise 40 = .ok (.iinc 5 1, 3) := by decide +kernel
theorem d_Trail_revise_43 : decode b_Trail_revise 43 = .ok (.goto (-31), 3) := by decide +kernel
theorem d_Trail_revise_46 : decode b_Trail_revise 46 = .ok (.aload_n 0, 1) := by decide +kernel
theorem d_Trail_revise_47 : decode b_Trail_revise 47 = .ok (.iload 5, 2) := by decide +kernel
theorem d_Trail_revise_49 : decode b_Trail_revise 49 = .ok (.invokevirtual 47, 3) := by decide +kernel
theorem d_Trail_revise_52 : decode b_Trail_revise 52 = .ok (.aload_n 0, 1) := by decide +kernel
theorem d_Trail_revise_53 : decode b_Trail_revise 53 = .ok (.iload_n 1, 1) := by decide +kernel
theorem d_Trail_revise_54 : decode b_Trail_revise 54 = .ok (.iload_n 2, 1) := by decide +kernel
theorem d_Trail_revise_55 : decode b_Trail_revise 55 = .ok (.iload_n 3, 1) := by decide +kernel
theorem d_Trail_revise_56 : decode b_Trail_revise 56 = .ok (.invokevirtual 37, 3) := by decide +kernel
theorem d_Trail_revise_59 : decode b_Trail_revise 59 = .ok (.return_, 1) := by decide +kernel
set_option maxHeartbeats 4000000 in
set_option maxRecDepth 100000 in
theorem x_Trail_revise_L12 {p : Program} {e : Env} {s : State} {m : MethodId} {args : Array Value} {below : List Frame} {meth : Method} {c : Code} {l : Launch} {dC : Nat → ClassId} {dI : Nat → Nat → Nat} {cA : ClassId} {ad : Nat → Nat} {w0 : va_W} (C0 : q_C p s m args meth c b_Trail_revise 6 none "PlanClauses$Trail" dC dI cA) (hA : ∀ q, s.heap.size ≤ q → va_A w0 s.heap.size q) (x1 : Int32) (x2 : Int32) (x3 : Int32) (x4 : Int32) (tr : tTrail) {Q : tTrail → Prop} {K46 : Int32 → Prop}
    (hK46 : ∀ (x5 : Int32) (H : Heap) (locs : List Loc) (ls : Array Slot), K46 x5 → lv_has ls 6 [(0, .ref (ad 15)), (1, .int x1), (2, .int x2), (3, .int x3), (5, .int x5)] → q_H dC dI (va_A w0 s.heap.size) s.heap H locs ([c_TR ad cA tr].flatten) → W p l e (q_R 2 42) s m args below meth c H locs 0 0 (q_Zv below args s dC dI cA w0 (fun u : tTrail => [c_TR ad cA u].flatten) (fun u => Q u)) (F0 m 46 ls [])) :
    ∀ (nn : Nat) (x5 : Int32) (H : Heap) (locs : List Loc) (ls : Array Slot), w_Trail_revise_L12 x1 x2 x3 x4 tr K46 nn x5 → lv_has ls 6 [(0, .ref (ad 15)), (1, .int x1), (2, .int x2), (3, .int x3), (4, .int x4), (5, .int x5)] → q_H dC dI (va_A w0 s.heap.size) s.heap H locs ([c_TR ad cA tr].flatten) → W p l e (q_R 2 42) s m args below meth c H locs 0 0 (q_Zv below args s dC dI cA w0 (fun u : tTrail => [c_TR ad cA u].flatten) (fun u => Q u)) (F0 m 12 ls []) := by
  obtain ⟨hx, hb, -⟩ := id C0
  intro nn
  induction nn with
  | zero =>
    intro x5 H locs ls h
    exact (show False from h).elim
  | succ nn ih =>
    intro x5 H locs ls h hl hH
    rw [w_Trail_revise_L12] at h
    refine lv_iload hx hb d_Trail_revise_12 (lv_at hl 5 rfl) ?_
    refine lv_iconst (v := 1) hx hb d_Trail_revise_14 (by decide) ?_
    refine lv_iadd hx hb d_Trail_revise_15 ?_
    refine lv_aload_n hx hb d_Trail_revise_16 rfl (lv_at hl 0 rfl) ?_
    refine q_get (v := .int tr.level) C0 hH 0 rfl hc_5 3 (by decide) k_103 rfl d_Trail_revise_17 ?_
    refine lv_icmp_ge (tgt := 46) hx hb d_Trail_revise_20 (by decide) (fun c => ?_) (fun c => ?_)
    · have h := h.1 c
      exact hK46 x5 _ _ _ h (lv_sub hl [0, 1, 2, 3, 5] rfl) hH
    · have h := h.2 c
      refine lv_iload hx hb d_Trail_revise_23 (lv_at hl 4 rfl) ?_
      refine lv_aload_n hx hb d_Trail_revise_25 rfl (lv_at hl 0 rfl) ?_
      refine q_get (v := .ref (ad 19)) C0 hH 0 rfl hc_5 7 (by decide) k_111 rfl d_Trail_revise_26 ?_
      refine lv_iload hx hb d_Trail_revise_29 (lv_at hl 5 rfl) ?_
      refine lv_iconst (v := 1) hx hb d_Trail_revise_31 (by decide) ?_
      refine lv_iadd hx hb d_Trail_revise_32 ?_
      obtain ⟨hi, h⟩ := h
      refine q_ald (f := tr.ahead) C0 hH 4 rfl hi d_Trail_revise_33 ?_
      refine lv_iconst (v := (-1)) hx hb d_Trail_revise_34 (by decide) ?_
      refine lv_ixor hx hb d_Trail_revise_35 ?_
      refine lv_iand hx hb d_Trail_revise_36 ?_
      refine lv_if_eq (tgt := 46) hx hb d_Trail_revise_37 (by decide) (fun c => ?_) (fun c => ?_)
      · have h := h.1 c
        exact hK46 x5 _ _ _ h (lv_sub hl [0, 1, 2, 3, 5] rfl) hH
      · have h := h.2 c
        refine lv_iinc (v := (x5 + 1)) (lv' := [(5, .int (x5 + 1)), (0, .ref (ad 15)), (1, .int x1), (2, .int x2), (3, .int x3), (4, .int x4)]) hx hb d_Trail_revise_40 hl (k := 5) rfl rfl (by decide) rfl (fun ls hl => ?_)
        refine lv_goto (tgt := 12) hx hb d_Trail_revise_43 (by decide) ?_
        exact ih (x5 + 1) _ _ _ h (lv_sub hl [1, 2, 3, 4, 5, 0] rfl) hH
set_option maxHeartbeats 4000000 in
set_option maxRecDepth 100000 in
theorem c_Trail_revise (l : Launch) (dC : Nat → ClassId) (dI : Nat → Nat → Nat) (cA : ClassId) (ad : Nat → Nat) (x1 : Int32) (x2 : Int32) (x3 : Int32) (tr : tTrail) (Q : tTrail → Prop) (sz : Nat) (h : w_Trail_revise x1 x2 x3 tr Q) :
    q_Mv l y_Trail_revise b_Trail_revise 6 2 42 [.ref (ad 15), .int x1, .int x2, .int x3] dC dI cA ([c_TR ad cA tr].flatten) (fun u : tTrail => [c_TR ad cA u].flatten) sz (fun u => Q u) := by
  refine q_metv (plainFor_of_name (by decide +kernel)) (Nat.le_of_ble_eq_true rfl) (fun {p e s m below meth c ls} C0 hl hH => ?_)
  obtain ⟨hx, hb, -⟩ := id C0
  have hA : ∀ q, s.heap.size ≤ q → va_A ([c_TR ad cA tr].flatten) s.heap.size q := q_nA
  have hl : lv_has ls 6 [(0, .ref (ad 15)), (1, .int x1), (2, .int x2), (3, .int x3)] := hl
  unfold w_Trail_revise at h
  refine lv_iload_n hx hb d_Trail_revise_0 rfl (lv_at hl 2 rfl) ?_
  refine lv_iload_n hx hb d_Trail_revise_1 rfl (lv_at hl 3 rfl) ?_
  refine lv_ior hx hb d_Trail_revise_2 ?_
  refine lv_iload_n hx hb d_Trail_revise_3 rfl (lv_at hl 1 rfl) ?_
  refine lv_iconst (v := (-1)) hx hb d_Trail_revise_4 (by decide) ?_
  refine lv_ixor hx hb d_Trail_revise_5 ?_
  refine lv_iand hx hb d_Trail_revise_6 ?_
  refine lv_istore (lv' := [(4, .int ((x2 ||| x3) &&& (x1 ^^^ (-1)))), (0, .ref (ad 15)), (1, .int x1), (2, .int x2), (3, .int x3)]) hx hb d_Trail_revise_7 hl (by decide) rfl (fun ls hl => ?_)
  refine lv_iconst (v := 0) hx hb d_Trail_revise_9 (by decide) ?_
  refine lv_istore (lv' := [(5, .int 0), (4, .int ((x2 ||| x3) &&& (x1 ^^^ (-1)))), (0, .ref (ad 15)), (1, .int x1), (2, .int x2), (3, .int x3)]) hx hb d_Trail_revise_10 hl (by decide) rfl (fun ls hl => ?_)
  obtain ⟨nn, h⟩ := h
  refine x_Trail_revise_L12 C0 hA x1 x2 x3 ((x2 ||| x3) &&& (x1 ^^^ (-1))) tr ?_ nn 0 _ _ _ h (lv_sub hl [2, 3, 4, 5, 1, 0] rfl) hH
  · intro x5_1 H locs ls h hl hH
    try dsimp only at h
    refine lv_aload_n hx hb d_Trail_revise_46 rfl (lv_at hl 0 rfl) ?_
    refine lv_iload hx hb d_Trail_revise_47 (lv_at hl 4 rfl) ?_
    refine q_callv (rest := []) (ws' := fun u : tTrail => [c_TR ad cA u].flatten) C0 hH hA (c_Trail_back l dC dI cA ad x5_1 tr _ _ h) Y_Trail_back k_391 0 rfl hc_5 (q_pg [0] [] [0] 1 1 rfl (by decide) rfl (fun _ => rfl) rfl (by decide) (fun _ => rfl)) ⟨Nat.le_of_ble_eq_true rfl, Nat.le_of_ble_eq_true rfl⟩ rfl rfl (Nat.le_of_ble_eq_true rfl) hl.1 d_Trail_revise_49 ⟨Nat.le_refl 0, Nat.le_refl 0⟩ (fun u_2 H locs h hH => ?_)
    obtain ⟨tr_2, rfl⟩ : ∃ z, z = u_2 := ⟨_, rfl⟩
    try dsimp only at h
    have hH : q_H dC dI (va_A ([c_TR ad cA tr].flatten) s.heap.size) s.heap H locs ([c_TR ad cA tr_2].flatten) := hH
    refine lv_aload_n hx hb d_Trail_revise_52 rfl (lv_at hl 0 rfl) ?_
    refine lv_iload_n hx hb d_Trail_revise_53 rfl (lv_at hl 1 rfl) ?_
    refine lv_iload_n hx hb d_Trail_revise_54 rfl (lv_at hl 2 rfl) ?_
    refine lv_iload_n hx hb d_Trail_revise_55 rfl (lv_at hl 3 rfl) ?_
    refine q_callv (rest := []) (ws' := fun u : tTrail => [c_TR ad cA u].flatten) C0 hH hA (c_Trail_conclude l dC dI cA ad x1 x2 x3 tr_2 _ _ h) Y_Trail_conclude k_392 0 rfl hc_5 (q_pg [0] [] [0] 1 1 rfl (by decide) rfl (fun _ => rfl) rfl (by decide) (fun _ => rfl)) ⟨Nat.le_of_ble_eq_true rfl, Nat.le_of_ble_eq_true rfl⟩ rfl rfl (Nat.le_of_ble_eq_true rfl) hl.1 d_Trail_revise_56 ⟨Nat.le_refl 0, Nat.le_refl 0⟩ (fun u_3 H locs h hH => ?_)
    obtain ⟨tr_3, rfl⟩ : ∃ z, z = u_3 := ⟨_, rfl⟩
    try dsimp only at h
    have hH : q_H dC dI (va_A ([c_TR ad cA tr].flatten) s.heap.size) s.heap H locs ([c_TR ad cA tr_3].flatten) := hH
    exact q_retv C0 hH tr_3 rfl h d_Trail_revise_59
theorem d_Sear_learn_0 : decode b_Sear_learn 0 = .ok (.aload_n 0, 1) := by decide +kernel
theorem d_Sear_learn_1 : decode b_Sear_learn 1 = .ok (.getfield 106, 3) := by decide +kernel
theorem d_Sear_learn_4 : decode b_Sear_learn 4 = .ok (.istore_n 1, 1) := by decide +kernel
theorem d_Sear_learn_5 : decode b_Sear_learn 5 = .ok (.aload_n 0, 1) := by decide +kernel
theorem d_Sear_learn_6 : decode b_Sear_learn 6 = .ok (.getfield 109, 3) := by decide +kernel
theorem d_Sear_learn_9 : decode b_Sear_learn 9 = .ok (.istore_n 2, 1) := by decide +kernel
theorem d_Sear_learn_10 : decode b_Sear_learn 10 = .ok (.aload_n 0, 1) := by decide +kernel
theorem d_Sear_learn_11 : decode b_Sear_learn 11 = .ok (.getfield 23, 3) := by decide +kernel
theorem d_Sear_learn_14 : decode b_Sear_learn 14 = .ok (.getfield 120, 3) := by decide +kernel
theorem d_Sear_learn_17 : decode b_Sear_learn 17 = .ok (.aload_n 0, 1) := by decide +kernel
theorem d_Sear_learn_18 : decode b_Sear_learn 18 = .ok (.getfield 23, 3) := by decide +kernel
theorem d_Sear_learn_21 : decode b_Sear_learn 21 = .ok (.getfield 73, 3) := by decide +kernel
theorem d_Sear_learn_24 : decode b_Sear_learn 24 = .ok (.iaload, 1) := by decide +kernel
theorem d_Sear_learn_25 : decode b_Sear_learn 25 = .ok (.istore_n 3, 1) := by decide +kernel
theorem d_Sear_learn_26 : decode b_Sear_learn 26 = .ok (.aload_n 0, 1) := by decide +kernel
theorem d_Sear_learn_27 : decode b_Sear_learn 27 = .ok (.getfield 23, 3) := by decide +kernel
theorem d_Sear_learn_30 : decode b_Sear_learn 30 = .ok (.getfield 93, 3) := by decide +kernel
theorem d_Sear_learn_33 : decode b_Sear_learn 33 = .ok (.iconst 1, 1) := by decide +kernel
theorem d_Sear_learn_34 : decode b_Sear_learn 34 = .ok (.isub, 1) := by decide +kernel
theorem d_Sear_learn_35 : decode b_Sear_learn 35 = .ok (.istore 4, 2) := by decide +kernel
theorem d_Sear_learn_37 : decode b_Sear_learn 37 = .ok (.iload 4, 2) := by decide +kernel
theorem d_Sear_learn_39 : decode b_Sear_learn 39 = .ok (.ifCond .lt 79, 3) := by decide +kernel
theorem d_Sear_learn_42 : decode b_Sear_learn 42 = .ok (.iload_n 1, 1) := by decide +kernel
theorem d_Sear_learn_43 : decode b_Sear_learn 43 = .ok (.iload_n 2, 1) := by decide +kernel
theorem d_Sear_learn_44 : decode b_Sear_learn 44 = .ok (.ior, 1) := by decide +kernel
theorem d_Sear_learn_45 : decode b_Sear_learn 45 = .ok (.iload_n 3, 1) := by decide +kernel
theorem d_Sear_learn_46 : decode b_Sear_learn 46 = .ok (.iconst (-1), 1) := by decide +kernel
theorem d_Sear_learn_47 : decode b_Sear_learn 47 = .ok (.ixor, 1) := by decide +kernel
theorem d_Sear_learn_48 : decode b_Sear_learn 48 = .ok (.iand, 1) := by decide +kernel
theorem d_Sear_learn_49 : decode b_Sear_learn 49 = .ok (.invokestatic 112, 3) := by decide +kernel
theorem d_Sear_learn_52 : decode b_Sear_learn 52 = .ok (.ifCond .eq 66, 3) := by decide +kernel
theorem d_Sear_learn_55 : decode b_Sear_learn 55 = .ok (.aload_n 0, 1) := by decide +kernel
theorem d_Sear_learn_56 : decode b_Sear_learn 56 = .ok (.getfield 23, 3) := by decide +kernel
theorem d_Sear_learn_59 : decode b_Sear_learn 59 = .ok (.getfield 123, 3) := by decide +kernel
theorem d_Sear_learn_62 : decode b_Sear_learn 62 = .ok (.iload 4, 2) := by decide +kernel
theorem d_Sear_learn_64 : decode b_Sear_learn 64 = .ok (.iaload, 1) := by decide +kernel
theorem d_Sear_learn_65 : decode b_Sear_learn 65 = .ok (.istore 5, 2) := by decide +kernel
theorem d_Sear_learn_67 : decode b_Sear_learn 67 = .ok (.iload_n 1, 1) := by decide +kernel
theorem d_Sear_learn_68 : decode b_Sear_learn 68 = .ok (.iload_n 2, 1) := by decide +kernel
theorem d_Sear_learn_69 : decode b_Sear_learn 69 = .ok (.ior, 1) := by decide +kernel
theorem d_Sear_learn_70 : decode b_Sear_learn 70 = .ok (.iload 5, 2) := by decide +kernel
theorem d_Sear_learn_72 : decode b_Sear_learn 72 = .ok (.iand, 1) := by decide +kernel
theorem d_Sear_learn_73 : decode b_Sear_learn 73 = .ok (.ifCond .eq 39, 3) := by decide +kernel
theorem d_Sear_learn_76 : decode b_Sear_learn 76 = .ok (.iload_n 1, 1) := by decide +kernel
theorem d_Sear_learn_77 : decode b_Sear_learn 77 = .ok (.aload_n 0, 1) := by decide +kernel
theorem d_Sear_learn_78 : decode b_Sear_learn 78 = .ok (.getfield 23, 3) := by decide +kernel
theorem d_Sear_learn_81 : decode b_Sear_learn 81 = .ok (.getfield 126, 3) := by decide +kernel
theorem d_Sear_learn_84 : decode b_Sear_learn 84 = .ok (.iload 4, 2) := by decide +kernel
theorem d_Sear_learn_86 : decode b_Sear_learn 86 = .ok (.iaload, 1) := by decide +kernel
theorem d_Sear_learn_87 : decode b_Sear_learn 87 = .ok (.ior, 1) := by decide +kernel
theorem d_Sear_learn_88 : decode b_Sear_learn 88 = .ok (.iload 5, 2) := by decide +kernel
theorem d_Sear_learn_90 : decode b_Sear_learn 90 = .ok (.iconst (-1), 1) := by decide +kernel
theorem d_Sear_learn_91 : decode b_Sear_learn 91 = .ok (.ixor, 1) := by decide +kernel
theorem d_Sear_learn_92 : decode b_Sear_learn 92 = .ok (.iand, 1) := by decide +kernel
theorem d_Sear_learn_93 : decode b_Sear_learn 93 = .ok (.istore_n 1, 1) := by decide +kernel
theorem d_Sear_learn_94 : decode b_Sear_learn 94 = .ok (.iload_n 2, 1) := by decide +kernel
theorem d_Sear_learn_95 : decode b_Sear_learn 95 = .ok (.aload_n 0, 1) := by decide +kernel
theorem d_Sear_learn_96 : decode b_Sear_learn 96 = .ok (.getfield 23, 3) := by decide +kernel
theorem d_Sear_learn_99 : decode b_Sear_learn 99 = .ok (.getfield 129, 3) := by decide +kernel
theorem d_Sear_learn_102 : decode b_Sear_learn 102 = .ok (.iload 4, 2) := by decide +kernel
theorem d_Sear_learn_104 : decode b_Sear_learn 104 = .ok (.iaload, 1) := by decide +kernel
theorem d_Sear_learn_105 : decode b_Sear_learn 105 = .ok (.ior, 1) := by decide +kernel
theorem d_Sear_learn_106 : decode b_Sear_learn 106 = .ok (.iload 5, 2) := by decide +kernel
theorem d_Sear_learn_108 : decode b_Sear_learn 108 = .ok (.iconst (-1), 1) := by decide +kernel
theorem d_Sear_learn_109 : decode b_Sear_learn 109 = .ok (.ixor, 1) := by decide +kernel
theorem d_Sear_learn_110 : decode b_Sear_learn 110 = .ok (.iand, 1) := by decide +kernel
theorem d_Sear_learn_111 : decode b_Sear_learn 111 = .ok (.istore_n 2, 1) := by decide +kernel
theorem d_Sear_learn_112 : decode b_Sear_learn 112 = .ok (.iinc 4 (-1), 3) := by decide +kernel
theorem d_Sear_learn_115 : decode b_Sear_learn 115 = .ok (.goto (-78), 3) := by decide +kernel
theorem d_Sear_learn_118 : decode b_Sear_learn 118 = .ok (.aload_n 0, 1) := by decide +kernel
theorem d_Sear_learn_119 : decode b_Sear_learn 119 = .ok (.getfield 23, 3) := by decide +kernel
theorem d_Sear_learn_122 : decode b_Sear_learn 122 = .ok (.getfield 120, 3) := by decide +kernel
theorem d_Sear_learn_125 : decode b_Sear_learn 125 = .ok (.iconst 1, 1) := by decide +kernel
theorem d_Sear_learn_126 : decode b_Sear_learn 126 = .ok (.iaload, 1) := by decide +kernel
theorem d_Sear_learn_127 : decode b_Sear_learn 127 = .ok (.istore 5, 2) := by decide +kernel
theorem d_Sear_learn_129 : decode b_Sear_learn 129 = .ok (.iload_n 1, 1) := by decide +kernel
theorem d_Sear_learn_130 : decode b_Sear_learn 130 = .ok (.iload 5, 2) := by decide +kernel
theorem d_Sear_learn_132 : decode b_Sear_learn 132 = .ok (.iconst (-1), 1) := by decide +kernel
theorem d_Sear_learn_133 : decode b_Sear_learn 133 = .ok (.ixor, 1) := by decide +kernel
theorem d_Sear_learn_134 : decode b_Sear_learn 134 = .ok (.iand, 1) := by decide +kernel
theorem d_Sear_learn_135 : decode b_Sear_learn 135 = .ok (.istore_n 1, 1) := by decide +kernel
theorem d_Sear_learn_136 : decode b_Sear_learn 136 = .ok (.iload_n 2, 1) := by decide +kernel
theorem d_Sear_learn_137 : decode b_Sear_learn 137 = .ok (.iload 5, 2) := by decide +kernel
theorem d_Sear_learn_139 : decode b_Sear_learn 139 = .ok (.iconst (-1), 1) := by decide +kernel
theorem d_Sear_learn_140 : decode b_Sear_learn 140 = .ok (.ixor, 1) := by decide +kernel
theorem d_Sear_learn_141 : decode b_Sear_learn 141 = .ok (.iand, 1) := by decide +kernel
theorem d_Sear_learn_142 : decode b_Sear_learn 142 = .ok (.istore_n 2, 1) := by decide +kernel
theorem d_Sear_learn_143 : decode b_Sear_learn 143 = .ok (.aload_n 0, 1) := by decide +kernel
theorem d_Sear_learn_144 : decode b_Sear_learn 144 = .ok (.getfield 14, 3) := by decide +kernel
theorem d_Sear_learn_147 : decode b_Sear_learn 147 = .ok (.iload_n 1, 1) := by decide +kernel
theorem d_Sear_learn_148 : decode b_Sear_learn 148 = .ok (.iload_n 2, 1) := by decide +kernel
theorem d_Sear_learn_149 : decode b_Sear_learn 149 = .ok (.invokevirtual 132, 3) := by decide +kernel
theorem d_Sear_learn_152 : decode b_Sear_learn 152 = .ok (.aload_n 0, 1) := by decide +kernel
theorem d_Sear_learn_153 : decode b_Sear_learn 153 = .ok (.getfield 23, 3) := by decide +kernel
theorem d_Sear_learn_156 : decode b_Sear_learn 156 = .ok (.iload_n 1, 1) := by decide +kernel
theorem d_Sear_learn_157 : decode b_Sear_learn 157 = .ok (.iload_n 2, 1) := by decide +kernel
theorem d_Sear_learn_158 : decode b_Sear_learn 158 = .ok (.ior, 1) := by decide +kernel
theorem d_Sear_learn_159 : decode b_Sear_learn 159 = .ok (.iload_n 3, 1) := by decide +kernel
theorem d_Sear_learn_160 : decode b_Sear_learn 160 = .ok (.iconst (-1), 1) := by decide +kernel
theorem d_Sear_learn_161 : decode b_Sear_learn 161 = .ok (.ixor, 1) := by decide +kernel
theorem d_Sear_learn_162 : decode b_Sear_learn 162 = .ok (.iand, 1) := by decide +kernel
theorem d_Sear_learn_163 : decode b_Sear_learn 163 = .ok (.iload_n 1, 1) := by decide +kernel
theorem d_Sear_learn_164 : decode b_Sear_learn 164 = .ok (.iload_n 2, 1) := by decide +kernel
theorem d_Sear_learn_165 : decode b_Sear_learn 165 = .ok (.invokevirtual 135, 3) := by decide +kernel
theorem d_Sear_learn_168 : decode b_Sear_learn 168 = .ok (.return_, 1) := by decide +kernel
set_option maxHeartbeats 4000000 in
set_option maxRecDepth 100000 in
theorem x_Sear_learn_L37 {p : Program} {e : Env} {s : State} {m : MethodId} {args : Array Value} {below : List Frame} {meth : Method} {c : Code} {l : Launch} {dC : Nat → ClassId} {dI : Nat → Nat → Nat} {cA : ClassId} {ad : Nat → Nat} {w0 : va_W} (C0 : q_C p s m args meth c b_Sear_learn 6 none "PlanClauses$Search" dC dI cA) (hA : ∀ q, s.heap.size ≤ q → va_A w0 s.heap.size q) (x3 : Int32) (lr : tRows) (se : tSear) (sk : tClash) (sw : (Nat → Int32)) (tr : tTrail) {Q : tRows → tTrail → Prop} {K118 : Int32 → Int32 → Prop}
    (hK118 : ∀ (x1 : Int32) (x2 : Int32) (H : Heap) (locs : List Loc) (ls : Array Slot), K118 x1 x2 → lv_has ls 6 [(0, .ref (ad 13)), (1, .int x1), (2, .int x2), (3, .int x3)] → q_H dC dI (va_A w0 s.heap.size) s.heap H locs ([c_LR ad cA lr, c_SE ad cA se sk sw, c_TR ad cA tr].flatten) → W p l e (q_R 3 67) s m args below meth c H locs 0 0 (q_Zv below args s dC dI cA w0 (fun u : tRows × tTrail => [c_LR ad cA u.1, c_SE ad cA se sk sw, c_TR ad cA u.2].flatten) (fun u => Q u.1 u.2)) (F0 m 118 ls [])) :
    ∀ (nn : Nat) (x1 : Int32) (x2 : Int32) (x4 : Int32) (H : Heap) (locs : List Loc) (ls : Array Slot), w_Sear_learn_L37 x3 tr K118 nn x1 x2 x4 → lv_has ls 6 [(0, .ref (ad 13)), (1, .int x1), (2, .int x2), (3, .int x3), (4, .int x4)] → q_H dC dI (va_A w0 s.heap.size) s.heap H locs ([c_LR ad cA lr, c_SE ad cA se sk sw, c_TR ad cA tr].flatten) → W p l e (q_R 3 67) s m args below meth c H locs 0 0 (q_Zv below args s dC dI cA w0 (fun u : tRows × tTrail => [c_LR ad cA u.1, c_SE ad cA se sk sw, c_TR ad cA u.2].flatten) (fun u => Q u.1 u.2)) (F0 m 37 ls []) := by
  obtain ⟨hx, hb, -⟩ := id C0
  intro nn
  induction nn with
  | zero =>
    intro x1 x2 x4 H locs ls h
    exact (show False from h).elim
  | succ nn ih =>
    intro x1 x2 x4 H locs ls h hl hH
    rw [w_Sear_learn_L37] at h
    refine lv_iload hx hb d_Sear_learn_37 (lv_at hl 4 rfl) ?_
    refine lv_if_lt (tgt := 118) hx hb d_Sear_learn_39 (by decide) (fun c => ?_) (fun c => ?_)
    · have h := h.1 c
      exact hK118 x1 x2 _ _ _ h (lv_sub hl [0, 1, 2, 3] rfl) hH
    · have h := h.2 c
      refine lv_iload_n hx hb d_Sear_learn_42 rfl (lv_at hl 1 rfl) ?_
      refine lv_iload_n hx hb d_Sear_learn_43 rfl (lv_at hl 2 rfl) ?_
      refine lv_ior hx hb d_Sear_learn_44 ?_
      refine lv_iload_n hx hb d_Sear_learn_45 rfl (lv_at hl 3 rfl) ?_
      refine lv_iconst (v := (-1)) hx hb d_Sear_learn_46 (by decide) ?_
      refine lv_ixor hx hb d_Sear_learn_47 ?_
      refine lv_iand hx hb d_Sear_learn_48 ?_
      refine q_calls (rest := []) C0 hH hA (c_Sear_areSeveral l dC dI cA ad ((x1 ||| x2) &&& (x3 ^^^ (-1))) _ _ h) Y_Sear_areSeveral k_375 ⟨Nat.le_of_ble_eq_true rfl, Nat.le_of_ble_eq_true rfl⟩ rfl rfl (Nat.le_of_ble_eq_true rfl) hl.1 d_Sear_learn_49 ⟨Nat.le_refl 0, Nat.le_refl 0⟩ (fun r_1 H locs h hH => ?_)
      try dsimp only at h
      refine lv_if_eq (tgt := 118) hx hb d_Sear_learn_52 (by decide) (fun c => ?_) (fun c => ?_)
      · have h := h.1 c
        exact hK118 x1 x2 _ _ _ h (lv_sub hl [0, 1, 2, 3] rfl) hH
      · have h := h.2 c
        refine lv_aload_n hx hb d_Sear_learn_55 rfl (lv_at hl 0 rfl) ?_
        refine q_get (v := .ref (ad 15)) C0 hH 3 rfl hc_4 2 (by decide) k_132 rfl d_Sear_learn_56 ?_
        refine q_get (v := .ref (ad 16)) C0 hH 5 rfl hc_5 4 (by decide) k_106 rfl d_Sear_learn_59 ?_
        refine lv_iload hx hb d_Sear_learn_62 (lv_at hl 4 rfl) ?_
        obtain ⟨hi, h⟩ := h
        refine q_ald (f := tr.order) C0 hH 6 rfl hi d_Sear_learn_64 ?_
        refine lv_istore (lv' := [(5, .int (tr.order x4.toNatClampNeg)), (0, .ref (ad 13)), (1, .int x1), (2, .int x2), (3, .int x3), (4, .int x4)]) hx hb d_Sear_learn_65 hl (by decide) rfl (fun ls hl => ?_)
        refine lv_iload_n hx hb d_Sear_learn_67 rfl (lv_at hl 2 rfl) ?_
        refine lv_iload_n hx hb d_Sear_learn_68 rfl (lv_at hl 3 rfl) ?_
        refine lv_ior hx hb d_Sear_learn_69 ?_
        refine lv_iload hx hb d_Sear_learn_70 (lv_at hl 0 rfl) ?_
        refine lv_iand hx hb d_Sear_learn_72 ?_
        refine lv_if_eq (tgt := 112) hx hb d_Sear_learn_73 (by decide) (fun c => ?_) (fun c => ?_)
        · have h := h.1 c
          refine lv_iinc (v := (x4 + (-1))) (lv' := [(4, .int (x4 + (-1))), (5, .int (tr.order x4.toNatClampNeg)), (0, .ref (ad 13)), (1, .int x1), (2, .int x2), (3, .int x3)]) hx hb d_Sear_learn_112 hl (k := 5) rfl rfl (by decide) rfl (fun ls hl => ?_)
          refine lv_goto (tgt := 37) hx hb d_Sear_learn_115 (by decide) ?_
          exact ih x1 x2 (x4 + (-1)) _ _ _ h (lv_sub hl [2, 3, 4, 5, 0] rfl) hH
        · have h := h.2 c
          refine lv_iload_n hx hb d_Sear_learn_76 rfl (lv_at hl 2 rfl) ?_
          refine lv_aload_n hx hb d_Sear_learn_77 rfl (lv_at hl 1 rfl) ?_
          refine q_get (v := .ref (ad 15)) C0 hH 3 rfl hc_4 2 (by decide) k_132 rfl d_Sear_learn_78 ?_
          refine q_get (v := .ref (ad 17)) C0 hH 5 rfl hc_5 5 (by decide) k_108 rfl d_Sear_learn_81 ?_
          refine lv_iload hx hb d_Sear_learn_84 (lv_at hl 5 rfl) ?_
          obtain ⟨hi, h⟩ := h
          refine q_ald (f := tr.whyTrue) C0 hH 7 rfl hi d_Sear_learn_86 ?_
          refine lv_ior hx hb d_Sear_learn_87 ?_
          refine lv_iload hx hb d_Sear_learn_88 (lv_at hl 0 rfl) ?_
          refine lv_iconst (v := (-1)) hx hb d_Sear_learn_90 (by decide) ?_
          refine lv_ixor hx hb d_Sear_learn_91 ?_
          refine lv_iand hx hb d_Sear_learn_92 ?_
          refine lv_istore_n (lv' := [(1, .int ((x1 ||| (tr.whyTrue x4.toNatClampNeg)) &&& ((tr.order x4.toNatClampNeg) ^^^ (-1)))), (5, .int (tr.order x4.toNatClampNeg)), (0, .ref (ad 13)), (2, .int x2), (3, .int x3), (4, .int x4)]) hx hb d_Sear_learn_93 rfl hl (by decide) rfl (fun ls hl => ?_)
          refine lv_iload_n hx hb d_Sear_learn_94 rfl (lv_at hl 3 rfl) ?_
          refine lv_aload_n hx hb d_Sear_learn_95 rfl (lv_at hl 2 rfl) ?_
          refine q_get (v := .ref (ad 15)) C0 hH 3 rfl hc_4 2 (by decide) k_132 rfl d_Sear_learn_96 ?_
          refine q_get (v := .ref (ad 18)) C0 hH 5 rfl hc_5 6 (by decide) k_110 rfl d_Sear_learn_99 ?_
          refine lv_iload hx hb d_Sear_learn_102 (lv_at hl 5 rfl) ?_
          obtain ⟨hi, h⟩ := h
          refine q_ald (f := tr.whyFalse) C0 hH 8 rfl hi d_Sear_learn_104 ?_
          refine lv_ior hx hb d_Sear_learn_105 ?_
          refine lv_iload hx hb d_Sear_learn_106 (lv_at hl 1 rfl) ?_
          refine lv_iconst (v := (-1)) hx hb d_Sear_learn_108 (by decide) ?_
          refine lv_ixor hx hb d_Sear_learn_109 ?_
          refine lv_iand hx hb d_Sear_learn_110 ?_
          refine lv_istore_n (lv' := [(2, .int ((x2 ||| (tr.whyFalse x4.toNatClampNeg)) &&& ((tr.order x4.toNatClampNeg) ^^^ (-1)))), (1, .int ((x1 ||| (tr.whyTrue x4.toNatClampNeg)) &&& ((tr.order x4.toNatClampNeg) ^^^ (-1)))), (5, .int (tr.order x4.toNatClampNeg)), (0, .ref (ad 13)), (3, .int x3), (4, .int x4)]) hx hb d_Sear_learn_111 rfl hl (by decide) rfl (fun ls hl => ?_)
          refine lv_iinc (v := (x4 + (-1))) (lv' := [(4, .int (x4 + (-1))), (2, .int ((x2 ||| (tr.whyFalse x4.toNatClampNeg)) &&& ((tr.order x4.toNatClampNeg) ^^^ (-1)))), (1, .int ((x1 ||| (tr.whyTrue x4.toNatClampNeg)) &&& ((tr.order x4.toNatClampNeg) ^^^ (-1)))), (5, .int (tr.order x4.toNatClampNeg)), (0, .ref (ad 13)), (3, .int x3)]) hx hb d_Sear_learn_112 hl (k := 5) rfl rfl (by decide) rfl (fun ls hl => ?_)
          refine lv_goto (tgt := 37) hx hb d_Sear_learn_115 (by decide) ?_
          exact ih ((x1 ||| (tr.whyTrue x4.toNatClampNeg)) &&& ((tr.order x4.toNatClampNeg) ^^^ (-1))) ((x2 ||| (tr.whyFalse x4.toNatClampNeg)) &&& ((tr.order x4.toNatClampNeg) ^^^ (-1))) (x4 + (-1)) _ _ _ h (lv_sub hl [4, 2, 1, 5, 0] rfl) hH
set_option maxHeartbeats 4000000 in
set_option maxRecDepth 100000 in
theorem c_Sear_learn (l : Launch) (dC : Nat → ClassId) (dI : Nat → Nat → Nat) (cA : ClassId) (ad : Nat → Nat) (lr : tRows) (se : tSear) (sk : tClash) (sw : (Nat → Int32)) (tr : tTrail) (Q : tRows → tTrail → Prop) (sz : Nat) (h : w_Sear_learn lr sk tr Q) :
    q_Mv l y_Sear_learn b_Sear_learn 6 3 67 [.ref (ad 13)] dC dI cA ([c_LR ad cA lr, c_SE ad cA se sk sw, c_TR ad cA tr].flatten) (fun u : tRows × tTrail => [c_LR ad cA u.1, c_SE ad cA se sk sw, c_TR ad cA u.2].flatten) sz (fun u => Q u.1 u.2) := by
  refine q_metv (plainFor_of_name (by decide +kernel)) (Nat.le_of_ble_eq_true rfl) (fun {p e s m below meth c ls} C0 hl hH => ?_)
  obtain ⟨hx, hb, -⟩ := id C0
  have hA : ∀ q, s.heap.size ≤ q → va_A ([c_LR ad cA lr, c_SE ad cA se sk sw, c_TR ad cA tr].flatten) s.heap.size q := q_nA
  have hl : lv_has ls 6 [(0, .ref (ad 13))] := hl
  unfold w_Sear_learn at h
  refine lv_aload_n hx hb d_Sear_learn_0 rfl (lv_at hl 0 rfl) ?_
  refine q_get (v := .int sk.clashTrue) C0 hH 3 rfl hc_4 5 (by decide) k_135 rfl d_Sear_learn_1 ?_
  refine lv_istore_n (lv' := [(1, .int sk.clashTrue), (0, .ref (ad 13))]) hx hb d_Sear_learn_4 rfl hl (by decide) rfl (fun ls hl => ?_)
  refine lv_aload_n hx hb d_Sear_learn_5 rfl (lv_at hl 1 rfl) ?_
  refine q_get (v := .int sk.clashFalse) C0 hH 3 rfl hc_4 6 (by decide) k_136 rfl d_Sear_learn_6 ?_
  refine lv_istore_n (lv' := [(2, .int sk.clashFalse), (1, .int sk.clashTrue), (0, .ref (ad 13))]) hx hb d_Sear_learn_9 rfl hl (by decide) rfl (fun ls hl => ?_)
  refine lv_aload_n hx hb d_Sear_learn_10 rfl (lv_at hl 2 rfl) ?_
  refine q_get (v := .ref (ad 15)) C0 hH 3 rfl hc_4 2 (by decide) k_132 rfl d_Sear_learn_11 ?_
  refine q_get (v := .ref (ad 19)) C0 hH 5 rfl hc_5 7 (by decide) k_112 rfl d_Sear_learn_14 ?_
  refine lv_aload_n hx hb d_Sear_learn_17 rfl (lv_at hl 2 rfl) ?_
  refine q_get (v := .ref (ad 15)) C0 hH 3 rfl hc_4 2 (by decide) k_132 rfl d_Sear_learn_18 ?_
  refine q_get (v := .int tr.level) C0 hH 5 rfl hc_5 3 (by decide) k_104 rfl d_Sear_learn_21 ?_
  obtain ⟨hi, h⟩ := h
  refine q_ald (f := tr.ahead) C0 hH 9 rfl hi d_Sear_learn_24 ?_
  refine lv_istore_n (lv' := [(3, .int (tr.ahead tr.level.toNatClampNeg)), (2, .int sk.clashFalse), (1, .int sk.clashTrue), (0, .ref (ad 13))]) hx hb d_Sear_learn_25 rfl hl (by decide) rfl (fun ls hl => ?_)
  refine lv_aload_n hx hb d_Sear_learn_26 rfl (lv_at hl 3 rfl) ?_
  refine q_get (v := .ref (ad 15)) C0 hH 3 rfl hc_4 2 (by decide) k_132 rfl d_Sear_learn_27 ?_
  refine q_get (v := .int tr.length) C0 hH 5 rfl hc_5 2 (by decide) k_102 rfl d_Sear_learn_30 ?_
  refine lv_iconst (v := 1) hx hb d_Sear_learn_33 (by decide) ?_
  refine lv_isub hx hb d_Sear_learn_34 ?_
  refine lv_istore (lv' := [(4, .int (tr.length - 1)), (3, .int (tr.ahead tr.level.toNatClampNeg)), (2, .int sk.clashFalse), (1, .int sk.clashTrue), (0, .ref (ad 13))]) hx hb d_Sear_learn_35 hl (by decide) rfl (fun ls hl => ?_)
  obtain ⟨nn, h⟩ := h
  refine x_Sear_learn_L37 C0 hA (tr.ahead tr.level.toNatClampNeg) lr se sk sw tr ?_ nn sk.clashTrue sk.clashFalse (tr.length - 1) _ _ _ h (lv_sub hl [4, 3, 2, 1, 0] rfl) hH
  · intro x1_1 x2_1 H locs ls h hl hH
    try dsimp only at h
    refine lv_aload_n hx hb d_Sear_learn_118 rfl (lv_at hl 0 rfl) ?_
    refine q_get (v := .ref (ad 15)) C0 hH 3 rfl hc_4 2 (by decide) k_132 rfl d_Sear_learn_119 ?_
    refine q_get (v := .ref (ad 19)) C0 hH 5 rfl hc_5 7 (by decide) k_112 rfl d_Sear_learn_122 ?_
    refine lv_iconst (v := 1) hx hb d_Sear_learn_125 (by decide) ?_
    obtain ⟨hi, h⟩ := h
    refine q_ald (f := tr.ahead) C0 hH 9 rfl hi d_Sear_learn_126 ?_
    refine lv_istore (lv' := [(5, .int (tr.ahead (1 : Int32).toNatClampNeg)), (0, .ref (ad 13)), (1, .int x1_1), (2, .int x2_1), (3, .int (tr.ahead tr.level.toNatClampNeg))]) hx hb d_Sear_learn_127 hl (by decide) rfl (fun ls hl => ?_)
    refine lv_iload_n hx hb d_Sear_learn_129 rfl (lv_at hl 2 rfl) ?_
    refine lv_iload hx hb d_Sear_learn_130 (lv_at hl 0 rfl) ?_
    refine lv_iconst (v := (-1)) hx hb d_Sear_learn_132 (by decide) ?_
    refine lv_ixor hx hb d_Sear_learn_133 ?_
    refine lv_iand hx hb d_Sear_learn_134 ?_
    refine lv_istore_n (lv' := [(1, .int (x1_1 &&& ((tr.ahead (1 : Int32).toNatClampNeg) ^^^ (-1)))), (5, .int (tr.ahead (1 : Int32).toNatClampNeg)), (0, .ref (ad 13)), (2, .int x2_1), (3, .int (tr.ahead tr.level.toNatClampNeg))]) hx hb d_Sear_learn_135 rfl hl (by decide) rfl (fun ls hl => ?_)
    refine lv_iload_n hx hb d_Sear_learn_136 rfl (lv_at hl 3 rfl) ?_
    refine lv_iload hx hb d_Sear_learn_137 (lv_at hl 1 rfl) ?_
    refine lv_iconst (v := (-1)) hx hb d_Sear_learn_139 (by decide) ?_
    refine lv_ixor hx hb d_Sear_learn_140 ?_
    refine lv_iand hx hb d_Sear_learn_141 ?_
    refine lv_istore_n (lv' := [(2, .int (x2_1 &&& ((tr.ahead (1 : Int32).toNatClampNeg) ^^^ (-1)))), (1, .int (x1_1 &&& ((tr.ahead (1 : Int32).toNatClampNeg) ^^^ (-1)))), (5, .int (tr.ahead (1 : Int32).toNatClampNeg)), (0, .ref (ad 13)), (3, .int (tr.ahead tr.level.toNatClampNeg))]) hx hb d_Sear_learn_142 rfl hl (by decide) rfl (fun ls hl => ?_)
    refine lv_aload_n hx hb d_Sear_learn_143 rfl (lv_at hl 3 rfl) ?_
    refine q_get (v := .ref (ad 8)) C0 hH 3 rfl hc_4 1 (by decide) k_131 rfl d_Sear_learn_144 ?_
    refine lv_iload_n hx hb d_Sear_learn_147 rfl (lv_at hl 1 rfl) ?_
    refine lv_iload_n hx hb d_Sear_learn_148 rfl (lv_at hl 0 rfl) ?_
    refine q_callv (rest := []) (ws' := fun u : tRows => [c_LR ad cA u, c_SE ad cA se sk sw, c_TR ad cA tr].flatten) C0 hH hA (c_Rows_add_lr l dC dI cA ad (x1_1 &&& ((tr.ahead (1 : Int32).toNatClampNeg) ^^^ (-1))) (x2_1 &&& ((tr.ahead (1 : Int32).toNatClampNeg) ^^^ (-1))) lr _ _ h) Y_Rows_add k_386 0 rfl hc_2 (q_pg [0] [1, 2] [2, 0, 1] 3 1 rfl (by decide) rfl (fun _ => rfl) rfl (by decide) (fun _ => rfl)) ⟨Nat.le_of_ble_eq_true rfl, Nat.le_of_ble_eq_true rfl⟩ rfl rfl (Nat.le_of_ble_eq_true rfl) hl.1 d_Sear_learn_149 ⟨Nat.le_refl 0, Nat.le_refl 0⟩ (fun u_2 H locs h hH => ?_)
    obtain ⟨lr_2, rfl⟩ : ∃ z, z = u_2 := ⟨_, rfl⟩
    try dsimp only at h
    have hH : q_H dC dI (va_A ([c_LR ad cA lr, c_SE ad cA se sk sw, c_TR ad cA tr].flatten) s.heap.size) s.heap H locs ([c_LR ad cA lr_2, c_SE ad cA se sk sw, c_TR ad cA tr].flatten) := hH
    refine lv_aload_n hx hb d_Sear_learn_152 rfl (lv_at hl 3 rfl) ?_
    refine q_get (v := .ref (ad 15)) C0 hH 3 rfl hc_4 2 (by decide) k_132 rfl d_Sear_learn_153 ?_
    refine lv_iload_n hx hb d_Sear_learn_156 rfl (lv_at hl 1 rfl) ?_
    refine lv_iload_n hx hb d_Sear_learn_157 rfl (lv_at hl 0 rfl) ?_
    refine lv_ior hx hb d_Sear_learn_158 ?_
    refine lv_iload_n hx hb d_Sear_learn_159 rfl (lv_at hl 4 rfl) ?_
    refine lv_iconst (v := (-1)) hx hb d_Sear_learn_160 (by decide) ?_
    refine lv_ixor hx hb d_Sear_learn_161 ?_
    refine lv_iand hx hb d_Sear_learn_162 ?_
    refine lv_iload_n hx hb d_Sear_learn_163 rfl (lv_at hl 1 rfl) ?_
    refine lv_iload_n hx hb d_Sear_learn_164 rfl (lv_at hl 0 rfl) ?_
    refine q_callv (rest := []) (ws' := fun u : tTrail => [c_LR ad cA lr_2, c_SE ad cA se sk sw, c_TR ad cA u].flatten) C0 hH hA (c_Trail_revise l dC dI cA ad (((x1_1 &&& ((tr.ahead (1 : Int32).toNatClampNeg) ^^^ (-1))) ||| (x2_1 &&& ((tr.ahead (1 : Int32).toNatClampNeg) ^^^ (-1)))) &&& ((tr.ahead tr.level.toNatClampNeg) ^^^ (-1))) (x1_1 &&& ((tr.ahead (1 : Int32).toNatClampNeg) ^^^ (-1))) (x2_1 &&& ((tr.ahead (1 : Int32).toNatClampNeg) ^^^ (-1))) tr _ _ h) Y_Trail_revise k_387 5 rfl hc_5 (q_pg [2] [0, 1] [0, 1, 2] 3 1 rfl (by decide) rfl (fun _ => rfl) rfl (by decide) (fun _ => rfl)) ⟨Nat.le_of_ble_eq_true rfl, Nat.le_of_ble_eq_true rfl⟩ rfl rfl (Nat.le_of_ble_eq_true rfl) hl.1 d_Sear_learn_165 ⟨Nat.le_refl 0, Nat.le_refl 0⟩ (fun u_3 H locs h hH => ?_)
    obtain ⟨tr_3, rfl⟩ : ∃ z, z = u_3 := ⟨_, rfl⟩
    try dsimp only at h
    have hH : q_H dC dI (va_A ([c_LR ad cA lr, c_SE ad cA se sk sw, c_TR ad cA tr].flatten) s.heap.size) s.heap H locs ([c_LR ad cA lr_2, c_SE ad cA se sk sw, c_TR ad cA tr_3].flatten) := hH
    exact q_retv C0 hH (lr_2, tr_3) rfl h d_Sear_learn_168
theorem d_Trail_suppose_0 : decode b_Trail_suppose 0 = .ok (.aload_n 0, 1) := by decide +kernel
theorem d_Trail_suppose_1 : decode b_Trail_suppose 1 = .ok (.getfield 34, 3) := by decide +kernel
theorem d_Trail_suppose_4 : decode b_Trail_suppose 4 = .ok (.bipush 31, 2) := by decide +kernel
theorem d_Trail_suppose_6 : decode b_Trail_suppose 6 = .ok (.if_icmp .lt 4, 3) := by decide +kernel
theorem d_Trail_suppose_9 : decode b_Trail_suppose 9 = .ok (.return_, 1) := by decide +kernel
theorem d_Trail_suppose_10 : decode b_Trail_suppose 10 = .ok (.aload_n 0, 1) := by decide +kernel
theorem d_Trail_suppose_11 : decode b_Trail_suppose 11 = .ok (.dup, 1) := by decide +kernel
theorem d_Trail_suppose_12 : decode b_Trail_suppose 12 = .ok (.getfield 34, 3) := by decide +kernel
theorem d_Trail_suppose_15 : decode b_Trail_suppose 15 = .ok (.iconst 1, 1) := by decide +kernel
theorem d_Trail_suppose_16 : decode b_Trail_suppose 16 = .ok (.iadd, 1) := by decide +kernel
theorem d_Trail_suppose_17 : decode b_Trail_suppose 17 = .ok (.putfield 34, 3) := by decide +kernel
theorem d_Trail_suppose_20 : decode b_Trail_suppose 20 = .ok (.aload_n 0, 1) := by decide +kernel
theorem d_Trail_suppose_21 : decode b_Trail_suppose 21 = .ok (.getfield 21, 3) := by decide +kernel
theorem d_Trail_suppose_24 : decode b_Trail_suppose 24 = .ok (.aload_n 0, 1) := by decide +kernel
theorem d_Trail_suppose_25 : decode b_Trail_suppose 25 = .ok (.getfield 34, 3) := by decide +kernel
theorem d_Trail_suppose_28 : decode b_Trail_suppose 28 = .ok (.aload_n 0, 1) := by decide +kernel
theorem d_Trail_suppose_29 : decode b_Trail_suppose 29 = .ok (.getfield 24, 3) := by decide +kernel
theorem d_Trail_suppose_32 : decode b_Trail_suppose 32 = .ok (.aload_n 0, 1) := by decide +kernel
theorem d_Trail_suppose_33 : decode b_Trail_suppose 33 = .ok (.getfield 28, 3) := by decide +kernel
theorem d_Trail_suppose_36 : decode b_Trail_suppose 36 = .ok (.ior, 1) := by decide +kernel
theorem d_Trail_suppose_37 : decode b_Trail_suppose 37 = .ok (.iastore, 1) := by decide +kernel
theorem d_Trail_suppose_38 : decode b_Trail_suppose 38 = .ok (.iload_n 1, 1) := by decide +kernel
theorem d_Trail_suppose_39 : decode b_Trail_suppose 39 = .ok (.iload_n 2, 1) := by decide +kernel
theorem d_Trail_suppose_40 : decode b_Trail_suppose 40 = .ok (.ior, 1) := by decide +kernel
theorem d_Trail_suppose_41 : decode b_Trail_suppose 41 = .ok (.aload_n 0, 1) := by decide +kernel
theorem d_Trail_suppose_42 : decode b_Trail_suppose 42 = .ok (.getfield 21, 3) := by decide +kernel
theorem d_Trail_suppose_45 : decode b_Trail_suppose 45 = .ok (.aload_n 0, 1) := by decide +kernel
theorem d_Trail_suppose_46 : decode b_Trail_suppose 46 = .ok (.getfield 34, 3) := by decide +kernel
theorem d_Trail_suppose_49 : decode b_Trail_suppose 49 = .ok (.iaload, 1) := by decide +kernel
theorem d_Trail_suppose_50 : decode b_Trail_suppose 50 = .ok (.iconst (-1), 1) := by decide +kernel
theorem d_Trail_suppose_51 : decode b_Trail_suppose 51 = .ok (.ixor, 1) := by decide +kernel
theorem d_Trail_suppose_52 : decode b_Trail_suppose 52 = .ok (.iand, 1) := by decide +kernel
theorem d_Trail_suppose_53 : decode b_Trail_suppose 53 = .ok (.istore_n 3, 1) := by decide +kernel
theorem d_Trail_suppose_54 : decode b_Trail_suppose 54 = .ok (.iconst 0, 1) := by decide +kernel
theorem d_Trail_suppose_55 : decode b_Trail_suppose 55 = .ok (.istore 4, 2) := by decide +kernel
theorem d_Trail_suppose_57 : decode b_Trail_suppose 57 = .ok (.iload 4, 2) := by decide +kernel
theorem d_Trail_suppose_59 : decode b_Trail_suppose 59 = .ok (.bipush 30, 2) := by decide +kernel
theorem d_Trail_suppose_61 : decode b_Trail_suppose 61 = .ok (.if_icmp .ge 43, 3) := by decide +kernel
theorem d_Trail_suppose_64 : decode b_Trail_suppose 64 = .ok (.iload_n 3, 1) := by decide +kernel
theorem d_Trail_suppose_65 : decode b_Trail_suppose 65 = .ok (.iload 4, 2) := by decide +kernel
theorem d_Trail_suppose_67 : decode b_Trail_suppose 67 = .ok (.ishr, 1) := by decide +kernel
theorem d_Trail_suppose_68 : decode b_Trail_suppose 68 = .ok (.ifCond .eq 36, 3) := by decide +kernel
theorem d_Trail_suppose_71 : decode b_Trail_suppose 71 = .ok (.iload_n 3, 1) := by decide +kernel
theorem d_Trail_suppose_72 : decode b_Trail_suppose 72 = .ok (.iconst 1, 1) := by decide +kernel
theorem d_Trail_suppose_73 : decode b_Trail_suppose 73 = .ok (.iload 4, 2) := by decide +kernel
theorem d_Trail_suppose_75 : decode b_Trail_suppose 75 = .ok (.ishl, 1) := by decide +kernel
theorem d_Trail_suppose_76 : decode b_Trail_suppose 76 = .ok (.iand, 1) := by decide +kernel
theorem d_Trail_suppose_77 : decode b_Trail_suppose 77 = .ok (.istore 5, 2) := by decide +kernel
theorem d_Trail_suppose_79 : decode b_Trail_suppose 79 = .ok (.iload 5, 2) := by decide +kernel
theorem d_Trail_suppose_81 : decode b_Trail_suppose 81 = .ok (.ifCond .eq 17, 3) := by decide +kernel
theorem d_Trail_suppose_84 : decode b_Trail_suppose 84 = .ok (.aload_n 0, 1) := by decide +kernel
theorem d_Trail_suppose_85 : decode b_Trail_suppose 85 = .ok (.iload 5, 2) := by decide +kernel
theorem d_Trail_suppose_87 : decode b_Trail_suppose 87 = .ok (.iload_n 1, 1) := by decide +kernel
theorem d_Trail_suppose_88 : decode b_Trail_suppose 88 = .ok (.iload 5, 2) := by decide +kernel
theorem d_Trail_suppose_90 : decode b_Trail_suppose 90 = .ok (.iand, 1) := by decide +kernel
theorem d_Trail_suppose_91 : decode b_Trail_suppose 91 = .ok (.iload_n 2, 1) := by decide +kernel
theorem d_Trail_suppose_92 : decode b_Trail_suppose 92 = .ok (.iload 5, 2) := by decide +kernel
theorem d_Trail_suppose_94 : decode b_Trail_suppose 94 = .ok (.iand, 1) := by decide +kernel
theorem d_Trail_suppose_95 : decode b_Trail_suppose 95 = .ok (.invokevirtual 37, 3) := by decide +kernel
theorem d_Trail_suppose_98 : decode b_Trail_suppose 98 = .ok (.iinc 4 1, 3) := by decide +kernel
theorem d_Trail_suppose_101 : decode b_Trail_suppose 101 = .ok (.goto (-44), 3) := by decide +kernel
theorem d_Trail_suppose_104 : decode b_Trail_suppose 104 = .ok (.return_, 1) := by decide +kernel
set_option maxHeartbeats 4000000 in
set_option maxRecDepth 100000 in
theorem x_Trail_suppose_L57 {p : Program} {e : Env} {s : State} {m : MethodId} {args : Array Value} {below : List Frame} {meth : Method} {c : Code} {l : Launch} {dC : Nat → ClassId} {dI : Nat → Nat → Nat} {cA : ClassId} {ad : Nat → Nat} {w0 : va_W} (C0 : q_C p s m args meth c b_Trail_suppose 6 none "PlanClauses$Trail" dC dI cA) (hA : ∀ q, s.heap.size ≤ q → va_A w0 s.heap.size q) (x1 : Int32) (x2 : Int32) (x3 : Int32) {Q : tTrail → Prop} {K104 : tTrail → Prop}
    (hK104 : ∀ (tr : tTrail) (H : Heap) (locs : List Loc) (ls : Array Slot), K104 tr → lv_has ls 6 [] → q_H dC dI (va_A w0 s.heap.size) s.heap H locs ([c_TR ad cA tr].flatten) → W p l e (q_R 1 23) s m args below meth c H locs 0 0 (q_Zv below args s dC dI cA w0 (fun u : tTrail => [c_TR ad cA u].flatten) (fun u => Q u)) (F0 m 104 ls [])) :
    ∀ (nn : Nat) (x4 : Int32) (tr : tTrail) (H : Heap) (locs : List Loc) (ls : Array Slot), w_Trail_suppose_L57 x1 x2 x3 K104 nn x4 tr → lv_has ls 6 [(0, .ref (ad 15)), (1, .int x1), (2, .int x2), (3, .int x3), (4, .int x4)] → q_H dC dI (va_A w0 s.heap.size) s.heap H locs ([c_TR ad cA tr].flatten) → W p l e (q_R 1 23) s m args below meth c H locs 0 0 (q_Zv below args s dC dI cA w0 (fun u : tTrail => [c_TR ad cA u].flatten) (fun u => Q u)) (F0 m 57 ls []) := by
  obtain ⟨hx, hb, -⟩ := id C0
  intro nn
  induction nn with
  | zero =>
    intro x4 tr H locs ls h
    exact (show False from h).elim
  | succ nn ih =>
    intro x4 tr H locs ls h hl hH
    rw [w_Trail_suppose_L57] at h
    refine lv_iload hx hb d_Trail_suppose_57 (lv_at hl 4 rfl) ?_
    refine lv_bipush (v := 30) hx hb d_Trail_suppose_59 (by decide) ?_
    refine lv_icmp_ge (tgt := 104) hx hb d_Trail_suppose_61 (by decide) (fun c => ?_) (fun c => ?_)
    · have h := h.1 c
      exact hK104 tr _ _ _ h (lv_sub hl [] rfl) hH
    · have h := h.2 c
      refine lv_iload_n hx hb d_Trail_suppose_64 rfl (lv_at hl 3 rfl) ?_
      refine lv_iload hx hb d_Trail_suppose_65 (lv_at hl 4 rfl) ?_
      refine lv_ishr hx hb d_Trail_suppose_67 ?_
      refine lv_if_eq (tgt := 104) hx hb d_Trail_suppose_68 (by decide) (fun c => ?_) (fun c => ?_)
      · have h := h.1 c
        exact hK104 tr _ _ _ h (lv_sub hl [] rfl) hH
      · have h := h.2 c
        refine lv_iload_n hx hb d_Trail_suppose_71 rfl (lv_at hl 3 rfl) ?_
        refine lv_iconst (v := 1) hx hb d_Trail_suppose_72 (by decide) ?_
        refine lv_iload hx hb d_Trail_suppose_73 (lv_at hl 4 rfl) ?_
        refine lv_ishl hx hb d_Trail_suppose_75 ?_
        refine lv_iand hx hb d_Trail_suppose_76 ?_
        refine lv_istore (lv' := [(5, .int (x3 &&& ((1 : Int32) <<< (x4 &&& 31)))), (0, .ref (ad 15)), (1, .int x1), (2, .int x2), (3, .int x3), (4, .int x4)]) hx hb d_Trail_suppose_77 hl (by decide) rfl (fun ls hl => ?_)
        refine lv_iload hx hb d_Trail_suppose_79 (lv_at hl 0 rfl) ?_
        refine lv_if_eq (tgt := 98) hx hb d_Trail_suppose_81 (by decide) (fun c => ?_) (fun c => ?_)
        · have h := h.1 c
          refine lv_iinc (v := (x4 + 1)) (lv' := [(4, .int (x4 + 1)), (5, .int (x3 &&& ((1 : Int32) <<< (x4 &&& 31)))), (0, .ref (ad 15)), (1, .int x1), (2, .int x2), (3, .int x3)]) hx hb d_Trail_suppose_98 hl (k := 5) rfl rfl (by decide) rfl (fun ls hl => ?_)
          refine lv_goto (tgt := 57) hx hb d_Trail_suppose_101 (by decide) ?_
          exact ih (x4 + 1) tr _ _ _ h (lv_sub hl [2, 3, 4, 5, 0] rfl) hH
        · have h := h.2 c
          refine lv_aload_n hx hb d_Trail_suppose_84 rfl (lv_at hl 1 rfl) ?_
          refine lv_iload hx hb d_Trail_suppose_85 (lv_at hl 0 rfl) ?_
          refine lv_iload_n hx hb d_Trail_suppose_87 rfl (lv_at hl 2 rfl) ?_
          refine lv_iload hx hb d_Trail_suppose_88 (lv_at hl 0 rfl) ?_
          refine lv_iand hx hb d_Trail_suppose_90 ?_
          refine lv_iload_n hx hb d_Trail_suppose_91 rfl (lv_at hl 3 rfl) ?_
          refine lv_iload hx hb d_Trail_suppose_92 (lv_at hl 0 rfl) ?_
          refine lv_iand hx hb d_Trail_suppose_94 ?_
          refine q_callv (rest := []) (ws' := fun u : tTrail => [c_TR ad cA u].flatten) C0 hH hA (c_Trail_conclude l dC dI cA ad (x3 &&& ((1 : Int32) <<< (x4 &&& 31))) (x1 &&& (x3 &&& ((1 : Int32) <<< (x4 &&& 31)))) (x2 &&& (x3 &&& ((1 : Int32) <<< (x4 &&& 31)))) tr _ _ h) Y_Trail_conclude k_392 0 rfl hc_5 (q_pg [0] [] [0] 1 1 rfl (by decide) rfl (fun _ => rfl) rfl (by decide) (fun _ => rfl)) ⟨Nat.le_of_ble_eq_true rfl, Nat.le_of_ble_eq_true rfl⟩ rfl rfl (Nat.le_of_ble_eq_true rfl) hl.1 d_Trail_suppose_95 ⟨Nat.le_refl 0, Nat.le_refl 0⟩ (fun u_1 H locs h hH => ?_)
          obtain ⟨tr_1, rfl⟩ : ∃ z, z = u_1 := ⟨_, rfl⟩
          try dsimp only at h
          have hH : q_H dC dI (va_A w0 s.heap.size) s.heap H locs ([c_TR ad cA tr_1].flatten) := hH
          refine lv_iinc (v := (x4 + 1)) (lv' := [(4, .int (x4 + 1)), (5, .int (x3 &&& ((1 : Int32) <<< (x4 &&& 31)))), (0, .ref (ad 15)), (1, .int x1), (2, .int x2), (3, .int x3)]) hx hb d_Trail_suppose_98 hl (k := 5) rfl rfl (by decide) rfl (fun ls hl => ?_)
          refine lv_goto (tgt := 57) hx hb d_Trail_suppose_101 (by decide) ?_
          exact ih (x4 + 1) tr_1 _ _ _ h (lv_sub hl [2, 3, 4, 5, 0] rfl) hH
set_option maxHeartbeats 4000000 in
set_option maxRecDepth 100000 in
theorem c_Trail_suppose (l : Launch) (dC : Nat → ClassId) (dI : Nat → Nat → Nat) (cA : ClassId) (ad : Nat → Nat) (x1 : Int32) (x2 : Int32) (tr : tTrail) (Q : tTrail → Prop) (sz : Nat) (h : w_Trail_suppose x1 x2 tr Q) :
    q_Mv l y_Trail_suppose b_Trail_suppose 6 1 23 [.ref (ad 15), .int x1, .int x2] dC dI cA ([c_TR ad cA tr].flatten) (fun u : tTrail => [c_TR ad cA u].flatten) sz (fun u => Q u) := by
  refine q_metv (plainFor_of_name (by decide +kernel)) (Nat.le_of_ble_eq_true rfl) (fun {p e s m below meth c ls} C0 hl hH => ?_)
  obtain ⟨hx, hb, -⟩ := id C0
  have hA : ∀ q, s.heap.size ≤ q → va_A ([c_TR ad cA tr].flatten) s.heap.size q := q_nA
  have hl : lv_has ls 6 [(0, .ref (ad 15)), (1, .int x1), (2, .int x2)] := hl
  unfold w_Trail_suppose at h
  refine lv_aload_n hx hb d_Trail_suppose_0 rfl (lv_at hl 0 rfl) ?_
  refine q_get (v := .int tr.level) C0 hH 0 rfl hc_5 3 (by decide) k_103 rfl d_Trail_suppose_1 ?_
  refine lv_bipush (v := 31) hx hb d_Trail_suppose_4 (by decide) ?_
  refine lv_icmp_lt (tgt := 10) hx hb d_Trail_suppose_6 (by decide) (fun c => ?_) (fun c => ?_)
  · have h := h.1 c
    refine lv_aload_n hx hb d_Trail_suppose_10 rfl (lv_at hl 0 rfl) ?_
    refine lv_dup hx hb d_Trail_suppose_11 rfl ?_
    refine q_get (v := .int tr.level) C0 hH 0 rfl hc_5 3 (by decide) k_103 rfl d_Trail_suppose_12 ?_
    refine lv_iconst (v := 1) hx hb d_Trail_suppose_15 (by decide) ?_
    refine lv_iadd hx hb d_Trail_suppose_16 ?_
    refine q_puti (ws' := [c_TR ad cA (tTrail.mk tr.trues tr.falses tr.length (tr.level + 1) tr.order tr.whyTrue tr.whyFalse tr.ahead)].flatten) C0 hH 0 rfl hc_5 3 (by decide) k_103 rfl rfl (Nat.le_of_ble_eq_true rfl) rfl d_Trail_suppose_17 (fun H locs hH => ?_)
    refine lv_aload_n hx hb d_Trail_suppose_20 rfl (lv_at hl 0 rfl) ?_
    refine q_get (v := .ref (ad 19)) C0 hH 0 rfl hc_5 7 (by decide) k_111 rfl d_Trail_suppose_21 ?_
    refine lv_aload_n hx hb d_Trail_suppose_24 rfl (lv_at hl 0 rfl) ?_
    refine q_get (v := .int (tr.level + 1)) C0 hH 0 rfl hc_5 3 (by decide) k_103 rfl d_Trail_suppose_25 ?_
    refine lv_aload_n hx hb d_Trail_suppose_28 rfl (lv_at hl 0 rfl) ?_
    refine q_get (v := .int tr.trues) C0 hH 0 rfl hc_5 0 (by decide) k_97 rfl d_Trail_suppose_29 ?_
    refine lv_aload_n hx hb d_Trail_suppose_32 rfl (lv_at hl 0 rfl) ?_
    refine q_get (v := .int tr.falses) C0 hH 0 rfl hc_5 1 (by decide) k_99 rfl d_Trail_suppose_33 ?_
    refine lv_ior hx hb d_Trail_suppose_36 ?_
    obtain ⟨hi, h⟩ := h
    refine q_ast (ws' := [c_TR ad cA (tTrail.mk tr.trues tr.falses tr.length (tr.level + 1) tr.order tr.whyTrue tr.whyFalse (upd tr.ahead (tr.level + 1).toNatClampNeg (tr.trues ||| tr.falses)))].flatten) (f := tr.ahead) C0 hH 4 rfl hi rfl d_Trail_suppose_37 (fun H locs hH => ?_)
    refine lv_iload_n hx hb d_Trail_suppose_38 rfl (lv_at hl 1 rfl) ?_
    refine lv_iload_n hx hb d_Trail_suppose_39 rfl (lv_at hl 2 rfl) ?_
    refine lv_ior hx hb d_Trail_suppose_40 ?_
    refine lv_aload_n hx hb d_Trail_suppose_41 rfl (lv_at hl 0 rfl) ?_
    refine q_get (v := .ref (ad 19)) C0 hH 0 rfl hc_5 7 (by decide) k_111 rfl d_Trail_suppose_42 ?_
    refine lv_aload_n hx hb d_Trail_suppose_45 rfl (lv_at hl 0 rfl) ?_
    refine q_get (v := .int (tr.level + 1)) C0 hH 0 rfl hc_5 3 (by decide) k_103 rfl d_Trail_suppose_46 ?_
    obtain ⟨hi, h⟩ := h
    refine q_ald (f := (upd tr.ahead (tr.level + 1).toNatClampNeg (tr.trues ||| tr.falses))) C0 hH 4 rfl hi d_Trail_suppose_49 ?_
    refine lv_iconst (v := (-1)) hx hb d_Trail_suppose_50 (by decide) ?_
    refine lv_ixor hx hb d_Trail_suppose_51 ?_
    refine lv_iand hx hb d_Trail_suppose_52 ?_
    refine lv_istore_n (lv' := [(3, .int ((x1 ||| x2) &&& (((upd tr.ahead (tr.level + 1).toNatClampNeg (tr.trues ||| tr.falses)) (tr.level + 1).toNatClampNeg) ^^^ (-1)))), (0, .ref (ad 15)), (1, .int x1), (2, .int x2)]) hx hb d_Trail_suppose_53 rfl hl (by decide) rfl (fun ls hl => ?_)
    refine lv_iconst (v := 0) hx hb d_Trail_suppose_54 (by decide) ?_
    refine lv_istore (lv' := [(4, .int 0), (3, .int ((x1 ||| x2) &&& (((upd tr.ahead (tr.level + 1).toNatClampNeg (tr.trues ||| tr.falses)) (tr.level + 1).toNatClampNeg) ^^^ (-1)))), (0, .ref (ad 15)), (1, .int x1), (2, .int x2)]) hx hb d_Trail_suppose_55 hl (by decide) rfl (fun ls hl => ?_)
    obtain ⟨nn, h⟩ := h
    refine x_Trail_suppose_L57 C0 hA x1 x2 ((x1 ||| x2) &&& (((upd tr.ahead (tr.level + 1).toNatClampNeg (tr.trues ||| tr.falses)) (tr.level + 1).toNatClampNeg) ^^^ (-1))) ?_ nn 0 (tTrail.mk tr.trues tr.falses tr.length (tr.level + 1) tr.order tr.whyTrue tr.whyFalse (upd tr.ahead (tr.level + 1).toNatClampNeg (tr.trues ||| tr.falses))) _ _ _ h (lv_sub hl [2, 3, 4, 1, 0] rfl) hH
    · intro tr_1 H locs ls h hl hH
      try dsimp only at h
      exact q_retv C0 hH tr_1 rfl h d_Trail_suppose_104
  · have h := h.2 c
    exact q_retv C0 hH tr rfl h d_Trail_suppose_9
theorem d_Sear_weigh_0 : decode b_Sear_weigh 0 = .ok (.iconst 1, 1) := by decide +kernel
theorem d_Sear_weigh_1 : decode b_Sear_weigh 1 = .ok (.iconst 2, 1) := by decide +kernel
theorem d_Sear_weigh_2 : decode b_Sear_weigh 2 = .ok (.bipush 6, 2) := by decide +kernel
theorem d_Sear_weigh_4 : decode b_Sear_weigh 4 = .ok (.iload_n 2, 1) := by decide +kernel
theorem d_Sear_weigh_5 : decode b_Sear_weigh 5 = .ok (.invokestatic 141, 3) := by decide +kernel
theorem d_Sear_weigh_8 : decode b_Sear_weigh 8 = .ok (.isub, 1) := by decide +kernel
theorem d_Sear_weigh_9 : decode b_Sear_weigh 9 = .ok (.imul, 1) := by decide +kernel
theorem d_Sear_weigh_10 : decode b_Sear_weigh 10 = .ok (.ishl, 1) := by decide +kernel
theorem d_Sear_weigh_11 : decode b_Sear_weigh 11 = .ok (.istore_n 3, 1) := by decide +kernel
theorem d_Sear_weigh_12 : decode b_Sear_weigh 12 = .ok (.iconst 0, 1) := by decide +kernel
theorem d_Sear_weigh_13 : decode b_Sear_weigh 13 = .ok (.istore 4, 2) := by decide +kernel
theorem d_Sear_weigh_15 : decode b_Sear_weigh 15 = .ok (.iload 4, 2) := by decide +kernel
theorem d_Sear_weigh_17 : decode b_Sear_weigh 17 = .ok (.aload_n 0, 1) := by decide +kernel
theorem d_Sear_weigh_18 : decode b_Sear_weigh 18 = .ok (.getfield 31, 3) := by decide +kernel
theorem d_Sear_weigh_21 : decode b_Sear_weigh 21 = .ok (.getfield 147, 3) := by decide +kernel
theorem d_Sear_weigh_24 : decode b_Sear_weigh 24 = .ok (.iload_n 1, 1) := by decide +kernel
theorem d_Sear_weigh_25 : decode b_Sear_weigh 25 = .ok (.iaload, 1) := by decide +kernel
theorem d_Sear_weigh_26 : decode b_Sear_weigh 26 = .ok (.if_icmp .ge 46, 3) := by decide +kernel
theorem d_Sear_weigh_29 : decode b_Sear_weigh 29 = .ok (.aload_n 0, 1) := by decide +kernel
theorem d_Sear_weigh_30 : decode b_Sear_weigh 30 = .ok (.getfield 31, 3) := by decide +kernel
theorem d_Sear_weigh_33 : decode b_Sear_weigh 33 = .ok (.iload_n 1, 1) := by decide +kernel
theorem d_Sear_weigh_34 : decode b_Sear_weigh 34 = .ok (.iload 4, 2) := by decide +kernel
theorem d_Sear_weigh_36 : decode b_Sear_weigh 36 = .ok (.invokevirtual 150, 3) := by decide +kernel
theorem d_Sear_weigh_39 : decode b_Sear_weigh 39 = .ok (.invokestatic 153, 3) := by decide +kernel
theorem d_Sear_weigh_42 : decode b_Sear_weigh 42 = .ok (.iconst 1, 1) := by decide +kernel
theorem d_Sear_weigh_43 : decode b_Sear_weigh 43 = .ok (.isub, 1) := by decide +kernel
theorem d_Sear_weigh_44 : decode b_Sear_weigh 44 = .ok (.istore 5, 2) := by decide +kernel
theorem d_Sear_weigh_46 : decode b_Sear_weigh 46 = .ok (.iload_n 2, 1) := by decide +kernel
theorem d_Sear_weigh_47 : decode b_Sear_weigh 47 = .ok (.iload 5, 2) := by decide +kernel
theorem d_Sear_weigh_49 : decode b_Sear_weigh 49 = .ok (.ishr, 1) := by decide +kernel
theorem d_Sear_weigh_50 : decode b_Sear_weigh 50 = .ok (.iconst 1, 1) := by decide +kernel
theorem d_Sear_weigh_51 : decode b_Sear_weigh 51 = .ok (.iand, 1) := by decide +kernel
theorem d_Sear_weigh_52 : decode b_Sear_weigh 52 = .ok (.ifCond .eq 14, 3) := by decide +kernel
theorem d_Sear_weigh_55 : decode b_Sear_weigh 55 = .ok (.aload_n 0, 1) := by decide +kernel
theorem d_Sear_weigh_56 : decode b_Sear_weigh 56 = .ok (.getfield 27, 3) := by decide +kernel
theorem d_Sear_weigh_59 : decode b_Sear_weigh 59 = .ok (.iload 5, 2) := by decide +kernel
theorem d_Sear_weigh_61 : decode b_Sear_weigh 61 = .ok (.dup2, 1) := by decide +kernel
theorem d_Sear_weigh_62 : decode b_Sear_weigh 62 = .ok (.iaload, 1) := by decide +kernel
theorem d_Sear_weigh_63 : decode b_Sear_weigh 63 = .ok (.iload_n 3, 1) := by decide +kernel
theorem d_Sear_weigh_64 : decode b_Sear_weigh 64 = .ok (.iadd, 1) := by decide +kernel
theorem d_Sear_weigh_65 : decode b_Sear_weigh 65 = .ok (.iastore, 1) := by decide +kernel
theorem d_Sear_weigh_66 : decode b_Sear_weigh 66 = .ok (.iinc 4 1, 3) := by decide +kernel
theorem d_Sear_weigh_69 : decode b_Sear_weigh 69 = .ok (.goto (-54), 3) := by decide +kernel
theorem d_Sear_weigh_72 : decode b_Sear_weigh 72 = .ok (.return_, 1) := by decide +kernel
set_option maxHeartbeats 4000000 in
set_option maxRecDepth 100000 in
theorem x_Sear_weigh_L15 {p : Program} {e : Env} {s : State} {m : MethodId} {args : Array Value} {below : List Frame} {meth : Method} {c : Code} {l : Launch} {dC : Nat → ClassId} {dI : Nat → Nat → Nat} {cA : ClassId} {ad : Nat → Nat} {w0 : va_W} (C0 : q_C p s m args meth c b_Sear_weigh 6 none "PlanClauses$Search" dC dI cA) (hA : ∀ q, s.heap.size ≤ q → va_A w0 s.heap.size q) (x1 : Int32) (x2 : Int32) (x3 : Int32) (fo : tForm) (fr : tRows) (se : tSear) (sk : tClash) {Q : (Nat → Int32) → Prop} {K72 : (Nat → Int32) → Prop}
    (hK72 : ∀ (sw : (Nat → Int32)) (H : Heap) (locs : List Loc) (ls : Array Slot), K72 sw → lv_has ls 6 [] → q_H dC dI (va_A w0 s.heap.size) s.heap H locs ([c_FO ad cA fo, c_FR ad cA fr, c_SE ad cA se sk sw].flatten) → W p l e (q_R 1 22) s m args below meth c H locs 0 0 (q_Zv below args s dC dI cA w0 (fun u : (Nat → Int32) => [c_FO ad cA fo, c_FR ad cA fr, c_SE ad cA se sk u].flatten) (fun u => Q u)) (F0 m 72 ls [])) :
    ∀ (nn : Nat) (x4 : Int32) (sw : (Nat → Int32)) (H : Heap) (locs : List Loc) (ls : Array Slot), w_Sear_weigh_L15 x1 x2 x3 fo fr K72 nn x4 sw → lv_has ls 6 [(0, .ref (ad 13)), (1, .int x1), (2, .int x2), (3, .int x3), (4, .int x4)] → q_H dC dI (va_A w0 s.heap.size) s.heap H locs ([c_FO ad cA fo, c_FR ad cA fr, c_SE ad cA se sk sw].flatten) → W p l e (q_R 1 22) s m args below meth c H locs 0 0 (q_Zv below args s dC dI cA w0 (fun u : (Nat → Int32) => [c_FO ad cA fo, c_FR ad cA fr, c_SE ad cA se sk u].flatten) (fun u => Q u)) (F0 m 15 ls []) := by
  obtain ⟨hx, hb, -⟩ := id C0
  intro nn
  induction nn with
  | zero =>
    intro x4 sw H locs ls h
    exact (show False from h).elim
  | succ nn ih =>
    intro x4 sw H locs ls h hl hH
    rw [w_Sear_weigh_L15] at h
    refine lv_iload hx hb d_Sear_weigh_15 (lv_at hl 4 rfl) ?_
    refine lv_aload_n hx hb d_Sear_weigh_17 rfl (lv_at hl 0 rfl) ?_
    refine q_get (v := .ref (ad 1)) C0 hH 7 rfl hc_4 0 (by decide) k_130 rfl d_Sear_weigh_18 ?_
    refine q_get (v := .ref (ad 4)) C0 hH 0 rfl hc_1 4 (by decide) k_59 rfl d_Sear_weigh_21 ?_
    refine lv_iload_n hx hb d_Sear_weigh_24 rfl (lv_at hl 1 rfl) ?_
    obtain ⟨hi, h⟩ := h
    refine q_ald (f := fo.sizes) C0 hH 3 rfl hi d_Sear_weigh_25 ?_
    refine lv_icmp_ge (tgt := 72) hx hb d_Sear_weigh_26 (by decide) (fun c => ?_) (fun c => ?_)
    · have h := h.1 c
      exact hK72 sw _ _ _ h (lv_sub hl [] rfl) hH
    · have h := h.2 c
      refine lv_aload_n hx hb d_Sear_weigh_29 rfl (lv_at hl 0 rfl) ?_
      refine q_get (v := .ref (ad 1)) C0 hH 7 rfl hc_4 0 (by decide) k_130 rfl d_Sear_weigh_30 ?_
      refine lv_iload_n hx hb d_Sear_weigh_33 rfl (lv_at hl 1 rfl) ?_
      refine lv_iload hx hb d_Sear_weigh_34 (lv_at hl 4 rfl) ?_
      refine q_calli (rest := []) (ws' := fun _ : Unit => [c_FO ad cA fo, c_FR ad cA fr, c_SE ad cA se sk sw].flatten) C0 hH hA (c_Form_literalOf l dC dI cA ad x1 x4 fo fr _ _ h) Y_Form_literalOf k_406 0 rfl hc_1 (q_pg [0, 1] [2] [1, 2, 0] 3 2 rfl (by decide) rfl (fun _ => rfl) rfl (by decide) (fun _ => rfl)) ⟨Nat.le_of_ble_eq_true rfl, Nat.le_of_ble_eq_true rfl⟩ rfl rfl (Nat.le_of_ble_eq_true rfl) hl.1 d_Sear_weigh_36 ⟨Nat.le_refl 0, Nat.le_refl 0⟩ (fun r_1 u_1 H locs h hH => ?_)
      try dsimp only at h
      have hH : q_H dC dI (va_A w0 s.heap.size) s.heap H locs ([c_FO ad cA fo, c_FR ad cA fr, c_SE ad cA se sk sw].flatten) := hH
      refine q_calls (rest := []) C0 hH hA (c_Math_abs l dC dI cA ad r_1 _ _ h) Y_Math_abs k_407 ⟨Nat.le_of_ble_eq_true rfl, Nat.le_of_ble_eq_true rfl⟩ rfl rfl (Nat.le_of_ble_eq_true rfl) hl.1 d_Sear_weigh_39 ⟨Nat.le_refl 0, Nat.le_refl 0⟩ (fun r_2 H locs h hH => ?_)
      try dsimp only at h
      refine lv_iconst (v := 1) hx hb d_Sear_weigh_42 (by decide) ?_
      refine lv_isub hx hb d_Sear_weigh_43 ?_
      refine lv_istore (lv' := [(5, .int (r_2 - 1)), (0, .ref (ad 13)), (1, .int x1), (2, .int x2), (3, .int x3), (4, .int x4)]) hx hb d_Sear_weigh_44 hl (by decide) rfl (fun ls hl => ?_)
      refine lv_iload_n hx hb d_Sear_weigh_46 rfl (lv_at hl 3 rfl) ?_
      refine lv_iload hx hb d_Sear_weigh_47 (lv_at hl 0 rfl) ?_
      refine lv_ishr hx hb d_Sear_weigh_49 ?_
      refine lv_iconst (v := 1) hx hb d_Sear_weigh_50 (by decide) ?_
      refine lv_iand hx hb d_Sear_weigh_51 ?_
      refine lv_if_eq (tgt := 66) hx hb d_Sear_weigh_52 (by decide) (fun c => ?_) (fun c => ?_)
      · have h := h.1 c
        refine lv_iinc (v := (x4 + 1)) (lv' := [(4, .int (x4 + 1)), (5, .int (r_2 - 1)), (0, .ref (ad 13)), (1, .int x1), (2, .int x2), (3, .int x3)]) hx hb d_Sear_weigh_66 hl (k := 5) rfl rfl (by decide) rfl (fun ls hl => ?_)
        refine lv_goto (tgt := 15) hx hb d_Sear_weigh_69 (by decide) ?_
        exact ih (x4 + 1) sw _ _ _ h (lv_sub hl [2, 3, 4, 5, 0] rfl) hH
      · have h := h.2 c
        refine lv_aload_n hx hb d_Sear_weigh_55 rfl (lv_at hl 1 rfl) ?_
        refine q_get (v := .ref (ad 14)) C0 hH 7 rfl hc_4 3 (by decide) k_133 rfl d_Sear_weigh_56 ?_
        refine lv_iload hx hb d_Sear_weigh_59 (lv_at hl 0 rfl) ?_
        refine lv_dup2_11 hx hb d_Sear_weigh_61 rfl rfl ?_
        obtain ⟨hi, h⟩ := h
        refine q_ald (f := sw) C0 hH 8 rfl hi d_Sear_weigh_62 ?_
        refine lv_iload_n hx hb d_Sear_weigh_63 rfl (lv_at hl 4 rfl) ?_
        refine lv_iadd hx hb d_Sear_weigh_64 ?_
        obtain ⟨hi, h⟩ := h
        refine q_ast (ws' := [c_FO ad cA fo, c_FR ad cA fr, c_SE ad cA se sk (upd sw (r_2 - 1).toNatClampNeg ((sw (r_2 - 1).toNatClampNeg) + x3))].flatten) (f := sw) C0 hH 8 rfl hi rfl d_Sear_weigh_65 (fun H locs hH => ?_)
        refine lv_iinc (v := (x4 + 1)) (lv' := [(4, .int (x4 + 1)), (5, .int (r_2 - 1)), (0, .ref (ad 13)), (1, .int x1), (2, .int x2), (3, .int x3)]) hx hb d_Sear_weigh_66 hl (k := 5) rfl rfl (by decide) rfl (fun ls hl => ?_)
        refine lv_goto (tgt := 15) hx hb d_Sear_weigh_69 (by decide) ?_
        exact ih (x4 + 1) (upd sw (r_2 - 1).toNatClampNeg ((sw (r_2 - 1).toNatClampNeg) + x3)) _ _ _ h (lv_sub hl [2, 3, 4, 5, 0] rfl) hH
set_option maxHeartbeats 4000000 in
set_option maxRecDepth 100000 in
theorem c_Sear_weigh (l : Launch) (dC : Nat → ClassId) (dI : Nat → Nat → Nat) (cA : ClassId) (ad : Nat → Nat) (x1 : Int32) (x2 : Int32) (fo : tForm) (fr : tRows) (se : tSear) (sk : tClash) (sw : (Nat → Int32)) (Q : (Nat → Int32) → Prop) (sz : Nat) (h : w_Sear_weigh x1 x2 fo fr sw Q) :
    q_Mv l y_Sear_weigh b_Sear_weigh 6 1 22 [.ref (ad 13), .int x1, .int x2] dC dI cA ([c_FO ad cA fo, c_FR ad cA fr, c_SE ad cA se sk sw].flatten) (fun u : (Nat → Int32) => [c_FO ad cA fo, c_FR ad cA fr, c_SE ad cA se sk u].flatten) sz (fun u => Q u) := by
  refine q_metv (plainFor_of_name (by decide +kernel)) (Nat.le_of_ble_eq_true rfl) (fun {p e s m below meth c ls} C0 hl hH => ?_)
  obtain ⟨hx, hb, -⟩ := id C0
  have hA : ∀ q, s.heap.size ≤ q → va_A ([c_FO ad cA fo, c_FR ad cA fr, c_SE ad cA se sk sw].flatten) s.heap.size q := q_nA
  have hl : lv_has ls 6 [(0, .ref (ad 13)), (1, .int x1), (2, .int x2)] := hl
  unfold w_Sear_weigh at h
  refine lv_iconst (v := 1) hx hb d_Sear_weigh_0 (by decide) ?_
  refine lv_iconst (v := 2) hx hb d_Sear_weigh_1 (by decide) ?_
  refine lv_bipush (v := 6) hx hb d_Sear_weigh_2 (by decide) ?_
  refine lv_iload_n hx hb d_Sear_weigh_4 rfl (lv_at hl 2 rfl) ?_
  refine q_calls (rest := [.int 6, .int 2, .int 1]) C0 hH hA (c_Int_bitCount l dC dI cA ad x2 _ _ h) Y_Int_bitCount k_405 ⟨Nat.le_of_ble_eq_true rfl, Nat.le_of_ble_eq_true rfl⟩ rfl rfl (Nat.le_of_ble_eq_true rfl) hl.1 d_Sear_weigh_5 ⟨Nat.le_refl 0, Nat.le_refl 0⟩ (fun r_1 H locs h hH => ?_)
  try dsimp only at h
  refine lv_isub hx hb d_Sear_weigh_8 ?_
  refine lv_imul hx hb d_Sear_weigh_9 ?_
  refine lv_ishl hx hb d_Sear_weigh_10 ?_
  refine lv_istore_n (lv' := [(3, .int ((1 : Int32) <<< ((2 * (6 - r_1)) &&& 31))), (0, .ref (ad 13)), (1, .int x1), (2, .int x2)]) hx hb d_Sear_weigh_11 rfl hl (by decide) rfl (fun ls hl => ?_)
  refine lv_iconst (v := 0) hx hb d_Sear_weigh_12 (by decide) ?_
  refine lv_istore (lv' := [(4, .int 0), (3, .int ((1 : Int32) <<< ((2 * (6 - r_1)) &&& 31))), (0, .ref (ad 13)), (1, .int x1), (2, .int x2)]) hx hb d_Sear_weigh_13 hl (by decide) rfl (fun ls hl => ?_)
  obtain ⟨nn, h⟩ := h
  refine x_Sear_weigh_L15 C0 hA x1 x2 ((1 : Int32) <<< ((2 * (6 - r_1)) &&& 31)) fo fr se sk ?_ nn 0 sw _ _ _ h (lv_sub hl [2, 3, 4, 1, 0] rfl) hH
  · intro sw_2 H locs ls h hl hH
    try dsimp only at h
    exact q_retv C0 hH sw_2 rfl h d_Sear_weigh_72
