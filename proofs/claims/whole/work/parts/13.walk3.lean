theorem d_Int_numberOfTrailingZeros_0 : decode b_Int_numberOfTrailingZeros 0 = .ok (.iload_n 0, 1) := by decide +kernel
theorem d_Int_numberOfTrailingZeros_1 : decode b_Int_numberOfTrailingZeros 1 = .ok (.iconst (-1), 1) := by decide +kernel
theorem d_Int_numberOfTrailingZeros_2 : decode b_Int_numberOfTrailingZeros 2 = .ok (.ixor, 1) := by decide +kernel
theorem d_Int_numberOfTrailingZeros_3 : decode b_Int_numberOfTrailingZeros 3 = .ok (.iload_n 0, 1) := by decide +kernel
theorem d_Int_numberOfTrailingZeros_4 : decode b_Int_numberOfTrailingZeros 4 = .ok (.iconst 1, 1) := by decide +kernel
theorem d_Int_numberOfTrailingZeros_5 : decode b_Int_numberOfTrailingZeros 5 = .ok (.isub, 1) := by decide +kernel
theorem d_Int_numberOfTrailingZeros_6 : decode b_Int_numberOfTrailingZeros 6 = .ok (.iand, 1) := by decide +kernel
theorem d_Int_numberOfTrailingZeros_7 : decode b_Int_numberOfTrailingZeros 7 = .ok (.istore_n 0, 1) := by decide +kernel
theorem d_Int_numberOfTrailingZeros_8 : decode b_Int_numberOfTrailingZeros 8 = .ok (.iload_n 0, 1) := by decide +kernel
theorem d_Int_numberOfTrailingZeros_9 : decode b_Int_numberOfTrailingZeros 9 = .ok (.ifCond .gt 8, 3) := by decide +kernel
theorem d_Int_numberOfTrailingZeros_12 : decode b_Int_numberOfTrailingZeros 12 = .ok (.iload_n 0, 1) := by decide +kernel
theorem d_Int_numberOfTrailingZeros_13 : decode b_Int_numberOfTrailingZeros 13 = .ok (.bipush 32, 2) := by decide +kernel
theorem d_Int_numberOfTrailingZeros_15 : decode b_Int_numberOfTrailingZeros 15 = .ok (.iand, 1) := by decide +kernel
theorem d_Int_numberOfTrailingZeros_16 : decode b_Int_numberOfTrailingZeros 16 = .ok (.ireturn, 1) := by decide +kernel
theorem d_Int_numberOfTrailingZeros_17 : decode b_Int_numberOfTrailingZeros 17 = .ok (.iconst 1, 1) := by decide +kernel
theorem d_Int_numberOfTrailingZeros_18 : decode b_Int_numberOfTrailingZeros 18 = .ok (.istore_n 1, 1) := by decide +kernel
theorem d_Int_numberOfTrailingZeros_19 : decode b_Int_numberOfTrailingZeros 19 = .ok (.iload_n 0, 1) := by decide +kernel
theorem d_Int_numberOfTrailingZeros_20 : decode b_Int_numberOfTrailingZeros 20 = .ok (.ldc_w 264, 3) := by decide +kernel
theorem d_Int_numberOfTrailingZeros_23 : decode b_Int_numberOfTrailingZeros 23 = .ok (.if_icmp .le 11, 3) := by decide +kernel
theorem d_Int_numberOfTrailingZeros_26 : decode b_Int_numberOfTrailingZeros 26 = .ok (.iinc 1 16, 3) := by decide +kernel
theorem d_Int_numberOfTrailingZeros_29 : decode b_Int_numberOfTrailingZeros 29 = .ok (.iload_n 0, 1) := by decide +kernel
theorem d_Int_numberOfTrailingZeros_30 : decode b_Int_numberOfTrailingZeros 30 = .ok (.bipush 16, 2) := by decide +kernel
theorem d_Int_numberOfTrailingZeros_32 : decode b_Int_numberOfTrailingZeros 32 = .ok (.iushr, 1) := by decide +kernel
theorem d_Int_numberOfTrailingZeros_33 : decode b_Int_numberOfTrailingZeros 33 = .ok (.istore_n 0, 1) := by decide +kernel
theorem d_Int_numberOfTrailingZeros_34 : decode b_Int_numberOfTrailingZeros 34 = .ok (.iload_n 0, 1) := by decide +kernel
theorem d_Int_numberOfTrailingZeros_35 : decode b_Int_numberOfTrailingZeros 35 = .ok (.sipush 256, 3) := by decide +kernel
theorem d_Int_numberOfTrailingZeros_38 : decode b_Int_numberOfTrailingZeros 38 = .ok (.if_icmp .le 11, 3) := by decide +kernel
theorem d_Int_numberOfTrailingZeros_41 : decode b_Int_numberOfTrailingZeros 41 = .ok (.iinc 1 8, 3) := by decide +kernel
theorem d_Int_numberOfTrailingZeros_44 : decode b_Int_numberOfTrailingZeros 44 = .ok (.iload_n 0, 1) := by decide +kernel
theorem d_Int_numberOfTrailingZeros_45 : decode b_Int_numberOfTrailingZeros 45 = .ok (.bipush 8, 2) := by decide +kernel
theorem d_Int_numberOfTrailingZeros_47 : decode b_Int_numberOfTrailingZeros 47 = .ok (.iushr, 1) := by decide +kernel
theorem d_Int_numberOfTrailingZeros_48 : decode b_Int_numberOfTrailingZeros 48 = .ok (.istore_n 0, 1) := by decide +kernel
theorem d_Int_numberOfTrailingZeros_49 : decode b_Int_numberOfTrailingZeros 49 = .ok (.iload_n 0, 1) := by decide +kernel
theorem d_Int_numberOfTrailingZeros_50 : decode b_Int_numberOfTrailingZeros 50 = .ok (.bipush 16, 2) := by decide +kernel
theorem d_Int_numberOfTrailingZeros_52 : decode b_Int_numberOfTrailingZeros 52 = .ok (.if_icmp .le 10, 3) := by decide +kernel
theorem d_Int_numberOfTrailingZeros_55 : decode b_Int_numberOfTrailingZeros 55 = .ok (.iinc 1 4, 3) := by decide +kernel
theorem d_Int_numberOfTrailingZeros_58 : decode b_Int_numberOfTrailingZeros 58 = .ok (.iload_n 0, 1) := by decide +kernel
theorem d_Int_numberOfTrailingZeros_59 : decode b_Int_numberOfTrailingZeros 59 = .ok (.iconst 4, 1) := by decide +kernel
theorem d_Int_numberOfTrailingZeros_60 : decode b_Int_numberOfTrailingZeros 60 = .ok (.iushr, 1) := by decide +kernel
theorem d_Int_numberOfTrailingZeros_61 : decode b_Int_numberOfTrailingZeros 61 = .ok (.istore_n 0, 1) := by decide +kernel
theorem d_Int_numberOfTrailingZeros_62 : decode b_Int_numberOfTrailingZeros 62 = .ok (.iload_n 0, 1) := by decide +kernel
theorem d_Int_numberOfTrailingZeros_63 : decode b_Int_numberOfTrailingZeros 63 = .ok (.iconst 4, 1) := by decide +kernel
theorem d_Int_numberOfTrailingZeros_64 : decode b_Int_numberOfTrailingZeros 64 = .ok (.if_icmp .le 10, 3) := by decide +kernel
theorem d_Int_numberOfTrailingZeros_67 : decode b_Int_numberOfTrailingZeros 67 = .ok (.iinc 1 2, 3) := by decide +kernel
theorem d_Int_numberOfTrailingZeros_70 : decode b_Int_numberOfTrailingZeros 70 = .ok (.iload_n 0, 1) := by decide +kernel
theorem d_Int_numberOfTrailingZeros_71 : decode b_Int_numberOfTrailingZeros 71 = .ok (.iconst 2, 1) := by decide +kernel
theorem d_Int_numberOfTrailingZeros_72 : decode b_Int_numberOfTrailingZeros 72 = .ok (.iushr, 1) := by decide +kernel
theorem d_Int_numberOfTrailingZeros_73 : decode b_Int_numberOfTrailingZeros 73 = .ok (.istore_n 0, 1) := by decide +kernel
theorem d_Int_numberOfTrailingZeros_74 : decode b_Int_numberOfTrailingZeros 74 = .ok (.iload_n 1, 1) := by decide +kernel
theorem d_Int_numberOfTrailingZeros_75 : decode b_Int_numberOfTrailingZeros 75 = .ok (.iload_n 0, 1) := by decide +kernel
theorem d_Int_numberOfTrailingZeros_76 : decode b_Int_numberOfTrailingZeros 76 = .ok (.iconst 1, 1) := by decide +kernel
theorem d_Int_numberOfTrailingZeros_77 : decode b_Int_numberOfTrailingZeros 77 = .ok (.iushr, 1) := by decide +kernel
theorem d_Int_numberOfTrailingZeros_78 : decode b_Int_numberOfTrailingZeros 78 = .ok (.iadd, 1) := by decide +kernel
theorem d_Int_numberOfTrailingZeros_79 : decode b_Int_numberOfTrailingZeros 79 = .ok (.ireturn, 1) := by decide +kernel
set_option maxHeartbeats 4000000 in
set_option maxRecDepth 100000 in
theorem c_Int_numberOfTrailingZeros (l : Launch) (dC : Nat → ClassId) (dI : Nat → Nat → Nat) (cA : ClassId) (ad : Nat → Nat) (x0 : Int32) (Q : Int32 → Prop) (sz : Nat) (h : w_Int_numberOfTrailingZeros x0 Q) :
    q_Mi l y_Int_numberOfTrailingZeros b_Int_numberOfTrailingZeros 2 (some .int) 0 0 [.int x0] dC dI cA ([]) (fun _ : Unit => []) sz (fun r _ => Q r) := by
  refine q_meti (by decide +kernel) (Nat.le_of_ble_eq_true rfl) (fun {p e s m below meth c ls} C0 hl hH => ?_)
  obtain ⟨hx, hb, -⟩ := id C0
  have hA : ∀ q, s.heap.size ≤ q → va_A ([]) s.heap.size q := q_nA
  have hl : lv_has ls 2 [(0, .int x0)] := hl
  unfold w_Int_numberOfTrailingZeros at h
  refine lv_iload_n hx hb d_Int_numberOfTrailingZeros_0 rfl (lv_at hl 0 rfl) ?_
  refine lv_iconst (v := (-1)) hx hb d_Int_numberOfTrailingZeros_1 (by decide) ?_
  refine lv_ixor hx hb d_Int_numberOfTrailingZeros_2 ?_
  refine lv_iload_n hx hb d_Int_numberOfTrailingZeros_3 rfl (lv_at hl 0 rfl) ?_
  refine lv_iconst (v := 1) hx hb d_Int_numberOfTrailingZeros_4 (by decide) ?_
  refine lv_isub hx hb d_Int_numberOfTrailingZeros_5 ?_
  refine lv_iand hx hb d_Int_numberOfTrailingZeros_6 ?_
  refine lv_istore_n (lv' := [(0, .int ((x0 ^^^ (-1)) &&& (x0 - 1)))]) hx hb d_Int_numberOfTrailingZeros_7 rfl hl (by decide) rfl (fun ls hl => ?_)
  refine lv_iload_n hx hb d_Int_numberOfTrailingZeros_8 rfl (lv_at hl 0 rfl) ?_
  refine lv_if_gt (tgt := 17) hx hb d_Int_numberOfTrailingZeros_9 (by decide) (fun c => ?_) (fun c => ?_)
  · have h := h.1 c
    refine lv_iconst (v := 1) hx hb d_Int_numberOfTrailingZeros_17 (by decide) ?_
    refine lv_istore_n (lv' := [(1, .int 1), (0, .int ((x0 ^^^ (-1)) &&& (x0 - 1)))]) hx hb d_Int_numberOfTrailingZeros_18 rfl hl (by decide) rfl (fun ls hl => ?_)
    refine lv_iload_n hx hb d_Int_numberOfTrailingZeros_19 rfl (lv_at hl 1 rfl) ?_
    refine lv_ldcw (v := 65536) hx hb C0.2.2.2.1 (q_hts C0 k_434) d_Int_numberOfTrailingZeros_20 ?_
    refine lv_icmp_le (tgt := 34) hx hb d_Int_numberOfTrailingZeros_23 (by decide) (fun c => ?_) (fun c => ?_)
    · have h := h.1 c
      refine lv_iload_n hx hb d_Int_numberOfTrailingZeros_34 rfl (lv_at hl 1 rfl) ?_
      refine lv_sipush (v := 256) hx hb d_Int_numberOfTrailingZeros_35 (by decide) ?_
      refine lv_icmp_le (tgt := 49) hx hb d_Int_numberOfTrailingZeros_38 (by decide) (fun c => ?_) (fun c => ?_)
      · have h := h.1 c
        refine lv_iload_n hx hb d_Int_numberOfTrailingZeros_49 rfl (lv_at hl 1 rfl) ?_
        refine lv_bipush (v := 16) hx hb d_Int_numberOfTrailingZeros_50 (by decide) ?_
        refine lv_icmp_le (tgt := 62) hx hb d_Int_numberOfTrailingZeros_52 (by decide) (fun c => ?_) (fun c => ?_)
        · have h := h.1 c
          refine lv_iload_n hx hb d_Int_numberOfTrailingZeros_62 rfl (lv_at hl 1 rfl) ?_
          refine lv_iconst (v := 4) hx hb d_Int_numberOfTrailingZeros_63 (by decide) ?_
          refine lv_icmp_le (tgt := 74) hx hb d_Int_numberOfTrailingZeros_64 (by decide) (fun c => ?_) (fun c => ?_)
          · have h := h.1 c
            refine lv_iload_n hx hb d_Int_numberOfTrailingZeros_74 rfl (lv_at hl 0 rfl) ?_
            refine lv_iload_n hx hb d_Int_numberOfTrailingZeros_75 rfl (lv_at hl 1 rfl) ?_
            refine lv_iconst (v := 1) hx hb d_Int_numberOfTrailingZeros_76 (by decide) ?_
            refine lv_iushr (v := (q_ushr ((x0 ^^^ (-1)) &&& (x0 - 1)) (1 : Int32))) hx hb d_Int_numberOfTrailingZeros_77 rfl ?_
            refine lv_iadd hx hb d_Int_numberOfTrailingZeros_78 ?_
            exact q_reti C0 hH () rfl h d_Int_numberOfTrailingZeros_79
          · have h := h.2 c
            refine lv_iinc (v := (1 + 2)) (lv' := [(1, .int (1 + 2)), (0, .int ((x0 ^^^ (-1)) &&& (x0 - 1)))]) hx hb d_Int_numberOfTrailingZeros_67 hl (k := 0) rfl rfl (by decide) rfl (fun ls hl => ?_)
            refine lv_iload_n hx hb d_Int_numberOfTrailingZeros_70 rfl (lv_at hl 1 rfl) ?_
            refine lv_iconst (v := 2) hx hb d_Int_numberOfTrailingZeros_71 (by decide) ?_
            refine lv_iushr (v := (q_ushr ((x0 ^^^ (-1)) &&& (x0 - 1)) (2 : Int32))) hx hb d_Int_numberOfTrailingZeros_72 rfl ?_
            refine lv_istore_n (lv' := [(0, .int (q_ushr ((x0 ^^^ (-1)) &&& (x0 - 1)) (2 : Int32))), (1, .int (1 + 2))]) hx hb d_Int_numberOfTrailingZeros_73 rfl hl (by decide) rfl (fun ls hl => ?_)
            refine lv_iload_n hx hb d_Int_numberOfTrailingZeros_74 rfl (lv_at hl 1 rfl) ?_
            refine lv_iload_n hx hb d_Int_numberOfTrailingZeros_75 rfl (lv_at hl 0 rfl) ?_
            refine lv_iconst (v := 1) hx hb d_Int_numberOfTrailingZeros_76 (by decide) ?_
            refine lv_iushr (v := (q_ushr (q_ushr ((x0 ^^^ (-1)) &&& (x0 - 1)) (2 : Int32)) (1 : Int32))) hx hb d_Int_numberOfTrailingZeros_77 rfl ?_
            refine lv_iadd hx hb d_Int_numberOfTrailingZeros_78 ?_
            exact q_reti C0 hH () rfl h d_Int_numberOfTrailingZeros_79
        · have h := h.2 c
          refine lv_iinc (v := (1 + 4)) (lv' := [(1, .int (1 + 4)), (0, .int ((x0 ^^^ (-1)) &&& (x0 - 1)))]) hx hb d_Int_numberOfTrailingZeros_55 hl (k := 0) rfl rfl (by decide) rfl (fun ls hl => ?_)
          refine lv_iload_n hx hb d_Int_numberOfTrailingZeros_58 rfl (lv_at hl 1 rfl) ?_
          refine lv_iconst (v := 4) hx hb d_Int_numberOfTrailingZeros_59 (by decide) ?_
          refine lv_iushr (v := (q_ushr ((x0 ^^^ (-1)) &&& (x0 - 1)) (4 : Int32))) hx hb d_Int_numberOfTrailingZeros_60 rfl ?_
          refine lv_istore_n (lv' := [(0, .int (q_ushr ((x0 ^^^ (-1)) &&& (x0 - 1)) (4 : Int32))), (1, .int (1 + 4))]) hx hb d_Int_numberOfTrailingZeros_61 rfl hl (by decide) rfl (fun ls hl => ?_)
          refine lv_iload_n hx hb d_Int_numberOfTrailingZeros_62 rfl (lv_at hl 0 rfl) ?_
          refine lv_iconst (v := 4) hx hb d_Int_numberOfTrailingZeros_63 (by decide) ?_
          refine lv_icmp_le (tgt := 74) hx hb d_Int_numberOfTrailingZeros_64 (by decide) (fun c => ?_) (fun c => ?_)
          · have h := h.1 c
            refine lv_iload_n hx hb d_Int_numberOfTrailingZeros_74 rfl (lv_at hl 1 rfl) ?_
            refine lv_iload_n hx hb d_Int_numberOfTrailingZeros_75 rfl (lv_at hl 0 rfl) ?_
            refine lv_iconst (v := 1) hx hb d_Int_numberOfTrailingZeros_76 (by decide) ?_
            refine lv_iushr (v := (q_ushr (q_ushr ((x0 ^^^ (-1)) &&& (x0 - 1)) (4 : Int32)) (1 : Int32))) hx hb d_Int_numberOfTrailingZeros_77 rfl ?_
            refine lv_iadd hx hb d_Int_numberOfTrailingZeros_78 ?_
            exact q_reti C0 hH () rfl h d_Int_numberOfTrailingZeros_79
          · have h := h.2 c
            refine lv_iinc (v := ((1 + 4) + 2)) (lv' := [(1, .int ((1 + 4) + 2)), (0, .int (q_ushr ((x0 ^^^ (-1)) &&& (x0 - 1)) (4 : Int32)))]) hx hb d_Int_numberOfTrailingZeros_67 hl (k := 1) rfl rfl (by decide) rfl (fun ls hl => ?_)
            refine lv_iload_n hx hb d_Int_numberOfTrailingZeros_70 rfl (lv_at hl 1 rfl) ?_
            refine lv_iconst (v := 2) hx hb d_Int_numberOfTrailingZeros_71 (by decide) ?_
            refine lv_iushr (v := (q_ushr (q_ushr ((x0 ^^^ (-1)) &&& (x0 - 1)) (4 : Int32)) (2 : Int32))) hx hb d_Int_numberOfTrailingZeros_72 rfl ?_
            refine lv_istore_n (lv' := [(0, .int (q_ushr (q_ushr ((x0 ^^^ (-1)) &&& (x0 - 1)) (4 : Int32)) (2 : Int32))), (1, .int ((1 + 4) + 2))]) hx hb d_Int_numberOfTrailingZeros_73 rfl hl (by decide) rfl (fun ls hl => ?_)
            refine lv_iload_n hx hb d_Int_numberOfTrailingZeros_74 rfl (lv_at hl 1 rfl) ?_
            refine lv_iload_n hx hb d_Int_numberOfTrailingZeros_75 rfl (lv_at hl 0 rfl) ?_
            refine lv_iconst (v := 1) hx hb d_Int_numberOfTrailingZeros_76 (by decide) ?_
            refine lv_iushr (v := (q_ushr (q_ushr (q_ushr ((x0 ^^^ (-1)) &&& (x0 - 1)) (4 : Int32)) (2 : Int32)) (1 : Int32))) hx hb d_Int_numberOfTrailingZeros_77 rfl ?_
            refine lv_iadd hx hb d_Int_numberOfTrailingZeros_78 ?_
            exact q_reti C0 hH () rfl h d_Int_numberOfTrailingZeros_79
      · have h := h.2 c
        refine lv_iinc (v := (1 + 8)) (lv' := [(1, .int (1 + 8)), (0, .int ((x0 ^^^ (-1)) &&& (x0 - 1)))]) hx hb d_Int_numberOfTrailingZeros_41 hl (k := 0) rfl rfl (by decide) rfl (fun ls hl => ?_)
        refine lv_iload_n hx hb d_Int_numberOfTrailingZeros_44 rfl (lv_at hl 1 rfl) ?_
        refine lv_bipush (v := 8) hx hb d_Int_numberOfTrailingZeros_45 (by decide) ?_
        refine lv_iushr (v := (q_ushr ((x0 ^^^ (-1)) &&& (x0 - 1)) (8 : Int32))) hx hb d_Int_numberOfTrailingZeros_47 rfl ?_
        refine lv_istore_n (lv' := [(0, .int (q_ushr ((x0 ^^^ (-1)) &&& (x0 - 1)) (8 : Int32))), (1, .int (1 + 8))]) hx hb d_Int_numberOfTrailingZeros_48 rfl hl (by decide) rfl (fun ls hl => ?_)
        refine lv_iload_n hx hb d_Int_numberOfTrailingZeros_49 rfl (lv_at hl 0 rfl) ?_
        refine lv_bipush (v := 16) hx hb d_Int_numberOfTrailingZeros_50 (by decide) ?_
        refine lv_icmp_le (tgt := 62) hx hb d_Int_numberOfTrailingZeros_52 (by decide) (fun c => ?_) (fun c => ?_)
        · have h := h.1 c
          refine lv_iload_n hx hb d_Int_numberOfTrailingZeros_62 rfl (lv_at hl 0 rfl) ?_
          refine lv_iconst (v := 4) hx hb d_Int_numberOfTrailingZeros_63 (by decide) ?_
          refine lv_icmp_le (tgt := 74) hx hb d_Int_numberOfTrailingZeros_64 (by decide) (fun c => ?_) (fun c => ?_)
          · have h := h.1 c
            refine lv_iload_n hx hb d_Int_numberOfTrailingZeros_74 rfl (lv_at hl 1 rfl) ?_
            refine lv_iload_n hx hb d_Int_numberOfTrailingZeros_75 rfl (lv_at hl 0 rfl) ?_
            refine lv_iconst (v := 1) hx hb d_Int_numberOfTrailingZeros_76 (by decide) ?_
            refine lv_iushr (v := (q_ushr (q_ushr ((x0 ^^^ (-1)) &&& (x0 - 1)) (8 : Int32)) (1 : Int32))) hx hb d_Int_numberOfTrailingZeros_77 rfl ?_
            refine lv_iadd hx hb d_Int_numberOfTrailingZeros_78 ?_
            exact q_reti C0 hH () rfl h d_Int_numberOfTrailingZeros_79
          · have h := h.2 c
            refine lv_iinc (v := ((1 + 8) + 2)) (lv' := [(1, .int ((1 + 8) + 2)), (0, .int (q_ushr ((x0 ^^^ (-1)) &&& (x0 - 1)) (8 : Int32)))]) hx hb d_Int_numberOfTrailingZeros_67 hl (k := 1) rfl rfl (by decide) rfl (fun ls hl => ?_)
            refine lv_iload_n hx hb d_Int_numberOfTrailingZeros_70 rfl (lv_at hl 1 rfl) ?_
            refine lv_iconst (v := 2) hx hb d_Int_numberOfTrailingZeros_71 (by decide) ?_
            refine lv_iushr (v := (q_ushr (q_ushr ((x0 ^^^ (-1)) &&& (x0 - 1)) (8 : Int32)) (2 : Int32))) hx hb d_Int_numberOfTrailingZeros_72 rfl ?_
            refine lv_istore_n (lv' := [(0, .int (q_ushr (q_ushr ((x0 ^^^ (-1)) &&& (x0 - 1)) (8 : Int32)) (2 : Int32))), (1, .int ((1 + 8) + 2))]) hx hb d_Int_numberOfTrailingZeros_73 rfl hl (by decide) rfl (fun ls hl => ?_)
            refine lv_iload_n hx hb d_Int_numberOfTrailingZeros_74 rfl (lv_at hl 1 rfl) ?_
            refine lv_iload_n hx hb d_Int_numberOfTrailingZeros_75 rfl (lv_at hl 0 rfl) ?_
            refine lv_iconst (v := 1) hx hb d_Int_numberOfTrailingZeros_76 (by decide) ?_
            refine lv_iushr (v := (q_ushr (q_ushr (q_ushr ((x0 ^^^ (-1)) &&& (x0 - 1)) (8 : Int32)) (2 : Int32)) (1 : Int32))) hx hb d_Int_numberOfTrailingZeros_77 rfl ?_
            refine lv_iadd hx hb d_Int_numberOfTrailingZeros_78 ?_
            exact q_reti C0 hH () rfl h d_Int_numberOfTrailingZeros_79
        · have h := h.2 c
          refine lv_iinc (v := ((1 + 8) + 4)) (lv' := [(1, .int ((1 + 8) + 4)), (0, .int (q_ushr ((x0 ^^^ (-1)) &&& (x0 - 1)) (8 : Int32)))]) hx hb d_Int_numberOfTrailingZeros_55 hl (k := 1) rfl rfl (by decide) rfl (fun ls hl => ?_)
          refine lv_iload_n hx hb d_Int_numberOfTrailingZeros_58 rfl (lv_at hl 1 rfl) ?_
          refine lv_iconst (v := 4) hx hb d_Int_numberOfTrailingZeros_59 (by decide) ?_
          refine lv_iushr (v := (q_ushr (q_ushr ((x0 ^^^ (-1)) &&& (x0 - 1)) (8 : Int32)) (4 : Int32))) hx hb d_Int_numberOfTrailingZeros_60 rfl ?_
          refine lv_istore_n (lv' := [(0, .int (q_ushr (q_ushr ((x0 ^^^ (-1)) &&& (x0 - 1)) (8 : Int32)) (4 : Int32))), (1, .int ((1 + 8) + 4))]) hx hb d_Int_numberOfTrailingZeros_61 rfl hl (by decide) rfl (fun ls hl => ?_)
          refine lv_iload_n hx hb d_Int_numberOfTrailingZeros_62 rfl (lv_at hl 0 rfl) ?_
          refine lv_iconst (v := 4) hx hb d_Int_numberOfTrailingZeros_63 (by decide) ?_
          refine lv_icmp_le (tgt := 74) hx hb d_Int_numberOfTrailingZeros_64 (by decide) (fun c => ?_) (fun c => ?_)
          · have h := h.1 c
            refine lv_iload_n hx hb d_Int_numberOfTrailingZeros_74 rfl (lv_at hl 1 rfl) ?_
            refine lv_iload_n hx hb d_Int_numberOfTrailingZeros_75 rfl (lv_at hl 0 rfl) ?_
            refine lv_iconst (v := 1) hx hb d_Int_numberOfTrailingZeros_76 (by decide) ?_
            refine lv_iushr (v := (q_ushr (q_ushr (q_ushr ((x0 ^^^ (-1)) &&& (x0 - 1)) (8 : Int32)) (4 : Int32)) (1 : Int32))) hx hb d_Int_numberOfTrailingZeros_77 rfl ?_
            refine lv_iadd hx hb d_Int_numberOfTrailingZeros_78 ?_
            exact q_reti C0 hH () rfl h d_Int_numberOfTrailingZeros_79
          · have h := h.2 c
            refine lv_iinc (v := (((1 + 8) + 4) + 2)) (lv' := [(1, .int (((1 + 8) + 4) + 2)), (0, .int (q_ushr (q_ushr ((x0 ^^^ (-1)) &&& (x0 - 1)) (8 : Int32)) (4 : Int32)))]) hx hb d_Int_numberOfTrailingZeros_67 hl (k := 1) rfl rfl (by decide) rfl (fun ls hl => ?_)
            refine lv_iload_n hx hb d_Int_numberOfTrailingZeros_70 rfl (lv_at hl 1 rfl) ?_
            refine lv_iconst (v := 2) hx hb d_Int_numberOfTrailingZeros_71 (by decide) ?_
            refine lv_iushr (v := (q_ushr (q_ushr (q_ushr ((x0 ^^^ (-1)) &&& (x0 - 1)) (8 : Int32)) (4 : Int32)) (2 : Int32))) hx hb d_Int_numberOfTrailingZeros_72 rfl ?_
            refine lv_istore_n (lv' := [(0, .int (q_ushr (q_ushr (q_ushr ((x0 ^^^ (-1)) &&& (x0 - 1)) (8 : Int32)) (4 : Int32)) (2 : Int32))), (1, .int (((1 + 8) + 4) + 2))]) hx hb d_Int_numberOfTrailingZeros_73 rfl hl (by decide) rfl (fun ls hl => ?_)
            refine lv_iload_n hx hb d_Int_numberOfTrailingZeros_74 rfl (lv_at hl 1 rfl) ?_
            refine lv_iload_n hx hb d_Int_numberOfTrailingZeros_75 rfl (lv_at hl 0 rfl) ?_
            refine lv_iconst (v := 1) hx hb d_Int_numberOfTrailingZeros_76 (by decide) ?_
            refine lv_iushr (v := (q_ushr (q_ushr (q_ushr (q_ushr ((x0 ^^^ (-1)) &&& (x0 - 1)) (8 : Int32)) (4 : Int32)) (2 : Int32)) (1 : Int32))) hx hb d_Int_numberOfTrailingZeros_77 rfl ?_
            refine lv_iadd hx hb d_Int_numberOfTrailingZeros_78 ?_
            exact q_reti C0 hH () rfl h d_Int_numberOfTrailingZeros_79
    · have h := h.2 c
      refine lv_iinc (v := (1 + 16)) (lv' := [(1, .int (1 + 16)), (0, .int ((x0 ^^^ (-1)) &&& (x0 - 1)))]) hx hb d_Int_numberOfTrailingZeros_26 hl (k := 0) rfl rfl (by decide) rfl (fun ls hl => ?_)
      refine lv_iload_n hx hb d_Int_numberOfTrailingZeros_29 rfl (lv_at hl 1 rfl) ?_
      refine lv_bipush (v := 16) hx hb d_Int_numberOfTrailingZeros_30 (by decide) ?_
      refine lv_iushr (v := (q_ushr ((x0 ^^^ (-1)) &&& (x0 - 1)) (16 : Int32))) hx hb d_Int_numberOfTrailingZeros_32 rfl ?_
      refine lv_istore_n (lv' := [(0, .int (q_ushr ((x0 ^^^ (-1)) &&& (x0 - 1)) (16 : Int32))), (1, .int (1 + 16))]) hx hb d_Int_numberOfTrailingZeros_33 rfl hl (by decide) rfl (fun ls hl => ?_)
      refine lv_iload_n hx hb d_Int_numberOfTrailingZeros_34 rfl (lv_at hl 0 rfl) ?_
      refine lv_sipush (v := 256) hx hb d_Int_numberOfTrailingZeros_35 (by decide) ?_
      refine lv_icmp_le (tgt := 49) hx hb d_Int_numberOfTrailingZeros_38 (by decide) (fun c => ?_) (fun c => ?_)
      · have h := h.1 c
        refine lv_iload_n hx hb d_Int_numberOfTrailingZeros_49 rfl (lv_at hl 0 rfl) ?_
        refine lv_bipush (v := 16) hx hb d_Int_numberOfTrailingZeros_50 (by decide) ?_
        refine lv_icmp_le (tgt := 62) hx hb d_Int_numberOfTrailingZeros_52 (by decide) (fun c => ?_) (fun c => ?_)
        · have h := h.1 c
          refine lv_iload_n hx hb d_Int_numberOfTrailingZeros_62 rfl (lv_at hl 0 rfl) ?_
          refine lv_iconst (v := 4) hx hb d_Int_numberOfTrailingZeros_63 (by decide) ?_
          refine lv_icmp_le (tgt := 74) hx hb d_Int_numberOfTrailingZeros_64 (by decide) (fun c => ?_) (fun c => ?_)
          · have h := h.1 c
            refine lv_iload_n hx hb d_Int_numberOfTrailingZeros_74 rfl (lv_at hl 1 rfl) ?_
            refine lv_iload_n hx hb d_Int_numberOfTrailingZeros_75 rfl (lv_at hl 0 rfl) ?_
            refine lv_iconst (v := 1) hx hb d_Int_numberOfTrailingZeros_76 (by decide) ?_
            refine lv_iushr (v := (q_ushr (q_ushr ((x0 ^^^ (-1)) &&& (x0 - 1)) (16 : Int32)) (1 : Int32))) hx hb d_Int_numberOfTrailingZeros_77 rfl ?_
            refine lv_iadd hx hb d_Int_numberOfTrailingZeros_78 ?_
            exact q_reti C0 hH () rfl h d_Int_numberOfTrailingZeros_79
          · have h := h.2 c
            refine lv_iinc (v := ((1 + 16) + 2)) (lv' := [(1, .int ((1 + 16) + 2)), (0, .int (q_ushr ((x0 ^^^ (-1)) &&& (x0 - 1)) (16 : Int32)))]) hx hb d_Int_numberOfTrailingZeros_67 hl (k := 1) rfl rfl (by decide) rfl (fun ls hl => ?_)
            refine lv_iload_n hx hb d_Int_numberOfTrailingZeros_70 rfl (lv_at hl 1 rfl) ?_
            refine lv_iconst (v := 2) hx hb d_Int_numberOfTrailingZeros_71 (by decide) ?_
            refine lv_iushr (v := (q_ushr (q_ushr ((x0 ^^^ (-1)) &&& (x0 - 1)) (16 : Int32)) (2 : Int32))) hx hb d_Int_numberOfTrailingZeros_72 rfl ?_
            refine lv_istore_n (lv' := [(0, .int (q_ushr (q_ushr ((x0 ^^^ (-1)) &&& (x0 - 1)) (16 : Int32)) (2 : Int32))), (1, .int ((1 + 16) + 2))]) hx hb d_Int_numberOfTrailingZeros_73 rfl hl (by decide) rfl (fun ls hl => ?_)
            refine lv_iload_n hx hb d_Int_numberOfTrailingZeros_74 rfl (lv_at hl 1 rfl) ?_
            refine lv_iload_n hx hb d_Int_numberOfTrailingZeros_75 rfl (lv_at hl 0 rfl) ?_
            refine lv_iconst (v := 1) hx hb d_Int_numberOfTrailingZeros_76 (by decide) ?_
            refine lv_iushr (v := (q_ushr (q_ushr (q_ushr ((x0 ^^^ (-1)) &&& (x0 - 1)) (16 : Int32)) (2 : Int32)) (1 : Int32))) hx hb d_Int_numberOfTrailingZeros_77 rfl ?_
            refine lv_iadd hx hb d_Int_numberOfTrailingZeros_78 ?_
            exact q_reti C0 hH () rfl h d_Int_numberOfTrailingZeros_79
        · have h := h.2 c
          refine lv_iinc (v := ((1 + 16) + 4)) (lv' := [(1, .int ((1 + 16) + 4)), (0, .int (q_ushr ((x0 ^^^ (-1)) &&& (x0 - 1)) (16 : Int32)))]) hx hb d_Int_numberOfTrailingZeros_55 hl (k := 1) rfl rfl (by decide) rfl (fun ls hl => ?_)
          refine lv_iload_n hx hb d_Int_numberOfTrailingZeros_58 rfl (lv_at hl 1 rfl) ?_
          refine lv_iconst (v := 4) hx hb d_Int_numberOfTrailingZeros_59 (by decide) ?_
          refine lv_iushr (v := (q_ushr (q_ushr ((x0 ^^^ (-1)) &&& (x0 - 1)) (16 : Int32)) (4 : Int32))) hx hb d_Int_numberOfTrailingZeros_60 rfl ?_
          refine lv_istore_n (lv' := [(0, .int (q_ushr (q_ushr ((x0 ^^^ (-1)) &&& (x0 - 1)) (16 : Int32)) (4 : Int32))), (1, .int ((1 + 16) + 4))]) hx hb d_Int_numberOfTrailingZeros_61 rfl hl (by decide) rfl (fun ls hl => ?_)
          refine lv_iload_n hx hb d_Int_numberOfTrailingZeros_62 rfl (lv_at hl 0 rfl) ?_
          refine lv_iconst (v := 4) hx hb d_Int_numberOfTrailingZeros_63 (by decide) ?_
          refine lv_icmp_le (tgt := 74) hx hb d_Int_numberOfTrailingZeros_64 (by decide) (fun c => ?_) (fun c => ?_)
          · have h := h.1 c
            refine lv_iload_n hx hb d_Int_numberOfTrailingZeros_74 rfl (lv_at hl 1 rfl) ?_
            refine lv_iload_n hx hb d_Int_numberOfTrailingZeros_75 rfl (lv_at hl 0 rfl) ?_
            refine lv_iconst (v := 1) hx hb d_Int_numberOfTrailingZeros_76 (by decide) ?_
            refine lv_iushr (v := (q_ushr (q_ushr (q_ushr ((x0 ^^^ (-1)) &&& (x0 - 1)) (16 : Int32)) (4 : Int32)) (1 : Int32))) hx hb d_Int_numberOfTrailingZeros_77 rfl ?_
            refine lv_iadd hx hb d_Int_numberOfTrailingZeros_78 ?_
            exact q_reti C0 hH () rfl h d_Int_numberOfTrailingZeros_79
          · have h := h.2 c
            refine lv_iinc (v := (((1 + 16) + 4) + 2)) (lv' := [(1, .int (((1 + 16) + 4) + 2)), (0, .int (q_ushr (q_ushr ((x0 ^^^ (-1)) &&& (x0 - 1)) (16 : Int32)) (4 : Int32)))]) hx hb d_Int_numberOfTrailingZeros_67 hl (k := 1) rfl rfl (by decide) rfl (fun ls hl => ?_)
            refine lv_iload_n hx hb d_Int_numberOfTrailingZeros_70 rfl (lv_at hl 1 rfl) ?_
            refine lv_iconst (v := 2) hx hb d_Int_numberOfTrailingZeros_71 (by decide) ?_
            refine lv_iushr (v := (q_ushr (q_ushr (q_ushr ((x0 ^^^ (-1)) &&& (x0 - 1)) (16 : Int32)) (4 : Int32)) (2 : Int32))) hx hb d_Int_numberOfTrailingZeros_72 rfl ?_
            refine lv_istore_n (lv' := [(0, .int (q_ushr (q_ushr (q_ushr ((x0 ^^^ (-1)) &&& (x0 - 1)) (16 : Int32)) (4 : Int32)) (2 : Int32))), (1, .int (((1 + 16) + 4) + 2))]) hx hb d_Int_numberOfTrailingZeros_73 rfl hl (by decide) rfl (fun ls hl => ?_)
            refine lv_iload_n hx hb d_Int_numberOfTrailingZeros_74 rfl (lv_at hl 1 rfl) ?_
            refine lv_iload_n hx hb d_Int_numberOfTrailingZeros_75 rfl (lv_at hl 0 rfl) ?_
            refine lv_iconst (v := 1) hx hb d_Int_numberOfTrailingZeros_76 (by decide) ?_
            refine lv_iushr (v := (q_ushr (q_ushr (q_ushr (q_ushr ((x0 ^^^ (-1)) &&& (x0 - 1)) (16 : Int32)) (4 : Int32)) (2 : Int32)) (1 : Int32))) hx hb d_Int_numberOfTrailingZeros_77 rfl ?_
            refine lv_iadd hx hb d_Int_numberOfTrailingZeros_78 ?_
            exact q_reti C0 hH () rfl h d_Int_numberOfTrailingZeros_79
      · have h := h.2 c
        refine lv_iinc (v := ((1 + 16) + 8)) (lv' := [(1, .int ((1 + 16) + 8)), (0, .int (q_ushr ((x0 ^^^ (-1)) &&& (x0 - 1)) (16 : Int32)))]) hx hb d_Int_numberOfTrailingZeros_41 hl (k := 1) rfl rfl (by decide) rfl (fun ls hl => ?_)
        refine lv_iload_n hx hb d_Int_numberOfTrailingZeros_44 rfl (lv_at hl 1 rfl) ?_
        refine lv_bipush (v := 8) hx hb d_Int_numberOfTrailingZeros_45 (by decide) ?_
        refine lv_iushr (v := (q_ushr (q_ushr ((x0 ^^^ (-1)) &&& (x0 - 1)) (16 : Int32)) (8 : Int32))) hx hb d_Int_numberOfTrailingZeros_47 rfl ?_
        refine lv_istore_n (lv' := [(0, .int (q_ushr (q_ushr ((x0 ^^^ (-1)) &&& (x0 - 1)) (16 : Int32)) (8 : Int32))), (1, .int ((1 + 16) + 8))]) hx hb d_Int_numberOfTrailingZeros_48 rfl hl (by decide) rfl (fun ls hl => ?_)
        refine lv_iload_n hx hb d_Int_numberOfTrailingZeros_49 rfl (lv_at hl 0 rfl) ?_
        refine lv_bipush (v := 16) hx hb d_Int_numberOfTrailingZeros_50 (by decide) ?_
        refine lv_icmp_le (tgt := 62) hx hb d_Int_numberOfTrailingZeros_52 (by decide) (fun c => ?_) (fun c => ?_)
        · have h := h.1 c
          refine lv_iload_n hx hb d_Int_numberOfTrailingZeros_62 rfl (lv_at hl 0 rfl) ?_
          refine lv_iconst (v := 4) hx hb d_Int_numberOfTrailingZeros_63 (by decide) ?_
          refine lv_icmp_le (tgt := 74) hx hb d_Int_numberOfTrailingZeros_64 (by decide) (fun c => ?_) (fun c => ?_)
          · have h := h.1 c
            refine lv_iload_n hx hb d_Int_numberOfTrailingZeros_74 rfl (lv_at hl 1 rfl) ?_
            refine lv_iload_n hx hb d_Int_numberOfTrailingZeros_75 rfl (lv_at hl 0 rfl) ?_
            refine lv_iconst (v := 1) hx hb d_Int_numberOfTrailingZeros_76 (by decide) ?_
            refine lv_iushr (v := (q_ushr (q_ushr (q_ushr ((x0 ^^^ (-1)) &&& (x0 - 1)) (16 : Int32)) (8 : Int32)) (1 : Int32))) hx hb d_Int_numberOfTrailingZeros_77 rfl ?_
            refine lv_iadd hx hb d_Int_numberOfTrailingZeros_78 ?_
            exact q_reti C0 hH () rfl h d_Int_numberOfTrailingZeros_79
          · have h := h.2 c
            refine lv_iinc (v := (((1 + 16) + 8) + 2)) (lv' := [(1, .int (((1 + 16) + 8) + 2)), (0, .int (q_ushr (q_ushr ((x0 ^^^ (-1)) &&& (x0 - 1)) (16 : Int32)) (8 : Int32)))]) hx hb d_Int_numberOfTrailingZeros_67 hl (k := 1) rfl rfl (by decide) rfl (fun ls hl => ?_)
            refine lv_iload_n hx hb d_Int_numberOfTrailingZeros_70 rfl (lv_at hl 1 rfl) ?_
            refine lv_iconst (v := 2) hx hb d_Int_numberOfTrailingZeros_71 (by decide) ?_
            refine lv_iushr (v := (q_ushr (q_ushr (q_ushr ((x0 ^^^ (-1)) &&& (x0 - 1)) (16 : Int32)) (8 : Int32)) (2 : Int32))) hx hb d_Int_numberOfTrailingZeros_72 rfl ?_
            refine lv_istore_n (lv' := [(0, .int (q_ushr (q_ushr (q_ushr ((x0 ^^^ (-1)) &&& (x0 - 1)) (16 : Int32)) (8 : Int32)) (2 : Int32))), (1, .int (((1 + 16) + 8) + 2))]) hx hb d_Int_numberOfTrailingZeros_73 rfl hl (by decide) rfl (fun ls hl => ?_)
            refine lv_iload_n hx hb d_Int_numberOfTrailingZeros_74 rfl (lv_at hl 1 rfl) ?_
            refine lv_iload_n hx hb d_Int_numberOfTrailingZeros_75 rfl (lv_at hl 0 rfl) ?_
            refine lv_iconst (v := 1) hx hb d_Int_numberOfTrailingZeros_76 (by decide) ?_
            refine lv_iushr (v := (q_ushr (q_ushr (q_ushr (q_ushr ((x0 ^^^ (-1)) &&& (x0 - 1)) (16 : Int32)) (8 : Int32)) (2 : Int32)) (1 : Int32))) hx hb d_Int_numberOfTrailingZeros_77 rfl ?_
            refine lv_iadd hx hb d_Int_numberOfTrailingZeros_78 ?_
            exact q_reti C0 hH () rfl h d_Int_numberOfTrailingZeros_79
        · have h := h.2 c
          refine lv_iinc (v := (((1 + 16) + 8) + 4)) (lv' := [(1, .int (((1 + 16) + 8) + 4)), (0, .int (q_ushr (q_ushr ((x0 ^^^ (-1)) &&& (x0 - 1)) (16 : Int32)) (8 : Int32)))]) hx hb d_Int_numberOfTrailingZeros_55 hl (k := 1) rfl rfl (by decide) rfl (fun ls hl => ?_)
          refine lv_iload_n hx hb d_Int_numberOfTrailingZeros_58 rfl (lv_at hl 1 rfl) ?_
          refine lv_iconst (v := 4) hx hb d_Int_numberOfTrailingZeros_59 (by decide) ?_
          refine lv_iushr (v := (q_ushr (q_ushr (q_ushr ((x0 ^^^ (-1)) &&& (x0 - 1)) (16 : Int32)) (8 : Int32)) (4 : Int32))) hx hb d_Int_numberOfTrailingZeros_60 rfl ?_
          refine lv_istore_n (lv' := [(0, .int (q_ushr (q_ushr (q_ushr ((x0 ^^^ (-1)) &&& (x0 - 1)) (16 : Int32)) (8 : Int32)) (4 : Int32))), (1, .int (((1 + 16) + 8) + 4))]) hx hb d_Int_numberOfTrailingZeros_61 rfl hl (by decide) rfl (fun ls hl => ?_)
          refine lv_iload_n hx hb d_Int_numberOfTrailingZeros_62 rfl (lv_at hl 0 rfl) ?_
          refine lv_iconst (v := 4) hx hb d_Int_numberOfTrailingZeros_63 (by decide) ?_
          refine lv_icmp_le (tgt := 74) hx hb d_Int_numberOfTrailingZeros_64 (by decide) (fun c => ?_) (fun c => ?_)
          · have h := h.1 c
            refine lv_iload_n hx hb d_Int_numberOfTrailingZeros_74 rfl (lv_at hl 1 rfl) ?_
            refine lv_iload_n hx hb d_Int_numberOfTrailingZeros_75 rfl (lv_at hl 0 rfl) ?_
            refine lv_iconst (v := 1) hx hb d_Int_numberOfTrailingZeros_76 (by decide) ?_
            refine lv_iushr (v := (q_ushr (q_ushr (q_ushr (q_ushr ((x0 ^^^ (-1)) &&& (x0 - 1)) (16 : Int32)) (8 : Int32)) (4 : Int32)) (1 : Int32))) hx hb d_Int_numberOfTrailingZeros_77 rfl ?_
            refine lv_iadd hx hb d_Int_numberOfTrailingZeros_78 ?_
            exact q_reti C0 hH () rfl h d_Int_numberOfTrailingZeros_79
          · have h := h.2 c
            refine lv_iinc (v := ((((1 + 16) + 8) + 4) + 2)) (lv' := [(1, .int ((((1 + 16) + 8) + 4) + 2)), (0, .int (q_ushr (q_ushr (q_ushr ((x0 ^^^ (-1)) &&& (x0 - 1)) (16 : Int32)) (8 : Int32)) (4 : Int32)))]) hx hb d_Int_numberOfTrailingZeros_67 hl (k := 1) rfl rfl (by decide) rfl (fun ls hl => ?_)
            refine lv_iload_n hx hb d_Int_numberOfTrailingZeros_70 rfl (lv_at hl 1 rfl) ?_
            refine lv_iconst (v := 2) hx hb d_Int_numberOfTrailingZeros_71 (by decide) ?_
            refine lv_iushr (v := (q_ushr (q_ushr (q_ushr (q_ushr ((x0 ^^^ (-1)) &&& (x0 - 1)) (16 : Int32)) (8 : Int32)) (4 : Int32)) (2 : Int32))) hx hb d_Int_numberOfTrailingZeros_72 rfl ?_
            refine lv_istore_n (lv' := [(0, .int (q_ushr (q_ushr (q_ushr (q_ushr ((x0 ^^^ (-1)) &&& (x0 - 1)) (16 : Int32)) (8 : Int32)) (4 : Int32)) (2 : Int32))), (1, .int ((((1 + 16) + 8) + 4) + 2))]) hx hb d_Int_numberOfTrailingZeros_73 rfl hl (by decide) rfl (fun ls hl => ?_)
            refine lv_iload_n hx hb d_Int_numberOfTrailingZeros_74 rfl (lv_at hl 1 rfl) ?_
            refine lv_iload_n hx hb d_Int_numberOfTrailingZeros_75 rfl (lv_at hl 0 rfl) ?_
            refine lv_iconst (v := 1) hx hb d_Int_numberOfTrailingZeros_76 (by decide) ?_
            refine lv_iushr (v := (q_ushr (q_ushr (q_ushr (q_ushr (q_ushr ((x0 ^^^ (-1)) &&& (x0 - 1)) (16 : Int32)) (8 : Int32)) (4 : Int32)) (2 : Int32)) (1 : Int32))) hx hb d_Int_numberOfTrailingZeros_77 rfl ?_
            refine lv_iadd hx hb d_Int_numberOfTrailingZeros_78 ?_
            exact q_reti C0 hH () rfl h d_Int_numberOfTrailingZeros_79
  · have h := h.2 c
    refine lv_iload_n hx hb d_Int_numberOfTrailingZeros_12 rfl (lv_at hl 0 rfl) ?_
    refine lv_bipush (v := 32) hx hb d_Int_numberOfTrailingZeros_13 (by decide) ?_
    refine lv_iand hx hb d_Int_numberOfTrailingZeros_15 ?_
    exact q_reti C0 hH () rfl h d_Int_numberOfTrailingZeros_16
theorem d_Mods_sameAhead_0 : decode b_Mods_sameAhead 0 = .ok (.iload_n 0, 1) := by decide +kernel
theorem d_Mods_sameAhead_1 : decode b_Mods_sameAhead 1 = .ok (.iload_n 1, 1) := by decide +kernel
theorem d_Mods_sameAhead_2 : decode b_Mods_sameAhead 2 = .ok (.ixor, 1) := by decide +kernel
theorem d_Mods_sameAhead_3 : decode b_Mods_sameAhead 3 = .ok (.invokestatic 79, 3) := by decide +kernel
theorem d_Mods_sameAhead_6 : decode b_Mods_sameAhead 6 = .ok (.ireturn, 1) := by decide +kernel
set_option maxHeartbeats 4000000 in
set_option maxRecDepth 100000 in
theorem c_Mods_sameAhead (l : Launch) (dC : Nat → ClassId) (dI : Nat → Nat → Nat) (cA : ClassId) (ad : Nat → Nat) (x0 : Int32) (x1 : Int32) (Q : Int32 → Prop) (sz : Nat) (h : w_Mods_sameAhead x0 x1 Q) :
    q_Mi l y_Mods_sameAhead b_Mods_sameAhead 2 (some .int) 1 21 [.int x0, .int x1] dC dI cA ([]) (fun _ : Unit => []) sz (fun r _ => Q r) := by
  refine q_meti (plainFor_of_name (by decide +kernel)) (Nat.le_of_ble_eq_true rfl) (fun {p e s m below meth c ls} C0 hl hH => ?_)
  obtain ⟨hx, hb, -⟩ := id C0
  have hA : ∀ q, s.heap.size ≤ q → va_A ([]) s.heap.size q := q_nA
  have hl : lv_has ls 2 [(0, .int x0), (1, .int x1)] := hl
  unfold w_Mods_sameAhead at h
  refine lv_iload_n hx hb d_Mods_sameAhead_0 rfl (lv_at hl 0 rfl) ?_
  refine lv_iload_n hx hb d_Mods_sameAhead_1 rfl (lv_at hl 1 rfl) ?_
  refine lv_ixor hx hb d_Mods_sameAhead_2 ?_
  refine q_calls (rest := []) C0 hH hA (c_Int_numberOfTrailingZeros l dC dI cA ad (x0 ^^^ x1) _ _ h) Y_Int_numberOfTrailingZeros k_431 ⟨Nat.le_of_ble_eq_true rfl, Nat.le_of_ble_eq_true rfl⟩ rfl rfl (Nat.le_of_ble_eq_true rfl) hl.1 d_Mods_sameAhead_3 ⟨Nat.le_refl 0, Nat.le_refl 0⟩ (fun r_1 H locs h hH => ?_)
  try dsimp only at h
  exact q_reti C0 hH () rfl h d_Mods_sameAhead_6
theorem d_Mods_greater_0 : decode b_Mods_greater 0 = .ok (.aload_n 0, 1) := by decide +kernel
theorem d_Mods_greater_1 : decode b_Mods_greater 1 = .ok (.getfield 15, 3) := by decide +kernel
theorem d_Mods_greater_4 : decode b_Mods_greater 4 = .ok (.getfield 76, 3) := by decide +kernel
theorem d_Mods_greater_7 : decode b_Mods_greater 7 = .ok (.iconst 1, 1) := by decide +kernel
theorem d_Mods_greater_8 : decode b_Mods_greater 8 = .ok (.isub, 1) := by decide +kernel
theorem d_Mods_greater_9 : decode b_Mods_greater 9 = .ok (.istore_n 2, 1) := by decide +kernel
theorem d_Mods_greater_10 : decode b_Mods_greater 10 = .ok (.iload_n 2, 1) := by decide +kernel
theorem d_Mods_greater_11 : decode b_Mods_greater 11 = .ok (.ifCond .lt 54, 3) := by decide +kernel
theorem d_Mods_greater_14 : decode b_Mods_greater 14 = .ok (.iconst 1, 1) := by decide +kernel
theorem d_Mods_greater_15 : decode b_Mods_greater 15 = .ok (.iload_n 2, 1) := by decide +kernel
theorem d_Mods_greater_16 : decode b_Mods_greater 16 = .ok (.ishl, 1) := by decide +kernel
theorem d_Mods_greater_17 : decode b_Mods_greater 17 = .ok (.istore_n 3, 1) := by decide +kernel
theorem d_Mods_greater_18 : decode b_Mods_greater 18 = .ok (.iload_n 1, 1) := by decide +kernel
theorem d_Mods_greater_19 : decode b_Mods_greater 19 = .ok (.iload_n 3, 1) := by decide +kernel
theorem d_Mods_greater_20 : decode b_Mods_greater 20 = .ok (.iand, 1) := by decide +kernel
theorem d_Mods_greater_21 : decode b_Mods_greater 21 = .ok (.ifCond .ne 38, 3) := by decide +kernel
theorem d_Mods_greater_24 : decode b_Mods_greater 24 = .ok (.iload_n 3, 1) := by decide +kernel
theorem d_Mods_greater_25 : decode b_Mods_greater 25 = .ok (.iconst 1, 1) := by decide +kernel
theorem d_Mods_greater_26 : decode b_Mods_greater 26 = .ok (.isub, 1) := by decide +kernel
theorem d_Mods_greater_27 : decode b_Mods_greater 27 = .ok (.istore 4, 2) := by decide +kernel
theorem d_Mods_greater_29 : decode b_Mods_greater 29 = .ok (.aload_n 0, 1) := by decide +kernel
theorem d_Mods_greater_30 : decode b_Mods_greater 30 = .ok (.getfield 24, 3) := by decide +kernel
theorem d_Mods_greater_33 : decode b_Mods_greater 33 = .ok (.iload_n 1, 1) := by decide +kernel
theorem d_Mods_greater_34 : decode b_Mods_greater 34 = .ok (.iload 4, 2) := by decide +kernel
theorem d_Mods_greater_36 : decode b_Mods_greater 36 = .ok (.iand, 1) := by decide +kernel
theorem d_Mods_greater_37 : decode b_Mods_greater 37 = .ok (.iload_n 3, 1) := by decide +kernel
theorem d_Mods_greater_38 : decode b_Mods_greater 38 = .ok (.ior, 1) := by decide +kernel
theorem d_Mods_greater_39 : decode b_Mods_greater 39 = .ok (.iload_n 1, 1) := by decide +kernel
theorem d_Mods_greater_40 : decode b_Mods_greater 40 = .ok (.iconst (-1), 1) := by decide +kernel
theorem d_Mods_greater_41 : decode b_Mods_greater 41 = .ok (.ixor, 1) := by decide +kernel
theorem d_Mods_greater_42 : decode b_Mods_greater 42 = .ok (.iload 4, 2) := by decide +kernel
theorem d_Mods_greater_44 : decode b_Mods_greater 44 = .ok (.iand, 1) := by decide +kernel
theorem d_Mods_greater_45 : decode b_Mods_greater 45 = .ok (.invokevirtual 59, 3) := by decide +kernel
theorem d_Mods_greater_48 : decode b_Mods_greater 48 = .ok (.istore 5, 2) := by decide +kernel
theorem d_Mods_greater_50 : decode b_Mods_greater 50 = .ok (.iload 5, 2) := by decide +kernel
theorem d_Mods_greater_52 : decode b_Mods_greater 52 = .ok (.iconst (-1), 1) := by decide +kernel
theorem d_Mods_greater_53 : decode b_Mods_greater 53 = .ok (.if_icmp .eq 6, 3) := by decide +kernel
theorem d_Mods_greater_56 : decode b_Mods_greater 56 = .ok (.iload 5, 2) := by decide +kernel
theorem d_Mods_greater_58 : decode b_Mods_greater 58 = .ok (.ireturn, 1) := by decide +kernel
theorem d_Mods_greater_59 : decode b_Mods_greater 59 = .ok (.iinc 2 (-1), 3) := by decide +kernel
theorem d_Mods_greater_62 : decode b_Mods_greater 62 = .ok (.goto (-52), 3) := by decide +kernel
theorem d_Mods_greater_65 : decode b_Mods_greater 65 = .ok (.iconst (-1), 1) := by decide +kernel
theorem d_Mods_greater_66 : decode b_Mods_greater 66 = .ok (.ireturn, 1) := by decide +kernel
set_option maxHeartbeats 4000000 in
set_option maxRecDepth 100000 in
theorem x_Mods_greater_L10 {p : Program} {e : Env} {s : State} {m : MethodId} {args : Array Value} {below : List Frame} {meth : Method} {c : Code} {l : Launch} {dC : Nat → ClassId} {dI : Nat → Nat → Nat} {cA : ClassId} {ad : Nat → Nat} {w0 : va_W} (C0 : q_C p s m args meth c b_Mods_greater 6 (some .int) "PlanClauses$Models" dC dI cA) (hA : ∀ q, s.heap.size ≤ q → va_A w0 s.heap.size q) (x1 : Int32) (fo : tForm) (fr : tRows) (mo : tMods) {Q : Int32 → tRows → tSear → tClash → (Nat → Int32) → tTrail → Prop} {K65 : tRows → tSear → tClash → (Nat → Int32) → tTrail → Prop}
    (hK65 : ∀ (lr : tRows) (se : tSear) (sk : tClash) (sw : (Nat → Int32)) (tr : tTrail) (H : Heap) (locs : List Loc) (ls : Array Slot), K65 lr se sk sw tr → lv_has ls 6 [] → q_H dC dI (va_A w0 s.heap.size) s.heap H locs ([c_FO ad cA fo, c_FR ad cA fr, c_LR ad cA lr, c_MO ad cA mo, c_SE ad cA se sk sw, c_TR ad cA tr].flatten) → W p l e (q_R 5 119) s m args below meth c H locs 0 0 (q_Zi below args s dC dI cA w0 (fun u : tRows × tSear × tClash × (Nat → Int32) × tTrail => [c_FO ad cA fo, c_FR ad cA fr, c_LR ad cA u.1, c_MO ad cA mo, c_SE ad cA u.2.1 u.2.2.1 u.2.2.2.1, c_TR ad cA u.2.2.2.2].flatten) (fun r u => Q r u.1 u.2.1 u.2.2.1 u.2.2.2.1 u.2.2.2.2)) (F0 m 65 ls [])) :
    ∀ (nn : Nat) (x2 : Int32) (lr : tRows) (se : tSear) (sk : tClash) (sw : (Nat → Int32)) (tr : tTrail) (H : Heap) (locs : List Loc) (ls : Array Slot), w_Mods_greater_L10 x1 fo fr K65 Q nn x2 lr se sk sw tr → lv_has ls 6 [(0, .ref (ad 11)), (1, .int x1), (2, .int x2)] → q_H dC dI (va_A w0 s.heap.size) s.heap H locs ([c_FO ad cA fo, c_FR ad cA fr, c_LR ad cA lr, c_MO ad cA mo, c_SE ad cA se sk sw, c_TR ad cA tr].flatten) → W p l e (q_R 5 119) s m args below meth c H locs 0 0 (q_Zi below args s dC dI cA w0 (fun u : tRows × tSear × tClash × (Nat → Int32) × tTrail => [c_FO ad cA fo, c_FR ad cA fr, c_LR ad cA u.1, c_MO ad cA mo, c_SE ad cA u.2.1 u.2.2.1 u.2.2.2.1, c_TR ad cA u.2.2.2.2].flatten) (fun r u => Q r u.1 u.2.1 u.2.2.1 u.2.2.2.1 u.2.2.2.2)) (F0 m 10 ls []) := by
  obtain ⟨hx, hb, -⟩ := id C0
  intro nn
  induction nn with
  | zero =>
    intro x2 lr se sk sw tr H locs ls h
    exact (show False from h).elim
  | succ nn ih =>
    intro x2 lr se sk sw tr H locs ls h hl hH
    rw [w_Mods_greater_L10] at h
    refine lv_iload_n hx hb d_Mods_greater_10 rfl (lv_at hl 2 rfl) ?_
    refine lv_if_lt (tgt := 65) hx hb d_Mods_greater_11 (by decide) (fun c => ?_) (fun c => ?_)
    · have h := h.1 c
      exact hK65 lr se sk sw tr _ _ _ h (lv_sub hl [] rfl) hH
    · have h := h.2 c
      refine lv_iconst (v := 1) hx hb d_Mods_greater_14 (by decide) ?_
      refine lv_iload_n hx hb d_Mods_greater_15 rfl (lv_at hl 2 rfl) ?_
      refine lv_ishl hx hb d_Mods_greater_16 ?_
      refine lv_istore_n (lv' := [(3, .int ((1 : Int32) <<< (x2 &&& 31))), (0, .ref (ad 11)), (1, .int x1), (2, .int x2)]) hx hb d_Mods_greater_17 rfl hl (by decide) rfl (fun ls hl => ?_)
      refine lv_iload_n hx hb d_Mods_greater_18 rfl (lv_at hl 2 rfl) ?_
      refine lv_iload_n hx hb d_Mods_greater_19 rfl (lv_at hl 0 rfl) ?_
      refine lv_iand hx hb d_Mods_greater_20 ?_
      refine lv_if_ne (tgt := 59) hx hb d_Mods_greater_21 (by decide) (fun c => ?_) (fun c => ?_)
      · have h := h.1 c
        refine lv_iinc (v := (x2 + (-1))) (lv' := [(2, .int (x2 + (-1))), (3, .int ((1 : Int32) <<< (x2 &&& 31))), (0, .ref (ad 11)), (1, .int x1)]) hx hb d_Mods_greater_59 hl (k := 3) rfl rfl (by decide) rfl (fun ls hl => ?_)
        refine lv_goto (tgt := 10) hx hb d_Mods_greater_62 (by decide) ?_
        exact ih (x2 + (-1)) lr se sk sw tr _ _ _ h (lv_sub hl [2, 3, 0] rfl) hH
      · have h := h.2 c
        refine lv_iload_n hx hb d_Mods_greater_24 rfl (lv_at hl 0 rfl) ?_
        refine lv_iconst (v := 1) hx hb d_Mods_greater_25 (by decide) ?_
        refine lv_isub hx hb d_Mods_greater_26 ?_
        refine lv_istore (lv' := [(4, .int (((1 : Int32) <<< (x2 &&& 31)) - 1)), (3, .int ((1 : Int32) <<< (x2 &&& 31))), (0, .ref (ad 11)), (1, .int x1), (2, .int x2)]) hx hb d_Mods_greater_27 hl (by decide) rfl (fun ls hl => ?_)
        refine lv_aload_n hx hb d_Mods_greater_29 rfl (lv_at hl 2 rfl) ?_
        refine q_get (v := .ref (ad 13)) C0 hH 10 rfl hc_3 1 (by decide) k_156 rfl d_Mods_greater_30 ?_
        refine lv_iload_n hx hb d_Mods_greater_33 rfl (lv_at hl 3 rfl) ?_
        refine lv_iload hx hb d_Mods_greater_34 (lv_at hl 0 rfl) ?_
        refine lv_iand hx hb d_Mods_greater_36 ?_
        refine lv_iload_n hx hb d_Mods_greater_37 rfl (lv_at hl 1 rfl) ?_
        refine lv_ior hx hb d_Mods_greater_38 ?_
        refine lv_iload_n hx hb d_Mods_greater_39 rfl (lv_at hl 3 rfl) ?_
        refine lv_iconst (v := (-1)) hx hb d_Mods_greater_40 (by decide) ?_
        refine lv_ixor hx hb d_Mods_greater_41 ?_
        refine lv_iload hx hb d_Mods_greater_42 (lv_at hl 0 rfl) ?_
        refine lv_iand hx hb d_Mods_greater_44 ?_
        refine q_calli (rest := []) (ws' := fun u : tRows × tSear × tClash × (Nat → Int32) × tTrail => [c_FO ad cA fo, c_FR ad cA fr, c_LR ad cA u.1, c_MO ad cA mo, c_SE ad cA u.2.1 u.2.2.1 u.2.2.2.1, c_TR ad cA u.2.2.2.2].flatten) C0 hH hA (c_Sear_find l dC dI cA ad ((x1 &&& (((1 : Int32) <<< (x2 &&& 31)) - 1)) ||| ((1 : Int32) <<< (x2 &&& 31))) ((x1 ^^^ (-1)) &&& (((1 : Int32) <<< (x2 &&& 31)) - 1)) fo fr lr se sk sw tr _ _ h) Y_Sear_find k_352 12 rfl hc_4 (q_pg [0, 1, 2, 4, 5] [3] [1, 2, 3, 0, 4, 5] 6 5 rfl (by decide) rfl (fun _ => rfl) rfl (by decide) (fun _ => rfl)) ⟨Nat.le_of_ble_eq_true rfl, Nat.le_of_ble_eq_true rfl⟩ rfl rfl (Nat.le_of_ble_eq_true rfl) hl.1 d_Mods_greater_45 ⟨Nat.le_refl 0, Nat.le_refl 0⟩ (fun r_1 u_1 H locs h hH => ?_)
        obtain ⟨lr_1, se_1, sk_1, sw_1, tr_1⟩ := u_1
        try dsimp only at h
        have hH : q_H dC dI (va_A w0 s.heap.size) s.heap H locs ([c_FO ad cA fo, c_FR ad cA fr, c_LR ad cA lr_1, c_MO ad cA mo, c_SE ad cA se_1 sk_1 sw_1, c_TR ad cA tr_1].flatten) := hH
        refine lv_istore (lv' := [(5, .int r_1), (4, .int (((1 : Int32) <<< (x2 &&& 31)) - 1)), (3, .int ((1 : Int32) <<< (x2 &&& 31))), (0, .ref (ad 11)), (1, .int x1), (2, .int x2)]) hx hb d_Mods_greater_48 hl (by decide) rfl (fun ls hl => ?_)
        refine lv_iload hx hb d_Mods_greater_50 (lv_at hl 0 rfl) ?_
        refine lv_iconst (v := (-1)) hx hb d_Mods_greater_52 (by decide) ?_
        refine lv_icmp_eq (tgt := 59) hx hb d_Mods_greater_53 (by decide) (fun c => ?_) (fun c => ?_)
        · have h := h.1 c
          refine lv_iinc (v := (x2 + (-1))) (lv' := [(2, .int (x2 + (-1))), (5, .int r_1), (4, .int (((1 : Int32) <<< (x2 &&& 31)) - 1)), (3, .int ((1 : Int32) <<< (x2 &&& 31))), (0, .ref (ad 11)), (1, .int x1)]) hx hb d_Mods_greater_59 hl (k := 5) rfl rfl (by decide) rfl (fun ls hl => ?_)
          refine lv_goto (tgt := 10) hx hb d_Mods_greater_62 (by decide) ?_
          exact ih (x2 + (-1)) lr_1 se_1 sk_1 sw_1 tr_1 _ _ _ h (lv_sub hl [4, 5, 0] rfl) hH
        · have h := h.2 c
          refine lv_iload hx hb d_Mods_greater_56 (lv_at hl 0 rfl) ?_
          exact q_reti C0 hH (lr_1, se_1, sk_1, sw_1, tr_1) rfl h d_Mods_greater_58
set_option maxHeartbeats 4000000 in
set_option maxRecDepth 100000 in
theorem c_Mods_greater (l : Launch) (dC : Nat → ClassId) (dI : Nat → Nat → Nat) (cA : ClassId) (ad : Nat → Nat) (x1 : Int32) (fo : tForm) (fr : tRows) (lr : tRows) (mo : tMods) (se : tSear) (sk : tClash) (sw : (Nat → Int32)) (tr : tTrail) (Q : Int32 → tRows → tSear → tClash → (Nat → Int32) → tTrail → Prop) (sz : Nat) (h : w_Mods_greater x1 fo fr lr se sk sw tr Q) :
    q_Mi l y_Mods_greater b_Mods_greater 6 (some .int) 5 119 [.ref (ad 11), .int x1] dC dI cA ([c_FO ad cA fo, c_FR ad cA fr, c_LR ad cA lr, c_MO ad cA mo, c_SE ad cA se sk sw, c_TR ad cA tr].flatten) (fun u : tRows × tSear × tClash × (Nat → Int32) × tTrail => [c_FO ad cA fo, c_FR ad cA fr, c_LR ad cA u.1, c_MO ad cA mo, c_SE ad cA u.2.1 u.2.2.1 u.2.2.2.1, c_TR ad cA u.2.2.2.2].flatten) sz (fun r u => Q r u.1 u.2.1 u.2.2.1 u.2.2.2.1 u.2.2.2.2) := by
  refine q_meti (plainFor_of_name (by decide +kernel)) (Nat.le_of_ble_eq_true rfl) (fun {p e s m below meth c ls} C0 hl hH => ?_)
  obtain ⟨hx, hb, -⟩ := id C0
  have hA : ∀ q, s.heap.size ≤ q → va_A ([c_FO ad cA fo, c_FR ad cA fr, c_LR ad cA lr, c_MO ad cA mo, c_SE ad cA se sk sw, c_TR ad cA tr].flatten) s.heap.size q := q_nA
  have hl : lv_has ls 6 [(0, .ref (ad 11)), (1, .int x1)] := hl
  unfold w_Mods_greater at h
  refine lv_aload_n hx hb d_Mods_greater_0 rfl (lv_at hl 0 rfl) ?_
  refine q_get (v := .ref (ad 1)) C0 hH 10 rfl hc_3 0 (by decide) k_155 rfl d_Mods_greater_1 ?_
  refine q_get (v := .int fo.width) C0 hH 0 rfl hc_1 0 (by decide) k_53 rfl d_Mods_greater_4 ?_
  refine lv_iconst (v := 1) hx hb d_Mods_greater_7 (by decide) ?_
  refine lv_isub hx hb d_Mods_greater_8 ?_
  refine lv_istore_n (lv' := [(2, .int (fo.width - 1)), (0, .ref (ad 11)), (1, .int x1)]) hx hb d_Mods_greater_9 rfl hl (by decide) rfl (fun ls hl => ?_)
  obtain ⟨nn, h⟩ := h
  refine x_Mods_greater_L10 C0 hA x1 fo fr mo ?_ nn (fo.width - 1) lr se sk sw tr _ _ _ h (lv_sub hl [1, 2, 0] rfl) hH
  · intro lr_1 se_1 sk_1 sw_1 tr_1 H locs ls h hl hH
    try dsimp only at h
    refine lv_iconst (v := (-1)) hx hb d_Mods_greater_65 (by decide) ?_
    exact q_reti C0 hH (lr_1, se_1, sk_1, sw_1, tr_1) rfl h d_Mods_greater_66
theorem d_Mods_reach_0 : decode b_Mods_reach 0 = .ok (.aload_n 0, 1) := by decide +kernel
theorem d_Mods_reach_1 : decode b_Mods_reach 1 = .ok (.invokevirtual 57, 3) := by decide +kernel
theorem d_Mods_reach_4 : decode b_Mods_reach 4 = .ok (.aload_n 0, 1) := by decide +kernel
theorem d_Mods_reach_5 : decode b_Mods_reach 5 = .ok (.getfield 35, 3) := by decide +kernel
theorem d_Mods_reach_8 : decode b_Mods_reach 8 = .ok (.iload_n 1, 1) := by decide +kernel
theorem d_Mods_reach_9 : decode b_Mods_reach 9 = .ok (.if_icmp .ge 134, 3) := by decide +kernel
theorem d_Mods_reach_12 : decode b_Mods_reach 12 = .ok (.aload_n 0, 1) := by decide +kernel
theorem d_Mods_reach_13 : decode b_Mods_reach 13 = .ok (.getfield 35, 3) := by decide +kernel
theorem d_Mods_reach_16 : decode b_Mods_reach 16 = .ok (.bipush 60, 2) := by decide +kernel
theorem d_Mods_reach_18 : decode b_Mods_reach 18 = .ok (.if_icmp .ge 125, 3) := by decide +kernel
theorem d_Mods_reach_21 : decode b_Mods_reach 21 = .ok (.aload_n 0, 1) := by decide +kernel
theorem d_Mods_reach_22 : decode b_Mods_reach 22 = .ok (.getfield 32, 3) := by decide +kernel
theorem d_Mods_reach_25 : decode b_Mods_reach 25 = .ok (.ifCond .ne 118, 3) := by decide +kernel
theorem d_Mods_reach_28 : decode b_Mods_reach 28 = .ok (.aload_n 0, 1) := by decide +kernel
theorem d_Mods_reach_29 : decode b_Mods_reach 29 = .ok (.getfield 35, 3) := by decide +kernel
theorem d_Mods_reach_32 : decode b_Mods_reach 32 = .ok (.ifCond .ne 7, 3) := by decide +kernel
theorem d_Mods_reach_35 : decode b_Mods_reach 35 = .ok (.iconst (-1), 1) := by decide +kernel
theorem d_Mods_reach_36 : decode b_Mods_reach 36 = .ok (.goto 14, 3) := by decide +kernel
theorem d_Mods_reach_39 : decode b_Mods_reach 39 = .ok (.aload_n 0, 1) := by decide +kernel
theorem d_Mods_reach_40 : decode b_Mods_reach 40 = .ok (.getfield 9, 3) := by decide +kernel
theorem d_Mods_reach_43 : decode b_Mods_reach 43 = .ok (.aload_n 0, 1) := by decide +kernel
theorem d_Mods_reach_44 : decode b_Mods_reach 44 = .ok (.getfield 35, 3) := by decide +kernel
theorem d_Mods_reach_47 : decode b_Mods_reach 47 = .ok (.iconst 1, 1) := by decide +kernel
theorem d_Mods_reach_48 : decode b_Mods_reach 48 = .ok (.isub, 1) := by decide +kernel
theorem d_Mods_reach_49 : decode b_Mods_reach 49 = .ok (.iaload, 1) := by decide +kernel
theorem d_Mods_reach_50 : decode b_Mods_reach 50 = .ok (.istore_n 2, 1) := by decide +kernel
theorem d_Mods_reach_51 : decode b_Mods_reach 51 = .ok (.iload_n 2, 1) := by decide +kernel
theorem d_Mods_reach_52 : decode b_Mods_reach 52 = .ok (.iconst (-1), 1) := by decide +kernel
theorem d_Mods_reach_53 : decode b_Mods_reach 53 = .ok (.if_icmp .ne 15, 3) := by decide +kernel
theorem d_Mods_reach_56 : decode b_Mods_reach 56 = .ok (.aload_n 0, 1) := by decide +kernel
theorem d_Mods_reach_57 : decode b_Mods_reach 57 = .ok (.getfield 24, 3) := by decide +kernel
theorem d_Mods_reach_60 : decode b_Mods_reach 60 = .ok (.iconst 0, 1) := by decide +kernel
theorem d_Mods_reach_61 : decode b_Mods_reach 61 = .ok (.iconst 0, 1) := by decide +kernel
theorem d_Mods_reach_62 : decode b_Mods_reach 62 = .ok (.invokevirtual 59, 3) := by decide +kernel
theorem d_Mods_reach_65 : decode b_Mods_reach 65 = .ok (.goto 8, 3) := by decide +kernel
theorem d_Mods_reach_68 : decode b_Mods_reach 68 = .ok (.aload_n 0, 1) := by decide +kernel
theorem d_Mods_reach_69 : decode b_Mods_reach 69 = .ok (.iload_n 2, 1) := by decide +kernel
theorem d_Mods_reach_70 : decode b_Mods_reach 70 = .ok (.invokevirtual 63, 3) := by decide +kernel
theorem d_Mods_reach_73 : decode b_Mods_reach 73 = .ok (.istore_n 3, 1) := by decide +kernel
theorem d_Mods_reach_74 : decode b_Mods_reach 74 = .ok (.iload_n 3, 1) := by decide +kernel
theorem d_Mods_reach_75 : decode b_Mods_reach 75 = .ok (.iconst (-1), 1) := by decide +kernel
theorem d_Mods_reach_76 : decode b_Mods_reach 76 = .ok (.if_icmp .ne 11, 3) := by decide +kernel
theorem d_Mods_reach_79 : decode b_Mods_reach 79 = .ok (.aload_n 0, 1) := by decide +kernel
theorem d_Mods_reach_80 : decode b_Mods_reach 80 = .ok (.iconst 1, 1) := by decide +kernel
theorem d_Mods_reach_81 : decode b_Mods_reach 81 = .ok (.putfield 32, 3) := by decide +kernel
theorem d_Mods_reach_84 : decode b_Mods_reach 84 = .ok (.goto 56, 3) := by decide +kernel
theorem d_Mods_reach_87 : decode b_Mods_reach 87 = .ok (.aload_n 0, 1) := by decide +kernel
theorem d_Mods_reach_88 : decode b_Mods_reach 88 = .ok (.getfield 9, 3) := by decide +kernel
theorem d_Mods_reach_91 : decode b_Mods_reach 91 = .ok (.aload_n 0, 1) := by decide +kernel
theorem d_Mods_reach_92 : decode b_Mods_reach 92 = .ok (.getfield 35, 3) := by decide +kernel
theorem d_Mods_reach_95 : decode b_Mods_reach 95 = .ok (.aload_n 0, 1) := by decide +kernel
theorem d_Mods_reach_96 : decode b_Mods_reach 96 = .ok (.iload_n 3, 1) := by decide +kernel
theorem d_Mods_reach_97 : decode b_Mods_reach 97 = .ok (.iload_n 2, 1) := by decide +kernel
theorem d_Mods_reach_98 : decode b_Mods_reach 98 = .ok (.iconst (-1), 1) := by decide +kernel
theorem d_Mods_reach_99 : decode b_Mods_reach 99 = .ok (.if_icmp .ne 7, 3) := by decide +kernel
theorem d_Mods_reach_102 : decode b_Mods_reach 102 = .ok (.iconst 0, 1) := by decide +kernel
theorem d_Mods_reach_103 : decode b_Mods_reach 103 = .ok (.goto 10, 3) := by decide +kernel
theorem d_Mods_reach_106 : decode b_Mods_reach 106 = .ok (.iload_n 2, 1) := by decide +kernel
theorem d_Mods_reach_107 : decode b_Mods_reach 107 = .ok (.iload_n 3, 1) := by decide +kernel
theorem d_Mods_reach_108 : decode b_Mods_reach 108 = .ok (.invokestatic 67, 3) := by decide +kernel
theorem d_Mods_reach_111 : decode b_Mods_reach 111 = .ok (.iconst 1, 1) := by decide +kernel
theorem d_Mods_reach_112 : decode b_Mods_reach 112 = .ok (.iadd, 1) := by decide +kernel
theorem d_Mods_reach_113 : decode b_Mods_reach 113 = .ok (.invokevirtual 70, 3) := by decide +kernel
theorem d_Mods_reach_116 : decode b_Mods_reach 116 = .ok (.iastore, 1) := by decide +kernel
theorem d_Mods_reach_117 : decode b_Mods_reach 117 = .ok (.aload_n 0, 1) := by decide +kernel
theorem d_Mods_reach_118 : decode b_Mods_reach 118 = .ok (.aload_n 0, 1) := by decide +kernel
theorem d_Mods_reach_119 : decode b_Mods_reach 119 = .ok (.getfield 9, 3) := by decide +kernel
theorem d_Mods_reach_122 : decode b_Mods_reach 122 = .ok (.aload_n 0, 1) := by decide +kernel
theorem d_Mods_reach_123 : decode b_Mods_reach 123 = .ok (.getfield 35, 3) := by decide +kernel
theorem d_Mods_reach_126 : decode b_Mods_reach 126 = .ok (.iaload, 1) := by decide +kernel
theorem d_Mods_reach_127 : decode b_Mods_reach 127 = .ok (.invokevirtual 73, 3) := by decide +kernel
theorem d_Mods_reach_130 : decode b_Mods_reach 130 = .ok (.aload_n 0, 1) := by decide +kernel
theorem d_Mods_reach_131 : decode b_Mods_reach 131 = .ok (.dup, 1) := by decide +kernel
theorem d_Mods_reach_132 : decode b_Mods_reach 132 = .ok (.getfield 35, 3) := by decide +kernel
theorem d_Mods_reach_135 : decode b_Mods_reach 135 = .ok (.iconst 1, 1) := by decide +kernel
theorem d_Mods_reach_136 : decode b_Mods_reach 136 = .ok (.iadd, 1) := by decide +kernel
theorem d_Mods_reach_137 : decode b_Mods_reach 137 = .ok (.putfield 35, 3) := by decide +kernel
theorem d_Mods_reach_140 : decode b_Mods_reach 140 = .ok (.goto (-136), 3) := by decide +kernel
theorem d_Mods_reach_143 : decode b_Mods_reach 143 = .ok (.aload_n 0, 1) := by decide +kernel
theorem d_Mods_reach_144 : decode b_Mods_reach 144 = .ok (.getfield 35, 3) := by decide +kernel
theorem d_Mods_reach_147 : decode b_Mods_reach 147 = .ok (.iload_n 1, 1) := by decide +kernel
theorem d_Mods_reach_148 : decode b_Mods_reach 148 = .ok (.if_icmp .lt 7, 3) := by decide +kernel
theorem d_Mods_reach_151 : decode b_Mods_reach 151 = .ok (.iconst 1, 1) := by decide +kernel
theorem d_Mods_reach_152 : decode b_Mods_reach 152 = .ok (.goto 4, 3) := by decide +kernel
theorem d_Mods_reach_155 : decode b_Mods_reach 155 = .ok (.iconst 0, 1) := by decide +kernel
theorem d_Mods_reach_156 : decode b_Mods_reach 156 = .ok (.ireturn, 1) := by decide +kernel
set_option maxHeartbeats 4000000 in
set_option maxRecDepth 100000 in
theorem x_Mods_reach_L4 {p : Program} {e : Env} {s : State} {m : MethodId} {args : Array Value} {below : List Frame} {meth : Method} {c : Code} {l : Launch} {dC : Nat → ClassId} {dI : Nat → Nat → Nat} {cA : ClassId} {ad : Nat → Nat} {w0 : va_W} (C0 : q_C p s m args meth c b_Mods_reach 4 (some .boolean) "PlanClauses$Models" dC dI cA) (hA : ∀ q, s.heap.size ≤ q → va_A w0 s.heap.size q) (x1 : Int32) (fo : tForm) (fr : tRows) {Q : Int32 → tRows → tMods → tSear → tClash → (Nat → Int32) → tTrail → Prop} {K143 : tRows → tMods → tSear → tClash → (Nat → Int32) → tTrail → Prop}
    (hK143 : ∀ (lr : tRows) (mo : tMods) (se : tSear) (sk : tClash) (sw : (Nat → Int32)) (tr : tTrail) (H : Heap) (locs : List Loc) (ls : Array Slot), K143 lr mo se sk sw tr → lv_has ls 4 [(0, .ref (ad 11)), (1, .int x1)] → q_H dC dI (va_A w0 s.heap.size) s.heap H locs ([c_FO ad cA fo, c_FR ad cA fr, c_LR ad cA lr, c_MO ad cA mo, c_SE ad cA se sk sw, c_TR ad cA tr].flatten) → W p l e (q_R 6 146) s m args below meth c H locs 0 0 (q_Zi below args s dC dI cA w0 (fun u : tRows × tMods × tSear × tClash × (Nat → Int32) × tTrail => [c_FO ad cA fo, c_FR ad cA fr, c_LR ad cA u.1, c_MO ad cA u.2.1, c_SE ad cA u.2.2.1 u.2.2.2.1 u.2.2.2.2.1, c_TR ad cA u.2.2.2.2.2].flatten) (fun r u => Q r u.1 u.2.1 u.2.2.1 u.2.2.2.1 u.2.2.2.2.1 u.2.2.2.2.2)) (F0 m 143 ls [])) :
    ∀ (nn : Nat) (lr : tRows) (mo : tMods) (se : tSear) (sk : tClash) (sw : (Nat → Int32)) (tr : tTrail) (H : Heap) (locs : List Loc) (ls : Array Slot), w_Mods_reach_L4 x1 fo fr K143 nn lr mo se sk sw tr → lv_has ls 4 [(0, .ref (ad 11)), (1, .int x1)] → q_H dC dI (va_A w0 s.heap.size) s.heap H locs ([c_FO ad cA fo, c_FR ad cA fr, c_LR ad cA lr, c_MO ad cA mo, c_SE ad cA se sk sw, c_TR ad cA tr].flatten) → W p l e (q_R 6 146) s m args below meth c H locs 0 0 (q_Zi below args s dC dI cA w0 (fun u : tRows × tMods × tSear × tClash × (Nat → Int32) × tTrail => [c_FO ad cA fo, c_FR ad cA fr, c_LR ad cA u.1, c_MO ad cA u.2.1, c_SE ad cA u.2.2.1 u.2.2.2.1 u.2.2.2.2.1, c_TR ad cA u.2.2.2.2.2].flatten) (fun r u => Q r u.1 u.2.1 u.2.2.1 u.2.2.2.1 u.2.2.2.2.1 u.2.2.2.2.2)) (F0 m 4 ls []) := by
  obtain ⟨hx, hb, -⟩ := id C0
  intro nn
  induction nn with
  | zero =>
    intro lr mo se sk sw tr H locs ls h
    exact (show False from h).elim
  | succ nn ih =>
    intro lr mo se sk sw tr H locs ls h hl hH
    rw [w_Mods_reach_L4] at h
    refine lv_aload_n hx hb d_Mods_reach_4 rfl (lv_at hl 0 rfl) ?_
    refine q_get (v := .int mo.size) C0 hH 10 rfl hc_3 3 (by decide) k_158 rfl d_Mods_reach_5 ?_
    refine lv_iload_n hx hb d_Mods_reach_8 rfl (lv_at hl 1 rfl) ?_
    refine lv_icmp_ge (tgt := 143) hx hb d_Mods_reach_9 (by decide) (fun c => ?_) (fun c => ?_)
    · have h := h.1 c
      exact hK143 lr mo se sk sw tr _ _ _ h (lv_sub hl [0, 1] rfl) hH
    · have h := h.2 c
      refine lv_aload_n hx hb d_Mods_reach_12 rfl (lv_at hl 0 rfl) ?_
      refine q_get (v := .int mo.size) C0 hH 10 rfl hc_3 3 (by decide) k_158 rfl d_Mods_reach_13 ?_
      refine lv_bipush (v := 60) hx hb d_Mods_reach_16 (by decide) ?_
      refine lv_icmp_ge (tgt := 143) hx hb d_Mods_reach_18 (by decide) (fun c => ?_) (fun c => ?_)
      · have h := h.1 c
        exact hK143 lr mo se sk sw tr _ _ _ h (lv_sub hl [0, 1] rfl) hH
      · have h := h.2 c
        refine lv_aload_n hx hb d_Mods_reach_21 rfl (lv_at hl 0 rfl) ?_
        refine q_get (v := .int mo.complete) C0 hH 10 rfl hc_3 7 (by decide) k_163 rfl d_Mods_reach_22 ?_
        refine lv_if_ne (tgt := 143) hx hb d_Mods_reach_25 (by decide) (fun c => ?_) (fun c => ?_)
        · have h := h.1 c
          exact hK143 lr mo se sk sw tr _ _ _ h (lv_sub hl [0, 1] rfl) hH
        · have h := h.2 c
          refine lv_aload_n hx hb d_Mods_reach_28 rfl (lv_at hl 0 rfl) ?_
          refine q_get (v := .int mo.size) C0 hH 10 rfl hc_3 3 (by decide) k_158 rfl d_Mods_reach_29 ?_
          refine lv_if_ne (tgt := 39) hx hb d_Mods_reach_32 (by decide) (fun c => ?_) (fun c => ?_)
          · have h := h.1 c
            refine lv_aload_n hx hb d_Mods_reach_39 rfl (lv_at hl 0 rfl) ?_
            refine q_get (v := .ref (ad 12)) C0 hH 10 rfl hc_3 2 (by decide) k_157 rfl d_Mods_reach_40 ?_
            refine lv_aload_n hx hb d_Mods_reach_43 rfl (lv_at hl 0 rfl) ?_
            refine q_get (v := .int mo.size) C0 hH 10 rfl hc_3 3 (by decide) k_158 rfl d_Mods_reach_44 ?_
            refine lv_iconst (v := 1) hx hb d_Mods_reach_47 (by decide) ?_
            refine lv_isub hx hb d_Mods_reach_48 ?_
            obtain ⟨hi, h⟩ := h
            refine q_ald (f := mo.rows) C0 hH 11 rfl hi d_Mods_reach_49 ?_
            refine lv_istore_n (lv' := [(2, .int (mo.rows (mo.size - 1).toNatClampNeg)), (0, .ref (ad 11)), (1, .int x1)]) hx hb d_Mods_reach_50 rfl hl (by decide) rfl (fun ls hl => ?_)
            refine lv_iload_n hx hb d_Mods_reach_51 rfl (lv_at hl 0 rfl) ?_
            refine lv_iconst (v := (-1)) hx hb d_Mods_reach_52 (by decide) ?_
            refine lv_icmp_ne (tgt := 68) hx hb d_Mods_reach_53 (by decide) (fun c => ?_) (fun c => ?_)
            · have h := h.1 c
              refine lv_aload_n hx hb d_Mods_reach_68 rfl (lv_at hl 1 rfl) ?_
              refine lv_iload_n hx hb d_Mods_reach_69 rfl (lv_at hl 0 rfl) ?_
              refine q_calli (rest := []) (ws' := fun u : tRows × tSear × tClash × (Nat → Int32) × tTrail => [c_FO ad cA fo, c_FR ad cA fr, c_LR ad cA u.1, c_MO ad cA mo, c_SE ad cA u.2.1 u.2.2.1 u.2.2.2.1, c_TR ad cA u.2.2.2.2].flatten) C0 hH hA (c_Mods_greater l dC dI cA ad (mo.rows (mo.size - 1).toNatClampNeg) fo fr lr mo se sk sw tr _ _ h) Y_Mods_greater k_424 10 rfl hc_3 (q_pg [0, 1, 2, 3, 4, 5] [] [0, 1, 2, 3, 4, 5] 6 6 rfl (by decide) rfl (fun _ => rfl) rfl (by decide) (fun _ => rfl)) ⟨Nat.le_of_ble_eq_true rfl, Nat.le_of_ble_eq_true rfl⟩ rfl rfl (Nat.le_of_ble_eq_true rfl) hl.1 d_Mods_reach_70 ⟨Nat.le_refl 0, Nat.le_refl 0⟩ (fun r_1 u_1 H locs h hH => ?_)
              obtain ⟨lr_1, se_1, sk_1, sw_1, tr_1⟩ := u_1
              try dsimp only at h
              have hH : q_H dC dI (va_A w0 s.heap.size) s.heap H locs ([c_FO ad cA fo, c_FR ad cA fr, c_LR ad cA lr_1, c_MO ad cA mo, c_SE ad cA se_1 sk_1 sw_1, c_TR ad cA tr_1].flatten) := hH
              refine lv_istore_n (lv' := [(3, .int r_1), (2, .int (mo.rows (mo.size - 1).toNatClampNeg)), (0, .ref (ad 11)), (1, .int x1)]) hx hb d_Mods_reach_73 rfl hl (by decide) rfl (fun ls hl => ?_)
              refine lv_iload_n hx hb d_Mods_reach_74 rfl (lv_at hl 0 rfl) ?_
              refine lv_iconst (v := (-1)) hx hb d_Mods_reach_75 (by decide) ?_
              refine lv_icmp_ne (tgt := 87) hx hb d_Mods_reach_76 (by decide) (fun c => ?_) (fun c => ?_)
              · have h := h.1 c
                refine lv_aload_n hx hb d_Mods_reach_87 rfl (lv_at hl 2 rfl) ?_
                refine q_get (v := .ref (ad 12)) C0 hH 10 rfl hc_3 2 (by decide) k_157 rfl d_Mods_reach_88 ?_
                refine lv_aload_n hx hb d_Mods_reach_91 rfl (lv_at hl 2 rfl) ?_
                refine q_get (v := .int mo.size) C0 hH 10 rfl hc_3 3 (by decide) k_158 rfl d_Mods_reach_92 ?_
                refine lv_aload_n hx hb d_Mods_reach_95 rfl (lv_at hl 2 rfl) ?_
                refine lv_iload_n hx hb d_Mods_reach_96 rfl (lv_at hl 0 rfl) ?_
                refine lv_iload_n hx hb d_Mods_reach_97 rfl (lv_at hl 1 rfl) ?_
                refine lv_iconst (v := (-1)) hx hb d_Mods_reach_98 (by decide) ?_
                refine lv_icmp_ne (tgt := 106) hx hb d_Mods_reach_99 (by decide) (fun c => ?_) (fun c => ?_)
                · have h := h.1 c
                  refine lv_iload_n hx hb d_Mods_reach_106 rfl (lv_at hl 1 rfl) ?_
                  refine lv_iload_n hx hb d_Mods_reach_107 rfl (lv_at hl 0 rfl) ?_
                  refine q_calls (rest := [.int r_1, .ref (ad 11), .int mo.size, .ref (ad 12)]) C0 hH hA (c_Mods_sameAhead l dC dI cA ad (mo.rows (mo.size - 1).toNatClampNeg) r_1 _ _ h) Y_Mods_sameAhead k_428 ⟨Nat.le_of_ble_eq_true rfl, Nat.le_of_ble_eq_true rfl⟩ rfl rfl (Nat.le_of_ble_eq_true rfl) hl.1 d_Mods_reach_108 ⟨Nat.le_refl 0, Nat.le_refl 0⟩ (fun r_2 H locs h hH => ?_)
                  try dsimp only at h
                  refine lv_iconst (v := 1) hx hb d_Mods_reach_111 (by decide) ?_
                  refine lv_iadd hx hb d_Mods_reach_112 ?_
                  refine q_calli (rest := [.int mo.size, .ref (ad 12)]) (ws' := fun u : tRows × tSear × tClash × (Nat → Int32) × tTrail => [c_FO ad cA fo, c_FR ad cA fr, c_LR ad cA u.1, c_MO ad cA mo, c_SE ad cA u.2.1 u.2.2.1 u.2.2.2.1, c_TR ad cA u.2.2.2.2].flatten) C0 hH hA (c_Mods_least l dC dI cA ad r_1 (r_2 + 1) fo fr lr_1 mo se_1 sk_1 sw_1 tr_1 _ _ h) Y_Mods_least k_435 10 rfl hc_3 (q_pg [0, 1, 2, 3, 4, 5] [] [0, 1, 2, 3, 4, 5] 6 6 rfl (by decide) rfl (fun _ => rfl) rfl (by decide) (fun _ => rfl)) ⟨Nat.le_of_ble_eq_true rfl, Nat.le_of_ble_eq_true rfl⟩ rfl rfl (Nat.le_of_ble_eq_true rfl) hl.1 d_Mods_reach_113 ⟨Nat.le_refl 0, Nat.le_refl 0⟩ (fun r_3 u_3 H locs h hH => ?_)
                  obtain ⟨lr_3, se_3, sk_3, sw_3, tr_3⟩ := u_3
                  try dsimp only at h
                  have hH : q_H dC dI (va_A w0 s.heap.size) s.heap H locs ([c_FO ad cA fo, c_FR ad cA fr, c_LR ad cA lr_3, c_MO ad cA mo, c_SE ad cA se_3 sk_3 sw_3, c_TR ad cA tr_3].flatten) := hH
                  obtain ⟨hi, h⟩ := h
                  refine q_ast (ws' := [c_FO ad cA fo, c_FR ad cA fr, c_LR ad cA lr_3, c_MO ad cA (tMods.mk (upd mo.rows mo.size.toNatClampNeg r_3) mo.size mo.seenTrue mo.seenFalse mo.begun mo.complete), c_SE ad cA se_3 sk_3 sw_3, c_TR ad cA tr_3].flatten) (f := mo.rows) C0 hH 11 rfl hi rfl d_Mods_reach_116 (fun H locs hH => ?_)
                  refine lv_aload_n hx hb d_Mods_reach_117 rfl (lv_at hl 2 rfl) ?_
                  refine lv_aload_n hx hb d_Mods_reach_118 rfl (lv_at hl 2 rfl) ?_
                  refine q_get (v := .ref (ad 12)) C0 hH 10 rfl hc_3 2 (by decide) k_157 rfl d_Mods_reach_119 ?_
                  refine lv_aload_n hx hb d_Mods_reach_122 rfl (lv_at hl 2 rfl) ?_
                  refine q_get (v := .int mo.size) C0 hH 10 rfl hc_3 3 (by decide) k_158 rfl d_Mods_reach_123 ?_
                  obtain ⟨hi, h⟩ := h
                  refine q_ald (f := (upd mo.rows mo.size.toNatClampNeg r_3)) C0 hH 11 rfl hi d_Mods_reach_126 ?_
                  refine q_callv (rest := []) (ws' := fun u : tMods => [c_FO ad cA fo, c_FR ad cA fr, c_LR ad cA lr_3, c_MO ad cA u, c_SE ad cA se_3 sk_3 sw_3, c_TR ad cA tr_3].flatten) C0 hH hA (c_Mods_see l dC dI cA ad ((upd mo.rows mo.size.toNatClampNeg r_3) mo.size.toNatClampNeg) (tMods.mk (upd mo.rows mo.size.toNatClampNeg r_3) mo.size mo.seenTrue mo.seenFalse mo.begun mo.complete) _ _ h) Y_Mods_see k_408 10 rfl hc_3 (q_pg [3] [0, 1, 2, 4, 5] [0, 1, 2, 5, 3, 4] 6 1 rfl (by decide) rfl (fun _ => rfl) rfl (by decide) (fun _ => rfl)) ⟨Nat.le_of_ble_eq_true rfl, Nat.le_of_ble_eq_true rfl⟩ rfl rfl (Nat.le_of_ble_eq_true rfl) hl.1 d_Mods_reach_127 ⟨Nat.le_refl 0, Nat.le_refl 0⟩ (fun u_4 H locs h hH => ?_)
                  obtain ⟨mo_4, rfl⟩ : ∃ z, z = u_4 := ⟨_, rfl⟩
                  try dsimp only at h
                  have hH : q_H dC dI (va_A w0 s.heap.size) s.heap H locs ([c_FO ad cA fo, c_FR ad cA fr, c_LR ad cA lr_3, c_MO ad cA mo_4, c_SE ad cA se_3 sk_3 sw_3, c_TR ad cA tr_3].flatten) := hH
                  refine lv_aload_n hx hb d_Mods_reach_130 rfl (lv_at hl 2 rfl) ?_
                  refine lv_dup hx hb d_Mods_reach_131 rfl ?_
                  refine q_get (v := .int mo_4.size) C0 hH 10 rfl hc_3 3 (by decide) k_158 rfl d_Mods_reach_132 ?_
                  refine lv_iconst (v := 1) hx hb d_Mods_reach_135 (by decide) ?_
                  refine lv_iadd hx hb d_Mods_reach_136 ?_
                  refine q_puti (ws' := [c_FO ad cA fo, c_FR ad cA fr, c_LR ad cA lr_3, c_MO ad cA (tMods.mk mo_4.rows (mo_4.size + 1) mo_4.seenTrue mo_4.seenFalse mo_4.begun mo_4.complete), c_SE ad cA se_3 sk_3 sw_3, c_TR ad cA tr_3].flatten) C0 hH 10 rfl hc_3 3 (by decide) k_158 rfl rfl (Nat.le_of_ble_eq_true rfl) rfl d_Mods_reach_137 (fun H locs hH => ?_)
                  refine lv_goto (tgt := 4) hx hb d_Mods_reach_140 (by decide) ?_
                  exact ih lr_3 (tMods.mk mo_4.rows (mo_4.size + 1) mo_4.seenTrue mo_4.seenFalse mo_4.begun mo_4.complete) se_3 sk_3 sw_3 tr_3 _ _ _ h (lv_sub hl [2, 3] rfl) hH
                · have h := h.2 c
                  refine lv_iconst (v := 0) hx hb d_Mods_reach_102 (by decide) ?_
                  refine lv_goto (tgt := 113) hx hb d_Mods_reach_103 (by decide) ?_
                  refine q_calli (rest := [.int mo.size, .ref (ad 12)]) (ws' := fun u : tRows × tSear × tClash × (Nat → Int32) × tTrail => [c_FO ad cA fo, c_FR ad cA fr, c_LR ad cA u.1, c_MO ad cA mo, c_SE ad cA u.2.1 u.2.2.1 u.2.2.2.1, c_TR ad cA u.2.2.2.2].flatten) C0 hH hA (c_Mods_least l dC dI cA ad r_1 0 fo fr lr_1 mo se_1 sk_1 sw_1 tr_1 _ _ h) Y_Mods_least k_435 10 rfl hc_3 (q_pg [0, 1, 2, 3, 4, 5] [] [0, 1, 2, 3, 4, 5] 6 6 rfl (by decide) rfl (fun _ => rfl) rfl (by decide) (fun _ => rfl)) ⟨Nat.le_of_ble_eq_true rfl, Nat.le_of_ble_eq_true rfl⟩ rfl rfl (Nat.le_of_ble_eq_true rfl) hl.1 d_Mods_reach_113 ⟨Nat.le_refl 0, Nat.le_refl 0⟩ (fun r_5 u_5 H locs h hH => ?_)
                  obtain ⟨lr_5, se_5, sk_5, sw_5, tr_5⟩ := u_5
                  try dsimp only at h
                  have hH : q_H dC dI (va_A w0 s.heap.size) s.heap H locs ([c_FO ad cA fo, c_FR ad cA fr, c_LR ad cA lr_5, c_MO ad cA mo, c_SE ad cA se_5 sk_5 sw_5, c_TR ad cA tr_5].flatten) := hH
                  obtain ⟨hi, h⟩ := h
                  refine q_ast (ws' := [c_FO ad cA fo, c_FR ad cA fr, c_LR ad cA lr_5, c_MO ad cA (tMods.mk (upd mo.rows mo.size.toNatClampNeg r_5) mo.size mo.seenTrue mo.seenFalse mo.begun mo.complete), c_SE ad cA se_5 sk_5 sw_5, c_TR ad cA tr_5].flatten) (f := mo.rows) C0 hH 11 rfl hi rfl d_Mods_reach_116 (fun H locs hH => ?_)
                  refine lv_aload_n hx hb d_Mods_reach_117 rfl (lv_at hl 2 rfl) ?_
                  refine lv_aload_n hx hb d_Mods_reach_118 rfl (lv_at hl 2 rfl) ?_
                  refine q_get (v := .ref (ad 12)) C0 hH 10 rfl hc_3 2 (by decide) k_157 rfl d_Mods_reach_119 ?_
                  refine lv_aload_n hx hb d_Mods_reach_122 rfl (lv_at hl 2 rfl) ?_
                  refine q_get (v := .int mo.size) C0 hH 10 rfl hc_3 3 (by decide) k_158 rfl d_Mods_reach_123 ?_
                  obtain ⟨hi, h⟩ := h
                  refine q_ald (f := (upd mo.rows mo.size.toNatClampNeg r_5)) C0 hH 11 rfl hi d_Mods_reach_126 ?_
                  refine q_callv (rest := []) (ws' := fun u : tMods => [c_FO ad cA fo, c_FR ad cA fr, c_LR ad cA lr_5, c_MO ad cA u, c_SE ad cA se_5 sk_5 sw_5, c_TR ad cA tr_5].flatten) C0 hH hA (c_Mods_see l dC dI cA ad ((upd mo.rows mo.size.toNatClampNeg r_5) mo.size.toNatClampNeg) (tMods.mk (upd mo.rows mo.size.toNatClampNeg r_5) mo.size mo.seenTrue mo.seenFalse mo.begun mo.complete) _ _ h) Y_Mods_see k_408 10 rfl hc_3 (q_pg [3] [0, 1, 2, 4, 5] [0, 1, 2, 5, 3, 4] 6 1 rfl (by decide) rfl (fun _ => rfl) rfl (by decide) (fun _ => rfl)) ⟨Nat.le_of_ble_eq_true rfl, Nat.le_of_ble_eq_true rfl⟩ rfl rfl (Nat.le_of_ble_eq_true rfl) hl.1 d_Mods_reach_127 ⟨Nat.le_refl 0, Nat.le_refl 0⟩ (fun u_6 H locs h hH => ?_)
                  obtain ⟨mo_6, rfl⟩ : ∃ z, z = u_6 := ⟨_, rfl⟩
                  try dsimp only at h
                  have hH : q_H dC dI (va_A w0 s.heap.size) s.heap H locs ([c_FO ad cA fo, c_FR ad cA fr, c_LR ad cA lr_5, c_MO ad cA mo_6, c_SE ad cA se_5 sk_5 sw_5, c_TR ad cA tr_5].flatten) := hH
                  refine lv_aload_n hx hb d_Mods_reach_130 rfl (lv_at hl 2 rfl) ?_
                  refine lv_dup hx hb d_Mods_reach_131 rfl ?_
                  refine q_get (v := .int mo_6.size) C0 hH 10 rfl hc_3 3 (by decide) k_158 rfl d_Mods_reach_132 ?_
                  refine lv_iconst (v := 1) hx hb d_Mods_reach_135 (by decide) ?_
                  refine lv_iadd hx hb d_Mods_reach_136 ?_
                  refine q_puti (ws' := [c_FO ad cA fo, c_FR ad cA fr, c_LR ad cA lr_5, c_MO ad cA (tMods.mk mo_6.rows (mo_6.size + 1) mo_6.seenTrue mo_6.seenFalse mo_6.begun mo_6.complete), c_SE ad cA se_5 sk_5 sw_5, c_TR ad cA tr_5].flatten) C0 hH 10 rfl hc_3 3 (by decide) k_158 rfl rfl (Nat.le_of_ble_eq_true rfl) rfl d_Mods_reach_137 (fun H locs hH => ?_)
                  refine lv_goto (tgt := 4) hx hb d_Mods_reach_140 (by decide) ?_
                  exact ih lr_5 (tMods.mk mo_6.rows (mo_6.size + 1) mo_6.seenTrue mo_6.seenFalse mo_6.begun mo_6.complete) se_5 sk_5 sw_5 tr_5 _ _ _ h (lv_sub hl [2, 3] rfl) hH
              · have h := h.2 c
                refine lv_aload_n hx hb d_Mods_reach_79 rfl (lv_at hl 2 rfl) ?_
                refine lv_iconst (v := 1) hx hb d_Mods_reach_80 (by decide) ?_
                refine q_putz (ws' := [c_FO ad cA fo, c_FR ad cA fr, c_LR ad cA lr_1, c_MO ad cA (tMods.mk mo.rows mo.size mo.seenTrue mo.seenFalse mo.begun 1), c_SE ad cA se_1 sk_1 sw_1, c_TR ad cA tr_1].flatten) C0 hH 10 rfl hc_3 7 (by decide) k_163 rfl rfl (Or.inr rfl) (Nat.le_of_ble_eq_true rfl) rfl d_Mods_reach_81 (fun H locs hH => ?_)
                refine lv_goto (tgt := 140) hx hb d_Mods_reach_84 (by decide) ?_
                refine lv_goto (tgt := 4) hx hb d_Mods_reach_140 (by decide) ?_
                exact ih lr_1 (tMods.mk mo.rows mo.size mo.seenTrue mo.seenFalse mo.begun 1) se_1 sk_1 sw_1 tr_1 _ _ _ h (lv_sub hl [2, 3] rfl) hH
            · have h := h.2 c
              refine lv_aload_n hx hb d_Mods_reach_56 rfl (lv_at hl 1 rfl) ?_
              refine q_get (v := .ref (ad 13)) C0 hH 10 rfl hc_3 1 (by decide) k_156 rfl d_Mods_reach_57 ?_
              refine lv_iconst (v := 0) hx hb d_Mods_reach_60 (by decide) ?_
              refine lv_iconst (v := 0) hx hb d_Mods_reach_61 (by decide) ?_
              refine q_calli (rest := []) (ws' := fun u : tRows × tSear × tClash × (Nat → Int32) × tTrail => [c_FO ad cA fo, c_FR ad cA fr, c_LR ad cA u.1, c_MO ad cA mo, c_SE ad cA u.2.1 u.2.2.1 u.2.2.2.1, c_TR ad cA u.2.2.2.2].flatten) C0 hH hA (c_Sear_find l dC dI cA ad 0 0 fo fr lr se sk sw tr _ _ h) Y_Sear_find k_352 12 rfl hc_4 (q_pg [0, 1, 2, 4, 5] [3] [1, 2, 3, 0, 4, 5] 6 5 rfl (by decide) rfl (fun _ => rfl) rfl (by decide) (fun _ => rfl)) ⟨Nat.le_of_ble_eq_true rfl, Nat.le_of_ble_eq_true rfl⟩ rfl rfl (Nat.le_of_ble_eq_true rfl) hl.1 d_Mods_reach_62 ⟨Nat.le_refl 0, Nat.le_refl 0⟩ (fun r_7 u_7 H locs h hH => ?_)
              obtain ⟨lr_7, se_7, sk_7, sw_7, tr_7⟩ := u_7
              try dsimp only at h
              have hH : q_H dC dI (va_A w0 s.heap.size) s.heap H locs ([c_FO ad cA fo, c_FR ad cA fr, c_LR ad cA lr_7, c_MO ad cA mo, c_SE ad cA se_7 sk_7 sw_7, c_TR ad cA tr_7].flatten) := hH
              refine lv_goto (tgt := 73) hx hb d_Mods_reach_65 (by decide) ?_
              refine lv_istore_n (lv' := [(3, .int r_7), (2, .int (mo.rows (mo.size - 1).toNatClampNeg)), (0, .ref (ad 11)), (1, .int x1)]) hx hb d_Mods_reach_73 rfl hl (by decide) rfl (fun ls hl => ?_)
              refine lv_iload_n hx hb d_Mods_reach_74 rfl (lv_at hl 0 rfl) ?_
              refine lv_iconst (v := (-1)) hx hb d_Mods_reach_75 (by decide) ?_
              refine lv_icmp_ne (tgt := 87) hx hb d_Mods_reach_76 (by decide) (fun c => ?_) (fun c => ?_)
              · have h := h.1 c
                refine lv_aload_n hx hb d_Mods_reach_87 rfl (lv_at hl 2 rfl) ?_
                refine q_get (v := .ref (ad 12)) C0 hH 10 rfl hc_3 2 (by decide) k_157 rfl d_Mods_reach_88 ?_
                refine lv_aload_n hx hb d_Mods_reach_91 rfl (lv_at hl 2 rfl) ?_
                refine q_get (v := .int mo.size) C0 hH 10 rfl hc_3 3 (by decide) k_158 rfl d_Mods_reach_92 ?_
                refine lv_aload_n hx hb d_Mods_reach_95 rfl (lv_at hl 2 rfl) ?_
                refine lv_iload_n hx hb d_Mods_reach_96 rfl (lv_at hl 0 rfl) ?_
                refine lv_iload_n hx hb d_Mods_reach_97 rfl (lv_at hl 1 rfl) ?_
                refine lv_iconst (v := (-1)) hx hb d_Mods_reach_98 (by decide) ?_
                refine lv_icmp_ne (tgt := 106) hx hb d_Mods_reach_99 (by decide) (fun c => ?_) (fun c => ?_)
                · have h := h.1 c
                  refine lv_iload_n hx hb d_Mods_reach_106 rfl (lv_at hl 1 rfl) ?_
                  refine lv_iload_n hx hb d_Mods_reach_107 rfl (lv_at hl 0 rfl) ?_
                  refine q_calls (rest := [.int r_7, .ref (ad 11), .int mo.size, .ref (ad 12)]) C0 hH hA (c_Mods_sameAhead l dC dI cA ad (mo.rows (mo.size - 1).toNatClampNeg) r_7 _ _ h) Y_Mods_sameAhead k_428 ⟨Nat.le_of_ble_eq_true rfl, Nat.le_of_ble_eq_true rfl⟩ rfl rfl (Nat.le_of_ble_eq_true rfl) hl.1 d_Mods_reach_108 ⟨Nat.le_refl 0, Nat.le_refl 0⟩ (fun r_8 H locs h hH => ?_)
                  try dsimp only at h
                  refine lv_iconst (v := 1) hx hb d_Mods_reach_111 (by decide) ?_
                  refine lv_iadd hx hb d_Mods_reach_112 ?_
                  refine q_calli (rest := [.int mo.size, .ref (ad 12)]) (ws' := fun u : tRows × tSear × tClash × (Nat → Int32) × tTrail => [c_FO ad cA fo, c_FR ad cA fr, c_LR ad cA u.1, c_MO ad cA mo, c_SE ad cA u.2.1 u.2.2.1 u.2.2.2.1, c_TR ad cA u.2.2.2.2].flatten) C0 hH hA (c_Mods_least l dC dI cA ad r_7 (r_8 + 1) fo fr lr_7 mo se_7 sk_7 sw_7 tr_7 _ _ h) Y_Mods_least k_435 10 rfl hc_3 (q_pg [0, 1, 2, 3, 4, 5] [] [0, 1, 2, 3, 4, 5] 6 6 rfl (by decide) rfl (fun _ => rfl) rfl (by decide) (fun _ => rfl)) ⟨Nat.le_of_ble_eq_true rfl, Nat.le_of_ble_eq_true rfl⟩ rfl rfl (Nat.le_of_ble_eq_true rfl) hl.1 d_Mods_reach_113 ⟨Nat.le_refl 0, Nat.le_refl 0⟩ (fun r_9 u_9 H locs h hH => ?_)
                  obtain ⟨lr_9, se_9, sk_9, sw_9, tr_9⟩ := u_9
                  try dsimp only at h
                  have hH : q_H dC dI (va_A w0 s.heap.size) s.heap H locs ([c_FO ad cA fo, c_FR ad cA fr, c_LR ad cA lr_9, c_MO ad cA mo, c_SE ad cA se_9 sk_9 sw_9, c_TR ad cA tr_9].flatten) := hH
                  obtain ⟨hi, h⟩ := h
                  refine q_ast (ws' := [c_FO ad cA fo, c_FR ad cA fr, c_LR ad cA lr_9, c_MO ad cA (tMods.mk (upd mo.rows mo.size.toNatClampNeg r_9) mo.size mo.seenTrue mo.seenFalse mo.begun mo.complete), c_SE ad cA se_9 sk_9 sw_9, c_TR ad cA tr_9].flatten) (f := mo.rows) C0 hH 11 rfl hi rfl d_Mods_reach_116 (fun H locs hH => ?_)
                  refine lv_aload_n hx hb d_Mods_reach_117 rfl (lv_at hl 2 rfl) ?_
                  refine lv_aload_n hx hb d_Mods_reach_118 rfl (lv_at hl 2 rfl) ?_
                  refine q_get (v := .ref (ad 12)) C0 hH 10 rfl hc_3 2 (by decide) k_157 rfl d_Mods_reach_119 ?_
                  refine lv_aload_n hx hb d_Mods_reach_122 rfl (lv_at hl 2 rfl) ?_
                  refine q_get (v := .int mo.size) C0 hH 10 rfl hc_3 3 (by decide) k_158 rfl d_Mods_reach_123 ?_
                  obtain ⟨hi, h⟩ := h
                  refine q_ald (f := (upd mo.rows mo.size.toNatClampNeg r_9)) C0 hH 11 rfl hi d_Mods_reach_126 ?_
                  refine q_callv (rest := []) (ws' := fun u : tMods => [c_FO ad cA fo, c_FR ad cA fr, c_LR ad cA lr_9, c_MO ad cA u, c_SE ad cA se_9 sk_9 sw_9, c_TR ad cA tr_9].flatten) C0 hH hA (c_Mods_see l dC dI cA ad ((upd mo.rows mo.size.toNatClampNeg r_9) mo.size.toNatClampNeg) (tMods.mk (upd mo.rows mo.size.toNatClampNeg r_9) mo.size mo.seenTrue mo.seenFalse mo.begun mo.complete) _ _ h) Y_Mods_see k_408 10 rfl hc_3 (q_pg [3] [0, 1, 2, 4, 5] [0, 1, 2, 5, 3, 4] 6 1 rfl (by decide) rfl (fun _ => rfl) rfl (by decide) (fun _ => rfl)) ⟨Nat.le_of_ble_eq_true rfl, Nat.le_of_ble_eq_true rfl⟩ rfl rfl (Nat.le_of_ble_eq_true rfl) hl.1 d_Mods_reach_127 ⟨Nat.le_refl 0, Nat.le_refl 0⟩ (fun u_10 H locs h hH => ?_)
                  obtain ⟨mo_10, rfl⟩ : ∃ z, z = u_10 := ⟨_, rfl⟩
                  try dsimp only at h
                  have hH : q_H dC dI (va_A w0 s.heap.size) s.heap H locs ([c_FO ad cA fo, c_FR ad cA fr, c_LR ad cA lr_9, c_MO ad cA mo_10, c_SE ad cA se_9 sk_9 sw_9, c_TR ad cA tr_9].flatten) := hH
                  refine lv_aload_n hx hb d_Mods_reach_130 rfl (lv_at hl 2 rfl) ?_
                  refine lv_dup hx hb d_Mods_reach_131 rfl ?_
                  refine q_get (v := .int mo_10.size) C0 hH 10 rfl hc_3 3 (by decide) k_158 rfl d_Mods_reach_132 ?_
                  refine lv_iconst (v := 1) hx hb d_Mods_reach_135 (by decide) ?_
                  refine lv_iadd hx hb d_Mods_reach_136 ?_
                  refine q_puti (ws' := [c_FO ad cA fo, c_FR ad cA fr, c_LR ad cA lr_9, c_MO ad cA (tMods.mk mo_10.rows (mo_10.size + 1) mo_10.seenTrue mo_10.seenFalse mo_10.begun mo_10.complete), c_SE ad cA se_9 sk_9 sw_9, c_TR ad cA tr_9].flatten) C0 hH 10 rfl hc_3 3 (by decide) k_158 rfl rfl (Nat.le_of_ble_eq_true rfl) rfl d_Mods_reach_137 (fun H locs hH => ?_)
                  refine lv_goto (tgt := 4) hx hb d_Mods_reach_140 (by decide) ?_
                  exact ih lr_9 (tMods.mk mo_10.rows (mo_10.size + 1) mo_10.seenTrue mo_10.seenFalse mo_10.begun mo_10.complete) se_9 sk_9 sw_9 tr_9 _ _ _ h (lv_sub hl [2, 3] rfl) hH
                · have h := h.2 c
                  refine lv_iconst (v := 0) hx hb d_Mods_reach_102 (by decide) ?_
                  refine lv_goto (tgt := 113) hx hb d_Mods_reach_103 (by decide) ?_
                  refine q_calli (rest := [.int mo.size, .ref (ad 12)]) (ws' := fun u : tRows × tSear × tClash × (Nat → Int32) × tTrail => [c_FO ad cA fo, c_FR ad cA fr, c_LR ad cA u.1, c_MO ad cA mo, c_SE ad cA u.2.1 u.2.2.1 u.2.2.2.1, c_TR ad cA u.2.2.2.2].flatten) C0 hH hA (c_Mods_least l dC dI cA ad r_7 0 fo fr lr_7 mo se_7 sk_7 sw_7 tr_7 _ _ h) Y_Mods_least k_435 10 rfl hc_3 (q_pg [0, 1, 2, 3, 4, 5] [] [0, 1, 2, 3, 4, 5] 6 6 rfl (by decide) rfl (fun _ => rfl) rfl (by decide) (fun _ => rfl)) ⟨Nat.le_of_ble_eq_true rfl, Nat.le_of_ble_eq_true rfl⟩ rfl rfl (Nat.le_of_ble_eq_true rfl) hl.1 d_Mods_reach_113 ⟨Nat.le_refl 0, Nat.le_refl 0⟩ (fun r_11 u_11 H locs h hH => ?_)
                  obtain ⟨lr_11, se_11, sk_11, sw_11, tr_11⟩ := u_11
                  try dsimp only at h
                  have hH : q_H dC dI (va_A w0 s.heap.size) s.heap H locs ([c_FO ad cA fo, c_FR ad cA fr, c_LR ad cA lr_11, c_MO ad cA mo, c_SE ad cA se_11 sk_11 sw_11, c_TR ad cA tr_11].flatten) := hH
                  obtain ⟨hi, h⟩ := h
                  refine q_ast (ws' := [c_FO ad cA fo, c_FR ad cA fr, c_LR ad cA lr_11, c_MO ad cA (tMods.mk (upd mo.rows mo.size.toNatClampNeg r_11) mo.size mo.seenTrue mo.seenFalse mo.begun mo.complete), c_SE ad cA se_11 sk_11 sw_11, c_TR ad cA tr_11].flatten) (f := mo.rows) C0 hH 11 rfl hi rfl d_Mods_reach_116 (fun H locs hH => ?_)
                  refine lv_aload_n hx hb d_Mods_reach_117 rfl (lv_at hl 2 rfl) ?_
                  refine lv_aload_n hx hb d_Mods_reach_118 rfl (lv_at hl 2 rfl) ?_
                  refine q_get (v := .ref (ad 12)) C0 hH 10 rfl hc_3 2 (by decide) k_157 rfl d_Mods_reach_119 ?_
                  refine lv_aload_n hx hb d_Mods_reach_122 rfl (lv_at hl 2 rfl) ?_
                  refine q_get (v := .int mo.size) C0 hH 10 rfl hc_3 3 (by decide) k_158 rfl d_Mods_reach_123 ?_
                  obtain ⟨hi, h⟩ := h
                  refine q_ald (f := (upd mo.rows mo.size.toNatClampNeg r_11)) C0 hH 11 rfl hi d_Mods_reach_126 ?_
                  refine q_callv (rest := []) (ws' := fun u : tMods => [c_FO ad cA fo, c_FR ad cA fr, c_LR ad cA lr_11, c_MO ad cA u, c_SE ad cA se_11 sk_11 sw_11, c_TR ad cA tr_11].flatten) C0 hH hA (c_Mods_see l dC dI cA ad ((upd mo.rows mo.size.toNatClampNeg r_11) mo.size.toNatClampNeg) (tMods.mk (upd mo.rows mo.size.toNatClampNeg r_11) mo.size mo.seenTrue mo.seenFalse mo.begun mo.complete) _ _ h) Y_Mods_see k_408 10 rfl hc_3 (q_pg [3] [0, 1, 2, 4, 5] [0, 1, 2, 5, 3, 4] 6 1 rfl (by decide) rfl (fun _ => rfl) rfl (by decide) (fun _ => rfl)) ⟨Nat.le_of_ble_eq_true rfl, Nat.le_of_ble_eq_true rfl⟩ rfl rfl (Nat.le_of_ble_eq_true rfl) hl.1 d_Mods_reach_127 ⟨Nat.le_refl 0, Nat.le_refl 0⟩ (fun u_12 H locs h hH => ?_)
                  obtain ⟨mo_12, rfl⟩ : ∃ z, z = u_12 := ⟨_, rfl⟩
                  try dsimp only at h
                  have hH : q_H dC dI (va_A w0 s.heap.size) s.heap H locs ([c_FO ad cA fo, c_FR ad cA fr, c_LR ad cA lr_11, c_MO ad cA mo_12, c_SE ad cA se_11 sk_11 sw_11, c_TR ad cA tr_11].flatten) := hH
                  refine lv_aload_n hx hb d_Mods_reach_130 rfl (lv_at hl 2 rfl) ?_
                  refine lv_dup hx hb d_Mods_reach_131 rfl ?_
                  refine q_get (v := .int mo_12.size) C0 hH 10 rfl hc_3 3 (by decide) k_158 rfl d_Mods_reach_132 ?_
                  refine lv_iconst (v := 1) hx hb d_Mods_reach_135 (by decide) ?_
                  refine lv_iadd hx hb d_Mods_reach_136 ?_
                  refine q_puti (ws' := [c_FO ad cA fo, c_FR ad cA fr, c_LR ad cA lr_11, c_MO ad cA (tMods.mk mo_12.rows (mo_12.size + 1) mo_12.seenTrue mo_12.seenFalse mo_12.begun mo_12.complete), c_SE ad cA se_11 sk_11 sw_11, c_TR ad cA tr_11].flatten) C0 hH 10 rfl hc_3 3 (by decide) k_158 rfl rfl (Nat.le_of_ble_eq_true rfl) rfl d_Mods_reach_137 (fun H locs hH => ?_)
                  refine lv_goto (tgt := 4) hx hb d_Mods_reach_140 (by decide) ?_
                  exact ih lr_11 (tMods.mk mo_12.rows (mo_12.size + 1) mo_12.seenTrue mo_12.seenFalse mo_12.begun mo_12.complete) se_11 sk_11 sw_11 tr_11 _ _ _ h (lv_sub hl [2, 3] rfl) hH
              · have h := h.2 c
                refine lv_aload_n hx hb d_Mods_reach_79 rfl (lv_at hl 2 rfl) ?_
                refine lv_iconst (v := 1) hx hb d_Mods_reach_80 (by decide) ?_
                refine q_putz (ws' := [c_FO ad cA fo, c_FR ad cA fr, c_LR ad cA lr_7, c_MO ad cA (tMods.mk mo.rows mo.size mo.seenTrue mo.seenFalse mo.begun 1), c_SE ad cA se_7 sk_7 sw_7, c_TR ad cA tr_7].flatten) C0 hH 10 rfl hc_3 7 (by decide) k_163 rfl rfl (Or.inr rfl) (Nat.le_of_ble_eq_true rfl) rfl d_Mods_reach_81 (fun H locs hH => ?_)
                refine lv_goto (tgt := 140) hx hb d_Mods_reach_84 (by decide) ?_
                refine lv_goto (tgt := 4) hx hb d_Mods_reach_140 (by decide) ?_
                exact ih lr_7 (tMods.mk mo.rows mo.size mo.seenTrue mo.seenFalse mo.begun 1) se_7 sk_7 sw_7 tr_7 _ _ _ h (lv_sub hl [2, 3] rfl) hH
          · have h := h.2 c
            refine lv_iconst (v := (-1)) hx hb d_Mods_reach_35 (by decide) ?_
            refine lv_goto (tgt := 50) hx hb d_Mods_reach_36 (by decide) ?_
            refine lv_istore_n (lv' := [(2, .int (-1)), (0, .ref (ad 11)), (1, .int x1)]) hx hb d_Mods_reach_50 rfl hl (by decide) rfl (fun ls hl => ?_)
            refine lv_iload_n hx hb d_Mods_reach_51 rfl (lv_at hl 0 rfl) ?_
            refine lv_iconst (v := (-1)) hx hb d_Mods_reach_52 (by decide) ?_
            refine lv_icmp_ne (tgt := 68) hx hb d_Mods_reach_53 (by decide) (fun c => ?_) (fun c => ?_)
            · have h := h.1 c
              refine lv_aload_n hx hb d_Mods_reach_68 rfl (lv_at hl 1 rfl) ?_
              refine lv_iload_n hx hb d_Mods_reach_69 rfl (lv_at hl 0 rfl) ?_
              refine q_calli (rest := []) (ws' := fun u : tRows × tSear × tClash × (Nat → Int32) × tTrail => [c_FO ad cA fo, c_FR ad cA fr, c_LR ad cA u.1, c_MO ad cA mo, c_SE ad cA u.2.1 u.2.2.1 u.2.2.2.1, c_TR ad cA u.2.2.2.2].flatten) C0 hH hA (c_Mods_greater l dC dI cA ad (-1) fo fr lr mo se sk sw tr _ _ h) Y_Mods_greater k_424 10 rfl hc_3 (q_pg [0, 1, 2, 3, 4, 5] [] [0, 1, 2, 3, 4, 5] 6 6 rfl (by decide) rfl (fun _ => rfl) rfl (by decide) (fun _ => rfl)) ⟨Nat.le_of_ble_eq_true rfl, Nat.le_of_ble_eq_true rfl⟩ rfl rfl (Nat.le_of_ble_eq_true rfl) hl.1 d_Mods_reach_70 ⟨Nat.le_refl 0, Nat.le_refl 0⟩ (fun r_13 u_13 H locs h hH => ?_)
              obtain ⟨lr_13, se_13, sk_13, sw_13, tr_13⟩ := u_13
              try dsimp only at h
              have hH : q_H dC dI (va_A w0 s.heap.size) s.heap H locs ([c_FO ad cA fo, c_FR ad cA fr, c_LR ad cA lr_13, c_MO ad cA mo, c_SE ad cA se_13 sk_13 sw_13, c_TR ad cA tr_13].flatten) := hH
              refine lv_istore_n (lv' := [(3, .int r_13), (2, .int (-1)), (0, .ref (ad 11)), (1, .int x1)]) hx hb d_Mods_reach_73 rfl hl (by decide) rfl (fun ls hl => ?_)
              refine lv_iload_n hx hb d_Mods_reach_74 rfl (lv_at hl 0 rfl) ?_
              refine lv_iconst (v := (-1)) hx hb d_Mods_reach_75 (by decide) ?_
              refine lv_icmp_ne (tgt := 87) hx hb d_Mods_reach_76 (by decide) (fun c => ?_) (fun c => ?_)
              · have h := h.1 c
                refine lv_aload_n hx hb d_Mods_reach_87 rfl (lv_at hl 2 rfl) ?_
                refine q_get (v := .ref (ad 12)) C0 hH 10 rfl hc_3 2 (by decide) k_157 rfl d_Mods_reach_88 ?_
                refine lv_aload_n hx hb d_Mods_reach_91 rfl (lv_at hl 2 rfl) ?_
                refine q_get (v := .int mo.size) C0 hH 10 rfl hc_3 3 (by decide) k_158 rfl d_Mods_reach_92 ?_
                refine lv_aload_n hx hb d_Mods_reach_95 rfl (lv_at hl 2 rfl) ?_
                refine lv_iload_n hx hb d_Mods_reach_96 rfl (lv_at hl 0 rfl) ?_
                refine lv_iload_n hx hb d_Mods_reach_97 rfl (lv_at hl 1 rfl) ?_
                refine lv_iconst (v := (-1)) hx hb d_Mods_reach_98 (by decide) ?_
                refine lv_icmp_ne (tgt := 106) hx hb d_Mods_reach_99 (by decide) (fun c => ?_) (fun c => ?_)
                · have h := h.1 c
                  refine lv_iload_n hx hb d_Mods_reach_106 rfl (lv_at hl 1 rfl) ?_
                  refine lv_iload_n hx hb d_Mods_reach_107 rfl (lv_at hl 0 rfl) ?_
                  refine q_calls (rest := [.int r_13, .ref (ad 11), .int mo.size, .ref (ad 12)]) C0 hH hA (c_Mods_sameAhead l dC dI cA ad (-1) r_13 _ _ h) Y_Mods_sameAhead k_428 ⟨Nat.le_of_ble_eq_true rfl, Nat.le_of_ble_eq_true rfl⟩ rfl rfl (Nat.le_of_ble_eq_true rfl) hl.1 d_Mods_reach_108 ⟨Nat.le_refl 0, Nat.le_refl 0⟩ (fun r_14 H locs h hH => ?_)
                  try dsimp only at h
                  refine lv_iconst (v := 1) hx hb d_Mods_reach_111 (by decide) ?_
                  refine lv_iadd hx hb d_Mods_reach_112 ?_
                  refine q_calli (rest := [.int mo.size, .ref (ad 12)]) (ws' := fun u : tRows × tSear × tClash × (Nat → Int32) × tTrail => [c_FO ad cA fo, c_FR ad cA fr, c_LR ad cA u.1, c_MO ad cA mo, c_SE ad cA u.2.1 u.2.2.1 u.2.2.2.1, c_TR ad cA u.2.2.2.2].flatten) C0 hH hA (c_Mods_least l dC dI cA ad r_13 (r_14 + 1) fo fr lr_13 mo se_13 sk_13 sw_13 tr_13 _ _ h) Y_Mods_least k_435 10 rfl hc_3 (q_pg [0, 1, 2, 3, 4, 5] [] [0, 1, 2, 3, 4, 5] 6 6 rfl (by decide) rfl (fun _ => rfl) rfl (by decide) (fun _ => rfl)) ⟨Nat.le_of_ble_eq_true rfl, Nat.le_of_ble_eq_true rfl⟩ rfl rfl (Nat.le_of_ble_eq_true rfl) hl.1 d_Mods_reach_113 ⟨Nat.le_refl 0, Nat.le_refl 0⟩ (fun r_15 u_15 H locs h hH => ?_)
                  obtain ⟨lr_15, se_15, sk_15, sw_15, tr_15⟩ := u_15
                  try dsimp only at h
                  have hH : q_H dC dI (va_A w0 s.heap.size) s.heap H locs ([c_FO ad cA fo, c_FR ad cA fr, c_LR ad cA lr_15, c_MO ad cA mo, c_SE ad cA se_15 sk_15 sw_15, c_TR ad cA tr_15].flatten) := hH
                  obtain ⟨hi, h⟩ := h
                  refine q_ast (ws' := [c_FO ad cA fo, c_FR ad cA fr, c_LR ad cA lr_15, c_MO ad cA (tMods.mk (upd mo.rows mo.size.toNatClampNeg r_15) mo.size mo.seenTrue mo.seenFalse mo.begun mo.complete), c_SE ad cA se_15 sk_15 sw_15, c_TR ad cA tr_15].flatten) (f := mo.rows) C0 hH 11 rfl hi rfl d_Mods_reach_116 (fun H locs hH => ?_)
                  refine lv_aload_n hx hb d_Mods_reach_117 rfl (lv_at hl 2 rfl) ?_
                  refine lv_aload_n hx hb d_Mods_reach_118 rfl (lv_at hl 2 rfl) ?_
                  refine q_get (v := .ref (ad 12)) C0 hH 10 rfl hc_3 2 (by decide) k_157 rfl d_Mods_reach_119 ?_
                  refine lv_aload_n hx hb d_Mods_reach_122 rfl (lv_at hl 2 rfl) ?_
                  refine q_get (v := .int mo.size) C0 hH 10 rfl hc_3 3 (by decide) k_158 rfl d_Mods_reach_123 ?_
                  obtain ⟨hi, h⟩ := h
                  refine q_ald (f := (upd mo.rows mo.size.toNatClampNeg r_15)) C0 hH 11 rfl hi d_Mods_reach_126 ?_
                  refine q_callv (rest := []) (ws' := fun u : tMods => [c_FO ad cA fo, c_FR ad cA fr, c_LR ad cA lr_15, c_MO ad cA u, c_SE ad cA se_15 sk_15 sw_15, c_TR ad cA tr_15].flatten) C0 hH hA (c_Mods_see l dC dI cA ad ((upd mo.rows mo.size.toNatClampNeg r_15) mo.size.toNatClampNeg) (tMods.mk (upd mo.rows mo.size.toNatClampNeg r_15) mo.size mo.seenTrue mo.seenFalse mo.begun mo.complete) _ _ h) Y_Mods_see k_408 10 rfl hc_3 (q_pg [3] [0, 1, 2, 4, 5] [0, 1, 2, 5, 3, 4] 6 1 rfl (by decide) rfl (fun _ => rfl) rfl (by decide) (fun _ => rfl)) ⟨Nat.le_of_ble_eq_true rfl, Nat.le_of_ble_eq_true rfl⟩ rfl rfl (Nat.le_of_ble_eq_true rfl) hl.1 d_Mods_reach_127 ⟨Nat.le_refl 0, Nat.le_refl 0⟩ (fun u_16 H locs h hH => ?_)
                  obtain ⟨mo_16, rfl⟩ : ∃ z, z = u_16 := ⟨_, rfl⟩
                  try dsimp only at h
                  have hH : q_H dC dI (va_A w0 s.heap.size) s.heap H locs ([c_FO ad cA fo, c_FR ad cA fr, c_LR ad cA lr_15, c_MO ad cA mo_16, c_SE ad cA se_15 sk_15 sw_15, c_TR ad cA tr_15].flatten) := hH
                  refine lv_aload_n hx hb d_Mods_reach_130 rfl (lv_at hl 2 rfl) ?_
                  refine lv_dup hx hb d_Mods_reach_131 rfl ?_
                  refine q_get (v := .int mo_16.size) C0 hH 10 rfl hc_3 3 (by decide) k_158 rfl d_Mods_reach_132 ?_
                  refine lv_iconst (v := 1) hx hb d_Mods_reach_135 (by decide) ?_
                  refine lv_iadd hx hb d_Mods_reach_136 ?_
                  refine q_puti (ws' := [c_FO ad cA fo, c_FR ad cA fr, c_LR ad cA lr_15, c_MO ad cA (tMods.mk mo_16.rows (mo_16.size + 1) mo_16.seenTrue mo_16.seenFalse mo_16.begun mo_16.complete), c_SE ad cA se_15 sk_15 sw_15, c_TR ad cA tr_15].flatten) C0 hH 10 rfl hc_3 3 (by decide) k_158 rfl rfl (Nat.le_of_ble_eq_true rfl) rfl d_Mods_reach_137 (fun H locs hH => ?_)
                  refine lv_goto (tgt := 4) hx hb d_Mods_reach_140 (by decide) ?_
                  exact ih lr_15 (tMods.mk mo_16.rows (mo_16.size + 1) mo_16.seenTrue mo_16.seenFalse mo_16.begun mo_16.complete) se_15 sk_15 sw_15 tr_15 _ _ _ h (lv_sub hl [2, 3] rfl) hH
                · have h := h.2 c
                  refine lv_iconst (v := 0) hx hb d_Mods_reach_102 (by decide) ?_
                  refine lv_goto (tgt := 113) hx hb d_Mods_reach_103 (by decide) ?_
                  refine q_calli (rest := [.int mo.size, .ref (ad 12)]) (ws' := fun u : tRows × tSear × tClash × (Nat → Int32) × tTrail => [c_FO ad cA fo, c_FR ad cA fr, c_LR ad cA u.1, c_MO ad cA mo, c_SE ad cA u.2.1 u.2.2.1 u.2.2.2.1, c_TR ad cA u.2.2.2.2].flatten) C0 hH hA (c_Mods_least l dC dI cA ad r_13 0 fo fr lr_13 mo se_13 sk_13 sw_13 tr_13 _ _ h) Y_Mods_least k_435 10 rfl hc_3 (q_pg [0, 1, 2, 3, 4, 5] [] [0, 1, 2, 3, 4, 5] 6 6 rfl (by decide) rfl (fun _ => rfl) rfl (by decide) (fun _ => rfl)) ⟨Nat.le_of_ble_eq_true rfl, Nat.le_of_ble_eq_true rfl⟩ rfl rfl (Nat.le_of_ble_eq_true rfl) hl.1 d_Mods_reach_113 ⟨Nat.le_refl 0, Nat.le_refl 0⟩ (fun r_17 u_17 H locs h hH => ?_)
                  obtain ⟨lr_17, se_17, sk_17, sw_17, tr_17⟩ := u_17
                  try dsimp only at h
                  have hH : q_H dC dI (va_A w0 s.heap.size) s.heap H locs ([c_FO ad cA fo, c_FR ad cA fr, c_LR ad cA lr_17, c_MO ad cA mo, c_SE ad cA se_17 sk_17 sw_17, c_TR ad cA tr_17].flatten) := hH
                  obtain ⟨hi, h⟩ := h
                  refine q_ast (ws' := [c_FO ad cA fo, c_FR ad cA fr, c_LR ad cA lr_17, c_MO ad cA (tMods.mk (upd mo.rows mo.size.toNatClampNeg r_17) mo.size mo.seenTrue mo.seenFalse mo.begun mo.complete), c_SE ad cA se_17 sk_17 sw_17, c_TR ad cA tr_17].flatten) (f := mo.rows) C0 hH 11 rfl hi rfl d_Mods_reach_116 (fun H locs hH => ?_)
                  refine lv_aload_n hx hb d_Mods_reach_117 rfl (lv_at hl 2 rfl) ?_
                  refine lv_aload_n hx hb d_Mods_reach_118 rfl (lv_at hl 2 rfl) ?_
                  refine q_get (v := .ref (ad 12)) C0 hH 10 rfl hc_3 2 (by decide) k_157 rfl d_Mods_reach_119 ?_
                  refine lv_aload_n hx hb d_Mods_reach_122 rfl (lv_at hl 2 rfl) ?_
                  refine q_get (v := .int mo.size) C0 hH 10 rfl hc_3 3 (by decide) k_158 rfl d_Mods_reach_123 ?_
                  obtain ⟨hi, h⟩ := h
                  refine q_ald (f := (upd mo.rows mo.size.toNatClampNeg r_17)) C0 hH 11 rfl hi d_Mods_reach_126 ?_
                  refine q_callv (rest := []) (ws' := fun u : tMods => [c_FO ad cA fo, c_FR ad cA fr, c_LR ad cA lr_17, c_MO ad cA u, c_SE ad cA se_17 sk_17 sw_17, c_TR ad cA tr_17].flatten) C0 hH hA (c_Mods_see l dC dI cA ad ((upd mo.rows mo.size.toNatClampNeg r_17) mo.size.toNatClampNeg) (tMods.mk (upd mo.rows mo.size.toNatClampNeg r_17) mo.size mo.seenTrue mo.seenFalse mo.begun mo.complete) _ _ h) Y_Mods_see k_408 10 rfl hc_3 (q_pg [3] [0, 1, 2, 4, 5] [0, 1, 2, 5, 3, 4] 6 1 rfl (by decide) rfl (fun _ => rfl) rfl (by decide) (fun _ => rfl)) ⟨Nat.le_of_ble_eq_true rfl, Nat.le_of_ble_eq_true rfl⟩ rfl rfl (Nat.le_of_ble_eq_true rfl) hl.1 d_Mods_reach_127 ⟨Nat.le_refl 0, Nat.le_refl 0⟩ (fun u_18 H locs h hH => ?_)
                  obtain ⟨mo_18, rfl⟩ : ∃ z, z = u_18 := ⟨_, rfl⟩
                  try dsimp only at h
                  have hH : q_H dC dI (va_A w0 s.heap.size) s.heap H locs ([c_FO ad cA fo, c_FR ad cA fr, c_LR ad cA lr_17, c_MO ad cA mo_18, c_SE ad cA se_17 sk_17 sw_17, c_TR ad cA tr_17].flatten) := hH
                  refine lv_aload_n hx hb d_Mods_reach_130 rfl (lv_at hl 2 rfl) ?_
                  refine lv_dup hx hb d_Mods_reach_131 rfl ?_
                  refine q_get (v := .int mo_18.size) C0 hH 10 rfl hc_3 3 (by decide) k_158 rfl d_Mods_reach_132 ?_
                  refine lv_iconst (v := 1) hx hb d_Mods_reach_135 (by decide) ?_
                  refine lv_iadd hx hb d_Mods_reach_136 ?_
                  refine q_puti (ws' := [c_FO ad cA fo, c_FR ad cA fr, c_LR ad cA lr_17, c_MO ad cA (tMods.mk mo_18.rows (mo_18.size + 1) mo_18.seenTrue mo_18.seenFalse mo_18.begun mo_18.complete), c_SE ad cA se_17 sk_17 sw_17, c_TR ad cA tr_17].flatten) C0 hH 10 rfl hc_3 3 (by decide) k_158 rfl rfl (Nat.le_of_ble_eq_true rfl) rfl d_Mods_reach_137 (fun H locs hH => ?_)
                  refine lv_goto (tgt := 4) hx hb d_Mods_reach_140 (by decide) ?_
                  exact ih lr_17 (tMods.mk mo_18.rows (mo_18.size + 1) mo_18.seenTrue mo_18.seenFalse mo_18.begun mo_18.complete) se_17 sk_17 sw_17 tr_17 _ _ _ h (lv_sub hl [2, 3] rfl) hH
              · have h := h.2 c
                refine lv_aload_n hx hb d_Mods_reach_79 rfl (lv_at hl 2 rfl) ?_
                refine lv_iconst (v := 1) hx hb d_Mods_reach_80 (by decide) ?_
                refine q_putz (ws' := [c_FO ad cA fo, c_FR ad cA fr, c_LR ad cA lr_13, c_MO ad cA (tMods.mk mo.rows mo.size mo.seenTrue mo.seenFalse mo.begun 1), c_SE ad cA se_13 sk_13 sw_13, c_TR ad cA tr_13].flatten) C0 hH 10 rfl hc_3 7 (by decide) k_163 rfl rfl (Or.inr rfl) (Nat.le_of_ble_eq_true rfl) rfl d_Mods_reach_81 (fun H locs hH => ?_)
                refine lv_goto (tgt := 140) hx hb d_Mods_reach_84 (by decide) ?_
                refine lv_goto (tgt := 4) hx hb d_Mods_reach_140 (by decide) ?_
                exact ih lr_13 (tMods.mk mo.rows mo.size mo.seenTrue mo.seenFalse mo.begun 1) se_13 sk_13 sw_13 tr_13 _ _ _ h (lv_sub hl [2, 3] rfl) hH
            · have h := h.2 c
              refine lv_aload_n hx hb d_Mods_reach_56 rfl (lv_at hl 1 rfl) ?_
              refine q_get (v := .ref (ad 13)) C0 hH 10 rfl hc_3 1 (by decide) k_156 rfl d_Mods_reach_57 ?_
              refine lv_iconst (v := 0) hx hb d_Mods_reach_60 (by decide) ?_
              refine lv_iconst (v := 0) hx hb d_Mods_reach_61 (by decide) ?_
              refine q_calli (rest := []) (ws' := fun u : tRows × tSear × tClash × (Nat → Int32) × tTrail => [c_FO ad cA fo, c_FR ad cA fr, c_LR ad cA u.1, c_MO ad cA mo, c_SE ad cA u.2.1 u.2.2.1 u.2.2.2.1, c_TR ad cA u.2.2.2.2].flatten) C0 hH hA (c_Sear_find l dC dI cA ad 0 0 fo fr lr se sk sw tr _ _ h) Y_Sear_find k_352 12 rfl hc_4 (q_pg [0, 1, 2, 4, 5] [3] [1, 2, 3, 0, 4, 5] 6 5 rfl (by decide) rfl (fun _ => rfl) rfl (by decide) (fun _ => rfl)) ⟨Nat.le_of_ble_eq_true rfl, Nat.le_of_ble_eq_true rfl⟩ rfl rfl (Nat.le_of_ble_eq_true rfl) hl.1 d_Mods_reach_62 ⟨Nat.le_refl 0, Nat.le_refl 0⟩ (fun r_19 u_19 H locs h hH => ?_)
              obtain ⟨lr_19, se_19, sk_19, sw_19, tr_19⟩ := u_19
              try dsimp only at h
              have hH : q_H dC dI (va_A w0 s.heap.size) s.heap H locs ([c_FO ad cA fo, c_FR ad cA fr, c_LR ad cA lr_19, c_MO ad cA mo, c_SE ad cA se_19 sk_19 sw_19, c_TR ad cA tr_19].flatten) := hH
              refine lv_goto (tgt := 73) hx hb d_Mods_reach_65 (by decide) ?_
              refine lv_istore_n (lv' := [(3, .int r_19), (2, .int (-1)), (0, .ref (ad 11)), (1, .int x1)]) hx hb d_Mods_reach_73 rfl hl (by decide) rfl (fun ls hl => ?_)
              refine lv_iload_n hx hb d_Mods_reach_74 rfl (lv_at hl 0 rfl) ?_
              refine lv_iconst (v := (-1)) hx hb d_Mods_reach_75 (by decide) ?_
              refine lv_icmp_ne (tgt := 87) hx hb d_Mods_reach_76 (by decide) (fun c => ?_) (fun c => ?_)
              · have h := h.1 c
                refine lv_aload_n hx hb d_Mods_reach_87 rfl (lv_at hl 2 rfl) ?_
                refine q_get (v := .ref (ad 12)) C0 hH 10 rfl hc_3 2 (by decide) k_157 rfl d_Mods_reach_88 ?_
                refine lv_aload_n hx hb d_Mods_reach_91 rfl (lv_at hl 2 rfl) ?_
                refine q_get (v := .int mo.size) C0 hH 10 rfl hc_3 3 (by decide) k_158 rfl d_Mods_reach_92 ?_
                refine lv_aload_n hx hb d_Mods_reach_95 rfl (lv_at hl 2 rfl) ?_
                refine lv_iload_n hx hb d_Mods_reach_96 rfl (lv_at hl 0 rfl) ?_
                refine lv_iload_n hx hb d_Mods_reach_97 rfl (lv_at hl 1 rfl) ?_
                refine lv_iconst (v := (-1)) hx hb d_Mods_reach_98 (by decide) ?_
                refine lv_icmp_ne (tgt := 106) hx hb d_Mods_reach_99 (by decide) (fun c => ?_) (fun c => ?_)
                · have h := h.1 c
                  refine lv_iload_n hx hb d_Mods_reach_106 rfl (lv_at hl 1 rfl) ?_
                  refine lv_iload_n hx hb d_Mods_reach_107 rfl (lv_at hl 0 rfl) ?_
                  refine q_calls (rest := [.int r_19, .ref (ad 11), .int mo.size, .ref (ad 12)]) C0 hH hA (c_Mods_sameAhead l dC dI cA ad (-1) r_19 _ _ h) Y_Mods_sameAhead k_428 ⟨Nat.le_of_ble_eq_true rfl, Nat.le_of_ble_eq_true rfl⟩ rfl rfl (Nat.le_of_ble_eq_true rfl) hl.1 d_Mods_reach_108 ⟨Nat.le_refl 0, Nat.le_refl 0⟩ (fun r_20 H locs h hH => ?_)
                  try dsimp only at h
                  refine lv_iconst (v := 1) hx hb d_Mods_reach_111 (by decide) ?_
                  refine lv_iadd hx hb d_Mods_reach_112 ?_
                  refine q_calli (rest := [.int mo.size, .ref (ad 12)]) (ws' := fun u : tRows × tSear × tClash × (Nat → Int32) × tTrail => [c_FO ad cA fo, c_FR ad cA fr, c_LR ad cA u.1, c_MO ad cA mo, c_SE ad cA u.2.1 u.2.2.1 u.2.2.2.1, c_TR ad cA u.2.2.2.2].flatten) C0 hH hA (c_Mods_least l dC dI cA ad r_19 (r_20 + 1) fo fr lr_19 mo se_19 sk_19 sw_19 tr_19 _ _ h) Y_Mods_least k_435 10 rfl hc_3 (q_pg [0, 1, 2, 3, 4, 5] [] [0, 1, 2, 3, 4, 5] 6 6 rfl (by decide) rfl (fun _ => rfl) rfl (by decide) (fun _ => rfl)) ⟨Nat.le_of_ble_eq_true rfl, Nat.le_of_ble_eq_true rfl⟩ rfl rfl (Nat.le_of_ble_eq_true rfl) hl.1 d_Mods_reach_113 ⟨Nat.le_refl 0, Nat.le_refl 0⟩ (fun r_21 u_21 H locs h hH => ?_)
                  obtain ⟨lr_21, se_21, sk_21, sw_21, tr_21⟩ := u_21
                  try dsimp only at h
                  have hH : q_H dC dI (va_A w0 s.heap.size) s.heap H locs ([c_FO ad cA fo, c_FR ad cA fr, c_LR ad cA lr_21, c_MO ad cA mo, c_SE ad cA se_21 sk_21 sw_21, c_TR ad cA tr_21].flatten) := hH
                  obtain ⟨hi, h⟩ := h
                  refine q_ast (ws' := [c_FO ad cA fo, c_FR ad cA fr, c_LR ad cA lr_21, c_MO ad cA (tMods.mk (upd mo.rows mo.size.toNatClampNeg r_21) mo.size mo.seenTrue mo.seenFalse mo.begun mo.complete), c_SE ad cA se_21 sk_21 sw_21, c_TR ad cA tr_21].flatten) (f := mo.rows) C0 hH 11 rfl hi rfl d_Mods_reach_116 (fun H locs hH => ?_)
                  refine lv_aload_n hx hb d_Mods_reach_117 rfl (lv_at hl 2 rfl) ?_
                  refine lv_aload_n hx hb d_Mods_reach_118 rfl (lv_at hl 2 rfl) ?_
                  refine q_get (v := .ref (ad 12)) C0 hH 10 rfl hc_3 2 (by decide) k_157 rfl d_Mods_reach_119 ?_
                  refine lv_aload_n hx hb d_Mods_reach_122 rfl (lv_at hl 2 rfl) ?_
                  refine q_get (v := .int mo.size) C0 hH 10 rfl hc_3 3 (by decide) k_158 rfl d_Mods_reach_123 ?_
                  obtain ⟨hi, h⟩ := h
                  refine q_ald (f := (upd mo.rows mo.size.toNatClampNeg r_21)) C0 hH 11 rfl hi d_Mods_reach_126 ?_
                  refine q_callv (rest := []) (ws' := fun u : tMods => [c_FO ad cA fo, c_FR ad cA fr, c_LR ad cA lr_21, c_MO ad cA u, c_SE ad cA se_21 sk_21 sw_21, c_TR ad cA tr_21].flatten) C0 hH hA (c_Mods_see l dC dI cA ad ((upd mo.rows mo.size.toNatClampNeg r_21) mo.size.toNatClampNeg) (tMods.mk (upd mo.rows mo.size.toNatClampNeg r_21) mo.size mo.seenTrue mo.seenFalse mo.begun mo.complete) _ _ h) Y_Mods_see k_408 10 rfl hc_3 (q_pg [3] [0, 1, 2, 4, 5] [0, 1, 2, 5, 3, 4] 6 1 rfl (by decide) rfl (fun _ => rfl) rfl (by decide) (fun _ => rfl)) ⟨Nat.le_of_ble_eq_true rfl, Nat.le_of_ble_eq_true rfl⟩ rfl rfl (Nat.le_of_ble_eq_true rfl) hl.1 d_Mods_reach_127 ⟨Nat.le_refl 0, Nat.le_refl 0⟩ (fun u_22 H locs h hH => ?_)
                  obtain ⟨mo_22, rfl⟩ : ∃ z, z = u_22 := ⟨_, rfl⟩
                  try dsimp only at h
                  have hH : q_H dC dI (va_A w0 s.heap.size) s.heap H locs ([c_FO ad cA fo, c_FR ad cA fr, c_LR ad cA lr_21, c_MO ad cA mo_22, c_SE ad cA se_21 sk_21 sw_21, c_TR ad cA tr_21].flatten) := hH
                  refine lv_aload_n hx hb d_Mods_reach_130 rfl (lv_at hl 2 rfl) ?_
                  refine lv_dup hx hb d_Mods_reach_131 rfl ?_
                  refine q_get (v := .int mo_22.size) C0 hH 10 rfl hc_3 3 (by decide) k_158 rfl d_Mods_reach_132 ?_
                  refine lv_iconst (v := 1) hx hb d_Mods_reach_135 (by decide) ?_
                  refine lv_iadd hx hb d_Mods_reach_136 ?_
                  refine q_puti (ws' := [c_FO ad cA fo, c_FR ad cA fr, c_LR ad cA lr_21, c_MO ad cA (tMods.mk mo_22.rows (mo_22.size + 1) mo_22.seenTrue mo_22.seenFalse mo_22.begun mo_22.complete), c_SE ad cA se_21 sk_21 sw_21, c_TR ad cA tr_21].flatten) C0 hH 10 rfl hc_3 3 (by decide) k_158 rfl rfl (Nat.le_of_ble_eq_true rfl) rfl d_Mods_reach_137 (fun H locs hH => ?_)
                  refine lv_goto (tgt := 4) hx hb d_Mods_reach_140 (by decide) ?_
                  exact ih lr_21 (tMods.mk mo_22.rows (mo_22.size + 1) mo_22.seenTrue mo_22.seenFalse mo_22.begun mo_22.complete) se_21 sk_21 sw_21 tr_21 _ _ _ h (lv_sub hl [2, 3] rfl) hH
                · have h := h.2 c
                  refine lv_iconst (v := 0) hx hb d_Mods_reach_102 (by decide) ?_
                  refine lv_goto (tgt := 113) hx hb d_Mods_reach_103 (by decide) ?_
                  refine q_calli (rest := [.int mo.size, .ref (ad 12)]) (ws' := fun u : tRows × tSear × tClash × (Nat → Int32) × tTrail => [c_FO ad cA fo, c_FR ad cA fr, c_LR ad cA u.1, c_MO ad cA mo, c_SE ad cA u.2.1 u.2.2.1 u.2.2.2.1, c_TR ad cA u.2.2.2.2].flatten) C0 hH hA (c_Mods_least l dC dI cA ad r_19 0 fo fr lr_19 mo se_19 sk_19 sw_19 tr_19 _ _ h) Y_Mods_least k_435 10 rfl hc_3 (q_pg [0, 1, 2, 3, 4, 5] [] [0, 1, 2, 3, 4, 5] 6 6 rfl (by decide) rfl (fun _ => rfl) rfl (by decide) (fun _ => rfl)) ⟨Nat.le_of_ble_eq_true rfl, Nat.le_of_ble_eq_true rfl⟩ rfl rfl (Nat.le_of_ble_eq_true rfl) hl.1 d_Mods_reach_113 ⟨Nat.le_refl 0, Nat.le_refl 0⟩ (fun r_23 u_23 H locs h hH => ?_)
                  obtain ⟨lr_23, se_23, sk_23, sw_23, tr_23⟩ := u_23
                  try dsimp only at h
                  have hH : q_H dC dI (va_A w0 s.heap.size) s.heap H locs ([c_FO ad cA fo, c_FR ad cA fr, c_LR ad cA lr_23, c_MO ad cA mo, c_SE ad cA se_23 sk_23 sw_23, c_TR ad cA tr_23].flatten) := hH
                  obtain ⟨hi, h⟩ := h
                  refine q_ast (ws' := [c_FO ad cA fo, c_FR ad cA fr, c_LR ad cA lr_23, c_MO ad cA (tMods.mk (upd mo.rows mo.size.toNatClampNeg r_23) mo.size mo.seenTrue mo.seenFalse mo.begun mo.complete), c_SE ad cA se_23 sk_23 sw_23, c_TR ad cA tr_23].flatten) (f := mo.rows) C0 hH 11 rfl hi rfl d_Mods_reach_116 (fun H locs hH => ?_)
                  refine lv_aload_n hx hb d_Mods_reach_117 rfl (lv_at hl 2 rfl) ?_
                  refine lv_aload_n hx hb d_Mods_reach_118 rfl (lv_at hl 2 rfl) ?_
                  refine q_get (v := .ref (ad 12)) C0 hH 10 rfl hc_3 2 (by decide) k_157 rfl d_Mods_reach_119 ?_
                  refine lv_aload_n hx hb d_Mods_reach_122 rfl (lv_at hl 2 rfl) ?_
                  refine q_get (v := .int mo.size) C0 hH 10 rfl hc_3 3 (by decide) k_158 rfl d_Mods_reach_123 ?_
                  obtain ⟨hi, h⟩ := h
                  refine q_ald (f := (upd mo.rows mo.size.toNatClampNeg r_23)) C0 hH 11 rfl hi d_Mods_reach_126 ?_
                  refine q_callv (rest := []) (ws' := fun u : tMods => [c_FO ad cA fo, c_FR ad cA fr, c_LR ad cA lr_23, c_MO ad cA u, c_SE ad cA se_23 sk_23 sw_23, c_TR ad cA tr_23].flatten) C0 hH hA (c_Mods_see l dC dI cA ad ((upd mo.rows mo.size.toNatClampNeg r_23) mo.size.toNatClampNeg) (tMods.mk (upd mo.rows mo.size.toNatClampNeg r_23) mo.size mo.seenTrue mo.seenFalse mo.begun mo.complete) _ _ h) Y_Mods_see k_408 10 rfl hc_3 (q_pg [3] [0, 1, 2, 4, 5] [0, 1, 2, 5, 3, 4] 6 1 rfl (by decide) rfl (fun _ => rfl) rfl (by decide) (fun _ => rfl)) ⟨Nat.le_of_ble_eq_true rfl, Nat.le_of_ble_eq_true rfl⟩ rfl rfl (Nat.le_of_ble_eq_true rfl) hl.1 d_Mods_reach_127 ⟨Nat.le_refl 0, Nat.le_refl 0⟩ (fun u_24 H locs h hH => ?_)
                  obtain ⟨mo_24, rfl⟩ : ∃ z, z = u_24 := ⟨_, rfl⟩
                  try dsimp only at h
                  have hH : q_H dC dI (va_A w0 s.heap.size) s.heap H locs ([c_FO ad cA fo, c_FR ad cA fr, c_LR ad cA lr_23, c_MO ad cA mo_24, c_SE ad cA se_23 sk_23 sw_23, c_TR ad cA tr_23].flatten) := hH
                  refine lv_aload_n hx hb d_Mods_reach_130 rfl (lv_at hl 2 rfl) ?_
                  refine lv_dup hx hb d_Mods_reach_131 rfl ?_
                  refine q_get (v := .int mo_24.size) C0 hH 10 rfl hc_3 3 (by decide) k_158 rfl d_Mods_reach_132 ?_
                  refine lv_iconst (v := 1) hx hb d_Mods_reach_135 (by decide) ?_
                  refine lv_iadd hx hb d_Mods_reach_136 ?_
                  refine q_puti (ws' := [c_FO ad cA fo, c_FR ad cA fr, c_LR ad cA lr_23, c_MO ad cA (tMods.mk mo_24.rows (mo_24.size + 1) mo_24.seenTrue mo_24.seenFalse mo_24.begun mo_24.complete), c_SE ad cA se_23 sk_23 sw_23, c_TR ad cA tr_23].flatten) C0 hH 10 rfl hc_3 3 (by decide) k_158 rfl rfl (Nat.le_of_ble_eq_true rfl) rfl d_Mods_reach_137 (fun H locs hH => ?_)
                  refine lv_goto (tgt := 4) hx hb d_Mods_reach_140 (by decide) ?_
                  exact ih lr_23 (tMods.mk mo_24.rows (mo_24.size + 1) mo_24.seenTrue mo_24.seenFalse mo_24.begun mo_24.complete) se_23 sk_23 sw_23 tr_23 _ _ _ h (lv_sub hl [2, 3] rfl) hH
              · have h := h.2 c
                refine lv_aload_n hx hb d_Mods_reach_79 rfl (lv_at hl 2 rfl) ?_
                refine lv_iconst (v := 1) hx hb d_Mods_reach_80 (by decide) ?_
                refine q_putz (ws' := [c_FO ad cA fo, c_FR ad cA fr, c_LR ad cA lr_19, c_MO ad cA (tMods.mk mo.rows mo.size mo.seenTrue mo.seenFalse mo.begun 1), c_SE ad cA se_19 sk_19 sw_19, c_TR ad cA tr_19].flatten) C0 hH 10 rfl hc_3 7 (by decide) k_163 rfl rfl (Or.inr rfl) (Nat.le_of_ble_eq_true rfl) rfl d_Mods_reach_81 (fun H locs hH => ?_)
                refine lv_goto (tgt := 140) hx hb d_Mods_reach_84 (by decide) ?_
                refine lv_goto (tgt := 4) hx hb d_Mods_reach_140 (by decide) ?_
                exact ih lr_19 (tMods.mk mo.rows mo.size mo.seenTrue mo.seenFalse mo.begun 1) se_19 sk_19 sw_19 tr_19 _ _ _ h (lv_sub hl [2, 3] rfl) hH
set_option maxHeartbeats 4000000 in
set_option maxRecDepth 100000 in
theorem c_Mods_reach (l : Launch) (dC : Nat → ClassId) (dI : Nat → Nat → Nat) (cA : ClassId) (ad : Nat → Nat) (x1 : Int32) (fo : tForm) (fr : tRows) (lr : tRows) (mo : tMods) (se : tSear) (sk : tClash) (sw : (Nat → Int32)) (tr : tTrail) (Q : Int32 → tRows → tMods → tSear → tClash → (Nat → Int32) → tTrail → Prop) (sz : Nat) (h : w_Mods_reach x1 fo fr lr mo se sk sw tr Q) :
    q_Mi l y_Mods_reach b_Mods_reach 4 (some .boolean) 6 146 [.ref (ad 11), .int x1] dC dI cA ([c_FO ad cA fo, c_FR ad cA fr, c_LR ad cA lr, c_MO ad cA mo, c_SE ad cA se sk sw, c_TR ad cA tr].flatten) (fun u : tRows × tMods × tSear × tClash × (Nat → Int32) × tTrail => [c_FO ad cA fo, c_FR ad cA fr, c_LR ad cA u.1, c_MO ad cA u.2.1, c_SE ad cA u.2.2.1 u.2.2.2.1 u.2.2.2.2.1, c_TR ad cA u.2.2.2.2.2].flatten) sz (fun r u => Q r u.1 u.2.1 u.2.2.1 u.2.2.2.1 u.2.2.2.2.1 u.2.2.2.2.2) := by
  refine q_meti (plainFor_of_name (by decide +kernel)) (Nat.le_of_ble_eq_true rfl) (fun {p e s m below meth c ls} C0 hl hH => ?_)
  obtain ⟨hx, hb, -⟩ := id C0
  have hA : ∀ q, s.heap.size ≤ q → va_A ([c_FO ad cA fo, c_FR ad cA fr, c_LR ad cA lr, c_MO ad cA mo, c_SE ad cA se sk sw, c_TR ad cA tr].flatten) s.heap.size q := q_nA
  have hl : lv_has ls 4 [(0, .ref (ad 11)), (1, .int x1)] := hl
  unfold w_Mods_reach at h
  refine lv_aload_n hx hb d_Mods_reach_0 rfl (lv_at hl 0 rfl) ?_
  refine q_callv (rest := []) (ws' := fun u : tRows × tMods × tSear × tTrail => [c_FO ad cA fo, c_FR ad cA fr, c_LR ad cA u.1, c_MO ad cA u.2.1, c_SE ad cA u.2.2.1 sk sw, c_TR ad cA u.2.2.2].flatten) C0 hH hA (c_Mods_begin l dC dI cA ad fo fr lr mo se sk sw tr _ _ h) Y_Mods_begin k_329 10 rfl hc_3 (q_pg [0, 1, 2, 3, 4, 5] [] [0, 1, 2, 3, 4, 5] 6 6 rfl (by decide) rfl (fun _ => rfl) rfl (by decide) (fun _ => rfl)) ⟨Nat.le_of_ble_eq_true rfl, Nat.le_of_ble_eq_true rfl⟩ rfl rfl (Nat.le_of_ble_eq_true rfl) hl.1 d_Mods_reach_1 ⟨Nat.le_refl 0, Nat.le_refl 0⟩ (fun u_1 H locs h hH => ?_)
  obtain ⟨lr_1, mo_1, se_1, tr_1⟩ := u_1
  try dsimp only at h
  have hH : q_H dC dI (va_A ([c_FO ad cA fo, c_FR ad cA fr, c_LR ad cA lr, c_MO ad cA mo, c_SE ad cA se sk sw, c_TR ad cA tr].flatten) s.heap.size) s.heap H locs ([c_FO ad cA fo, c_FR ad cA fr, c_LR ad cA lr_1, c_MO ad cA mo_1, c_SE ad cA se_1 sk sw, c_TR ad cA tr_1].flatten) := hH
  obtain ⟨nn, h⟩ := h
  refine x_Mods_reach_L4 C0 hA x1 fo fr ?_ nn lr_1 mo_1 se_1 sk sw tr_1 _ _ _ h (lv_sub hl [0, 1] rfl) hH
  · intro lr_2 mo_2 se_2 sk_2 sw_2 tr_2 H locs ls h hl hH
    try dsimp only at h
    refine lv_aload_n hx hb d_Mods_reach_143 rfl (lv_at hl 0 rfl) ?_
    refine q_get (v := .int mo_2.size) C0 hH 10 rfl hc_3 3 (by decide) k_158 rfl d_Mods_reach_144 ?_
    refine lv_iload_n hx hb d_Mods_reach_147 rfl (lv_at hl 1 rfl) ?_
    refine lv_icmp_lt (tgt := 155) hx hb d_Mods_reach_148 (by decide) (fun c => ?_) (fun c => ?_)
    · have h := h.1 c
      refine lv_iconst (v := 0) hx hb d_Mods_reach_155 (by decide) ?_
      exact q_retz C0 hH (lr_2, mo_2, se_2, sk_2, sw_2, tr_2) rfl (Or.inl rfl) h d_Mods_reach_156
    · have h := h.2 c
      refine lv_iconst (v := 1) hx hb d_Mods_reach_151 (by decide) ?_
      refine lv_goto (tgt := 156) hx hb d_Mods_reach_152 (by decide) ?_
      exact q_retz C0 hH (lr_2, mo_2, se_2, sk_2, sw_2, tr_2) rfl (Or.inr rfl) h d_Mods_reach_156
theorem d_Mods_truth_0 : decode b_Mods_truth 0 = .ok (.iload_n 1, 1) := by decide +kernel
theorem d_Mods_truth_1 : decode b_Mods_truth 1 = .ok (.ifCond .lt 17, 3) := by decide +kernel
theorem d_Mods_truth_4 : decode b_Mods_truth 4 = .ok (.iload_n 1, 1) := by decide +kernel
theorem d_Mods_truth_5 : decode b_Mods_truth 5 = .ok (.aload_n 0, 1) := by decide +kernel
theorem d_Mods_truth_6 : decode b_Mods_truth 6 = .ok (.getfield 35, 3) := by decide +kernel
theorem d_Mods_truth_9 : decode b_Mods_truth 9 = .ok (.if_icmp .ge 9, 3) := by decide +kernel
theorem d_Mods_truth_12 : decode b_Mods_truth 12 = .ok (.iload_n 1, 1) := by decide +kernel
theorem d_Mods_truth_13 : decode b_Mods_truth 13 = .ok (.bipush 60, 2) := by decide +kernel
theorem d_Mods_truth_15 : decode b_Mods_truth 15 = .ok (.if_icmp .lt 6, 3) := by decide +kernel
theorem d_Mods_truth_18 : decode b_Mods_truth 18 = .ok (.bipush (-9), 2) := by decide +kernel
theorem d_Mods_truth_20 : decode b_Mods_truth 20 = .ok (.ireturn, 1) := by decide +kernel
theorem d_Mods_truth_21 : decode b_Mods_truth 21 = .ok (.aload_n 0, 1) := by decide +kernel
theorem d_Mods_truth_22 : decode b_Mods_truth 22 = .ok (.getfield 9, 3) := by decide +kernel
theorem d_Mods_truth_25 : decode b_Mods_truth 25 = .ok (.iload_n 1, 1) := by decide +kernel
theorem d_Mods_truth_26 : decode b_Mods_truth 26 = .ok (.iaload, 1) := by decide +kernel
theorem d_Mods_truth_27 : decode b_Mods_truth 27 = .ok (.iload_n 2, 1) := by decide +kernel
theorem d_Mods_truth_28 : decode b_Mods_truth 28 = .ok (.iconst 1, 1) := by decide +kernel
theorem d_Mods_truth_29 : decode b_Mods_truth 29 = .ok (.isub, 1) := by decide +kernel
theorem d_Mods_truth_30 : decode b_Mods_truth 30 = .ok (.ishr, 1) := by decide +kernel
theorem d_Mods_truth_31 : decode b_Mods_truth 31 = .ok (.iconst 1, 1) := by decide +kernel
theorem d_Mods_truth_32 : decode b_Mods_truth 32 = .ok (.iand, 1) := by decide +kernel
theorem d_Mods_truth_33 : decode b_Mods_truth 33 = .ok (.ireturn, 1) := by decide +kernel
set_option maxHeartbeats 4000000 in
set_option maxRecDepth 100000 in
theorem c_Mods_truth (l : Launch) (dC : Nat → ClassId) (dI : Nat → Nat → Nat) (cA : ClassId) (ad : Nat → Nat) (x1 : Int32) (x2 : Int32) (mo : tMods) (Q : Int32 → Prop) (sz : Nat) (h : w_Mods_truth x1 x2 mo Q) :
    q_Mi l y_Mods_truth b_Mods_truth 3 (some .int) 0 0 [.ref (ad 11), .int x1, .int x2] dC dI cA ([c_MO ad cA mo].flatten) (fun _ : Unit => [c_MO ad cA mo].flatten) sz (fun r _ => Q r) := by
  refine q_meti (plainFor_of_name (by decide +kernel)) (Nat.le_of_ble_eq_true rfl) (fun {p e s m below meth c ls} C0 hl hH => ?_)
  obtain ⟨hx, hb, -⟩ := id C0
  have hA : ∀ q, s.heap.size ≤ q → va_A ([c_MO ad cA mo].flatten) s.heap.size q := q_nA
  have hl : lv_has ls 3 [(0, .ref (ad 11)), (1, .int x1), (2, .int x2)] := hl
  unfold w_Mods_truth at h
  refine lv_iload_n hx hb d_Mods_truth_0 rfl (lv_at hl 1 rfl) ?_
  refine lv_if_lt (tgt := 18) hx hb d_Mods_truth_1 (by decide) (fun c => ?_) (fun c => ?_)
  · have h := h.1 c
    refine lv_bipush (v := (-9)) hx hb d_Mods_truth_18 (by decide) ?_
    exact q_reti C0 hH () rfl h d_Mods_truth_20
  · have h := h.2 c
    refine lv_iload_n hx hb d_Mods_truth_4 rfl (lv_at hl 1 rfl) ?_
    refine lv_aload_n hx hb d_Mods_truth_5 rfl (lv_at hl 0 rfl) ?_
    refine q_get (v := .int mo.size) C0 hH 0 rfl hc_3 3 (by decide) k_158 rfl d_Mods_truth_6 ?_
    refine lv_icmp_ge (tgt := 18) hx hb d_Mods_truth_9 (by decide) (fun c => ?_) (fun c => ?_)
    · have h := h.1 c
      refine lv_bipush (v := (-9)) hx hb d_Mods_truth_18 (by decide) ?_
      exact q_reti C0 hH () rfl h d_Mods_truth_20
    · have h := h.2 c
      refine lv_iload_n hx hb d_Mods_truth_12 rfl (lv_at hl 1 rfl) ?_
      refine lv_bipush (v := 60) hx hb d_Mods_truth_13 (by decide) ?_
      refine lv_icmp_lt (tgt := 21) hx hb d_Mods_truth_15 (by decide) (fun c => ?_) (fun c => ?_)
      · have h := h.1 c
        refine lv_aload_n hx hb d_Mods_truth_21 rfl (lv_at hl 0 rfl) ?_
        refine q_get (v := .ref (ad 12)) C0 hH 0 rfl hc_3 2 (by decide) k_157 rfl d_Mods_truth_22 ?_
        refine lv_iload_n hx hb d_Mods_truth_25 rfl (lv_at hl 1 rfl) ?_
        obtain ⟨hi, h⟩ := h
        refine q_ald (f := mo.rows) C0 hH 1 rfl hi d_Mods_truth_26 ?_
        refine lv_iload_n hx hb d_Mods_truth_27 rfl (lv_at hl 2 rfl) ?_
        refine lv_iconst (v := 1) hx hb d_Mods_truth_28 (by decide) ?_
        refine lv_isub hx hb d_Mods_truth_29 ?_
        refine lv_ishr hx hb d_Mods_truth_30 ?_
        refine lv_iconst (v := 1) hx hb d_Mods_truth_31 (by decide) ?_
        refine lv_iand hx hb d_Mods_truth_32 ?_
        exact q_reti C0 hH () rfl h d_Mods_truth_33
      · have h := h.2 c
        refine lv_bipush (v := (-9)) hx hb d_Mods_truth_18 (by decide) ?_
        exact q_reti C0 hH () rfl h d_Mods_truth_20
theorem d_PC_value_0 : decode b_PC_value 0 = .ok (.aload_n 0, 1) := by decide +kernel
theorem d_PC_value_1 : decode b_PC_value 1 = .ok (.iload_n 1, 1) := by decide +kernel
theorem d_PC_value_2 : decode b_PC_value 2 = .ok (.invokevirtual 86, 3) := by decide +kernel
theorem d_PC_value_5 : decode b_PC_value 5 = .ok (.ifCond .ne 5, 3) := by decide +kernel
theorem d_PC_value_8 : decode b_PC_value 8 = .ok (.iconst (-1), 1) := by decide +kernel
theorem d_PC_value_9 : decode b_PC_value 9 = .ok (.ireturn, 1) := by decide +kernel
theorem d_PC_value_10 : decode b_PC_value 10 = .ok (.aload_n 0, 1) := by decide +kernel
theorem d_PC_value_11 : decode b_PC_value 11 = .ok (.getfield 21, 3) := by decide +kernel
theorem d_PC_value_14 : decode b_PC_value 14 = .ok (.iconst 1, 1) := by decide +kernel
theorem d_PC_value_15 : decode b_PC_value 15 = .ok (.invokevirtual 89, 3) := by decide +kernel
theorem d_PC_value_18 : decode b_PC_value 18 = .ok (.ifCond .eq 15, 3) := by decide +kernel
theorem d_PC_value_21 : decode b_PC_value 21 = .ok (.aload_n 0, 1) := by decide +kernel
theorem d_PC_value_22 : decode b_PC_value 22 = .ok (.getfield 21, 3) := by decide +kernel
theorem d_PC_value_25 : decode b_PC_value 25 = .ok (.iconst 0, 1) := by decide +kernel
theorem d_PC_value_26 : decode b_PC_value 26 = .ok (.iload_n 1, 1) := by decide +kernel
theorem d_PC_value_27 : decode b_PC_value 27 = .ok (.invokevirtual 92, 3) := by decide +kernel
theorem d_PC_value_30 : decode b_PC_value 30 = .ok (.goto 5, 3) := by decide +kernel
theorem d_PC_value_33 : decode b_PC_value 33 = .ok (.bipush (-9), 2) := by decide +kernel
theorem d_PC_value_35 : decode b_PC_value 35 = .ok (.ireturn, 1) := by decide +kernel
set_option maxHeartbeats 4000000 in
set_option maxRecDepth 100000 in
theorem c_PC_value (l : Launch) (dC : Nat → ClassId) (dI : Nat → Nat → Nat) (cA : ClassId) (ad : Nat → Nat) (x1 : Int32) (fo : tForm) (fr : tRows) (lr : tRows) (mo : tMods) (se : tSear) (sk : tClash) (sw : (Nat → Int32)) (tr : tTrail) (Q : Int32 → tRows → tMods → tSear → tClash → (Nat → Int32) → tTrail → Prop) (sz : Nat) (h : w_PC_value x1 fo fr lr mo se sk sw tr Q) :
    q_Mi l y_PC_value b_PC_value 2 (some .int) 7 169 [.ref (ad 0), .int x1] dC dI cA ([c_PC ad, c_FO ad cA fo, c_FR ad cA fr, c_LR ad cA lr, c_MO ad cA mo, c_SE ad cA se sk sw, c_TR ad cA tr].flatten) (fun u : tRows × tMods × tSear × tClash × (Nat → Int32) × tTrail => [c_PC ad, c_FO ad cA fo, c_FR ad cA fr, c_LR ad cA u.1, c_MO ad cA u.2.1, c_SE ad cA u.2.2.1 u.2.2.2.1 u.2.2.2.2.1, c_TR ad cA u.2.2.2.2.2].flatten) sz (fun r u => Q r u.1 u.2.1 u.2.2.1 u.2.2.2.1 u.2.2.2.2.1 u.2.2.2.2.2) := by
  refine q_meti (plainFor_of_name (by decide +kernel)) (Nat.le_of_ble_eq_true rfl) (fun {p e s m below meth c ls} C0 hl hH => ?_)
  obtain ⟨hx, hb, -⟩ := id C0
  have hA : ∀ q, s.heap.size ≤ q → va_A ([c_PC ad, c_FO ad cA fo, c_FR ad cA fr, c_LR ad cA lr, c_MO ad cA mo, c_SE ad cA se sk sw, c_TR ad cA tr].flatten) s.heap.size q := q_nA
  have hl : lv_has ls 2 [(0, .ref (ad 0)), (1, .int x1)] := hl
  unfold w_PC_value at h
  refine lv_aload_n hx hb d_PC_value_0 rfl (lv_at hl 0 rfl) ?_
  refine lv_iload_n hx hb d_PC_value_1 rfl (lv_at hl 1 rfl) ?_
  refine q_calli (rest := []) (ws' := fun _ : Unit => [c_PC ad, c_FO ad cA fo, c_FR ad cA fr, c_LR ad cA lr, c_MO ad cA mo, c_SE ad cA se sk sw, c_TR ad cA tr].flatten) C0 hH hA (c_PC_isVariable l dC dI cA ad x1 fo _ _ h) Y_PC_isVariable k_416 0 rfl hc_0 (q_pg [0, 1] [2, 3, 4, 5, 6] [5, 6, 0, 1, 2, 3, 4] 7 2 rfl (by decide) rfl (fun _ => rfl) rfl (by decide) (fun _ => rfl)) ⟨Nat.le_of_ble_eq_true rfl, Nat.le_of_ble_eq_true rfl⟩ rfl rfl (Nat.le_of_ble_eq_true rfl) hl.1 d_PC_value_2 ⟨Nat.le_refl 0, Nat.le_refl 0⟩ (fun r_1 u_1 H locs h hH => ?_)
  try dsimp only at h
  have hH : q_H dC dI (va_A ([c_PC ad, c_FO ad cA fo, c_FR ad cA fr, c_LR ad cA lr, c_MO ad cA mo, c_SE ad cA se sk sw, c_TR ad cA tr].flatten) s.heap.size) s.heap H locs ([c_PC ad, c_FO ad cA fo, c_FR ad cA fr, c_LR ad cA lr, c_MO ad cA mo, c_SE ad cA se sk sw, c_TR ad cA tr].flatten) := hH
  refine lv_if_ne (tgt := 10) hx hb d_PC_value_5 (by decide) (fun c => ?_) (fun c => ?_)
  · have h := h.1 c
    refine lv_aload_n hx hb d_PC_value_10 rfl (lv_at hl 0 rfl) ?_
    refine q_get (v := .ref (ad 11)) C0 hH 0 rfl hc_0 1 (by decide) k_257 rfl d_PC_value_11 ?_
    refine lv_iconst (v := 1) hx hb d_PC_value_14 (by decide) ?_
    refine q_calli (rest := []) (ws' := fun u : tRows × tMods × tSear × tClash × (Nat → Int32) × tTrail => [c_PC ad, c_FO ad cA fo, c_FR ad cA fr, c_LR ad cA u.1, c_MO ad cA u.2.1, c_SE ad cA u.2.2.1 u.2.2.2.1 u.2.2.2.2.1, c_TR ad cA u.2.2.2.2.2].flatten) C0 hH hA (c_Mods_reach l dC dI cA ad 1 fo fr lr mo se sk sw tr _ _ h) Y_Mods_reach k_420 11 rfl hc_3 (q_pg [1, 2, 3, 4, 5, 6] [0] [0, 1, 2, 3, 4, 5, 6] 7 6 rfl (by decide) rfl (fun _ => rfl) rfl (by decide) (fun _ => rfl)) ⟨Nat.le_of_ble_eq_true rfl, Nat.le_of_ble_eq_true rfl⟩ rfl rfl (Nat.le_of_ble_eq_true rfl) hl.1 d_PC_value_15 ⟨Nat.le_refl 0, Nat.le_refl 0⟩ (fun r_2 u_2 H locs h hH => ?_)
    obtain ⟨lr_2, mo_2, se_2, sk_2, sw_2, tr_2⟩ := u_2
    try dsimp only at h
    have hH : q_H dC dI (va_A ([c_PC ad, c_FO ad cA fo, c_FR ad cA fr, c_LR ad cA lr, c_MO ad cA mo, c_SE ad cA se sk sw, c_TR ad cA tr].flatten) s.heap.size) s.heap H locs ([c_PC ad, c_FO ad cA fo, c_FR ad cA fr, c_LR ad cA lr_2, c_MO ad cA mo_2, c_SE ad cA se_2 sk_2 sw_2, c_TR ad cA tr_2].flatten) := hH
    refine lv_if_eq (tgt := 33) hx hb d_PC_value_18 (by decide) (fun c => ?_) (fun c => ?_)
    · have h := h.1 c
      refine lv_bipush (v := (-9)) hx hb d_PC_value_33 (by decide) ?_
      exact q_reti C0 hH (lr_2, mo_2, se_2, sk_2, sw_2, tr_2) rfl h d_PC_value_35
    · have h := h.2 c
      refine lv_aload_n hx hb d_PC_value_21 rfl (lv_at hl 0 rfl) ?_
      refine q_get (v := .ref (ad 11)) C0 hH 0 rfl hc_0 1 (by decide) k_257 rfl d_PC_value_22 ?_
      refine lv_iconst (v := 0) hx hb d_PC_value_25 (by decide) ?_
      refine lv_iload_n hx hb d_PC_value_26 rfl (lv_at hl 1 rfl) ?_
      refine q_calli (rest := []) (ws' := fun _ : Unit => [c_PC ad, c_FO ad cA fo, c_FR ad cA fr, c_LR ad cA lr_2, c_MO ad cA mo_2, c_SE ad cA se_2 sk_2 sw_2, c_TR ad cA tr_2].flatten) C0 hH hA (c_Mods_truth l dC dI cA ad 0 x1 mo_2 _ _ h) Y_Mods_truth k_439 11 rfl hc_3 (q_pg [4] [0, 1, 2, 3, 5, 6] [0, 1, 2, 3, 6, 4, 5] 7 1 rfl (by decide) rfl (fun _ => rfl) rfl (by decide) (fun _ => rfl)) ⟨Nat.le_of_ble_eq_true rfl, Nat.le_of_ble_eq_true rfl⟩ rfl rfl (Nat.le_of_ble_eq_true rfl) hl.1 d_PC_value_27 ⟨Nat.le_refl 0, Nat.le_refl 0⟩ (fun r_3 u_3 H locs h hH => ?_)
      try dsimp only at h
      have hH : q_H dC dI (va_A ([c_PC ad, c_FO ad cA fo, c_FR ad cA fr, c_LR ad cA lr, c_MO ad cA mo, c_SE ad cA se sk sw, c_TR ad cA tr].flatten) s.heap.size) s.heap H locs ([c_PC ad, c_FO ad cA fo, c_FR ad cA fr, c_LR ad cA lr_2, c_MO ad cA mo_2, c_SE ad cA se_2 sk_2 sw_2, c_TR ad cA tr_2].flatten) := hH
      refine lv_goto (tgt := 35) hx hb d_PC_value_30 (by decide) ?_
      exact q_reti C0 hH (lr_2, mo_2, se_2, sk_2, sw_2, tr_2) rfl h d_PC_value_35
  · have h := h.2 c
    refine lv_iconst (v := (-1)) hx hb d_PC_value_8 (by decide) ?_
    exact q_reti C0 hH (lr, mo, se, sk, sw, tr) rfl h d_PC_value_9
theorem d_PC_model_0 : decode b_PC_model 0 = .ok (.iload_n 1, 1) := by decide +kernel
theorem d_PC_model_1 : decode b_PC_model 1 = .ok (.ifCond .lt 17, 3) := by decide +kernel
theorem d_PC_model_4 : decode b_PC_model 4 = .ok (.iload_n 1, 1) := by decide +kernel
theorem d_PC_model_5 : decode b_PC_model 5 = .ok (.bipush 60, 2) := by decide +kernel
theorem d_PC_model_7 : decode b_PC_model 7 = .ok (.if_icmp .ge 11, 3) := by decide +kernel
theorem d_PC_model_10 : decode b_PC_model 10 = .ok (.aload_n 0, 1) := by decide +kernel
theorem d_PC_model_11 : decode b_PC_model 11 = .ok (.iload_n 2, 1) := by decide +kernel
theorem d_PC_model_12 : decode b_PC_model 12 = .ok (.invokevirtual 86, 3) := by decide +kernel
theorem d_PC_model_15 : decode b_PC_model 15 = .ok (.ifCond .ne 5, 3) := by decide +kernel
theorem d_PC_model_18 : decode b_PC_model 18 = .ok (.iconst (-1), 1) := by decide +kernel
theorem d_PC_model_19 : decode b_PC_model 19 = .ok (.ireturn, 1) := by decide +kernel
theorem d_PC_model_20 : decode b_PC_model 20 = .ok (.aload_n 0, 1) := by decide +kernel
theorem d_PC_model_21 : decode b_PC_model 21 = .ok (.getfield 21, 3) := by decide +kernel
theorem d_PC_model_24 : decode b_PC_model 24 = .ok (.iload_n 1, 1) := by decide +kernel
theorem d_PC_model_25 : decode b_PC_model 25 = .ok (.iconst 1, 1) := by decide +kernel
theorem d_PC_model_26 : decode b_PC_model 26 = .ok (.iadd, 1) := by decide +kernel
theorem d_PC_model_27 : decode b_PC_model 27 = .ok (.invokevirtual 89, 3) := by decide +kernel
theorem d_PC_model_30 : decode b_PC_model 30 = .ok (.ifCond .eq 15, 3) := by decide +kernel
theorem d_PC_model_33 : decode b_PC_model 33 = .ok (.aload_n 0, 1) := by decide +kernel
theorem d_PC_model_34 : decode b_PC_model 34 = .ok (.getfield 21, 3) := by decide +kernel
theorem d_PC_model_37 : decode b_PC_model 37 = .ok (.iload_n 1, 1) := by decide +kernel
theorem d_PC_model_38 : decode b_PC_model 38 = .ok (.iload_n 2, 1) := by decide +kernel
theorem d_PC_model_39 : decode b_PC_model 39 = .ok (.invokevirtual 92, 3) := by decide +kernel
theorem d_PC_model_42 : decode b_PC_model 42 = .ok (.goto 5, 3) := by decide +kernel
theorem d_PC_model_45 : decode b_PC_model 45 = .ok (.bipush (-9), 2) := by decide +kernel
theorem d_PC_model_47 : decode b_PC_model 47 = .ok (.ireturn, 1) := by decide +kernel
set_option maxHeartbeats 4000000 in
set_option maxRecDepth 100000 in
theorem c_PC_model (l : Launch) (dC : Nat → ClassId) (dI : Nat → Nat → Nat) (cA : ClassId) (ad : Nat → Nat) (x1 : Int32) (x2 : Int32) (fo : tForm) (fr : tRows) (lr : tRows) (mo : tMods) (se : tSear) (sk : tClash) (sw : (Nat → Int32)) (tr : tTrail) (Q : Int32 → tRows → tMods → tSear → tClash → (Nat → Int32) → tTrail → Prop) (sz : Nat) (h : w_PC_model x1 x2 fo fr lr mo se sk sw tr Q) :
    q_Mi l y_PC_model b_PC_model 3 (some .int) 7 169 [.ref (ad 0), .int x1, .int x2] dC dI cA ([c_PC ad, c_FO ad cA fo, c_FR ad cA fr, c_LR ad cA lr, c_MO ad cA mo, c_SE ad cA se sk sw, c_TR ad cA tr].flatten) (fun u : tRows × tMods × tSear × tClash × (Nat → Int32) × tTrail => [c_PC ad, c_FO ad cA fo, c_FR ad cA fr, c_LR ad cA u.1, c_MO ad cA u.2.1, c_SE ad cA u.2.2.1 u.2.2.2.1 u.2.2.2.2.1, c_TR ad cA u.2.2.2.2.2].flatten) sz (fun r u => Q r u.1 u.2.1 u.2.2.1 u.2.2.2.1 u.2.2.2.2.1 u.2.2.2.2.2) := by
  refine q_meti (plainFor_of_name (by decide +kernel)) (Nat.le_of_ble_eq_true rfl) (fun {p e s m below meth c ls} C0 hl hH => ?_)
  obtain ⟨hx, hb, -⟩ := id C0
  have hA : ∀ q, s.heap.size ≤ q → va_A ([c_PC ad, c_FO ad cA fo, c_FR ad cA fr, c_LR ad cA lr, c_MO ad cA mo, c_SE ad cA se sk sw, c_TR ad cA tr].flatten) s.heap.size q := q_nA
  have hl : lv_has ls 3 [(0, .ref (ad 0)), (1, .int x1), (2, .int x2)] := hl
  unfold w_PC_model at h
  refine lv_iload_n hx hb d_PC_model_0 rfl (lv_at hl 1 rfl) ?_
  refine lv_if_lt (tgt := 18) hx hb d_PC_model_1 (by decide) (fun c => ?_) (fun c => ?_)
  · have h := h.1 c
    refine lv_iconst (v := (-1)) hx hb d_PC_model_18 (by decide) ?_
    exact q_reti C0 hH (lr, mo, se, sk, sw, tr) rfl h d_PC_model_19
  · have h := h.2 c
    refine lv_iload_n hx hb d_PC_model_4 rfl (lv_at hl 1 rfl) ?_
    refine lv_bipush (v := 60) hx hb d_PC_model_5 (by decide) ?_
    refine lv_icmp_ge (tgt := 18) hx hb d_PC_model_7 (by decide) (fun c => ?_) (fun c => ?_)
    · have h := h.1 c
      refine lv_iconst (v := (-1)) hx hb d_PC_model_18 (by decide) ?_
      exact q_reti C0 hH (lr, mo, se, sk, sw, tr) rfl h d_PC_model_19
    · have h := h.2 c
      refine lv_aload_n hx hb d_PC_model_10 rfl (lv_at hl 0 rfl) ?_
      refine lv_iload_n hx hb d_PC_model_11 rfl (lv_at hl 2 rfl) ?_
      refine q_calli (rest := []) (ws' := fun _ : Unit => [c_PC ad, c_FO ad cA fo, c_FR ad cA fr, c_LR ad cA lr, c_MO ad cA mo, c_SE ad cA se sk sw, c_TR ad cA tr].flatten) C0 hH hA (c_PC_isVariable l dC dI cA ad x2 fo _ _ h) Y_PC_isVariable k_416 0 rfl hc_0 (q_pg [0, 1] [2, 3, 4, 5, 6] [5, 6, 0, 1, 2, 3, 4] 7 2 rfl (by decide) rfl (fun _ => rfl) rfl (by decide) (fun _ => rfl)) ⟨Nat.le_of_ble_eq_true rfl, Nat.le_of_ble_eq_true rfl⟩ rfl rfl (Nat.le_of_ble_eq_true rfl) hl.1 d_PC_model_12 ⟨Nat.le_refl 0, Nat.le_refl 0⟩ (fun r_1 u_1 H locs h hH => ?_)
      try dsimp only at h
      have hH : q_H dC dI (va_A ([c_PC ad, c_FO ad cA fo, c_FR ad cA fr, c_LR ad cA lr, c_MO ad cA mo, c_SE ad cA se sk sw, c_TR ad cA tr].flatten) s.heap.size) s.heap H locs ([c_PC ad, c_FO ad cA fo, c_FR ad cA fr, c_LR ad cA lr, c_MO ad cA mo, c_SE ad cA se sk sw, c_TR ad cA tr].flatten) := hH
      refine lv_if_ne (tgt := 20) hx hb d_PC_model_15 (by decide) (fun c => ?_) (fun c => ?_)
      · have h := h.1 c
        refine lv_aload_n hx hb d_PC_model_20 rfl (lv_at hl 0 rfl) ?_
        refine q_get (v := .ref (ad 11)) C0 hH 0 rfl hc_0 1 (by decide) k_257 rfl d_PC_model_21 ?_
        refine lv_iload_n hx hb d_PC_model_24 rfl (lv_at hl 1 rfl) ?_
        refine lv_iconst (v := 1) hx hb d_PC_model_25 (by decide) ?_
        refine lv_iadd hx hb d_PC_model_26 ?_
        refine q_calli (rest := []) (ws' := fun u : tRows × tMods × tSear × tClash × (Nat → Int32) × tTrail => [c_PC ad, c_FO ad cA fo, c_FR ad cA fr, c_LR ad cA u.1, c_MO ad cA u.2.1, c_SE ad cA u.2.2.1 u.2.2.2.1 u.2.2.2.2.1, c_TR ad cA u.2.2.2.2.2].flatten) C0 hH hA (c_Mods_reach l dC dI cA ad (x1 + 1) fo fr lr mo se sk sw tr _ _ h) Y_Mods_reach k_420 11 rfl hc_3 (q_pg [1, 2, 3, 4, 5, 6] [0] [0, 1, 2, 3, 4, 5, 6] 7 6 rfl (by decide) rfl (fun _ => rfl) rfl (by decide) (fun _ => rfl)) ⟨Nat.le_of_ble_eq_true rfl, Nat.le_of_ble_eq_true rfl⟩ rfl rfl (Nat.le_of_ble_eq_true rfl) hl.1 d_PC_model_27 ⟨Nat.le_refl 0, Nat.le_refl 0⟩ (fun r_2 u_2 H locs h hH => ?_)
        obtain ⟨lr_2, mo_2, se_2, sk_2, sw_2, tr_2⟩ := u_2
        try dsimp only at h
        have hH : q_H dC dI (va_A ([c_PC ad, c_FO ad cA fo, c_FR ad cA fr, c_LR ad cA lr, c_MO ad cA mo, c_SE ad cA se sk sw, c_TR ad cA tr].flatten) s.heap.size) s.heap H locs ([c_PC ad, c_FO ad cA fo, c_FR ad cA fr, c_LR ad cA lr_2, c_MO ad cA mo_2, c_SE ad cA se_2 sk_2 sw_2, c_TR ad cA tr_2].flatten) := hH
        refine lv_if_eq (tgt := 45) hx hb d_PC_model_30 (by decide) (fun c => ?_) (fun c => ?_)
        · have h := h.1 c
          refine lv_bipush (v := (-9)) hx hb d_PC_model_45 (by decide) ?_
          exact q_reti C0 hH (lr_2, mo_2, se_2, sk_2, sw_2, tr_2) rfl h d_PC_model_47
        · have h := h.2 c
          refine lv_aload_n hx hb d_PC_model_33 rfl (lv_at hl 0 rfl) ?_
          refine q_get (v := .ref (ad 11)) C0 hH 0 rfl hc_0 1 (by decide) k_257 rfl d_PC_model_34 ?_
          refine lv_iload_n hx hb d_PC_model_37 rfl (lv_at hl 1 rfl) ?_
          refine lv_iload_n hx hb d_PC_model_38 rfl (lv_at hl 2 rfl) ?_
          refine q_calli (rest := []) (ws' := fun _ : Unit => [c_PC ad, c_FO ad cA fo, c_FR ad cA fr, c_LR ad cA lr_2, c_MO ad cA mo_2, c_SE ad cA se_2 sk_2 sw_2, c_TR ad cA tr_2].flatten) C0 hH hA (c_Mods_truth l dC dI cA ad x1 x2 mo_2 _ _ h) Y_Mods_truth k_439 11 rfl hc_3 (q_pg [4] [0, 1, 2, 3, 5, 6] [0, 1, 2, 3, 6, 4, 5] 7 1 rfl (by decide) rfl (fun _ => rfl) rfl (by decide) (fun _ => rfl)) ⟨Nat.le_of_ble_eq_true rfl, Nat.le_of_ble_eq_true rfl⟩ rfl rfl (Nat.le_of_ble_eq_true rfl) hl.1 d_PC_model_39 ⟨Nat.le_refl 0, Nat.le_refl 0⟩ (fun r_3 u_3 H locs h hH => ?_)
          try dsimp only at h
          have hH : q_H dC dI (va_A ([c_PC ad, c_FO ad cA fo, c_FR ad cA fr, c_LR ad cA lr, c_MO ad cA mo, c_SE ad cA se sk sw, c_TR ad cA tr].flatten) s.heap.size) s.heap H locs ([c_PC ad, c_FO ad cA fo, c_FR ad cA fr, c_LR ad cA lr_2, c_MO ad cA mo_2, c_SE ad cA se_2 sk_2 sw_2, c_TR ad cA tr_2].flatten) := hH
          refine lv_goto (tgt := 47) hx hb d_PC_model_42 (by decide) ?_
          exact q_reti C0 hH (lr_2, mo_2, se_2, sk_2, sw_2, tr_2) rfl h d_PC_model_47
      · have h := h.2 c
        refine lv_iconst (v := (-1)) hx hb d_PC_model_18 (by decide) ?_
        exact q_reti C0 hH (lr, mo, se, sk, sw, tr) rfl h d_PC_model_19
theorem d_PC_models_0 : decode b_PC_models 0 = .ok (.aload_n 0, 1) := by decide +kernel
theorem d_PC_models_1 : decode b_PC_models 1 = .ok (.getfield 21, 3) := by decide +kernel
theorem d_PC_models_4 : decode b_PC_models 4 = .ok (.bipush 60, 2) := by decide +kernel
theorem d_PC_models_6 : decode b_PC_models 6 = .ok (.invokevirtual 89, 3) := by decide +kernel
theorem d_PC_models_9 : decode b_PC_models 9 = .ok (.pop, 1) := by decide +kernel
theorem d_PC_models_10 : decode b_PC_models 10 = .ok (.aload_n 0, 1) := by decide +kernel
theorem d_PC_models_11 : decode b_PC_models 11 = .ok (.getfield 21, 3) := by decide +kernel
theorem d_PC_models_14 : decode b_PC_models 14 = .ok (.getfield 95, 3) := by decide +kernel
theorem d_PC_models_17 : decode b_PC_models 17 = .ok (.ireturn, 1) := by decide +kernel
set_option maxHeartbeats 4000000 in
set_option maxRecDepth 100000 in
theorem c_PC_models (l : Launch) (dC : Nat → ClassId) (dI : Nat → Nat → Nat) (cA : ClassId) (ad : Nat → Nat) (fo : tForm) (fr : tRows) (lr : tRows) (mo : tMods) (se : tSear) (sk : tClash) (sw : (Nat → Int32)) (tr : tTrail) (Q : Int32 → tRows → tMods → tSear → tClash → (Nat → Int32) → tTrail → Prop) (sz : Nat) (h : w_PC_models fo fr lr mo se sk sw tr Q) :
    q_Mi l y_PC_models b_PC_models 1 (some .int) 7 169 [.ref (ad 0)] dC dI cA ([c_PC ad, c_FO ad cA fo, c_FR ad cA fr, c_LR ad cA lr, c_MO ad cA mo, c_SE ad cA se sk sw, c_TR ad cA tr].flatten) (fun u : tRows × tMods × tSear × tClash × (Nat → Int32) × tTrail => [c_PC ad, c_FO ad cA fo, c_FR ad cA fr, c_LR ad cA u.1, c_MO ad cA u.2.1, c_SE ad cA u.2.2.1 u.2.2.2.1 u.2.2.2.2.1, c_TR ad cA u.2.2.2.2.2].flatten) sz (fun r u => Q r u.1 u.2.1 u.2.2.1 u.2.2.2.1 u.2.2.2.2.1 u.2.2.2.2.2) := by
  refine q_meti (plainFor_of_name (by decide +kernel)) (Nat.le_of_ble_eq_true rfl) (fun {p e s m below meth c ls} C0 hl hH => ?_)
  obtain ⟨hx, hb, -⟩ := id C0
  have hA : ∀ q, s.heap.size ≤ q → va_A ([c_PC ad, c_FO ad cA fo, c_FR ad cA fr, c_LR ad cA lr, c_MO ad cA mo, c_SE ad cA se sk sw, c_TR ad cA tr].flatten) s.heap.size q := q_nA
  have hl : lv_has ls 1 [(0, .ref (ad 0))] := hl
  unfold w_PC_models at h
  refine lv_aload_n hx hb d_PC_models_0 rfl (lv_at hl 0 rfl) ?_
  refine q_get (v := .ref (ad 11)) C0 hH 0 rfl hc_0 1 (by decide) k_257 rfl d_PC_models_1 ?_
  refine lv_bipush (v := 60) hx hb d_PC_models_4 (by decide) ?_
  refine q_calli (rest := []) (ws' := fun u : tRows × tMods × tSear × tClash × (Nat → Int32) × tTrail => [c_PC ad, c_FO ad cA fo, c_FR ad cA fr, c_LR ad cA u.1, c_MO ad cA u.2.1, c_SE ad cA u.2.2.1 u.2.2.2.1 u.2.2.2.2.1, c_TR ad cA u.2.2.2.2.2].flatten) C0 hH hA (c_Mods_reach l dC dI cA ad 60 fo fr lr mo se sk sw tr _ _ h) Y_Mods_reach k_420 11 rfl hc_3 (q_pg [1, 2, 3, 4, 5, 6] [0] [0, 1, 2, 3, 4, 5, 6] 7 6 rfl (by decide) rfl (fun _ => rfl) rfl (by decide) (fun _ => rfl)) ⟨Nat.le_of_ble_eq_true rfl, Nat.le_of_ble_eq_true rfl⟩ rfl rfl (Nat.le_of_ble_eq_true rfl) hl.1 d_PC_models_6 ⟨Nat.le_refl 0, Nat.le_refl 0⟩ (fun r_1 u_1 H locs h hH => ?_)
  obtain ⟨lr_1, mo_1, se_1, sk_1, sw_1, tr_1⟩ := u_1
  try dsimp only at h
  have hH : q_H dC dI (va_A ([c_PC ad, c_FO ad cA fo, c_FR ad cA fr, c_LR ad cA lr, c_MO ad cA mo, c_SE ad cA se sk sw, c_TR ad cA tr].flatten) s.heap.size) s.heap H locs ([c_PC ad, c_FO ad cA fo, c_FR ad cA fr, c_LR ad cA lr_1, c_MO ad cA mo_1, c_SE ad cA se_1 sk_1 sw_1, c_TR ad cA tr_1].flatten) := hH
  refine lv_pop hx hb d_PC_models_9 rfl ?_
  refine lv_aload_n hx hb d_PC_models_10 rfl (lv_at hl 0 rfl) ?_
  refine q_get (v := .ref (ad 11)) C0 hH 0 rfl hc_0 1 (by decide) k_257 rfl d_PC_models_11 ?_
  refine q_get (v := .int mo_1.size) C0 hH 11 rfl hc_3 3 (by decide) k_159 rfl d_PC_models_14 ?_
  exact q_reti C0 hH (lr_1, mo_1, se_1, sk_1, sw_1, tr_1) rfl h d_PC_models_17
theorem d_PC_forced_0 : decode b_PC_forced 0 = .ok (.aload_n 0, 1) := by decide +kernel
theorem d_PC_forced_1 : decode b_PC_forced 1 = .ok (.iload_n 1, 1) := by decide +kernel
theorem d_PC_forced_2 : decode b_PC_forced 2 = .ok (.invokevirtual 86, 3) := by decide +kernel
theorem d_PC_forced_5 : decode b_PC_forced 5 = .ok (.ifCond .ne 5, 3) := by decide +kernel
theorem d_PC_forced_8 : decode b_PC_forced 8 = .ok (.iconst (-1), 1) := by decide +kernel
theorem d_PC_forced_9 : decode b_PC_forced 9 = .ok (.ireturn, 1) := by decide +kernel
theorem d_PC_forced_10 : decode b_PC_forced 10 = .ok (.aload_n 0, 1) := by decide +kernel
theorem d_PC_forced_11 : decode b_PC_forced 11 = .ok (.getfield 21, 3) := by decide +kernel
theorem d_PC_forced_14 : decode b_PC_forced 14 = .ok (.iload_n 1, 1) := by decide +kernel
theorem d_PC_forced_15 : decode b_PC_forced 15 = .ok (.invokevirtual 83, 3) := by decide +kernel
theorem d_PC_forced_18 : decode b_PC_forced 18 = .ok (.istore_n 2, 1) := by decide +kernel
theorem d_PC_forced_19 : decode b_PC_forced 19 = .ok (.iload_n 2, 1) := by decide +kernel
theorem d_PC_forced_20 : decode b_PC_forced 20 = .ok (.aload_n 0, 1) := by decide +kernel
theorem d_PC_forced_21 : decode b_PC_forced 21 = .ok (.getfield 21, 3) := by decide +kernel
theorem d_PC_forced_24 : decode b_PC_forced 24 = .ok (.iload_n 1, 1) := by decide +kernel
theorem d_PC_forced_25 : decode b_PC_forced 25 = .ok (.ineg, 1) := by decide +kernel
theorem d_PC_forced_26 : decode b_PC_forced 26 = .ok (.invokevirtual 83, 3) := by decide +kernel
theorem d_PC_forced_29 : decode b_PC_forced 29 = .ok (.if_icmp .ne 6, 3) := by decide +kernel
theorem d_PC_forced_32 : decode b_PC_forced 32 = .ok (.bipush (-9), 2) := by decide +kernel
theorem d_PC_forced_34 : decode b_PC_forced 34 = .ok (.ireturn, 1) := by decide +kernel
theorem d_PC_forced_35 : decode b_PC_forced 35 = .ok (.iload_n 2, 1) := by decide +kernel
theorem d_PC_forced_36 : decode b_PC_forced 36 = .ok (.ifCond .eq 7, 3) := by decide +kernel
theorem d_PC_forced_39 : decode b_PC_forced 39 = .ok (.iconst 1, 1) := by decide +kernel
theorem d_PC_forced_40 : decode b_PC_forced 40 = .ok (.goto 4, 3) := by decide +kernel
theorem d_PC_forced_43 : decode b_PC_forced 43 = .ok (.iconst 0, 1) := by decide +kernel
theorem d_PC_forced_44 : decode b_PC_forced 44 = .ok (.ireturn, 1) := by decide +kernel
set_option maxHeartbeats 4000000 in
set_option maxRecDepth 100000 in
theorem c_PC_forced (l : Launch) (dC : Nat → ClassId) (dI : Nat → Nat → Nat) (cA : ClassId) (ad : Nat → Nat) (x1 : Int32) (fo : tForm) (fr : tRows) (lr : tRows) (mo : tMods) (se : tSear) (sk : tClash) (sw : (Nat → Int32)) (tr : tTrail) (Q : Int32 → tRows → tMods → tSear → tClash → (Nat → Int32) → tTrail → Prop) (sz : Nat) (h : w_PC_forced x1 fo fr lr mo se sk sw tr Q) :
    q_Mi l y_PC_forced b_PC_forced 3 (some .int) 6 144 [.ref (ad 0), .int x1] dC dI cA ([c_PC ad, c_FO ad cA fo, c_FR ad cA fr, c_LR ad cA lr, c_MO ad cA mo, c_SE ad cA se sk sw, c_TR ad cA tr].flatten) (fun u : tRows × tMods × tSear × tClash × (Nat → Int32) × tTrail => [c_PC ad, c_FO ad cA fo, c_FR ad cA fr, c_LR ad cA u.1, c_MO ad cA u.2.1, c_SE ad cA u.2.2.1 u.2.2.2.1 u.2.2.2.2.1, c_TR ad cA u.2.2.2.2.2].flatten) sz (fun r u => Q r u.1 u.2.1 u.2.2.1 u.2.2.2.1 u.2.2.2.2.1 u.2.2.2.2.2) := by
  refine q_meti (plainFor_of_name (by decide +kernel)) (Nat.le_of_ble_eq_true rfl) (fun {p e s m below meth c ls} C0 hl hH => ?_)
  obtain ⟨hx, hb, -⟩ := id C0
  have hA : ∀ q, s.heap.size ≤ q → va_A ([c_PC ad, c_FO ad cA fo, c_FR ad cA fr, c_LR ad cA lr, c_MO ad cA mo, c_SE ad cA se sk sw, c_TR ad cA tr].flatten) s.heap.size q := q_nA
  have hl : lv_has ls 3 [(0, .ref (ad 0)), (1, .int x1)] := hl
  unfold w_PC_forced at h
  refine lv_aload_n hx hb d_PC_forced_0 rfl (lv_at hl 0 rfl) ?_
  refine lv_iload_n hx hb d_PC_forced_1 rfl (lv_at hl 1 rfl) ?_
  refine q_calli (rest := []) (ws' := fun _ : Unit => [c_PC ad, c_FO ad cA fo, c_FR ad cA fr, c_LR ad cA lr, c_MO ad cA mo, c_SE ad cA se sk sw, c_TR ad cA tr].flatten) C0 hH hA (c_PC_isVariable l dC dI cA ad x1 fo _ _ h) Y_PC_isVariable k_416 0 rfl hc_0 (q_pg [0, 1] [2, 3, 4, 5, 6] [5, 6, 0, 1, 2, 3, 4] 7 2 rfl (by decide) rfl (fun _ => rfl) rfl (by decide) (fun _ => rfl)) ⟨Nat.le_of_ble_eq_true rfl, Nat.le_of_ble_eq_true rfl⟩ rfl rfl (Nat.le_of_ble_eq_true rfl) hl.1 d_PC_forced_2 ⟨Nat.le_refl 0, Nat.le_refl 0⟩ (fun r_1 u_1 H locs h hH => ?_)
  try dsimp only at h
  have hH : q_H dC dI (va_A ([c_PC ad, c_FO ad cA fo, c_FR ad cA fr, c_LR ad cA lr, c_MO ad cA mo, c_SE ad cA se sk sw, c_TR ad cA tr].flatten) s.heap.size) s.heap H locs ([c_PC ad, c_FO ad cA fo, c_FR ad cA fr, c_LR ad cA lr, c_MO ad cA mo, c_SE ad cA se sk sw, c_TR ad cA tr].flatten) := hH
  refine lv_if_ne (tgt := 10) hx hb d_PC_forced_5 (by decide) (fun c => ?_) (fun c => ?_)
  · have h := h.1 c
    refine lv_aload_n hx hb d_PC_forced_10 rfl (lv_at hl 0 rfl) ?_
    refine q_get (v := .ref (ad 11)) C0 hH 0 rfl hc_0 1 (by decide) k_257 rfl d_PC_forced_11 ?_
    refine lv_iload_n hx hb d_PC_forced_14 rfl (lv_at hl 1 rfl) ?_
    refine q_calli (rest := []) (ws' := fun u : tRows × tMods × tSear × tClash × (Nat → Int32) × tTrail => [c_PC ad, c_FO ad cA fo, c_FR ad cA fr, c_LR ad cA u.1, c_MO ad cA u.2.1, c_SE ad cA u.2.2.1 u.2.2.2.1 u.2.2.2.2.1, c_TR ad cA u.2.2.2.2.2].flatten) C0 hH hA (c_Mods_allow l dC dI cA ad x1 fo fr lr mo se sk sw tr _ _ h) Y_Mods_allow k_325 11 rfl hc_3 (q_pg [1, 2, 3, 4, 5, 6] [0] [0, 1, 2, 3, 4, 5, 6] 7 6 rfl (by decide) rfl (fun _ => rfl) rfl (by decide) (fun _ => rfl)) ⟨Nat.le_of_ble_eq_true rfl, Nat.le_of_ble_eq_true rfl⟩ rfl rfl (Nat.le_of_ble_eq_true rfl) hl.1 d_PC_forced_15 ⟨Nat.le_refl 0, Nat.le_refl 0⟩ (fun r_2 u_2 H locs h hH => ?_)
    obtain ⟨lr_2, mo_2, se_2, sk_2, sw_2, tr_2⟩ := u_2
    try dsimp only at h
    have hH : q_H dC dI (va_A ([c_PC ad, c_FO ad cA fo, c_FR ad cA fr, c_LR ad cA lr, c_MO ad cA mo, c_SE ad cA se sk sw, c_TR ad cA tr].flatten) s.heap.size) s.heap H locs ([c_PC ad, c_FO ad cA fo, c_FR ad cA fr, c_LR ad cA lr_2, c_MO ad cA mo_2, c_SE ad cA se_2 sk_2 sw_2, c_TR ad cA tr_2].flatten) := hH
    refine lv_istore_n (lv' := [(2, .int r_2), (0, .ref (ad 0)), (1, .int x1)]) hx hb d_PC_forced_18 rfl hl (by decide) rfl (fun ls hl => ?_)
    refine lv_iload_n hx hb d_PC_forced_19 rfl (lv_at hl 0 rfl) ?_
    refine lv_aload_n hx hb d_PC_forced_20 rfl (lv_at hl 1 rfl) ?_
    refine q_get (v := .ref (ad 11)) C0 hH 0 rfl hc_0 1 (by decide) k_257 rfl d_PC_forced_21 ?_
    refine lv_iload_n hx hb d_PC_forced_24 rfl (lv_at hl 2 rfl) ?_
    refine lv_ineg hx hb d_PC_forced_25 ?_
    refine q_calli (rest := [.int r_2]) (ws' := fun u : tRows × tMods × tSear × tClash × (Nat → Int32) × tTrail => [c_PC ad, c_FO ad cA fo, c_FR ad cA fr, c_LR ad cA u.1, c_MO ad cA u.2.1, c_SE ad cA u.2.2.1 u.2.2.2.1 u.2.2.2.2.1, c_TR ad cA u.2.2.2.2.2].flatten) C0 hH hA (c_Mods_allow l dC dI cA ad (-x1) fo fr lr_2 mo_2 se_2 sk_2 sw_2 tr_2 _ _ h) Y_Mods_allow k_325 11 rfl hc_3 (q_pg [1, 2, 3, 4, 5, 6] [0] [0, 1, 2, 3, 4, 5, 6] 7 6 rfl (by decide) rfl (fun _ => rfl) rfl (by decide) (fun _ => rfl)) ⟨Nat.le_of_ble_eq_true rfl, Nat.le_of_ble_eq_true rfl⟩ rfl rfl (Nat.le_of_ble_eq_true rfl) hl.1 d_PC_forced_26 ⟨Nat.le_refl 0, Nat.le_refl 0⟩ (fun r_3 u_3 H locs h hH => ?_)
    obtain ⟨lr_3, mo_3, se_3, sk_3, sw_3, tr_3⟩ := u_3
    try dsimp only at h
    have hH : q_H dC dI (va_A ([c_PC ad, c_FO ad cA fo, c_FR ad cA fr, c_LR ad cA lr, c_MO ad cA mo, c_SE ad cA se sk sw, c_TR ad cA tr].flatten) s.heap.size) s.heap H locs ([c_PC ad, c_FO ad cA fo, c_FR ad cA fr, c_LR ad cA lr_3, c_MO ad cA mo_3, c_SE ad cA se_3 sk_3 sw_3, c_TR ad cA tr_3].flatten) := hH
    refine lv_icmp_ne (tgt := 35) hx hb d_PC_forced_29 (by decide) (fun c => ?_) (fun c => ?_)
    · have h := h.1 c
      refine lv_iload_n hx hb d_PC_forced_35 rfl (lv_at hl 0 rfl) ?_
      refine lv_if_eq (tgt := 43) hx hb d_PC_forced_36 (by decide) (fun c => ?_) (fun c => ?_)
      · have h := h.1 c
        refine lv_iconst (v := 0) hx hb d_PC_forced_43 (by decide) ?_
        exact q_reti C0 hH (lr_3, mo_3, se_3, sk_3, sw_3, tr_3) rfl h d_PC_forced_44
      · have h := h.2 c
        refine lv_iconst (v := 1) hx hb d_PC_forced_39 (by decide) ?_
        refine lv_goto (tgt := 44) hx hb d_PC_forced_40 (by decide) ?_
        exact q_reti C0 hH (lr_3, mo_3, se_3, sk_3, sw_3, tr_3) rfl h d_PC_forced_44
    · have h := h.2 c
      refine lv_bipush (v := (-9)) hx hb d_PC_forced_32 (by decide) ?_
      exact q_reti C0 hH (lr_3, mo_3, se_3, sk_3, sw_3, tr_3) rfl h d_PC_forced_34
  · have h := h.2 c
    refine lv_iconst (v := (-1)) hx hb d_PC_forced_8 (by decide) ?_
    exact q_reti C0 hH (lr, mo, se, sk, sw, tr) rfl h d_PC_forced_9
theorem d_Sear_end_0 : decode b_Sear_end 0 = .ok (.aload_n 0, 1) := by decide +kernel
theorem d_Sear_end_1 : decode b_Sear_end 1 = .ok (.iconst 1, 1) := by decide +kernel
theorem d_Sear_end_2 : decode b_Sear_end 2 = .ok (.putfield 60, 3) := by decide +kernel
theorem d_Sear_end_5 : decode b_Sear_end 5 = .ok (.return_, 1) := by decide +kernel
set_option maxHeartbeats 4000000 in
set_option maxRecDepth 100000 in
theorem c_Sear_end (l : Launch) (dC : Nat → ClassId) (dI : Nat → Nat → Nat) (cA : ClassId) (ad : Nat → Nat) (se : tSear) (sk : tClash) (sw : (Nat → Int32)) (Q : tSear → Prop) (sz : Nat) (h : w_Sear_end se Q) :
    q_Mv l y_Sear_end b_Sear_end 1 0 0 [.ref (ad 13)] dC dI cA ([c_SE ad cA se sk sw].flatten) (fun u : tSear => [c_SE ad cA u sk sw].flatten) sz (fun u => Q u) := by
  refine q_metv (plainFor_of_name (by decide +kernel)) (Nat.le_of_ble_eq_true rfl) (fun {p e s m below meth c ls} C0 hl hH => ?_)
  obtain ⟨hx, hb, -⟩ := id C0
  have hA : ∀ q, s.heap.size ≤ q → va_A ([c_SE ad cA se sk sw].flatten) s.heap.size q := q_nA
  have hl : lv_has ls 1 [(0, .ref (ad 13))] := hl
  unfold w_Sear_end at h
  refine lv_aload_n hx hb d_Sear_end_0 rfl (lv_at hl 0 rfl) ?_
  refine lv_iconst (v := 1) hx hb d_Sear_end_1 (by decide) ?_
  refine q_putz (ws' := [c_SE ad cA (tSear.mk se.clauses 1) sk sw].flatten) C0 hH 0 rfl hc_4 7 (by decide) k_137 rfl rfl (Or.inr rfl) (Nat.le_of_ble_eq_true rfl) rfl d_Sear_end_2 (fun H locs hH => ?_)
  exact q_retv C0 hH (tSear.mk se.clauses 1) rfl h d_Sear_end_5
theorem d_Mods_firstWithout_0 : decode b_Mods_firstWithout 0 = .ok (.iconst 0, 1) := by decide +kernel
theorem d_Mods_firstWithout_1 : decode b_Mods_firstWithout 1 = .ok (.istore_n 1, 1) := by decide +kernel
theorem d_Mods_firstWithout_2 : decode b_Mods_firstWithout 2 = .ok (.aload_n 0, 1) := by decide +kernel
theorem d_Mods_firstWithout_3 : decode b_Mods_firstWithout 3 = .ok (.getfield 15, 3) := by decide +kernel
theorem d_Mods_firstWithout_6 : decode b_Mods_firstWithout 6 = .ok (.getfield 45, 3) := by decide +kernel
theorem d_Mods_firstWithout_9 : decode b_Mods_firstWithout 9 = .ok (.getfield 50, 3) := by decide +kernel
theorem d_Mods_firstWithout_12 : decode b_Mods_firstWithout 12 = .ok (.iconst 1, 1) := by decide +kernel
theorem d_Mods_firstWithout_13 : decode b_Mods_firstWithout 13 = .ok (.isub, 1) := by decide +kernel
theorem d_Mods_firstWithout_14 : decode b_Mods_firstWithout 14 = .ok (.istore_n 2, 1) := by decide +kernel
theorem d_Mods_firstWithout_15 : decode b_Mods_firstWithout 15 = .ok (.iconst 0, 1) := by decide +kernel
theorem d_Mods_firstWithout_16 : decode b_Mods_firstWithout 16 = .ok (.istore_n 3, 1) := by decide +kernel
theorem d_Mods_firstWithout_17 : decode b_Mods_firstWithout 17 = .ok (.iload_n 3, 1) := by decide +kernel
theorem d_Mods_firstWithout_18 : decode b_Mods_firstWithout 18 = .ok (.sipush 400, 3) := by decide +kernel
theorem d_Mods_firstWithout_21 : decode b_Mods_firstWithout 21 = .ok (.if_icmp .ge 56, 3) := by decide +kernel
theorem d_Mods_firstWithout_24 : decode b_Mods_firstWithout 24 = .ok (.iload_n 1, 1) := by decide +kernel
theorem d_Mods_firstWithout_25 : decode b_Mods_firstWithout 25 = .ok (.iload_n 2, 1) := by decide +kernel
theorem d_Mods_firstWithout_26 : decode b_Mods_firstWithout 26 = .ok (.if_icmp .ge 51, 3) := by decide +kernel
theorem d_Mods_firstWithout_29 : decode b_Mods_firstWithout 29 = .ok (.iload_n 1, 1) := by decide +kernel
theorem d_Mods_firstWithout_30 : decode b_Mods_firstWithout 30 = .ok (.iload_n 2, 1) := by decide +kernel
theorem d_Mods_firstWithout_31 : decode b_Mods_firstWithout 31 = .ok (.iadd, 1) := by decide +kernel
theorem d_Mods_firstWithout_32 : decode b_Mods_firstWithout 32 = .ok (.iconst 1, 1) := by decide +kernel
theorem d_Mods_firstWithout_33 : decode b_Mods_firstWithout 33 = .ok (.ishr, 1) := by decide +kernel
theorem d_Mods_firstWithout_34 : decode b_Mods_firstWithout 34 = .ok (.istore 4, 2) := by decide +kernel
theorem d_Mods_firstWithout_36 : decode b_Mods_firstWithout 36 = .ok (.aload_n 0, 1) := by decide +kernel
theorem d_Mods_firstWithout_37 : decode b_Mods_firstWithout 37 = .ok (.getfield 24, 3) := by decide +kernel
theorem d_Mods_firstWithout_40 : decode b_Mods_firstWithout 40 = .ok (.iload 4, 2) := by decide +kernel
theorem d_Mods_firstWithout_42 : decode b_Mods_firstWithout 42 = .ok (.iconst 1, 1) := by decide +kernel
theorem d_Mods_firstWithout_43 : decode b_Mods_firstWithout 43 = .ok (.iadd, 1) := by decide +kernel
theorem d_Mods_firstWithout_44 : decode b_Mods_firstWithout 44 = .ok (.invokevirtual 53, 3) := by decide +kernel
theorem d_Mods_firstWithout_47 : decode b_Mods_firstWithout 47 = .ok (.aload_n 0, 1) := by decide +kernel
theorem d_Mods_firstWithout_48 : decode b_Mods_firstWithout 48 = .ok (.getfield 24, 3) := by decide +kernel
theorem d_Mods_firstWithout_51 : decode b_Mods_firstWithout 51 = .ok (.iconst 0, 1) := by decide +kernel
theorem d_Mods_firstWithout_52 : decode b_Mods_firstWithout 52 = .ok (.iconst 0, 1) := by decide +kernel
theorem d_Mods_firstWithout_53 : decode b_Mods_firstWithout 53 = .ok (.invokevirtual 59, 3) := by decide +kernel
theorem d_Mods_firstWithout_56 : decode b_Mods_firstWithout 56 = .ok (.iconst (-1), 1) := by decide +kernel
theorem d_Mods_firstWithout_57 : decode b_Mods_firstWithout 57 = .ok (.if_icmp .ne 9, 3) := by decide +kernel
theorem d_Mods_firstWithout_60 : decode b_Mods_firstWithout 60 = .ok (.iload 4, 2) := by decide +kernel
theorem d_Mods_firstWithout_62 : decode b_Mods_firstWithout 62 = .ok (.istore_n 2, 1) := by decide +kernel
theorem d_Mods_firstWithout_63 : decode b_Mods_firstWithout 63 = .ok (.goto 8, 3) := by decide +kernel
theorem d_Mods_firstWithout_66 : decode b_Mods_firstWithout 66 = .ok (.iload 4, 2) := by decide +kernel
theorem d_Mods_firstWithout_68 : decode b_Mods_firstWithout 68 = .ok (.iconst 1, 1) := by decide +kernel
theorem d_Mods_firstWithout_69 : decode b_Mods_firstWithout 69 = .ok (.iadd, 1) := by decide +kernel
theorem d_Mods_firstWithout_70 : decode b_Mods_firstWithout 70 = .ok (.istore_n 1, 1) := by decide +kernel
theorem d_Mods_firstWithout_71 : decode b_Mods_firstWithout 71 = .ok (.iinc 3 1, 3) := by decide +kernel
theorem d_Mods_firstWithout_74 : decode b_Mods_firstWithout 74 = .ok (.goto (-57), 3) := by decide +kernel
theorem d_Mods_firstWithout_77 : decode b_Mods_firstWithout 77 = .ok (.aload_n 0, 1) := by decide +kernel
theorem d_Mods_firstWithout_78 : decode b_Mods_firstWithout 78 = .ok (.getfield 24, 3) := by decide +kernel
theorem d_Mods_firstWithout_81 : decode b_Mods_firstWithout 81 = .ok (.invokevirtual 89, 3) := by decide +kernel
theorem d_Mods_firstWithout_84 : decode b_Mods_firstWithout 84 = .ok (.iload_n 1, 1) := by decide +kernel
theorem d_Mods_firstWithout_85 : decode b_Mods_firstWithout 85 = .ok (.ireturn, 1) := by decide +kernel
set_option maxHeartbeats 4000000 in
set_option maxRecDepth 100000 in
theorem x_Mods_firstWithout_L17 {p : Program} {e : Env} {s : State} {m : MethodId} {args : Array Value} {below : List Frame} {meth : Method} {c : Code} {l : Launch} {dC : Nat → ClassId} {dI : Nat → Nat → Nat} {cA : ClassId} {ad : Nat → Nat} {w0 : va_W} (C0 : q_C p s m args meth c b_Mods_firstWithout 5 (some .int) "PlanClauses$Models" dC dI cA) (hA : ∀ q, s.heap.size ≤ q → va_A w0 s.heap.size q) (fo : tForm) (fr : tRows) (mo : tMods) {Q : Int32 → tRows → tSear → tClash → (Nat → Int32) → tTrail → Prop} {K77 : Int32 → tRows → tSear → tClash → (Nat → Int32) → tTrail → Prop}
    (hK77 : ∀ (x1 : Int32) (lr : tRows) (se : tSear) (sk : tClash) (sw : (Nat → Int32)) (tr : tTrail) (H : Heap) (locs : List Loc) (ls : Array Slot), K77 x1 lr se sk sw tr → lv_has ls 5 [(0, .ref (ad 11)), (1, .int x1)] → q_H dC dI (va_A w0 s.heap.size) s.heap H locs ([c_FO ad cA fo, c_FR ad cA fr, c_LR ad cA lr, c_MO ad cA mo, c_SE ad cA se sk sw, c_TR ad cA tr].flatten) → W p l e (q_R 5 119) s m args below meth c H locs 0 0 (q_Zi below args s dC dI cA w0 (fun u : tRows × tSear × tClash × (Nat → Int32) × tTrail => [c_FO ad cA fo, c_FR ad cA fr, c_LR ad cA u.1, c_MO ad cA mo, c_SE ad cA u.2.1 u.2.2.1 u.2.2.2.1, c_TR ad cA u.2.2.2.2].flatten) (fun r u => Q r u.1 u.2.1 u.2.2.1 u.2.2.2.1 u.2.2.2.2)) (F0 m 77 ls [])) :
    ∀ (nn : Nat) (x1 : Int32) (x2 : Int32) (x3 : Int32) (lr : tRows) (se : tSear) (sk : tClash) (sw : (Nat → Int32)) (tr : tTrail) (H : Heap) (locs : List Loc) (ls : Array Slot), w_Mods_firstWithout_L17 fo fr K77 nn x1 x2 x3 lr se sk sw tr → lv_has ls 5 [(0, .ref (ad 11)), (1, .int x1), (2, .int x2), (3, .int x3)] → q_H dC dI (va_A w0 s.heap.size) s.heap H locs ([c_FO ad cA fo, c_FR ad cA fr, c_LR ad cA lr, c_MO ad cA mo, c_SE ad cA se sk sw, c_TR ad cA tr].flatten) → W p l e (q_R 5 119) s m args below meth c H locs 0 0 (q_Zi below args s dC dI cA w0 (fun u : tRows × tSear × tClash × (Nat → Int32) × tTrail => [c_FO ad cA fo, c_FR ad cA fr, c_LR ad cA u.1, c_MO ad cA mo, c_SE ad cA u.2.1 u.2.2.1 u.2.2.2.1, c_TR ad cA u.2.2.2.2].flatten) (fun r u => Q r u.1 u.2.1 u.2.2.1 u.2.2.2.1 u.2.2.2.2)) (F0 m 17 ls []) := by
  obtain ⟨hx, hb, -⟩ := id C0
  intro nn
  induction nn with
  | zero =>
    intro x1 x2 x3 lr se sk sw tr H locs ls h
    exact (show False from h).elim
  | succ nn ih =>
    intro x1 x2 x3 lr se sk sw tr H locs ls h hl hH
    rw [w_Mods_firstWithout_L17] at h
    refine lv_iload_n hx hb d_Mods_firstWithout_17 rfl (lv_at hl 3 rfl) ?_
    refine lv_sipush (v := 400) hx hb d_Mods_firstWithout_18 (by decide) ?_
    refine lv_icmp_ge (tgt := 77) hx hb d_Mods_firstWithout_21 (by decide) (fun c => ?_) (fun c => ?_)
    · have h := h.1 c
      exact hK77 x1 lr se sk sw tr _ _ _ h (lv_sub hl [0, 1] rfl) hH
    · have h := h.2 c
      refine lv_iload_n hx hb d_Mods_firstWithout_24 rfl (lv_at hl 1 rfl) ?_
      refine lv_iload_n hx hb d_Mods_firstWithout_25 rfl (lv_at hl 2 rfl) ?_
      refine lv_icmp_ge (tgt := 77) hx hb d_Mods_firstWithout_26 (by decide) (fun c => ?_) (fun c => ?_)
      · have h := h.1 c
        exact hK77 x1 lr se sk sw tr _ _ _ h (lv_sub hl [0, 1] rfl) hH
      · have h := h.2 c
        refine lv_iload_n hx hb d_Mods_firstWithout_29 rfl (lv_at hl 1 rfl) ?_
        refine lv_iload_n hx hb d_Mods_firstWithout_30 rfl (lv_at hl 2 rfl) ?_
        refine lv_iadd hx hb d_Mods_firstWithout_31 ?_
        refine lv_iconst (v := 1) hx hb d_Mods_firstWithout_32 (by decide) ?_
        refine lv_ishr hx hb d_Mods_firstWithout_33 ?_
        refine lv_istore (lv' := [(4, .int ((x1 + x2) >>> ((1 : Int32) &&& 31))), (0, .ref (ad 11)), (1, .int x1), (2, .int x2), (3, .int x3)]) hx hb d_Mods_firstWithout_34 hl (by decide) rfl (fun ls hl => ?_)
        refine lv_aload_n hx hb d_Mods_firstWithout_36 rfl (lv_at hl 1 rfl) ?_
        refine q_get (v := .ref (ad 13)) C0 hH 10 rfl hc_3 1 (by decide) k_156 rfl d_Mods_firstWithout_37 ?_
        refine lv_iload hx hb d_Mods_firstWithout_40 (lv_at hl 0 rfl) ?_
        refine lv_iconst (v := 1) hx hb d_Mods_firstWithout_42 (by decide) ?_
        refine lv_iadd hx hb d_Mods_firstWithout_43 ?_
        refine q_callv (rest := []) (ws' := fun u : tRows × tSear × tTrail => [c_FO ad cA fo, c_FR ad cA fr, c_LR ad cA u.1, c_MO ad cA mo, c_SE ad cA u.2.1 sk sw, c_TR ad cA u.2.2].flatten) C0 hH hA (c_Sear_begin l dC dI cA ad (((x1 + x2) >>> ((1 : Int32) &&& 31)) + 1) fo fr lr se sk sw tr _ _ h) Y_Sear_begin k_333 12 rfl hc_4 (q_pg [0, 1, 2, 4, 5] [3] [1, 2, 3, 0, 4, 5] 6 5 rfl (by decide) rfl (fun _ => rfl) rfl (by decide) (fun _ => rfl)) ⟨Nat.le_of_ble_eq_true rfl, Nat.le_of_ble_eq_true rfl⟩ rfl rfl (Nat.le_of_ble_eq_true rfl) hl.1 d_Mods_firstWithout_44 ⟨Nat.le_refl 0, Nat.le_refl 0⟩ (fun u_1 H locs h hH => ?_)
        obtain ⟨lr_1, se_1, tr_1⟩ := u_1
        try dsimp only at h
        have hH : q_H dC dI (va_A w0 s.heap.size) s.heap H locs ([c_FO ad cA fo, c_FR ad cA fr, c_LR ad cA lr_1, c_MO ad cA mo, c_SE ad cA se_1 sk sw, c_TR ad cA tr_1].flatten) := hH
        refine lv_aload_n hx hb d_Mods_firstWithout_47 rfl (lv_at hl 1 rfl) ?_
        refine q_get (v := .ref (ad 13)) C0 hH 10 rfl hc_3 1 (by decide) k_156 rfl d_Mods_firstWithout_48 ?_
        refine lv_iconst (v := 0) hx hb d_Mods_firstWithout_51 (by decide) ?_
        refine lv_iconst (v := 0) hx hb d_Mods_firstWithout_52 (by decide) ?_
        refine q_calli (rest := []) (ws' := fun u : tRows × tSear × tClash × (Nat → Int32) × tTrail => [c_FO ad cA fo, c_FR ad cA fr, c_LR ad cA u.1, c_MO ad cA mo, c_SE ad cA u.2.1 u.2.2.1 u.2.2.2.1, c_TR ad cA u.2.2.2.2].flatten) C0 hH hA (c_Sear_find l dC dI cA ad 0 0 fo fr lr_1 se_1 sk sw tr_1 _ _ h) Y_Sear_find k_352 12 rfl hc_4 (q_pg [0, 1, 2, 4, 5] [3] [1, 2, 3, 0, 4, 5] 6 5 rfl (by decide) rfl (fun _ => rfl) rfl (by decide) (fun _ => rfl)) ⟨Nat.le_of_ble_eq_true rfl, Nat.le_of_ble_eq_true rfl⟩ rfl rfl (Nat.le_of_ble_eq_true rfl) hl.1 d_Mods_firstWithout_53 ⟨Nat.le_refl 0, Nat.le_refl 0⟩ (fun r_2 u_2 H locs h hH => ?_)
        obtain ⟨lr_2, se_2, sk_2, sw_2, tr_2⟩ := u_2
        try dsimp only at h
        have hH : q_H dC dI (va_A w0 s.heap.size) s.heap H locs ([c_FO ad cA fo, c_FR ad cA fr, c_LR ad cA lr_2, c_MO ad cA mo, c_SE ad cA se_2 sk_2 sw_2, c_TR ad cA tr_2].flatten) := hH
        refine lv_iconst (v := (-1)) hx hb d_Mods_firstWithout_56 (by decide) ?_
        refine lv_icmp_ne (tgt := 66) hx hb d_Mods_firstWithout_57 (by decide) (fun c => ?_) (fun c => ?_)
        · have h := h.1 c
          refine lv_iload hx hb d_Mods_firstWithout_66 (lv_at hl 0 rfl) ?_
          refine lv_iconst (v := 1) hx hb d_Mods_firstWithout_68 (by decide) ?_
          refine lv_iadd hx hb d_Mods_firstWithout_69 ?_
          refine lv_istore_n (lv' := [(1, .int (((x1 + x2) >>> ((1 : Int32) &&& 31)) + 1)), (4, .int ((x1 + x2) >>> ((1 : Int32) &&& 31))), (0, .ref (ad 11)), (2, .int x2), (3, .int x3)]) hx hb d_Mods_firstWithout_70 rfl hl (by decide) rfl (fun ls hl => ?_)
          refine lv_iinc (v := (x3 + 1)) (lv' := [(3, .int (x3 + 1)), (1, .int (((x1 + x2) >>> ((1 : Int32) &&& 31)) + 1)), (4, .int ((x1 + x2) >>> ((1 : Int32) &&& 31))), (0, .ref (ad 11)), (2, .int x2)]) hx hb d_Mods_firstWithout_71 hl (k := 4) rfl rfl (by decide) rfl (fun ls hl => ?_)
          refine lv_goto (tgt := 17) hx hb d_Mods_firstWithout_74 (by decide) ?_
          exact ih (((x1 + x2) >>> ((1 : Int32) &&& 31)) + 1) x2 (x3 + 1) lr_2 se_2 sk_2 sw_2 tr_2 _ _ _ h (lv_sub hl [3, 1, 4, 0] rfl) hH
        · have h := h.2 c
          refine lv_iload hx hb d_Mods_firstWithout_60 (lv_at hl 0 rfl) ?_
          refine lv_istore_n (lv' := [(2, .int ((x1 + x2) >>> ((1 : Int32) &&& 31))), (4, .int ((x1 + x2) >>> ((1 : Int32) &&& 31))), (0, .ref (ad 11)), (1, .int x1), (3, .int x3)]) hx hb d_Mods_firstWithout_62 rfl hl (by decide) rfl (fun ls hl => ?_)
          refine lv_goto (tgt := 71) hx hb d_Mods_firstWithout_63 (by decide) ?_
          refine lv_iinc (v := (x3 + 1)) (lv' := [(3, .int (x3 + 1)), (2, .int ((x1 + x2) >>> ((1 : Int32) &&& 31))), (4, .int ((x1 + x2) >>> ((1 : Int32) &&& 31))), (0, .ref (ad 11)), (1, .int x1)]) hx hb d_Mods_firstWithout_71 hl (k := 4) rfl rfl (by decide) rfl (fun ls hl => ?_)
          refine lv_goto (tgt := 17) hx hb d_Mods_firstWithout_74 (by decide) ?_
          exact ih x1 ((x1 + x2) >>> ((1 : Int32) &&& 31)) (x3 + 1) lr_2 se_2 sk_2 sw_2 tr_2 _ _ _ h (lv_sub hl [3, 4, 1, 0] rfl) hH
set_option maxHeartbeats 4000000 in
set_option maxRecDepth 100000 in
theorem c_Mods_firstWithout (l : Launch) (dC : Nat → ClassId) (dI : Nat → Nat → Nat) (cA : ClassId) (ad : Nat → Nat) (fo : tForm) (fr : tRows) (lr : tRows) (mo : tMods) (se : tSear) (sk : tClash) (sw : (Nat → Int32)) (tr : tTrail) (Q : Int32 → tRows → tSear → tClash → (Nat → Int32) → tTrail → Prop) (sz : Nat) (h : w_Mods_firstWithout fo fr lr se sk sw tr Q) :
    q_Mi l y_Mods_firstWithout b_Mods_firstWithout 5 (some .int) 5 119 [.ref (ad 11)] dC dI cA ([c_FO ad cA fo, c_FR ad cA fr, c_LR ad cA lr, c_MO ad cA mo, c_SE ad cA se sk sw, c_TR ad cA tr].flatten) (fun u : tRows × tSear × tClash × (Nat → Int32) × tTrail => [c_FO ad cA fo, c_FR ad cA fr, c_LR ad cA u.1, c_MO ad cA mo, c_SE ad cA u.2.1 u.2.2.1 u.2.2.2.1, c_TR ad cA u.2.2.2.2].flatten) sz (fun r u => Q r u.1 u.2.1 u.2.2.1 u.2.2.2.1 u.2.2.2.2) := by
  refine q_meti (plainFor_of_name (by decide +kernel)) (Nat.le_of_ble_eq_true rfl) (fun {p e s m below meth c ls} C0 hl hH => ?_)
  obtain ⟨hx, hb, -⟩ := id C0
  have hA : ∀ q, s.heap.size ≤ q → va_A ([c_FO ad cA fo, c_FR ad cA fr, c_LR ad cA lr, c_MO ad cA mo, c_SE ad cA se sk sw, c_TR ad cA tr].flatten) s.heap.size q := q_nA
  have hl : lv_has ls 5 [(0, .ref (ad 11))] := hl
  unfold w_Mods_firstWithout at h
  refine lv_iconst (v := 0) hx hb d_Mods_firstWithout_0 (by decide) ?_
  refine lv_istore_n (lv' := [(1, .int 0), (0, .ref (ad 11))]) hx hb d_Mods_firstWithout_1 rfl hl (by decide) rfl (fun ls hl => ?_)
  refine lv_aload_n hx hb d_Mods_firstWithout_2 rfl (lv_at hl 1 rfl) ?_
  refine q_get (v := .ref (ad 1)) C0 hH 10 rfl hc_3 0 (by decide) k_155 rfl d_Mods_firstWithout_3 ?_
  refine q_get (v := .ref (ad 5)) C0 hH 0 rfl hc_1 5 (by decide) k_63 rfl d_Mods_firstWithout_6 ?_
  refine q_get (v := .int fr.size) C0 hH 4 rfl hc_2 2 (by decide) k_39 rfl d_Mods_firstWithout_9 ?_
  refine lv_iconst (v := 1) hx hb d_Mods_firstWithout_12 (by decide) ?_
  refine lv_isub hx hb d_Mods_firstWithout_13 ?_
  refine lv_istore_n (lv' := [(2, .int (fr.size - 1)), (1, .int 0), (0, .ref (ad 11))]) hx hb d_Mods_firstWithout_14 rfl hl (by decide) rfl (fun ls hl => ?_)
  refine lv_iconst (v := 0) hx hb d_Mods_firstWithout_15 (by decide) ?_
  refine lv_istore_n (lv' := [(3, .int 0), (2, .int (fr.size - 1)), (1, .int 0), (0, .ref (ad 11))]) hx hb d_Mods_firstWithout_16 rfl hl (by decide) rfl (fun ls hl => ?_)
  obtain ⟨nn, h⟩ := h
  refine x_Mods_firstWithout_L17 C0 hA fo fr mo ?_ nn 0 (fr.size - 1) 0 lr se sk sw tr _ _ _ h (lv_sub hl [3, 2, 1, 0] rfl) hH
  · intro x1_1 lr_1 se_1 sk_1 sw_1 tr_1 H locs ls h hl hH
    try dsimp only at h
    refine lv_aload_n hx hb d_Mods_firstWithout_77 rfl (lv_at hl 0 rfl) ?_
    refine q_get (v := .ref (ad 13)) C0 hH 10 rfl hc_3 1 (by decide) k_156 rfl d_Mods_firstWithout_78 ?_
    refine q_callv (rest := []) (ws' := fun u : tSear => [c_FO ad cA fo, c_FR ad cA fr, c_LR ad cA lr_1, c_MO ad cA mo, c_SE ad cA u sk_1 sw_1, c_TR ad cA tr_1].flatten) C0 hH hA (c_Sear_end l dC dI cA ad se_1 sk_1 sw_1 _ _ h) Y_Sear_end k_463 12 rfl hc_4 (q_pg [4] [0, 1, 2, 3, 5] [0, 1, 2, 3, 5, 4] 6 1 rfl (by decide) rfl (fun _ => rfl) rfl (by decide) (fun _ => rfl)) ⟨Nat.le_of_ble_eq_true rfl, Nat.le_of_ble_eq_true rfl⟩ rfl rfl (Nat.le_of_ble_eq_true rfl) hl.1 d_Mods_firstWithout_81 ⟨Nat.le_refl 0, Nat.le_refl 0⟩ (fun u_2 H locs h hH => ?_)
    obtain ⟨se_2, rfl⟩ : ∃ z, z = u_2 := ⟨_, rfl⟩
    try dsimp only at h
    have hH : q_H dC dI (va_A ([c_FO ad cA fo, c_FR ad cA fr, c_LR ad cA lr, c_MO ad cA mo, c_SE ad cA se sk sw, c_TR ad cA tr].flatten) s.heap.size) s.heap H locs ([c_FO ad cA fo, c_FR ad cA fr, c_LR ad cA lr_1, c_MO ad cA mo, c_SE ad cA se_2 sk_1 sw_1, c_TR ad cA tr_1].flatten) := hH
    refine lv_iload_n hx hb d_Mods_firstWithout_84 rfl (lv_at hl 1 rfl) ?_
    exact q_reti C0 hH (lr_1, se_2, sk_1, sw_1, tr_1) rfl h d_Mods_firstWithout_85
