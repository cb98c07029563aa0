theorem d_Sear_heaviest_0 : decode b_Sear_heaviest 0 = .ok (.iconst 0, 1) := by decide +kernel
theorem d_Sear_heaviest_1 : decode b_Sear_heaviest 1 = .ok (.istore_n 1, 1) := by decide +kernel
theorem d_Sear_heaviest_2 : decode b_Sear_heaviest 2 = .ok (.iload_n 1, 1) := by decide +kernel
theorem d_Sear_heaviest_3 : decode b_Sear_heaviest 3 = .ok (.bipush 30, 2) := by decide +kernel
theorem d_Sear_heaviest_5 : decode b_Sear_heaviest 5 = .ok (.if_icmp .ge 16, 3) := by decide +kernel
theorem d_Sear_heaviest_8 : decode b_Sear_heaviest 8 = .ok (.aload_n 0, 1) := by decide +kernel
theorem d_Sear_heaviest_9 : decode b_Sear_heaviest 9 = .ok (.getfield 27, 3) := by decide +kernel
theorem d_Sear_heaviest_12 : decode b_Sear_heaviest 12 = .ok (.iload_n 1, 1) := by decide +kernel
theorem d_Sear_heaviest_13 : decode b_Sear_heaviest 13 = .ok (.iconst 0, 1) := by decide +kernel
theorem d_Sear_heaviest_14 : decode b_Sear_heaviest 14 = .ok (.iastore, 1) := by decide +kernel
theorem d_Sear_heaviest_15 : decode b_Sear_heaviest 15 = .ok (.iinc 1 1, 3) := by decide +kernel
theorem d_Sear_heaviest_18 : decode b_Sear_heaviest 18 = .ok (.goto (-16), 3) := by decide +kernel
theorem d_Sear_heaviest_21 : decode b_Sear_heaviest 21 = .ok (.iconst 0, 1) := by decide +kernel
theorem d_Sear_heaviest_22 : decode b_Sear_heaviest 22 = .ok (.istore_n 1, 1) := by decide +kernel
theorem d_Sear_heaviest_23 : decode b_Sear_heaviest 23 = .ok (.iload_n 1, 1) := by decide +kernel
theorem d_Sear_heaviest_24 : decode b_Sear_heaviest 24 = .ok (.aload_n 0, 1) := by decide +kernel
theorem d_Sear_heaviest_25 : decode b_Sear_heaviest 25 = .ok (.getfield 53, 3) := by decide +kernel
theorem d_Sear_heaviest_28 : decode b_Sear_heaviest 28 = .ok (.if_icmp .ge 83, 3) := by decide +kernel
theorem d_Sear_heaviest_31 : decode b_Sear_heaviest 31 = .ok (.aload_n 0, 1) := by decide +kernel
theorem d_Sear_heaviest_32 : decode b_Sear_heaviest 32 = .ok (.getfield 31, 3) := by decide +kernel
theorem d_Sear_heaviest_35 : decode b_Sear_heaviest 35 = .ok (.getfield 35, 3) := by decide +kernel
theorem d_Sear_heaviest_38 : decode b_Sear_heaviest 38 = .ok (.getfield 100, 3) := by decide +kernel
theorem d_Sear_heaviest_41 : decode b_Sear_heaviest 41 = .ok (.iload_n 1, 1) := by decide +kernel
theorem d_Sear_heaviest_42 : decode b_Sear_heaviest 42 = .ok (.iaload, 1) := by decide +kernel
theorem d_Sear_heaviest_43 : decode b_Sear_heaviest 43 = .ok (.istore_n 2, 1) := by decide +kernel
theorem d_Sear_heaviest_44 : decode b_Sear_heaviest 44 = .ok (.aload_n 0, 1) := by decide +kernel
theorem d_Sear_heaviest_45 : decode b_Sear_heaviest 45 = .ok (.getfield 31, 3) := by decide +kernel
theorem d_Sear_heaviest_48 : decode b_Sear_heaviest 48 = .ok (.getfield 35, 3) := by decide +kernel
theorem d_Sear_heaviest_51 : decode b_Sear_heaviest 51 = .ok (.getfield 103, 3) := by decide +kernel
theorem d_Sear_heaviest_54 : decode b_Sear_heaviest 54 = .ok (.iload_n 1, 1) := by decide +kernel
theorem d_Sear_heaviest_55 : decode b_Sear_heaviest 55 = .ok (.iaload, 1) := by decide +kernel
theorem d_Sear_heaviest_56 : decode b_Sear_heaviest 56 = .ok (.istore_n 3, 1) := by decide +kernel
theorem d_Sear_heaviest_57 : decode b_Sear_heaviest 57 = .ok (.iload_n 2, 1) := by decide +kernel
theorem d_Sear_heaviest_58 : decode b_Sear_heaviest 58 = .ok (.aload_n 0, 1) := by decide +kernel
theorem d_Sear_heaviest_59 : decode b_Sear_heaviest 59 = .ok (.getfield 23, 3) := by decide +kernel
theorem d_Sear_heaviest_62 : decode b_Sear_heaviest 62 = .ok (.getfield 82, 3) := by decide +kernel
theorem d_Sear_heaviest_65 : decode b_Sear_heaviest 65 = .ok (.iand, 1) := by decide +kernel
theorem d_Sear_heaviest_66 : decode b_Sear_heaviest 66 = .ok (.iload_n 3, 1) := by decide +kernel
theorem d_Sear_heaviest_67 : decode b_Sear_heaviest 67 = .ok (.aload_n 0, 1) := by decide +kernel
theorem d_Sear_heaviest_68 : decode b_Sear_heaviest 68 = .ok (.getfield 23, 3) := by decide +kernel
theorem d_Sear_heaviest_71 : decode b_Sear_heaviest 71 = .ok (.getfield 79, 3) := by decide +kernel
theorem d_Sear_heaviest_74 : decode b_Sear_heaviest 74 = .ok (.iand, 1) := by decide +kernel
theorem d_Sear_heaviest_75 : decode b_Sear_heaviest 75 = .ok (.ior, 1) := by decide +kernel
theorem d_Sear_heaviest_76 : decode b_Sear_heaviest 76 = .ok (.ifCond .ne 29, 3) := by decide +kernel
theorem d_Sear_heaviest_79 : decode b_Sear_heaviest 79 = .ok (.aload_n 0, 1) := by decide +kernel
theorem d_Sear_heaviest_80 : decode b_Sear_heaviest 80 = .ok (.iload_n 1, 1) := by decide +kernel
theorem d_Sear_heaviest_81 : decode b_Sear_heaviest 81 = .ok (.iload_n 2, 1) := by decide +kernel
theorem d_Sear_heaviest_82 : decode b_Sear_heaviest 82 = .ok (.iload_n 3, 1) := by decide +kernel
theorem d_Sear_heaviest_83 : decode b_Sear_heaviest 83 = .ok (.ior, 1) := by decide +kernel
theorem d_Sear_heaviest_84 : decode b_Sear_heaviest 84 = .ok (.aload_n 0, 1) := by decide +kernel
theorem d_Sear_heaviest_85 : decode b_Sear_heaviest 85 = .ok (.getfield 23, 3) := by decide +kernel
theorem d_Sear_heaviest_88 : decode b_Sear_heaviest 88 = .ok (.getfield 82, 3) := by decide +kernel
theorem d_Sear_heaviest_91 : decode b_Sear_heaviest 91 = .ok (.aload_n 0, 1) := by decide +kernel
theorem d_Sear_heaviest_92 : decode b_Sear_heaviest 92 = .ok (.getfield 23, 3) := by decide +kernel
theorem d_Sear_heaviest_95 : decode b_Sear_heaviest 95 = .ok (.getfield 79, 3) := by decide +kernel
theorem d_Sear_heaviest_98 : decode b_Sear_heaviest 98 = .ok (.ior, 1) := by decide +kernel
theorem d_Sear_heaviest_99 : decode b_Sear_heaviest 99 = .ok (.iconst (-1), 1) := by decide +kernel
theorem d_Sear_heaviest_100 : decode b_Sear_heaviest 100 = .ok (.ixor, 1) := by decide +kernel
theorem d_Sear_heaviest_101 : decode b_Sear_heaviest 101 = .ok (.iand, 1) := by decide +kernel
theorem d_Sear_heaviest_102 : decode b_Sear_heaviest 102 = .ok (.invokevirtual 138, 3) := by decide +kernel
theorem d_Sear_heaviest_105 : decode b_Sear_heaviest 105 = .ok (.iinc 1 1, 3) := by decide +kernel
theorem d_Sear_heaviest_108 : decode b_Sear_heaviest 108 = .ok (.goto (-85), 3) := by decide +kernel
theorem d_Sear_heaviest_111 : decode b_Sear_heaviest 111 = .ok (.iconst 0, 1) := by decide +kernel
theorem d_Sear_heaviest_112 : decode b_Sear_heaviest 112 = .ok (.istore_n 1, 1) := by decide +kernel
theorem d_Sear_heaviest_113 : decode b_Sear_heaviest 113 = .ok (.iconst 0, 1) := by decide +kernel
theorem d_Sear_heaviest_114 : decode b_Sear_heaviest 114 = .ok (.istore_n 2, 1) := by decide +kernel
theorem d_Sear_heaviest_115 : decode b_Sear_heaviest 115 = .ok (.iconst 0, 1) := by decide +kernel
theorem d_Sear_heaviest_116 : decode b_Sear_heaviest 116 = .ok (.istore_n 3, 1) := by decide +kernel
theorem d_Sear_heaviest_117 : decode b_Sear_heaviest 117 = .ok (.iload_n 3, 1) := by decide +kernel
theorem d_Sear_heaviest_118 : decode b_Sear_heaviest 118 = .ok (.bipush 30, 2) := by decide +kernel
theorem d_Sear_heaviest_120 : decode b_Sear_heaviest 120 = .ok (.if_icmp .ge 30, 3) := by decide +kernel
theorem d_Sear_heaviest_123 : decode b_Sear_heaviest 123 = .ok (.aload_n 0, 1) := by decide +kernel
theorem d_Sear_heaviest_124 : decode b_Sear_heaviest 124 = .ok (.getfield 27, 3) := by decide +kernel
theorem d_Sear_heaviest_127 : decode b_Sear_heaviest 127 = .ok (.iload_n 3, 1) := by decide +kernel
theorem d_Sear_heaviest_128 : decode b_Sear_heaviest 128 = .ok (.iaload, 1) := by decide +kernel
theorem d_Sear_heaviest_129 : decode b_Sear_heaviest 129 = .ok (.iload_n 2, 1) := by decide +kernel
theorem d_Sear_heaviest_130 : decode b_Sear_heaviest 130 = .ok (.if_icmp .le 14, 3) := by decide +kernel
theorem d_Sear_heaviest_133 : decode b_Sear_heaviest 133 = .ok (.aload_n 0, 1) := by decide +kernel
theorem d_Sear_heaviest_134 : decode b_Sear_heaviest 134 = .ok (.getfield 27, 3) := by decide +kernel
theorem d_Sear_heaviest_137 : decode b_Sear_heaviest 137 = .ok (.iload_n 3, 1) := by decide +kernel
theorem d_Sear_heaviest_138 : decode b_Sear_heaviest 138 = .ok (.iaload, 1) := by decide +kernel
theorem d_Sear_heaviest_139 : decode b_Sear_heaviest 139 = .ok (.istore_n 2, 1) := by decide +kernel
theorem d_Sear_heaviest_140 : decode b_Sear_heaviest 140 = .ok (.iconst 1, 1) := by decide +kernel
theorem d_Sear_heaviest_141 : decode b_Sear_heaviest 141 = .ok (.iload_n 3, 1) := by decide +kernel
theorem d_Sear_heaviest_142 : decode b_Sear_heaviest 142 = .ok (.ishl, 1) := by decide +kernel
theorem d_Sear_heaviest_143 : decode b_Sear_heaviest 143 = .ok (.istore_n 1, 1) := by decide +kernel
theorem d_Sear_heaviest_144 : decode b_Sear_heaviest 144 = .ok (.iinc 3 1, 3) := by decide +kernel
theorem d_Sear_heaviest_147 : decode b_Sear_heaviest 147 = .ok (.goto (-30), 3) := by decide +kernel
theorem d_Sear_heaviest_150 : decode b_Sear_heaviest 150 = .ok (.iload_n 1, 1) := by decide +kernel
theorem d_Sear_heaviest_151 : decode b_Sear_heaviest 151 = .ok (.ireturn, 1) := by decide +kernel
set_option maxHeartbeats 4000000 in
set_option maxRecDepth 100000 in
theorem x_Sear_heaviest_L117 {p : Program} {e : Env} {s : State} {m : MethodId} {args : Array Value} {below : List Frame} {meth : Method} {c : Code} {l : Launch} {dC : Nat → ClassId} {dI : Nat → Nat → Nat} {cA : ClassId} {ad : Nat → Nat} {w0 : va_W} (C0 : q_C p s m args meth c b_Sear_heaviest 4 (some .int) "PlanClauses$Search" dC dI cA) (hA : ∀ q, s.heap.size ≤ q → va_A w0 s.heap.size q) (fo : tForm) (fr : tRows) (se : tSear) (sk : tClash) (sw : (Nat → Int32)) (tr : tTrail) {Q : Int32 → (Nat → Int32) → Prop} {K150 : Int32 → Prop}
    (hK150 : ∀ (x1 : Int32) (H : Heap) (locs : List Loc) (ls : Array Slot), K150 x1 → lv_has ls 4 [(1, .int x1)] → q_H dC dI (va_A w0 s.heap.size) s.heap H locs ([c_FO ad cA fo, c_FR ad cA fr, c_SE ad cA se sk sw, c_TR ad cA tr].flatten) → W p l e (q_R 2 47) s m args below meth c H locs 0 0 (q_Zi below args s dC dI cA w0 (fun u : (Nat → Int32) => [c_FO ad cA fo, c_FR ad cA fr, c_SE ad cA se sk u, c_TR ad cA tr].flatten) (fun r u => Q r u)) (F0 m 150 ls [])) :
    ∀ (nn : Nat) (x1 : Int32) (x2 : Int32) (x3 : Int32) (H : Heap) (locs : List Loc) (ls : Array Slot), w_Sear_heaviest_L117 sw K150 nn x1 x2 x3 → lv_has ls 4 [(0, .ref (ad 13)), (1, .int x1), (2, .int x2), (3, .int x3)] → q_H dC dI (va_A w0 s.heap.size) s.heap H locs ([c_FO ad cA fo, c_FR ad cA fr, c_SE ad cA se sk sw, c_TR ad cA tr].flatten) → W p l e (q_R 2 47) s m args below meth c H locs 0 0 (q_Zi below args s dC dI cA w0 (fun u : (Nat → Int32) => [c_FO ad cA fo, c_FR ad cA fr, c_SE ad cA se sk u, c_TR ad cA tr].flatten) (fun r u => Q r u)) (F0 m 117 ls []) := by
  obtain ⟨hx, hb, -⟩ := id C0
  intro nn
  induction nn with
  | zero =>
    intro x1 x2 x3 H locs ls h
    exact (show False from h).elim
  | succ nn ih =>
    intro x1 x2 x3 H locs ls h hl hH
    rw [w_Sear_heaviest_L117] at h
    refine lv_iload_n hx hb d_Sear_heaviest_117 rfl (lv_at hl 3 rfl) ?_
    refine lv_bipush (v := 30) hx hb d_Sear_heaviest_118 (by decide) ?_
    refine lv_icmp_ge (tgt := 150) hx hb d_Sear_heaviest_120 (by decide) (fun c => ?_) (fun c => ?_)
    · have h := h.1 c
      exact hK150 x1 _ _ _ h (lv_sub hl [1] rfl) hH
    · have h := h.2 c
      refine lv_aload_n hx hb d_Sear_heaviest_123 rfl (lv_at hl 0 rfl) ?_
      refine q_get (v := .ref (ad 14)) C0 hH 7 rfl hc_4 3 (by decide) k_133 rfl d_Sear_heaviest_124 ?_
      refine lv_iload_n hx hb d_Sear_heaviest_127 rfl (lv_at hl 3 rfl) ?_
      obtain ⟨hi, h⟩ := h
      refine q_ald (f := sw) C0 hH 8 rfl hi d_Sear_heaviest_128 ?_
      refine lv_iload_n hx hb d_Sear_heaviest_129 rfl (lv_at hl 2 rfl) ?_
      refine lv_icmp_le (tgt := 144) hx hb d_Sear_heaviest_130 (by decide) (fun c => ?_) (fun c => ?_)
      · have h := h.1 c
        refine lv_iinc (v := (x3 + 1)) (lv' := [(3, .int (x3 + 1)), (0, .ref (ad 13)), (1, .int x1), (2, .int x2)]) hx hb d_Sear_heaviest_144 hl (k := 3) rfl rfl (by decide) rfl (fun ls hl => ?_)
        refine lv_goto (tgt := 117) hx hb d_Sear_heaviest_147 (by decide) ?_
        exact ih x1 x2 (x3 + 1) _ _ _ h (lv_sub hl [1, 2, 3, 0] rfl) hH
      · have h := h.2 c
        refine lv_aload_n hx hb d_Sear_heaviest_133 rfl (lv_at hl 0 rfl) ?_
        refine q_get (v := .ref (ad 14)) C0 hH 7 rfl hc_4 3 (by decide) k_133 rfl d_Sear_heaviest_134 ?_
        refine lv_iload_n hx hb d_Sear_heaviest_137 rfl (lv_at hl 3 rfl) ?_
        obtain ⟨hi, h⟩ := h
        refine q_ald (f := sw) C0 hH 8 rfl hi d_Sear_heaviest_138 ?_
        refine lv_istore_n (lv' := [(2, .int (sw x3.toNatClampNeg)), (0, .ref (ad 13)), (1, .int x1), (3, .int x3)]) hx hb d_Sear_heaviest_139 rfl hl (by decide) rfl (fun ls hl => ?_)
        refine lv_iconst (v := 1) hx hb d_Sear_heaviest_140 (by decide) ?_
        refine lv_iload_n hx hb d_Sear_heaviest_141 rfl (lv_at hl 3 rfl) ?_
        refine lv_ishl hx hb d_Sear_heaviest_142 ?_
        refine lv_istore_n (lv' := [(1, .int ((1 : Int32) <<< (x3 &&& 31))), (2, .int (sw x3.toNatClampNeg)), (0, .ref (ad 13)), (3, .int x3)]) hx hb d_Sear_heaviest_143 rfl hl (by decide) rfl (fun ls hl => ?_)
        refine lv_iinc (v := (x3 + 1)) (lv' := [(3, .int (x3 + 1)), (1, .int ((1 : Int32) <<< (x3 &&& 31))), (2, .int (sw x3.toNatClampNeg)), (0, .ref (ad 13))]) hx hb d_Sear_heaviest_144 hl (k := 3) rfl rfl (by decide) rfl (fun ls hl => ?_)
        refine lv_goto (tgt := 117) hx hb d_Sear_heaviest_147 (by decide) ?_
        exact ih ((1 : Int32) <<< (x3 &&& 31)) (sw x3.toNatClampNeg) (x3 + 1) _ _ _ h (lv_sub hl [3, 1, 2, 0] rfl) hH
set_option maxHeartbeats 4000000 in
set_option maxRecDepth 100000 in
theorem x_Sear_heaviest_L23 {p : Program} {e : Env} {s : State} {m : MethodId} {args : Array Value} {below : List Frame} {meth : Method} {c : Code} {l : Launch} {dC : Nat → ClassId} {dI : Nat → Nat → Nat} {cA : ClassId} {ad : Nat → Nat} {w0 : va_W} (C0 : q_C p s m args meth c b_Sear_heaviest 4 (some .int) "PlanClauses$Search" dC dI cA) (hA : ∀ q, s.heap.size ≤ q → va_A w0 s.heap.size q) (fo : tForm) (fr : tRows) (se : tSear) (sk : tClash) (tr : tTrail) {Q : Int32 → (Nat → Int32) → Prop} {K111 : (Nat → Int32) → Prop}
    (hK111 : ∀ (sw : (Nat → Int32)) (H : Heap) (locs : List Loc) (ls : Array Slot), K111 sw → lv_has ls 4 [(0, .ref (ad 13))] → q_H dC dI (va_A w0 s.heap.size) s.heap H locs ([c_FO ad cA fo, c_FR ad cA fr, c_SE ad cA se sk sw, c_TR ad cA tr].flatten) → W p l e (q_R 2 47) s m args below meth c H locs 0 0 (q_Zi below args s dC dI cA w0 (fun u : (Nat → Int32) => [c_FO ad cA fo, c_FR ad cA fr, c_SE ad cA se sk u, c_TR ad cA tr].flatten) (fun r u => Q r u)) (F0 m 111 ls [])) :
    ∀ (nn : Nat) (x1 : Int32) (sw : (Nat → Int32)) (H : Heap) (locs : List Loc) (ls : Array Slot), w_Sear_heaviest_L23 fo fr se tr K111 nn x1 sw → lv_has ls 4 [(0, .ref (ad 13)), (1, .int x1)] → q_H dC dI (va_A w0 s.heap.size) s.heap H locs ([c_FO ad cA fo, c_FR ad cA fr, c_SE ad cA se sk sw, c_TR ad cA tr].flatten) → W p l e (q_R 2 47) s m args below meth c H locs 0 0 (q_Zi below args s dC dI cA w0 (fun u : (Nat → Int32) => [c_FO ad cA fo, c_FR ad cA fr, c_SE ad cA se sk u, c_TR ad cA tr].flatten) (fun r u => Q r u)) (F0 m 23 ls []) := by
  obtain ⟨hx, hb, -⟩ := id C0
  intro nn
  induction nn with
  | zero =>
    intro x1 sw H locs ls h
    exact (show False from h).elim
  | succ nn ih =>
    intro x1 sw H locs ls h hl hH
    rw [w_Sear_heaviest_L23] at h
    refine lv_iload_n hx hb d_Sear_heaviest_23 rfl (lv_at hl 1 rfl) ?_
    refine lv_aload_n hx hb d_Sear_heaviest_24 rfl (lv_at hl 0 rfl) ?_
    refine q_get (v := .int se.clauses) C0 hH 7 rfl hc_4 4 (by decide) k_134 rfl d_Sear_heaviest_25 ?_
    refine lv_icmp_ge (tgt := 111) hx hb d_Sear_heaviest_28 (by decide) (fun c => ?_) (fun c => ?_)
    · have h := h.1 c
      exact hK111 sw _ _ _ h (lv_sub hl [0] rfl) hH
    · have h := h.2 c
      refine lv_aload_n hx hb d_Sear_heaviest_31 rfl (lv_at hl 0 rfl) ?_
      refine q_get (v := .ref (ad 1)) C0 hH 7 rfl hc_4 0 (by decide) k_130 rfl d_Sear_heaviest_32 ?_
      refine q_get (v := .ref (ad 5)) C0 hH 0 rfl hc_1 5 (by decide) k_61 rfl d_Sear_heaviest_35 ?_
      refine q_get (v := .ref (ad 6)) C0 hH 4 rfl hc_2 0 (by decide) k_33 rfl d_Sear_heaviest_38 ?_
      refine lv_iload_n hx hb d_Sear_heaviest_41 rfl (lv_at hl 1 rfl) ?_
      obtain ⟨hi, h⟩ := h
      refine q_ald (f := fr.wantTrue) C0 hH 5 rfl hi d_Sear_heaviest_42 ?_
      refine lv_istore_n (lv' := [(2, .int (fr.wantTrue x1.toNatClampNeg)), (0, .ref (ad 13)), (1, .int x1)]) hx hb d_Sear_heaviest_43 rfl hl (by decide) rfl (fun ls hl => ?_)
      refine lv_aload_n hx hb d_Sear_heaviest_44 rfl (lv_at hl 1 rfl) ?_
      refine q_get (v := .ref (ad 1)) C0 hH 7 rfl hc_4 0 (by decide) k_130 rfl d_Sear_heaviest_45 ?_
      refine q_get (v := .ref (ad 5)) C0 hH 0 rfl hc_1 5 (by decide) k_61 rfl d_Sear_heaviest_48 ?_
      refine q_get (v := .ref (ad 7)) C0 hH 4 rfl hc_2 1 (by decide) k_35 rfl d_Sear_heaviest_51 ?_
      refine lv_iload_n hx hb d_Sear_heaviest_54 rfl (lv_at hl 2 rfl) ?_
      obtain ⟨hi, h⟩ := h
      refine q_ald (f := fr.wantFalse) C0 hH 6 rfl hi d_Sear_heaviest_55 ?_
      refine lv_istore_n (lv' := [(3, .int (fr.wantFalse x1.toNatClampNeg)), (2, .int (fr.wantTrue x1.toNatClampNeg)), (0, .ref (ad 13)), (1, .int x1)]) hx hb d_Sear_heaviest_56 rfl hl (by decide) rfl (fun ls hl => ?_)
      refine lv_iload_n hx hb d_Sear_heaviest_57 rfl (lv_at hl 1 rfl) ?_
      refine lv_aload_n hx hb d_Sear_heaviest_58 rfl (lv_at hl 2 rfl) ?_
      refine q_get (v := .ref (ad 15)) C0 hH 7 rfl hc_4 2 (by decide) k_132 rfl d_Sear_heaviest_59 ?_
      refine q_get (v := .int tr.trues) C0 hH 9 rfl hc_5 0 (by decide) k_98 rfl d_Sear_heaviest_62 ?_
      refine lv_iand hx hb d_Sear_heaviest_65 ?_
      refine lv_iload_n hx hb d_Sear_heaviest_66 rfl (lv_at hl 0 rfl) ?_
      refine lv_aload_n hx hb d_Sear_heaviest_67 rfl (lv_at hl 2 rfl) ?_
      refine q_get (v := .ref (ad 15)) C0 hH 7 rfl hc_4 2 (by decide) k_132 rfl d_Sear_heaviest_68 ?_
      refine q_get (v := .int tr.falses) C0 hH 9 rfl hc_5 1 (by decide) k_100 rfl d_Sear_heaviest_71 ?_
      refine lv_iand hx hb d_Sear_heaviest_74 ?_
      refine lv_ior hx hb d_Sear_heaviest_75 ?_
      refine lv_if_ne (tgt := 105) hx hb d_Sear_heaviest_76 (by decide) (fun c => ?_) (fun c => ?_)
      · have h := h.1 c
        refine lv_iinc (v := (x1 + 1)) (lv' := [(1, .int (x1 + 1)), (3, .int (fr.wantFalse x1.toNatClampNeg)), (2, .int (fr.wantTrue x1.toNatClampNeg)), (0, .ref (ad 13))]) hx hb d_Sear_heaviest_105 hl (k := 3) rfl rfl (by decide) rfl (fun ls hl => ?_)
        refine lv_goto (tgt := 23) hx hb d_Sear_heaviest_108 (by decide) ?_
        exact ih (x1 + 1) sw _ _ _ h (lv_sub hl [3, 0] rfl) hH
      · have h := h.2 c
        refine lv_aload_n hx hb d_Sear_heaviest_79 rfl (lv_at hl 2 rfl) ?_
        refine lv_iload_n hx hb d_Sear_heaviest_80 rfl (lv_at hl 3 rfl) ?_
        refine lv_iload_n hx hb d_Sear_heaviest_81 rfl (lv_at hl 1 rfl) ?_
        refine lv_iload_n hx hb d_Sear_heaviest_82 rfl (lv_at hl 0 rfl) ?_
        refine lv_ior hx hb d_Sear_heaviest_83 ?_
        refine lv_aload_n hx hb d_Sear_heaviest_84 rfl (lv_at hl 2 rfl) ?_
        refine q_get (v := .ref (ad 15)) C0 hH 7 rfl hc_4 2 (by decide) k_132 rfl d_Sear_heaviest_85 ?_
        refine q_get (v := .int tr.trues) C0 hH 9 rfl hc_5 0 (by decide) k_98 rfl d_Sear_heaviest_88 ?_
        refine lv_aload_n hx hb d_Sear_heaviest_91 rfl (lv_at hl 2 rfl) ?_
        refine q_get (v := .ref (ad 15)) C0 hH 7 rfl hc_4 2 (by decide) k_132 rfl d_Sear_heaviest_92 ?_
        refine q_get (v := .int tr.falses) C0 hH 9 rfl hc_5 1 (by decide) k_100 rfl d_Sear_heaviest_95 ?_
        refine lv_ior hx hb d_Sear_heaviest_98 ?_
        refine lv_iconst (v := (-1)) hx hb d_Sear_heaviest_99 (by decide) ?_
        refine lv_ixor hx hb d_Sear_heaviest_100 ?_
        refine lv_iand hx hb d_Sear_heaviest_101 ?_
        refine q_callv (rest := []) (ws' := fun u : (Nat → Int32) => [c_FO ad cA fo, c_FR ad cA fr, c_SE ad cA se sk u, c_TR ad cA tr].flatten) C0 hH hA (c_Sear_weigh l dC dI cA ad x1 (((fr.wantTrue x1.toNatClampNeg) ||| (fr.wantFalse x1.toNatClampNeg)) &&& ((tr.trues ||| tr.falses) ^^^ (-1))) fo fr se sk sw _ _ h) Y_Sear_weigh k_401 7 rfl hc_4 (q_pg [0, 1, 2] [3] [1, 2, 3, 0] 4 3 rfl (by decide) rfl (fun _ => rfl) rfl (by decide) (fun _ => rfl)) ⟨Nat.le_of_ble_eq_true rfl, Nat.le_of_ble_eq_true rfl⟩ rfl rfl (Nat.le_of_ble_eq_true rfl) hl.1 d_Sear_heaviest_102 ⟨Nat.le_refl 0, Nat.le_refl 0⟩ (fun u_1 H locs h hH => ?_)
        obtain ⟨sw_1, rfl⟩ : ∃ z, z = u_1 := ⟨_, rfl⟩
        try dsimp only at h
        have hH : q_H dC dI (va_A w0 s.heap.size) s.heap H locs ([c_FO ad cA fo, c_FR ad cA fr, c_SE ad cA se sk sw_1, c_TR ad cA tr].flatten) := hH
        refine lv_iinc (v := (x1 + 1)) (lv' := [(1, .int (x1 + 1)), (3, .int (fr.wantFalse x1.toNatClampNeg)), (2, .int (fr.wantTrue x1.toNatClampNeg)), (0, .ref (ad 13))]) hx hb d_Sear_heaviest_105 hl (k := 3) rfl rfl (by decide) rfl (fun ls hl => ?_)
        refine lv_goto (tgt := 23) hx hb d_Sear_heaviest_108 (by decide) ?_
        exact ih (x1 + 1) sw_1 _ _ _ h (lv_sub hl [3, 0] rfl) hH
set_option maxHeartbeats 4000000 in
set_option maxRecDepth 100000 in
theorem x_Sear_heaviest_L2 {p : Program} {e : Env} {s : State} {m : MethodId} {args : Array Value} {below : List Frame} {meth : Method} {c : Code} {l : Launch} {dC : Nat → ClassId} {dI : Nat → Nat → Nat} {cA : ClassId} {ad : Nat → Nat} {w0 : va_W} (C0 : q_C p s m args meth c b_Sear_heaviest 4 (some .int) "PlanClauses$Search" dC dI cA) (hA : ∀ q, s.heap.size ≤ q → va_A w0 s.heap.size q) (fo : tForm) (fr : tRows) (se : tSear) (sk : tClash) (tr : tTrail) {Q : Int32 → (Nat → Int32) → Prop} {K21 : (Nat → Int32) → Prop}
    (hK21 : ∀ (sw : (Nat → Int32)) (H : Heap) (locs : List Loc) (ls : Array Slot), K21 sw → lv_has ls 4 [(0, .ref (ad 13))] → q_H dC dI (va_A w0 s.heap.size) s.heap H locs ([c_FO ad cA fo, c_FR ad cA fr, c_SE ad cA se sk sw, c_TR ad cA tr].flatten) → W p l e (q_R 2 47) s m args below meth c H locs 0 0 (q_Zi below args s dC dI cA w0 (fun u : (Nat → Int32) => [c_FO ad cA fo, c_FR ad cA fr, c_SE ad cA se sk u, c_TR ad cA tr].flatten) (fun r u => Q r u)) (F0 m 21 ls [])) :
    ∀ (nn : Nat) (x1 : Int32) (sw : (Nat → Int32)) (H : Heap) (locs : List Loc) (ls : Array Slot), w_Sear_heaviest_L2 K21 nn x1 sw → lv_has ls 4 [(0, .ref (ad 13)), (1, .int x1)] → q_H dC dI (va_A w0 s.heap.size) s.heap H locs ([c_FO ad cA fo, c_FR ad cA fr, c_SE ad cA se sk sw, c_TR ad cA tr].flatten) → W p l e (q_R 2 47) s m args below meth c H locs 0 0 (q_Zi below args s dC dI cA w0 (fun u : (Nat → Int32) => [c_FO ad cA fo, c_FR ad cA fr, c_SE ad cA se sk u, c_TR ad cA tr].flatten) (fun r u => Q r u)) (F0 m 2 ls []) := by
  obtain ⟨hx, hb, -⟩ := id C0
  intro nn
  induction nn with
  | zero =>
    intro x1 sw H locs ls h
    exact (show False from h).elim
  | succ nn ih =>
    intro x1 sw H locs ls h hl hH
    rw [w_Sear_heaviest_L2] at h
    refine lv_iload_n hx hb d_Sear_heaviest_2 rfl (lv_at hl 1 rfl) ?_
    refine lv_bipush (v := 30) hx hb d_Sear_heaviest_3 (by decide) ?_
    refine lv_icmp_ge (tgt := 21) hx hb d_Sear_heaviest_5 (by decide) (fun c => ?_) (fun c => ?_)
    · have h := h.1 c
      exact hK21 sw _ _ _ h (lv_sub hl [0] rfl) hH
    · have h := h.2 c
      refine lv_aload_n hx hb d_Sear_heaviest_8 rfl (lv_at hl 0 rfl) ?_
      refine q_get (v := .ref (ad 14)) C0 hH 7 rfl hc_4 3 (by decide) k_133 rfl d_Sear_heaviest_9 ?_
      refine lv_iload_n hx hb d_Sear_heaviest_12 rfl (lv_at hl 1 rfl) ?_
      refine lv_iconst (v := 0) hx hb d_Sear_heaviest_13 (by decide) ?_
      obtain ⟨hi, h⟩ := h
      refine q_ast (ws' := [c_FO ad cA fo, c_FR ad cA fr, c_SE ad cA se sk (upd sw x1.toNatClampNeg 0), c_TR ad cA tr].flatten) (f := sw) C0 hH 8 rfl hi rfl d_Sear_heaviest_14 (fun H locs hH => ?_)
      refine lv_iinc (v := (x1 + 1)) (lv' := [(1, .int (x1 + 1)), (0, .ref (ad 13))]) hx hb d_Sear_heaviest_15 hl (k := 1) rfl rfl (by decide) rfl (fun ls hl => ?_)
      refine lv_goto (tgt := 2) hx hb d_Sear_heaviest_18 (by decide) ?_
      exact ih (x1 + 1) (upd sw x1.toNatClampNeg 0) _ _ _ h (lv_sub hl [1, 0] rfl) hH
set_option maxHeartbeats 4000000 in
set_option maxRecDepth 100000 in
theorem c_Sear_heaviest (l : Launch) (dC : Nat → ClassId) (dI : Nat → Nat → Nat) (cA : ClassId) (ad : Nat → Nat) (fo : tForm) (fr : tRows) (se : tSear) (sk : tClash) (sw : (Nat → Int32)) (tr : tTrail) (Q : Int32 → (Nat → Int32) → Prop) (sz : Nat) (h : w_Sear_heaviest fo fr se sw tr Q) :
    q_Mi l y_Sear_heaviest b_Sear_heaviest 4 (some .int) 2 47 [.ref (ad 13)] dC dI cA ([c_FO ad cA fo, c_FR ad cA fr, c_SE ad cA se sk sw, c_TR ad cA tr].flatten) (fun u : (Nat → Int32) => [c_FO ad cA fo, c_FR ad cA fr, c_SE ad cA se sk u, c_TR ad cA tr].flatten) sz (fun r u => Q r u) := by
  refine q_meti (plainFor_of_name (by decide +kernel)) (Nat.le_of_ble_eq_true rfl) (fun {p e s m below meth c ls} C0 hl hH => ?_)
  obtain ⟨hx, hb, -⟩ := id C0
  have hA : ∀ q, s.heap.size ≤ q → va_A ([c_FO ad cA fo, c_FR ad cA fr, c_SE ad cA se sk sw, c_TR ad cA tr].flatten) s.heap.size q := q_nA
  have hl : lv_has ls 4 [(0, .ref (ad 13))] := hl
  unfold w_Sear_heaviest at h
  refine lv_iconst (v := 0) hx hb d_Sear_heaviest_0 (by decide) ?_
  refine lv_istore_n (lv' := [(1, .int 0), (0, .ref (ad 13))]) hx hb d_Sear_heaviest_1 rfl hl (by decide) rfl (fun ls hl => ?_)
  obtain ⟨nn, h⟩ := h
  refine x_Sear_heaviest_L2 C0 hA fo fr se sk tr ?_ nn 0 sw _ _ _ h (lv_sub hl [1, 0] rfl) hH
  · intro sw_1 H locs ls h hl hH
    try dsimp only at h
    refine lv_iconst (v := 0) hx hb d_Sear_heaviest_21 (by decide) ?_
    refine lv_istore_n (lv' := [(1, .int 0), (0, .ref (ad 13))]) hx hb d_Sear_heaviest_22 rfl hl (by decide) rfl (fun ls hl => ?_)
    obtain ⟨nn, h⟩ := h
    refine x_Sear_heaviest_L23 C0 hA fo fr se sk tr ?_ nn 0 sw_1 _ _ _ h (lv_sub hl [1, 0] rfl) hH
    · intro sw_2 H locs ls h hl hH
      try dsimp only at h
      refine lv_iconst (v := 0) hx hb d_Sear_heaviest_111 (by decide) ?_
      refine lv_istore_n (lv' := [(1, .int 0), (0, .ref (ad 13))]) hx hb d_Sear_heaviest_112 rfl hl (by decide) rfl (fun ls hl => ?_)
      refine lv_iconst (v := 0) hx hb d_Sear_heaviest_113 (by decide) ?_
      refine lv_istore_n (lv' := [(2, .int 0), (1, .int 0), (0, .ref (ad 13))]) hx hb d_Sear_heaviest_114 rfl hl (by decide) rfl (fun ls hl => ?_)
      refine lv_iconst (v := 0) hx hb d_Sear_heaviest_115 (by decide) ?_
      refine lv_istore_n (lv' := [(3, .int 0), (2, .int 0), (1, .int 0), (0, .ref (ad 13))]) hx hb d_Sear_heaviest_116 rfl hl (by decide) rfl (fun ls hl => ?_)
      obtain ⟨nn, h⟩ := h
      refine x_Sear_heaviest_L117 C0 hA fo fr se sk sw_2 tr ?_ nn 0 0 0 _ _ _ h (lv_sub hl [3, 2, 1, 0] rfl) hH
      · intro x1_3 H locs ls h hl hH
        try dsimp only at h
        refine lv_iload_n hx hb d_Sear_heaviest_150 rfl (lv_at hl 0 rfl) ?_
        exact q_reti C0 hH sw_2 rfl h d_Sear_heaviest_151
theorem d_Sear_find_0 : decode b_Sear_find 0 = .ok (.iload_n 1, 1) := by decide +kernel
theorem d_Sear_find_1 : decode b_Sear_find 1 = .ok (.iload_n 2, 1) := by decide +kernel
theorem d_Sear_find_2 : decode b_Sear_find 2 = .ok (.ior, 1) := by decide +kernel
theorem d_Sear_find_3 : decode b_Sear_find 3 = .ok (.istore_n 3, 1) := by decide +kernel
theorem d_Sear_find_4 : decode b_Sear_find 4 = .ok (.iload_n 3, 1) := by decide +kernel
theorem d_Sear_find_5 : decode b_Sear_find 5 = .ok (.ifCond .ne 7, 3) := by decide +kernel
theorem d_Sear_find_8 : decode b_Sear_find 8 = .ok (.iconst 0, 1) := by decide +kernel
theorem d_Sear_find_9 : decode b_Sear_find 9 = .ok (.goto 4, 3) := by decide +kernel
theorem d_Sear_find_12 : decode b_Sear_find 12 = .ok (.iconst 1, 1) := by decide +kernel
theorem d_Sear_find_13 : decode b_Sear_find 13 = .ok (.istore 4, 2) := by decide +kernel
theorem d_Sear_find_15 : decode b_Sear_find 15 = .ok (.aload_n 0, 1) := by decide +kernel
theorem d_Sear_find_16 : decode b_Sear_find 16 = .ok (.getfield 23, 3) := by decide +kernel
theorem d_Sear_find_19 : decode b_Sear_find 19 = .ok (.iconst 0, 1) := by decide +kernel
theorem d_Sear_find_20 : decode b_Sear_find 20 = .ok (.invokevirtual 64, 3) := by decide +kernel
theorem d_Sear_find_23 : decode b_Sear_find 23 = .ok (.lconst 0, 1) := by decide +kernel
theorem d_Sear_find_24 : decode b_Sear_find 24 = .ok (.lstore 5, 2) := by decide +kernel
theorem d_Sear_find_26 : decode b_Sear_find 26 = .ok (.lload 5, 2) := by decide +kernel
theorem d_Sear_find_28 : decode b_Sear_find 28 = .ok (.ldc2_w 67, 3) := by decide +kernel
theorem d_Sear_find_31 : decode b_Sear_find 31 = .ok (.lcmp, 1) := by decide +kernel
theorem d_Sear_find_32 : decode b_Sear_find 32 = .ok (.ifCond .ge 145, 3) := by decide +kernel
theorem d_Sear_find_35 : decode b_Sear_find 35 = .ok (.aload_n 0, 1) := by decide +kernel
theorem d_Sear_find_36 : decode b_Sear_find 36 = .ok (.getfield 60, 3) := by decide +kernel
theorem d_Sear_find_39 : decode b_Sear_find 39 = .ok (.ifCond .ne 138, 3) := by decide +kernel
theorem d_Sear_find_42 : decode b_Sear_find 42 = .ok (.aload_n 0, 1) := by decide +kernel
theorem d_Sear_find_43 : decode b_Sear_find 43 = .ok (.invokevirtual 69, 3) := by decide +kernel
theorem d_Sear_find_46 : decode b_Sear_find 46 = .ok (.ifCond .ne 43, 3) := by decide +kernel
theorem d_Sear_find_49 : decode b_Sear_find 49 = .ok (.aload_n 0, 1) := by decide +kernel
theorem d_Sear_find_50 : decode b_Sear_find 50 = .ok (.getfield 23, 3) := by decide +kernel
theorem d_Sear_find_53 : decode b_Sear_find 53 = .ok (.getfield 73, 3) := by decide +kernel
theorem d_Sear_find_56 : decode b_Sear_find 56 = .ok (.iload 4, 2) := by decide +kernel
theorem d_Sear_find_58 : decode b_Sear_find 58 = .ok (.if_icmp .gt 24, 3) := by decide +kernel
theorem d_Sear_find_61 : decode b_Sear_find 61 = .ok (.aload_n 0, 1) := by decide +kernel
theorem d_Sear_find_62 : decode b_Sear_find 62 = .ok (.aload_n 0, 1) := by decide +kernel
theorem d_Sear_find_63 : decode b_Sear_find 63 = .ok (.getfield 23, 3) := by decide +kernel
theorem d_Sear_find_66 : decode b_Sear_find 66 = .ok (.getfield 73, 3) := by decide +kernel
theorem d_Sear_find_69 : decode b_Sear_find 69 = .ok (.ifCond .ne 7, 3) := by decide +kernel
theorem d_Sear_find_72 : decode b_Sear_find 72 = .ok (.iconst 1, 1) := by decide +kernel
theorem d_Sear_find_73 : decode b_Sear_find 73 = .ok (.goto 4, 3) := by decide +kernel
theorem d_Sear_find_76 : decode b_Sear_find 76 = .ok (.iconst 0, 1) := by decide +kernel
theorem d_Sear_find_77 : decode b_Sear_find 77 = .ok (.putfield 60, 3) := by decide +kernel
theorem d_Sear_find_80 : decode b_Sear_find 80 = .ok (.iconst (-1), 1) := by decide +kernel
theorem d_Sear_find_81 : decode b_Sear_find 81 = .ok (.ireturn, 1) := by decide +kernel
theorem d_Sear_find_82 : decode b_Sear_find 82 = .ok (.aload_n 0, 1) := by decide +kernel
theorem d_Sear_find_83 : decode b_Sear_find 83 = .ok (.invokevirtual 76, 3) := by decide +kernel
theorem d_Sear_find_86 : decode b_Sear_find 86 = .ok (.goto 82, 3) := by decide +kernel
theorem d_Sear_find_89 : decode b_Sear_find 89 = .ok (.iload_n 1, 1) := by decide +kernel
theorem d_Sear_find_90 : decode b_Sear_find 90 = .ok (.aload_n 0, 1) := by decide +kernel
theorem d_Sear_find_91 : decode b_Sear_find 91 = .ok (.getfield 23, 3) := by decide +kernel
theorem d_Sear_find_94 : decode b_Sear_find 94 = .ok (.getfield 79, 3) := by decide +kernel
theorem d_Sear_find_97 : decode b_Sear_find 97 = .ok (.iand, 1) := by decide +kernel
theorem d_Sear_find_98 : decode b_Sear_find 98 = .ok (.ifCond .ne 15, 3) := by decide +kernel
theorem d_Sear_find_101 : decode b_Sear_find 101 = .ok (.iload_n 2, 1) := by decide +kernel
theorem d_Sear_find_102 : decode b_Sear_find 102 = .ok (.aload_n 0, 1) := by decide +kernel
theorem d_Sear_find_103 : decode b_Sear_find 103 = .ok (.getfield 23, 3) := by decide +kernel
theorem d_Sear_find_106 : decode b_Sear_find 106 = .ok (.getfield 82, 3) := by decide +kernel
theorem d_Sear_find_109 : decode b_Sear_find 109 = .ok (.iand, 1) := by decide +kernel
theorem d_Sear_find_110 : decode b_Sear_find 110 = .ok (.ifCond .eq 5, 3) := by decide +kernel
theorem d_Sear_find_113 : decode b_Sear_find 113 = .ok (.iconst (-1), 1) := by decide +kernel
theorem d_Sear_find_114 : decode b_Sear_find 114 = .ok (.ireturn, 1) := by decide +kernel
theorem d_Sear_find_115 : decode b_Sear_find 115 = .ok (.aload_n 0, 1) := by decide +kernel
theorem d_Sear_find_116 : decode b_Sear_find 116 = .ok (.getfield 23, 3) := by decide +kernel
theorem d_Sear_find_119 : decode b_Sear_find 119 = .ok (.getfield 73, 3) := by decide +kernel
theorem d_Sear_find_122 : decode b_Sear_find 122 = .ok (.iload 4, 2) := by decide +kernel
theorem d_Sear_find_124 : decode b_Sear_find 124 = .ok (.if_icmp .ge 15, 3) := by decide +kernel
theorem d_Sear_find_127 : decode b_Sear_find 127 = .ok (.aload_n 0, 1) := by decide +kernel
theorem d_Sear_find_128 : decode b_Sear_find 128 = .ok (.getfield 23, 3) := by decide +kernel
theorem d_Sear_find_131 : decode b_Sear_find 131 = .ok (.iload_n 1, 1) := by decide +kernel
theorem d_Sear_find_132 : decode b_Sear_find 132 = .ok (.iload_n 2, 1) := by decide +kernel
theorem d_Sear_find_133 : decode b_Sear_find 133 = .ok (.invokevirtual 85, 3) := by decide +kernel
theorem d_Sear_find_136 : decode b_Sear_find 136 = .ok (.goto 32, 3) := by decide +kernel
theorem d_Sear_find_139 : decode b_Sear_find 139 = .ok (.aload_n 0, 1) := by decide +kernel
theorem d_Sear_find_140 : decode b_Sear_find 140 = .ok (.invokevirtual 89, 3) := by decide +kernel
theorem d_Sear_find_143 : decode b_Sear_find 143 = .ok (.istore 7, 2) := by decide +kernel
theorem d_Sear_find_145 : decode b_Sear_find 145 = .ok (.iload 7, 2) := by decide +kernel
theorem d_Sear_find_147 : decode b_Sear_find 147 = .ok (.ifCond .ne 11, 3) := by decide +kernel
theorem d_Sear_find_150 : decode b_Sear_find 150 = .ok (.aload_n 0, 1) := by decide +kernel
theorem d_Sear_find_151 : decode b_Sear_find 151 = .ok (.getfield 23, 3) := by decide +kernel
theorem d_Sear_find_154 : decode b_Sear_find 154 = .ok (.getfield 82, 3) := by decide +kernel
theorem d_Sear_find_157 : decode b_Sear_find 157 = .ok (.ireturn, 1) := by decide +kernel
theorem d_Sear_find_158 : decode b_Sear_find 158 = .ok (.aload_n 0, 1) := by decide +kernel
theorem d_Sear_find_159 : decode b_Sear_find 159 = .ok (.getfield 23, 3) := by decide +kernel
theorem d_Sear_find_162 : decode b_Sear_find 162 = .ok (.iconst 0, 1) := by decide +kernel
theorem d_Sear_find_163 : decode b_Sear_find 163 = .ok (.iload 7, 2) := by decide +kernel
theorem d_Sear_find_165 : decode b_Sear_find 165 = .ok (.invokevirtual 85, 3) := by decide +kernel
theorem d_Sear_find_168 : decode b_Sear_find 168 = .ok (.lload 5, 2) := by decide +kernel
theorem d_Sear_find_170 : decode b_Sear_find 170 = .ok (.lconst 1, 1) := by decide +kernel
theorem d_Sear_find_171 : decode b_Sear_find 171 = .ok (.ladd, 1) := by decide +kernel
theorem d_Sear_find_172 : decode b_Sear_find 172 = .ok (.lstore 5, 2) := by decide +kernel
theorem d_Sear_find_174 : decode b_Sear_find 174 = .ok (.goto (-148), 3) := by decide +kernel
theorem d_Sear_find_177 : decode b_Sear_find 177 = .ok (.iconst (-1), 1) := by decide +kernel
theorem d_Sear_find_178 : decode b_Sear_find 178 = .ok (.ireturn, 1) := by decide +kernel
set_option maxHeartbeats 4000000 in
set_option maxRecDepth 100000 in
theorem x_Sear_find_L26 {p : Program} {e : Env} {s : State} {m : MethodId} {args : Array Value} {below : List Frame} {meth : Method} {c : Code} {l : Launch} {dC : Nat → ClassId} {dI : Nat → Nat → Nat} {cA : ClassId} {ad : Nat → Nat} {w0 : va_W} (C0 : q_C p s m args meth c b_Sear_find 8 (some .int) "PlanClauses$Search" dC dI cA) (hA : ∀ q, s.heap.size ≤ q → va_A w0 s.heap.size q) (x1 : Int32) (x2 : Int32) (x4 : Int32) (fo : tForm) (fr : tRows) {Q : Int32 → tRows → tSear → tClash → (Nat → Int32) → tTrail → Prop} {K177 : tRows → tSear → tClash → (Nat → Int32) → tTrail → Prop}
    (hK177 : ∀ (lr : tRows) (se : tSear) (sk : tClash) (sw : (Nat → Int32)) (tr : tTrail) (H : Heap) (locs : List Loc) (ls : Array Slot), K177 lr se sk sw tr → lv_has ls 8 [] → q_H dC dI (va_A w0 s.heap.size) s.heap H locs ([c_FO ad cA fo, c_FR ad cA fr, c_LR ad cA lr, c_SE ad cA se sk sw, c_TR ad cA tr].flatten) → W p l e (q_R 4 92) s m args below meth c H locs 0 0 (q_Zi below args s dC dI cA w0 (fun u : tRows × tSear × tClash × (Nat → Int32) × tTrail => [c_FO ad cA fo, c_FR ad cA fr, c_LR ad cA u.1, c_SE ad cA u.2.1 u.2.2.1 u.2.2.2.1, c_TR ad cA u.2.2.2.2].flatten) (fun r u => Q r u.1 u.2.1 u.2.2.1 u.2.2.2.1 u.2.2.2.2)) (F0 m 177 ls [])) :
    ∀ (nn : Nat) (x5 : Int64) (lr : tRows) (se : tSear) (sk : tClash) (sw : (Nat → Int32)) (tr : tTrail) (H : Heap) (locs : List Loc) (ls : Array Slot), w_Sear_find_L26 x1 x2 x4 fo fr K177 Q nn x5 lr se sk sw tr → lv_has ls 8 [(0, .ref (ad 13)), (1, .int x1), (2, .int x2), (4, .int x4), (5, .long x5)] → q_H dC dI (va_A w0 s.heap.size) s.heap H locs ([c_FO ad cA fo, c_FR ad cA fr, c_LR ad cA lr, c_SE ad cA se sk sw, c_TR ad cA tr].flatten) → W p l e (q_R 4 92) s m args below meth c H locs 0 0 (q_Zi below args s dC dI cA w0 (fun u : tRows × tSear × tClash × (Nat → Int32) × tTrail => [c_FO ad cA fo, c_FR ad cA fr, c_LR ad cA u.1, c_SE ad cA u.2.1 u.2.2.1 u.2.2.2.1, c_TR ad cA u.2.2.2.2].flatten) (fun r u => Q r u.1 u.2.1 u.2.2.1 u.2.2.2.1 u.2.2.2.2)) (F0 m 26 ls []) := by
  obtain ⟨hx, hb, -⟩ := id C0
  intro nn
  induction nn with
  | zero =>
    intro x5 lr se sk sw tr H locs ls h
    exact (show False from h).elim
  | succ nn ih =>
    intro x5 lr se sk sw tr H locs ls h hl hH
    rw [w_Sear_find_L26] at h
    refine lv_lload hx hb d_Sear_find_26 (lv_at hl 4 rfl) ?_
    refine lv_ldc2 (v := 1099511627776) hx hb C0.2.2.2.1 (q_hts C0 k_366) d_Sear_find_28 ?_
    refine W.lcmp hx hb d_Sear_find_31 ?_
    refine lv_if_ge (tgt := 177) hx hb d_Sear_find_32 (by decide) (fun c => ?_) (fun c => ?_)
    · have h := h.1 c
      exact hK177 lr se sk sw tr _ _ _ h (lv_sub hl [] rfl) hH
    · have h := h.2 c
      refine lv_aload_n hx hb d_Sear_find_35 rfl (lv_at hl 0 rfl) ?_
      refine q_get (v := .int se.ended) C0 hH 10 rfl hc_4 7 (by decide) k_137 rfl d_Sear_find_36 ?_
      refine lv_if_ne (tgt := 177) hx hb d_Sear_find_39 (by decide) (fun c => ?_) (fun c => ?_)
      · have h := h.1 c
        exact hK177 lr se sk sw tr _ _ _ h (lv_sub hl [] rfl) hH
      · have h := h.2 c
        refine lv_aload_n hx hb d_Sear_find_42 rfl (lv_at hl 0 rfl) ?_
        refine q_calli (rest := []) (ws' := fun u : tClash × tTrail => [c_FO ad cA fo, c_FR ad cA fr, c_LR ad cA lr, c_SE ad cA se u.1 sw, c_TR ad cA u.2].flatten) C0 hH hA (c_Sear_propagate l dC dI cA ad fo fr lr se sk sw tr _ _ h) Y_Sear_propagate k_367 10 rfl hc_4 (q_pg [0, 1, 2, 3, 4] [] [0, 1, 2, 3, 4] 5 5 rfl (by decide) rfl (fun _ => rfl) rfl (by decide) (fun _ => rfl)) ⟨Nat.le_of_ble_eq_true rfl, Nat.le_of_ble_eq_true rfl⟩ rfl rfl (Nat.le_of_ble_eq_true rfl) hl.1 d_Sear_find_43 ⟨Nat.le_refl 0, Nat.le_refl 0⟩ (fun r_1 u_1 H locs h hH => ?_)
        obtain ⟨sk_1, tr_1⟩ := u_1
        try dsimp only at h
        have hH : q_H dC dI (va_A w0 s.heap.size) s.heap H locs ([c_FO ad cA fo, c_FR ad cA fr, c_LR ad cA lr, c_SE ad cA se sk_1 sw, c_TR ad cA tr_1].flatten) := hH
        refine lv_if_ne (tgt := 89) hx hb d_Sear_find_46 (by decide) (fun c => ?_) (fun c => ?_)
        · have h := h.1 c
          refine lv_iload_n hx hb d_Sear_find_89 rfl (lv_at hl 1 rfl) ?_
          refine lv_aload_n hx hb d_Sear_find_90 rfl (lv_at hl 0 rfl) ?_
          refine q_get (v := .ref (ad 15)) C0 hH 10 rfl hc_4 2 (by decide) k_132 rfl d_Sear_find_91 ?_
          refine q_get (v := .int tr_1.falses) C0 hH 12 rfl hc_5 1 (by decide) k_100 rfl d_Sear_find_94 ?_
          refine lv_iand hx hb d_Sear_find_97 ?_
          refine lv_if_ne (tgt := 113) hx hb d_Sear_find_98 (by decide) (fun c => ?_) (fun c => ?_)
          · have h := h.1 c
            refine lv_iconst (v := (-1)) hx hb d_Sear_find_113 (by decide) ?_
            exact q_reti C0 hH (lr, se, sk_1, sw, tr_1) rfl h d_Sear_find_114
          · have h := h.2 c
            refine lv_iload_n hx hb d_Sear_find_101 rfl (lv_at hl 2 rfl) ?_
            refine lv_aload_n hx hb d_Sear_find_102 rfl (lv_at hl 0 rfl) ?_
            refine q_get (v := .ref (ad 15)) C0 hH 10 rfl hc_4 2 (by decide) k_132 rfl d_Sear_find_103 ?_
            refine q_get (v := .int tr_1.trues) C0 hH 12 rfl hc_5 0 (by decide) k_98 rfl d_Sear_find_106 ?_
            refine lv_iand hx hb d_Sear_find_109 ?_
            refine lv_if_eq (tgt := 115) hx hb d_Sear_find_110 (by decide) (fun c => ?_) (fun c => ?_)
            · have h := h.1 c
              refine lv_aload_n hx hb d_Sear_find_115 rfl (lv_at hl 0 rfl) ?_
              refine q_get (v := .ref (ad 15)) C0 hH 10 rfl hc_4 2 (by decide) k_132 rfl d_Sear_find_116 ?_
              refine q_get (v := .int tr_1.level) C0 hH 12 rfl hc_5 3 (by decide) k_104 rfl d_Sear_find_119 ?_
              refine lv_iload hx hb d_Sear_find_122 (lv_at hl 3 rfl) ?_
              refine lv_icmp_ge (tgt := 139) hx hb d_Sear_find_124 (by decide) (fun c => ?_) (fun c => ?_)
              · have h := h.1 c
                refine lv_aload_n hx hb d_Sear_find_139 rfl (lv_at hl 0 rfl) ?_
                refine q_calli (rest := []) (ws' := fun u : (Nat → Int32) => [c_FO ad cA fo, c_FR ad cA fr, c_LR ad cA lr, c_SE ad cA se sk_1 u, c_TR ad cA tr_1].flatten) C0 hH hA (c_Sear_heaviest l dC dI cA ad fo fr se sk_1 sw tr_1 _ _ h) Y_Sear_heaviest k_397 10 rfl hc_4 (q_pg [0, 1, 3, 4] [2] [1, 2, 0, 3, 4] 5 4 rfl (by decide) rfl (fun _ => rfl) rfl (by decide) (fun _ => rfl)) ⟨Nat.le_of_ble_eq_true rfl, Nat.le_of_ble_eq_true rfl⟩ rfl rfl (Nat.le_of_ble_eq_true rfl) hl.1 d_Sear_find_140 ⟨Nat.le_refl 0, Nat.le_refl 0⟩ (fun r_2 u_2 H locs h hH => ?_)
                obtain ⟨sw_2, rfl⟩ : ∃ z, z = u_2 := ⟨_, rfl⟩
                try dsimp only at h
                have hH : q_H dC dI (va_A w0 s.heap.size) s.heap H locs ([c_FO ad cA fo, c_FR ad cA fr, c_LR ad cA lr, c_SE ad cA se sk_1 sw_2, c_TR ad cA tr_1].flatten) := hH
                refine lv_istore (lv' := [(7, .int r_2), (0, .ref (ad 13)), (1, .int x1), (2, .int x2), (4, .int x4), (5, .long x5)]) hx hb d_Sear_find_143 hl (by decide) rfl (fun ls hl => ?_)
                refine lv_iload hx hb d_Sear_find_145 (lv_at hl 0 rfl) ?_
                refine lv_if_ne (tgt := 158) hx hb d_Sear_find_147 (by decide) (fun c => ?_) (fun c => ?_)
                · have h := h.1 c
                  refine lv_aload_n hx hb d_Sear_find_158 rfl (lv_at hl 1 rfl) ?_
                  refine q_get (v := .ref (ad 15)) C0 hH 10 rfl hc_4 2 (by decide) k_132 rfl d_Sear_find_159 ?_
                  refine lv_iconst (v := 0) hx hb d_Sear_find_162 (by decide) ?_
                  refine lv_iload hx hb d_Sear_find_163 (lv_at hl 0 rfl) ?_
                  refine q_callv (rest := []) (ws' := fun u : tTrail => [c_FO ad cA fo, c_FR ad cA fr, c_LR ad cA lr, c_SE ad cA se sk_1 sw_2, c_TR ad cA u].flatten) C0 hH hA (c_Trail_suppose l dC dI cA ad 0 r_2 tr_1 _ _ h) Y_Trail_suppose k_393 12 rfl hc_5 (q_pg [4] [0, 1, 2, 3] [0, 1, 2, 3, 4] 5 1 rfl (by decide) rfl (fun _ => rfl) rfl (by decide) (fun _ => rfl)) ⟨Nat.le_of_ble_eq_true rfl, Nat.le_of_ble_eq_true rfl⟩ rfl rfl (Nat.le_of_ble_eq_true rfl) hl.1 d_Sear_find_165 ⟨Nat.le_refl 0, Nat.le_refl 0⟩ (fun u_3 H locs h hH => ?_)
                  obtain ⟨tr_3, rfl⟩ : ∃ z, z = u_3 := ⟨_, rfl⟩
                  try dsimp only at h
                  have hH : q_H dC dI (va_A w0 s.heap.size) s.heap H locs ([c_FO ad cA fo, c_FR ad cA fr, c_LR ad cA lr, c_SE ad cA se sk_1 sw_2, c_TR ad cA tr_3].flatten) := hH
                  refine lv_lload hx hb d_Sear_find_168 (lv_at hl 5 rfl) ?_
                  refine lv_lconst (v := 1) hx hb d_Sear_find_170 rfl ?_
                  refine lv_ladd hx hb d_Sear_find_171 ?_
                  refine lv_lstore (lv' := [(5, .long (x5 + 1)), (7, .int r_2), (0, .ref (ad 13)), (1, .int x1), (2, .int x2), (4, .int x4)]) hx hb d_Sear_find_172 hl (by decide) rfl (fun ls hl => ?_)
                  refine lv_goto (tgt := 26) hx hb d_Sear_find_174 (by decide) ?_
                  exact ih (x5 + 1) lr se sk_1 sw_2 tr_3 _ _ _ h (lv_sub hl [2, 3, 4, 5, 0] rfl) hH
                · have h := h.2 c
                  refine lv_aload_n hx hb d_Sear_find_150 rfl (lv_at hl 1 rfl) ?_
                  refine q_get (v := .ref (ad 15)) C0 hH 10 rfl hc_4 2 (by decide) k_132 rfl d_Sear_find_151 ?_
                  refine q_get (v := .int tr_1.trues) C0 hH 12 rfl hc_5 0 (by decide) k_98 rfl d_Sear_find_154 ?_
                  exact q_reti C0 hH (lr, se, sk_1, sw_2, tr_1) rfl h d_Sear_find_157
              · have h := h.2 c
                refine lv_aload_n hx hb d_Sear_find_127 rfl (lv_at hl 0 rfl) ?_
                refine q_get (v := .ref (ad 15)) C0 hH 10 rfl hc_4 2 (by decide) k_132 rfl d_Sear_find_128 ?_
                refine lv_iload_n hx hb d_Sear_find_131 rfl (lv_at hl 1 rfl) ?_
                refine lv_iload_n hx hb d_Sear_find_132 rfl (lv_at hl 2 rfl) ?_
                refine q_callv (rest := []) (ws' := fun u : tTrail => [c_FO ad cA fo, c_FR ad cA fr, c_LR ad cA lr, c_SE ad cA se sk_1 sw, c_TR ad cA u].flatten) C0 hH hA (c_Trail_suppose l dC dI cA ad x1 x2 tr_1 _ _ h) Y_Trail_suppose k_393 12 rfl hc_5 (q_pg [4] [0, 1, 2, 3] [0, 1, 2, 3, 4] 5 1 rfl (by decide) rfl (fun _ => rfl) rfl (by decide) (fun _ => rfl)) ⟨Nat.le_of_ble_eq_true rfl, Nat.le_of_ble_eq_true rfl⟩ rfl rfl (Nat.le_of_ble_eq_true rfl) hl.1 d_Sear_find_133 ⟨Nat.le_refl 0, Nat.le_refl 0⟩ (fun u_4 H locs h hH => ?_)
                obtain ⟨tr_4, rfl⟩ : ∃ z, z = u_4 := ⟨_, rfl⟩
                try dsimp only at h
                have hH : q_H dC dI (va_A w0 s.heap.size) s.heap H locs ([c_FO ad cA fo, c_FR ad cA fr, c_LR ad cA lr, c_SE ad cA se sk_1 sw, c_TR ad cA tr_4].flatten) := hH
                refine lv_goto (tgt := 168) hx hb d_Sear_find_136 (by decide) ?_
                refine lv_lload hx hb d_Sear_find_168 (lv_at hl 4 rfl) ?_
                refine lv_lconst (v := 1) hx hb d_Sear_find_170 rfl ?_
                refine lv_ladd hx hb d_Sear_find_171 ?_
                refine lv_lstore (lv' := [(5, .long (x5 + 1)), (0, .ref (ad 13)), (1, .int x1), (2, .int x2), (4, .int x4)]) hx hb d_Sear_find_172 hl (by decide) rfl (fun ls hl => ?_)
                refine lv_goto (tgt := 26) hx hb d_Sear_find_174 (by decide) ?_
                exact ih (x5 + 1) lr se sk_1 sw tr_4 _ _ _ h (lv_sub hl [1, 2, 3, 4, 0] rfl) hH
            · have h := h.2 c
              refine lv_iconst (v := (-1)) hx hb d_Sear_find_113 (by decide) ?_
              exact q_reti C0 hH (lr, se, sk_1, sw, tr_1) rfl h d_Sear_find_114
        · have h := h.2 c
          refine lv_aload_n hx hb d_Sear_find_49 rfl (lv_at hl 0 rfl) ?_
          refine q_get (v := .ref (ad 15)) C0 hH 10 rfl hc_4 2 (by decide) k_132 rfl d_Sear_find_50 ?_
          refine q_get (v := .int tr_1.level) C0 hH 12 rfl hc_5 3 (by decide) k_104 rfl d_Sear_find_53 ?_
          refine lv_iload hx hb d_Sear_find_56 (lv_at hl 3 rfl) ?_
          refine lv_icmp_gt (tgt := 82) hx hb d_Sear_find_58 (by decide) (fun c => ?_) (fun c => ?_)
          · have h := h.1 c
            refine lv_aload_n hx hb d_Sear_find_82 rfl (lv_at hl 0 rfl) ?_
            refine q_callv (rest := []) (ws' := fun u : tRows × tTrail => [c_FO ad cA fo, c_FR ad cA fr, c_LR ad cA u.1, c_SE ad cA se sk_1 sw, c_TR ad cA u.2].flatten) C0 hH hA (c_Sear_learn l dC dI cA ad lr se sk_1 sw tr_1 _ _ h) Y_Sear_learn k_382 10 rfl hc_4 (q_pg [2, 3, 4] [0, 1] [0, 1, 2, 3, 4] 5 3 rfl (by decide) rfl (fun _ => rfl) rfl (by decide) (fun _ => rfl)) ⟨Nat.le_of_ble_eq_true rfl, Nat.le_of_ble_eq_true rfl⟩ rfl rfl (Nat.le_of_ble_eq_true rfl) hl.1 d_Sear_find_83 ⟨Nat.le_refl 0, Nat.le_refl 0⟩ (fun u_5 H locs h hH => ?_)
            obtain ⟨lr_5, tr_5⟩ := u_5
            try dsimp only at h
            have hH : q_H dC dI (va_A w0 s.heap.size) s.heap H locs ([c_FO ad cA fo, c_FR ad cA fr, c_LR ad cA lr_5, c_SE ad cA se sk_1 sw, c_TR ad cA tr_5].flatten) := hH
            refine lv_goto (tgt := 168) hx hb d_Sear_find_86 (by decide) ?_
            refine lv_lload hx hb d_Sear_find_168 (lv_at hl 4 rfl) ?_
            refine lv_lconst (v := 1) hx hb d_Sear_find_170 rfl ?_
            refine lv_ladd hx hb d_Sear_find_171 ?_
            refine lv_lstore (lv' := [(5, .long (x5 + 1)), (0, .ref (ad 13)), (1, .int x1), (2, .int x2), (4, .int x4)]) hx hb d_Sear_find_172 hl (by decide) rfl (fun ls hl => ?_)
            refine lv_goto (tgt := 26) hx hb d_Sear_find_174 (by decide) ?_
            exact ih (x5 + 1) lr_5 se sk_1 sw tr_5 _ _ _ h (lv_sub hl [1, 2, 3, 4, 0] rfl) hH
          · have h := h.2 c
            refine lv_aload_n hx hb d_Sear_find_61 rfl (lv_at hl 0 rfl) ?_
            refine lv_aload_n hx hb d_Sear_find_62 rfl (lv_at hl 0 rfl) ?_
            refine q_get (v := .ref (ad 15)) C0 hH 10 rfl hc_4 2 (by decide) k_132 rfl d_Sear_find_63 ?_
            refine q_get (v := .int tr_1.level) C0 hH 12 rfl hc_5 3 (by decide) k_104 rfl d_Sear_find_66 ?_
            refine lv_if_ne (tgt := 76) hx hb d_Sear_find_69 (by decide) (fun c => ?_) (fun c => ?_)
            · have h := h.1 c
              refine lv_iconst (v := 0) hx hb d_Sear_find_76 (by decide) ?_
              refine q_putz (ws' := [c_FO ad cA fo, c_FR ad cA fr, c_LR ad cA lr, c_SE ad cA (tSear.mk se.clauses 0) sk_1 sw, c_TR ad cA tr_1].flatten) C0 hH 10 rfl hc_4 7 (by decide) k_137 rfl rfl (Or.inl rfl) (Nat.le_of_ble_eq_true rfl) rfl d_Sear_find_77 (fun H locs hH => ?_)
              refine lv_iconst (v := (-1)) hx hb d_Sear_find_80 (by decide) ?_
              exact q_reti C0 hH (lr, (tSear.mk se.clauses 0), sk_1, sw, tr_1) rfl h d_Sear_find_81
            · have h := h.2 c
              refine lv_iconst (v := 1) hx hb d_Sear_find_72 (by decide) ?_
              refine lv_goto (tgt := 77) hx hb d_Sear_find_73 (by decide) ?_
              refine q_putz (ws' := [c_FO ad cA fo, c_FR ad cA fr, c_LR ad cA lr, c_SE ad cA (tSear.mk se.clauses 1) sk_1 sw, c_TR ad cA tr_1].flatten) C0 hH 10 rfl hc_4 7 (by decide) k_137 rfl rfl (Or.inr rfl) (Nat.le_of_ble_eq_true rfl) rfl d_Sear_find_77 (fun H locs hH => ?_)
              refine lv_iconst (v := (-1)) hx hb d_Sear_find_80 (by decide) ?_
              exact q_reti C0 hH (lr, (tSear.mk se.clauses 1), sk_1, sw, tr_1) rfl h d_Sear_find_81
set_option maxHeartbeats 4000000 in
set_option maxRecDepth 100000 in
theorem c_Sear_find (l : Launch) (dC : Nat → ClassId) (dI : Nat → Nat → Nat) (cA : ClassId) (ad : Nat → Nat) (x1 : Int32) (x2 : Int32) (fo : tForm) (fr : tRows) (lr : tRows) (se : tSear) (sk : tClash) (sw : (Nat → Int32)) (tr : tTrail) (Q : Int32 → tRows → tSear → tClash → (Nat → Int32) → tTrail → Prop) (sz : Nat) (h : w_Sear_find x1 x2 fo fr lr se sk sw tr Q) :
    q_Mi l y_Sear_find b_Sear_find 8 (some .int) 4 92 [.ref (ad 13), .int x1, .int x2] dC dI cA ([c_FO ad cA fo, c_FR ad cA fr, c_LR ad cA lr, c_SE ad cA se sk sw, c_TR ad cA tr].flatten) (fun u : tRows × tSear × tClash × (Nat → Int32) × tTrail => [c_FO ad cA fo, c_FR ad cA fr, c_LR ad cA u.1, c_SE ad cA u.2.1 u.2.2.1 u.2.2.2.1, c_TR ad cA u.2.2.2.2].flatten) sz (fun r u => Q r u.1 u.2.1 u.2.2.1 u.2.2.2.1 u.2.2.2.2) := by
  refine q_meti (plainFor_of_name (by decide +kernel)) (Nat.le_of_ble_eq_true rfl) (fun {p e s m below meth c ls} C0 hl hH => ?_)
  obtain ⟨hx, hb, -⟩ := id C0
  have hA : ∀ q, s.heap.size ≤ q → va_A ([c_FO ad cA fo, c_FR ad cA fr, c_LR ad cA lr, c_SE ad cA se sk sw, c_TR ad cA tr].flatten) s.heap.size q := q_nA
  have hl : lv_has ls 8 [(0, .ref (ad 13)), (1, .int x1), (2, .int x2)] := hl
  unfold w_Sear_find at h
  refine lv_iload_n hx hb d_Sear_find_0 rfl (lv_at hl 1 rfl) ?_
  refine lv_iload_n hx hb d_Sear_find_1 rfl (lv_at hl 2 rfl) ?_
  refine lv_ior hx hb d_Sear_find_2 ?_
  refine lv_istore_n (lv' := [(3, .int (x1 ||| x2)), (0, .ref (ad 13)), (1, .int x1), (2, .int x2)]) hx hb d_Sear_find_3 rfl hl (by decide) rfl (fun ls hl => ?_)
  refine lv_iload_n hx hb d_Sear_find_4 rfl (lv_at hl 0 rfl) ?_
  refine lv_if_ne (tgt := 12) hx hb d_Sear_find_5 (by decide) (fun c => ?_) (fun c => ?_)
  · have h := h.1 c
    refine lv_iconst (v := 1) hx hb d_Sear_find_12 (by decide) ?_
    refine lv_istore (lv' := [(4, .int 1), (3, .int (x1 ||| x2)), (0, .ref (ad 13)), (1, .int x1), (2, .int x2)]) hx hb d_Sear_find_13 hl (by decide) rfl (fun ls hl => ?_)
    refine lv_aload_n hx hb d_Sear_find_15 rfl (lv_at hl 2 rfl) ?_
    refine q_get (v := .ref (ad 15)) C0 hH 10 rfl hc_4 2 (by decide) k_132 rfl d_Sear_find_16 ?_
    refine lv_iconst (v := 0) hx hb d_Sear_find_19 (by decide) ?_
    refine q_callv (rest := []) (ws' := fun u : tTrail => [c_FO ad cA fo, c_FR ad cA fr, c_LR ad cA lr, c_SE ad cA se sk sw, c_TR ad cA u].flatten) C0 hH hA (c_Trail_back l dC dI cA ad 0 tr _ _ h) Y_Trail_back k_356 12 rfl hc_5 (q_pg [4] [0, 1, 2, 3] [0, 1, 2, 3, 4] 5 1 rfl (by decide) rfl (fun _ => rfl) rfl (by decide) (fun _ => rfl)) ⟨Nat.le_of_ble_eq_true rfl, Nat.le_of_ble_eq_true rfl⟩ rfl rfl (Nat.le_of_ble_eq_true rfl) hl.1 d_Sear_find_20 ⟨Nat.le_refl 0, Nat.le_refl 0⟩ (fun u_1 H locs h hH => ?_)
    obtain ⟨tr_1, rfl⟩ : ∃ z, z = u_1 := ⟨_, rfl⟩
    try dsimp only at h
    have hH : q_H dC dI (va_A ([c_FO ad cA fo, c_FR ad cA fr, c_LR ad cA lr, c_SE ad cA se sk sw, c_TR ad cA tr].flatten) s.heap.size) s.heap H locs ([c_FO ad cA fo, c_FR ad cA fr, c_LR ad cA lr, c_SE ad cA se sk sw, c_TR ad cA tr_1].flatten) := hH
    refine lv_lconst (v := 0) hx hb d_Sear_find_23 rfl ?_
    refine lv_lstore (lv' := [(5, .long 0), (4, .int 1), (3, .int (x1 ||| x2)), (0, .ref (ad 13)), (1, .int x1), (2, .int x2)]) hx hb d_Sear_find_24 hl (by decide) rfl (fun ls hl => ?_)
    obtain ⟨nn, h⟩ := h
    refine x_Sear_find_L26 C0 hA x1 x2 1 fo fr ?_ nn 0 lr se sk sw tr_1 _ _ _ h (lv_sub hl [3, 4, 5, 1, 0] rfl) hH
    · intro lr_2 se_2 sk_2 sw_2 tr_2 H locs ls h hl hH
      try dsimp only at h
      refine lv_iconst (v := (-1)) hx hb d_Sear_find_177 (by decide) ?_
      exact q_reti C0 hH (lr_2, se_2, sk_2, sw_2, tr_2) rfl h d_Sear_find_178
  · have h := h.2 c
    refine lv_iconst (v := 0) hx hb d_Sear_find_8 (by decide) ?_
    refine lv_goto (tgt := 13) hx hb d_Sear_find_9 (by decide) ?_
    refine lv_istore (lv' := [(4, .int 0), (3, .int (x1 ||| x2)), (0, .ref (ad 13)), (1, .int x1), (2, .int x2)]) hx hb d_Sear_find_13 hl (by decide) rfl (fun ls hl => ?_)
    refine lv_aload_n hx hb d_Sear_find_15 rfl (lv_at hl 2 rfl) ?_
    refine q_get (v := .ref (ad 15)) C0 hH 10 rfl hc_4 2 (by decide) k_132 rfl d_Sear_find_16 ?_
    refine lv_iconst (v := 0) hx hb d_Sear_find_19 (by decide) ?_
    refine q_callv (rest := []) (ws' := fun u : tTrail => [c_FO ad cA fo, c_FR ad cA fr, c_LR ad cA lr, c_SE ad cA se sk sw, c_TR ad cA u].flatten) C0 hH hA (c_Trail_back l dC dI cA ad 0 tr _ _ h) Y_Trail_back k_356 12 rfl hc_5 (q_pg [4] [0, 1, 2, 3] [0, 1, 2, 3, 4] 5 1 rfl (by decide) rfl (fun _ => rfl) rfl (by decide) (fun _ => rfl)) ⟨Nat.le_of_ble_eq_true rfl, Nat.le_of_ble_eq_true rfl⟩ rfl rfl (Nat.le_of_ble_eq_true rfl) hl.1 d_Sear_find_20 ⟨Nat.le_refl 0, Nat.le_refl 0⟩ (fun u_3 H locs h hH => ?_)
    obtain ⟨tr_3, rfl⟩ : ∃ z, z = u_3 := ⟨_, rfl⟩
    try dsimp only at h
    have hH : q_H dC dI (va_A ([c_FO ad cA fo, c_FR ad cA fr, c_LR ad cA lr, c_SE ad cA se sk sw, c_TR ad cA tr].flatten) s.heap.size) s.heap H locs ([c_FO ad cA fo, c_FR ad cA fr, c_LR ad cA lr, c_SE ad cA se sk sw, c_TR ad cA tr_3].flatten) := hH
    refine lv_lconst (v := 0) hx hb d_Sear_find_23 rfl ?_
    refine lv_lstore (lv' := [(5, .long 0), (4, .int 0), (3, .int (x1 ||| x2)), (0, .ref (ad 13)), (1, .int x1), (2, .int x2)]) hx hb d_Sear_find_24 hl (by decide) rfl (fun ls hl => ?_)
    obtain ⟨nn, h⟩ := h
    refine x_Sear_find_L26 C0 hA x1 x2 0 fo fr ?_ nn 0 lr se sk sw tr_3 _ _ _ h (lv_sub hl [3, 4, 5, 1, 0] rfl) hH
    · intro lr_4 se_4 sk_4 sw_4 tr_4 H locs ls h hl hH
      try dsimp only at h
      refine lv_iconst (v := (-1)) hx hb d_Sear_find_177 (by decide) ?_
      exact q_reti C0 hH (lr_4, se_4, sk_4, sw_4, tr_4) rfl h d_Sear_find_178
theorem d_Mods_see_0 : decode b_Mods_see 0 = .ok (.aload_n 0, 1) := by decide +kernel
theorem d_Mods_see_1 : decode b_Mods_see 1 = .ok (.dup, 1) := by decide +kernel
theorem d_Mods_see_2 : decode b_Mods_see 2 = .ok (.getfield 39, 3) := by decide +kernel
theorem d_Mods_see_5 : decode b_Mods_see 5 = .ok (.iload_n 1, 1) := by decide +kernel
theorem d_Mods_see_6 : decode b_Mods_see 6 = .ok (.ior, 1) := by decide +kernel
theorem d_Mods_see_7 : decode b_Mods_see 7 = .ok (.putfield 39, 3) := by decide +kernel
theorem d_Mods_see_10 : decode b_Mods_see 10 = .ok (.aload_n 0, 1) := by decide +kernel
theorem d_Mods_see_11 : decode b_Mods_see 11 = .ok (.dup, 1) := by decide +kernel
theorem d_Mods_see_12 : decode b_Mods_see 12 = .ok (.getfield 42, 3) := by decide +kernel
theorem d_Mods_see_15 : decode b_Mods_see 15 = .ok (.iload_n 1, 1) := by decide +kernel
theorem d_Mods_see_16 : decode b_Mods_see 16 = .ok (.iconst (-1), 1) := by decide +kernel
theorem d_Mods_see_17 : decode b_Mods_see 17 = .ok (.ixor, 1) := by decide +kernel
theorem d_Mods_see_18 : decode b_Mods_see 18 = .ok (.ior, 1) := by decide +kernel
theorem d_Mods_see_19 : decode b_Mods_see 19 = .ok (.putfield 42, 3) := by decide +kernel
theorem d_Mods_see_22 : decode b_Mods_see 22 = .ok (.return_, 1) := by decide +kernel
set_option maxHeartbeats 4000000 in
set_option maxRecDepth 100000 in
theorem c_Mods_see (l : Launch) (dC : Nat → ClassId) (dI : Nat → Nat → Nat) (cA : ClassId) (ad : Nat → Nat) (x1 : Int32) (mo : tMods) (Q : tMods → Prop) (sz : Nat) (h : w_Mods_see x1 mo Q) :
    q_Mv l y_Mods_see b_Mods_see 2 0 0 [.ref (ad 11), .int x1] dC dI cA ([c_MO ad cA mo].flatten) (fun u : tMods => [c_MO ad cA u].flatten) sz (fun u => Q u) := by
  refine q_metv (plainFor_of_name (by decide +kernel)) (Nat.le_of_ble_eq_true rfl) (fun {p e s m below meth c ls} C0 hl hH => ?_)
  obtain ⟨hx, hb, -⟩ := id C0
  have hA : ∀ q, s.heap.size ≤ q → va_A ([c_MO ad cA mo].flatten) s.heap.size q := q_nA
  have hl : lv_has ls 2 [(0, .ref (ad 11)), (1, .int x1)] := hl
  unfold w_Mods_see at h
  refine lv_aload_n hx hb d_Mods_see_0 rfl (lv_at hl 0 rfl) ?_
  refine lv_dup hx hb d_Mods_see_1 rfl ?_
  refine q_get (v := .int mo.seenTrue) C0 hH 0 rfl hc_3 4 (by decide) k_160 rfl d_Mods_see_2 ?_
  refine lv_iload_n hx hb d_Mods_see_5 rfl (lv_at hl 1 rfl) ?_
  refine lv_ior hx hb d_Mods_see_6 ?_
  refine q_puti (ws' := [c_MO ad cA (tMods.mk mo.rows mo.size (mo.seenTrue ||| x1) mo.seenFalse mo.begun mo.complete)].flatten) C0 hH 0 rfl hc_3 4 (by decide) k_160 rfl rfl (Nat.le_of_ble_eq_true rfl) rfl d_Mods_see_7 (fun H locs hH => ?_)
  refine lv_aload_n hx hb d_Mods_see_10 rfl (lv_at hl 0 rfl) ?_
  refine lv_dup hx hb d_Mods_see_11 rfl ?_
  refine q_get (v := .int mo.seenFalse) C0 hH 0 rfl hc_3 5 (by decide) k_161 rfl d_Mods_see_12 ?_
  refine lv_iload_n hx hb d_Mods_see_15 rfl (lv_at hl 1 rfl) ?_
  refine lv_iconst (v := (-1)) hx hb d_Mods_see_16 (by decide) ?_
  refine lv_ixor hx hb d_Mods_see_17 ?_
  refine lv_ior hx hb d_Mods_see_18 ?_
  refine q_puti (ws' := [c_MO ad cA (tMods.mk mo.rows mo.size (mo.seenTrue ||| x1) (mo.seenFalse ||| (x1 ^^^ (-1))) mo.begun mo.complete)].flatten) C0 hH 0 rfl hc_3 5 (by decide) k_161 rfl rfl (Nat.le_of_ble_eq_true rfl) rfl d_Mods_see_19 (fun H locs hH => ?_)
  exact q_retv C0 hH (tMods.mk mo.rows mo.size (mo.seenTrue ||| x1) (mo.seenFalse ||| (x1 ^^^ (-1))) mo.begun mo.complete) rfl h d_Mods_see_22
theorem d_Mods_allow_0 : decode b_Mods_allow 0 = .ok (.aload_n 0, 1) := by decide +kernel
theorem d_Mods_allow_1 : decode b_Mods_allow 1 = .ok (.invokevirtual 57, 3) := by decide +kernel
theorem d_Mods_allow_4 : decode b_Mods_allow 4 = .ok (.iload_n 1, 1) := by decide +kernel
theorem d_Mods_allow_5 : decode b_Mods_allow 5 = .ok (.ifCond .ne 7, 3) := by decide +kernel
theorem d_Mods_allow_8 : decode b_Mods_allow 8 = .ok (.iconst 0, 1) := by decide +kernel
theorem d_Mods_allow_9 : decode b_Mods_allow 9 = .ok (.goto 11, 3) := by decide +kernel
theorem d_Mods_allow_12 : decode b_Mods_allow 12 = .ok (.iconst 1, 1) := by decide +kernel
theorem d_Mods_allow_13 : decode b_Mods_allow 13 = .ok (.iload_n 1, 1) := by decide +kernel
theorem d_Mods_allow_14 : decode b_Mods_allow 14 = .ok (.invokestatic 84, 3) := by decide +kernel
theorem d_Mods_allow_17 : decode b_Mods_allow 17 = .ok (.iconst 1, 1) := by decide +kernel
theorem d_Mods_allow_18 : decode b_Mods_allow 18 = .ok (.isub, 1) := by decide +kernel
theorem d_Mods_allow_19 : decode b_Mods_allow 19 = .ok (.ishl, 1) := by decide +kernel
theorem d_Mods_allow_20 : decode b_Mods_allow 20 = .ok (.istore_n 2, 1) := by decide +kernel
theorem d_Mods_allow_21 : decode b_Mods_allow 21 = .ok (.iload_n 1, 1) := by decide +kernel
theorem d_Mods_allow_22 : decode b_Mods_allow 22 = .ok (.ifCond .le 7, 3) := by decide +kernel
theorem d_Mods_allow_25 : decode b_Mods_allow 25 = .ok (.iload_n 2, 1) := by decide +kernel
theorem d_Mods_allow_26 : decode b_Mods_allow 26 = .ok (.goto 4, 3) := by decide +kernel
theorem d_Mods_allow_29 : decode b_Mods_allow 29 = .ok (.iconst 0, 1) := by decide +kernel
theorem d_Mods_allow_30 : decode b_Mods_allow 30 = .ok (.istore_n 3, 1) := by decide +kernel
theorem d_Mods_allow_31 : decode b_Mods_allow 31 = .ok (.iload_n 1, 1) := by decide +kernel
theorem d_Mods_allow_32 : decode b_Mods_allow 32 = .ok (.ifCond .ge 7, 3) := by decide +kernel
theorem d_Mods_allow_35 : decode b_Mods_allow 35 = .ok (.iload_n 2, 1) := by decide +kernel
theorem d_Mods_allow_36 : decode b_Mods_allow 36 = .ok (.goto 4, 3) := by decide +kernel
theorem d_Mods_allow_39 : decode b_Mods_allow 39 = .ok (.iconst 0, 1) := by decide +kernel
theorem d_Mods_allow_40 : decode b_Mods_allow 40 = .ok (.istore 4, 2) := by decide +kernel
theorem d_Mods_allow_42 : decode b_Mods_allow 42 = .ok (.iload_n 3, 1) := by decide +kernel
theorem d_Mods_allow_43 : decode b_Mods_allow 43 = .ok (.aload_n 0, 1) := by decide +kernel
theorem d_Mods_allow_44 : decode b_Mods_allow 44 = .ok (.getfield 39, 3) := by decide +kernel
theorem d_Mods_allow_47 : decode b_Mods_allow 47 = .ok (.iand, 1) := by decide +kernel
theorem d_Mods_allow_48 : decode b_Mods_allow 48 = .ok (.ifCond .ne 13, 3) := by decide +kernel
theorem d_Mods_allow_51 : decode b_Mods_allow 51 = .ok (.iload 4, 2) := by decide +kernel
theorem d_Mods_allow_53 : decode b_Mods_allow 53 = .ok (.aload_n 0, 1) := by decide +kernel
theorem d_Mods_allow_54 : decode b_Mods_allow 54 = .ok (.getfield 42, 3) := by decide +kernel
theorem d_Mods_allow_57 : decode b_Mods_allow 57 = .ok (.iand, 1) := by decide +kernel
theorem d_Mods_allow_58 : decode b_Mods_allow 58 = .ok (.ifCond .eq 5, 3) := by decide +kernel
theorem d_Mods_allow_61 : decode b_Mods_allow 61 = .ok (.iconst 1, 1) := by decide +kernel
theorem d_Mods_allow_62 : decode b_Mods_allow 62 = .ok (.ireturn, 1) := by decide +kernel
theorem d_Mods_allow_63 : decode b_Mods_allow 63 = .ok (.aload_n 0, 1) := by decide +kernel
theorem d_Mods_allow_64 : decode b_Mods_allow 64 = .ok (.getfield 24, 3) := by decide +kernel
theorem d_Mods_allow_67 : decode b_Mods_allow 67 = .ok (.iload_n 3, 1) := by decide +kernel
theorem d_Mods_allow_68 : decode b_Mods_allow 68 = .ok (.iload 4, 2) := by decide +kernel
theorem d_Mods_allow_70 : decode b_Mods_allow 70 = .ok (.invokevirtual 59, 3) := by decide +kernel
theorem d_Mods_allow_73 : decode b_Mods_allow 73 = .ok (.istore 5, 2) := by decide +kernel
theorem d_Mods_allow_75 : decode b_Mods_allow 75 = .ok (.iload 5, 2) := by decide +kernel
theorem d_Mods_allow_77 : decode b_Mods_allow 77 = .ok (.iconst (-1), 1) := by decide +kernel
theorem d_Mods_allow_78 : decode b_Mods_allow 78 = .ok (.if_icmp .ne 5, 3) := by decide +kernel
theorem d_Mods_allow_81 : decode b_Mods_allow 81 = .ok (.iconst 0, 1) := by decide +kernel
theorem d_Mods_allow_82 : decode b_Mods_allow 82 = .ok (.ireturn, 1) := by decide +kernel
theorem d_Mods_allow_83 : decode b_Mods_allow 83 = .ok (.aload_n 0, 1) := by decide +kernel
theorem d_Mods_allow_84 : decode b_Mods_allow 84 = .ok (.iload 5, 2) := by decide +kernel
theorem d_Mods_allow_86 : decode b_Mods_allow 86 = .ok (.invokevirtual 73, 3) := by decide +kernel
theorem d_Mods_allow_89 : decode b_Mods_allow 89 = .ok (.iconst 1, 1) := by decide +kernel
theorem d_Mods_allow_90 : decode b_Mods_allow 90 = .ok (.ireturn, 1) := by decide +kernel
set_option maxHeartbeats 4000000 in
set_option maxRecDepth 100000 in
theorem c_Mods_allow (l : Launch) (dC : Nat → ClassId) (dI : Nat → Nat → Nat) (cA : ClassId) (ad : Nat → Nat) (x1 : Int32) (fo : tForm) (fr : tRows) (lr : tRows) (mo : tMods) (se : tSear) (sk : tClash) (sw : (Nat → Int32)) (tr : tTrail) (Q : Int32 → tRows → tMods → tSear → tClash → (Nat → Int32) → tTrail → Prop) (sz : Nat) (h : w_Mods_allow x1 fo fr lr mo se sk sw tr Q) :
    q_Mi l y_Mods_allow b_Mods_allow 6 (some .boolean) 5 119 [.ref (ad 11), .int x1] dC dI cA ([c_FO ad cA fo, c_FR ad cA fr, c_LR ad cA lr, c_MO ad cA mo, c_SE ad cA se sk sw, c_TR ad cA tr].flatten) (fun u : tRows × tMods × tSear × tClash × (Nat → Int32) × tTrail => [c_FO ad cA fo, c_FR ad cA fr, c_LR ad cA u.1, c_MO ad cA u.2.1, c_SE ad cA u.2.2.1 u.2.2.2.1 u.2.2.2.2.1, c_TR ad cA u.2.2.2.2.2].flatten) sz (fun r u => Q r u.1 u.2.1 u.2.2.1 u.2.2.2.1 u.2.2.2.2.1 u.2.2.2.2.2) := by
  refine q_meti (plainFor_of_name (by decide +kernel)) (Nat.le_of_ble_eq_true rfl) (fun {p e s m below meth c ls} C0 hl hH => ?_)
  obtain ⟨hx, hb, -⟩ := id C0
  have hA : ∀ q, s.heap.size ≤ q → va_A ([c_FO ad cA fo, c_FR ad cA fr, c_LR ad cA lr, c_MO ad cA mo, c_SE ad cA se sk sw, c_TR ad cA tr].flatten) s.heap.size q := q_nA
  have hl : lv_has ls 6 [(0, .ref (ad 11)), (1, .int x1)] := hl
  unfold w_Mods_allow at h
  refine lv_aload_n hx hb d_Mods_allow_0 rfl (lv_at hl 0 rfl) ?_
  refine q_callv (rest := []) (ws' := fun u : tRows × tMods × tSear × tTrail => [c_FO ad cA fo, c_FR ad cA fr, c_LR ad cA u.1, c_MO ad cA u.2.1, c_SE ad cA u.2.2.1 sk sw, c_TR ad cA u.2.2.2].flatten) C0 hH hA (c_Mods_begin l dC dI cA ad fo fr lr mo se sk sw tr _ _ h) Y_Mods_begin k_329 10 rfl hc_3 (q_pg [0, 1, 2, 3, 4, 5] [] [0, 1, 2, 3, 4, 5] 6 6 rfl (by decide) rfl (fun _ => rfl) rfl (by decide) (fun _ => rfl)) ⟨Nat.le_of_ble_eq_true rfl, Nat.le_of_ble_eq_true rfl⟩ rfl rfl (Nat.le_of_ble_eq_true rfl) hl.1 d_Mods_allow_1 ⟨Nat.le_refl 0, Nat.le_refl 0⟩ (fun u_1 H locs h hH => ?_)
  obtain ⟨lr_1, mo_1, se_1, tr_1⟩ := u_1
  try dsimp only at h
  have hH : q_H dC dI (va_A ([c_FO ad cA fo, c_FR ad cA fr, c_LR ad cA lr, c_MO ad cA mo, c_SE ad cA se sk sw, c_TR ad cA tr].flatten) s.heap.size) s.heap H locs ([c_FO ad cA fo, c_FR ad cA fr, c_LR ad cA lr_1, c_MO ad cA mo_1, c_SE ad cA se_1 sk sw, c_TR ad cA tr_1].flatten) := hH
  refine lv_iload_n hx hb d_Mods_allow_4 rfl (lv_at hl 1 rfl) ?_
  refine lv_if_ne (tgt := 12) hx hb d_Mods_allow_5 (by decide) (fun c => ?_) (fun c => ?_)
  · have h := h.1 c
    refine lv_iconst (v := 1) hx hb d_Mods_allow_12 (by decide) ?_
    refine lv_iload_n hx hb d_Mods_allow_13 rfl (lv_at hl 1 rfl) ?_
    refine q_calls (rest := [.int 1]) C0 hH hA (c_Math_abs l dC dI cA ad x1 _ _ h) Y_Math_abs k_351 ⟨Nat.le_of_ble_eq_true rfl, Nat.le_of_ble_eq_true rfl⟩ rfl rfl (Nat.le_of_ble_eq_true rfl) hl.1 d_Mods_allow_14 ⟨Nat.le_refl 0, Nat.le_refl 0⟩ (fun r_2 H locs h hH => ?_)
    try dsimp only at h
    refine lv_iconst (v := 1) hx hb d_Mods_allow_17 (by decide) ?_
    refine lv_isub hx hb d_Mods_allow_18 ?_
    refine lv_ishl hx hb d_Mods_allow_19 ?_
    refine lv_istore_n (lv' := [(2, .int ((1 : Int32) <<< ((r_2 - 1) &&& 31))), (0, .ref (ad 11)), (1, .int x1)]) hx hb d_Mods_allow_20 rfl hl (by decide) rfl (fun ls hl => ?_)
    refine lv_iload_n hx hb d_Mods_allow_21 rfl (lv_at hl 2 rfl) ?_
    refine lv_if_le (tgt := 29) hx hb d_Mods_allow_22 (by decide) (fun c => ?_) (fun c => ?_)
    · have h := h.1 c
      refine lv_iconst (v := 0) hx hb d_Mods_allow_29 (by decide) ?_
      refine lv_istore_n (lv' := [(3, .int 0), (2, .int ((1 : Int32) <<< ((r_2 - 1) &&& 31))), (0, .ref (ad 11)), (1, .int x1)]) hx hb d_Mods_allow_30 rfl hl (by decide) rfl (fun ls hl => ?_)
      refine lv_iload_n hx hb d_Mods_allow_31 rfl (lv_at hl 3 rfl) ?_
      refine lv_if_ge (tgt := 39) hx hb d_Mods_allow_32 (by decide) (fun c => ?_) (fun c => ?_)
      · have h := h.1 c
        refine lv_iconst (v := 0) hx hb d_Mods_allow_39 (by decide) ?_
        refine lv_istore (lv' := [(4, .int 0), (3, .int 0), (2, .int ((1 : Int32) <<< ((r_2 - 1) &&& 31))), (0, .ref (ad 11)), (1, .int x1)]) hx hb d_Mods_allow_40 hl (by decide) rfl (fun ls hl => ?_)
        refine lv_iload_n hx hb d_Mods_allow_42 rfl (lv_at hl 1 rfl) ?_
        refine lv_aload_n hx hb d_Mods_allow_43 rfl (lv_at hl 3 rfl) ?_
        refine q_get (v := .int mo_1.seenTrue) C0 hH 10 rfl hc_3 4 (by decide) k_160 rfl d_Mods_allow_44 ?_
        refine lv_iand hx hb d_Mods_allow_47 ?_
        refine lv_if_ne (tgt := 61) hx hb d_Mods_allow_48 (by decide) (fun c => ?_) (fun c => ?_)
        · have h := h.1 c
          refine lv_iconst (v := 1) hx hb d_Mods_allow_61 (by decide) ?_
          exact q_retz C0 hH (lr_1, mo_1, se_1, sk, sw, tr_1) rfl (Or.inr rfl) h d_Mods_allow_62
        · have h := h.2 c
          refine lv_iload hx hb d_Mods_allow_51 (lv_at hl 0 rfl) ?_
          refine lv_aload_n hx hb d_Mods_allow_53 rfl (lv_at hl 3 rfl) ?_
          refine q_get (v := .int mo_1.seenFalse) C0 hH 10 rfl hc_3 5 (by decide) k_161 rfl d_Mods_allow_54 ?_
          refine lv_iand hx hb d_Mods_allow_57 ?_
          refine lv_if_eq (tgt := 63) hx hb d_Mods_allow_58 (by decide) (fun c => ?_) (fun c => ?_)
          · have h := h.1 c
            refine lv_aload_n hx hb d_Mods_allow_63 rfl (lv_at hl 3 rfl) ?_
            refine q_get (v := .ref (ad 13)) C0 hH 10 rfl hc_3 1 (by decide) k_156 rfl d_Mods_allow_64 ?_
            refine lv_iload_n hx hb d_Mods_allow_67 rfl (lv_at hl 1 rfl) ?_
            refine lv_iload hx hb d_Mods_allow_68 (lv_at hl 0 rfl) ?_
            refine q_calli (rest := []) (ws' := fun u : tRows × tSear × tClash × (Nat → Int32) × tTrail => [c_FO ad cA fo, c_FR ad cA fr, c_LR ad cA u.1, c_MO ad cA mo_1, c_SE ad cA u.2.1 u.2.2.1 u.2.2.2.1, c_TR ad cA u.2.2.2.2].flatten) C0 hH hA (c_Sear_find l dC dI cA ad 0 0 fo fr lr_1 se_1 sk sw tr_1 _ _ h) Y_Sear_find k_352 12 rfl hc_4 (q_pg [0, 1, 2, 4, 5] [3] [1, 2, 3, 0, 4, 5] 6 5 rfl (by decide) rfl (fun _ => rfl) rfl (by decide) (fun _ => rfl)) ⟨Nat.le_of_ble_eq_true rfl, Nat.le_of_ble_eq_true rfl⟩ rfl rfl (Nat.le_of_ble_eq_true rfl) hl.1 d_Mods_allow_70 ⟨Nat.le_refl 0, Nat.le_refl 0⟩ (fun r_3 u_3 H locs h hH => ?_)
            obtain ⟨lr_3, se_3, sk_3, sw_3, tr_3⟩ := u_3
            try dsimp only at h
            have hH : q_H dC dI (va_A ([c_FO ad cA fo, c_FR ad cA fr, c_LR ad cA lr, c_MO ad cA mo, c_SE ad cA se sk sw, c_TR ad cA tr].flatten) s.heap.size) s.heap H locs ([c_FO ad cA fo, c_FR ad cA fr, c_LR ad cA lr_3, c_MO ad cA mo_1, c_SE ad cA se_3 sk_3 sw_3, c_TR ad cA tr_3].flatten) := hH
            refine lv_istore (lv' := [(5, .int r_3), (4, .int 0), (3, .int 0), (2, .int ((1 : Int32) <<< ((r_2 - 1) &&& 31))), (0, .ref (ad 11)), (1, .int x1)]) hx hb d_Mods_allow_73 hl (by decide) rfl (fun ls hl => ?_)
            refine lv_iload hx hb d_Mods_allow_75 (lv_at hl 0 rfl) ?_
            refine lv_iconst (v := (-1)) hx hb d_Mods_allow_77 (by decide) ?_
            refine lv_icmp_ne (tgt := 83) hx hb d_Mods_allow_78 (by decide) (fun c => ?_) (fun c => ?_)
            · have h := h.1 c
              refine lv_aload_n hx hb d_Mods_allow_83 rfl (lv_at hl 4 rfl) ?_
              refine lv_iload hx hb d_Mods_allow_84 (lv_at hl 0 rfl) ?_
              refine q_callv (rest := []) (ws' := fun u : tMods => [c_FO ad cA fo, c_FR ad cA fr, c_LR ad cA lr_3, c_MO ad cA u, c_SE ad cA se_3 sk_3 sw_3, c_TR ad cA tr_3].flatten) C0 hH hA (c_Mods_see l dC dI cA ad r_3 mo_1 _ _ h) Y_Mods_see k_408 10 rfl hc_3 (q_pg [3] [0, 1, 2, 4, 5] [0, 1, 2, 5, 3, 4] 6 1 rfl (by decide) rfl (fun _ => rfl) rfl (by decide) (fun _ => rfl)) ⟨Nat.le_of_ble_eq_true rfl, Nat.le_of_ble_eq_true rfl⟩ rfl rfl (Nat.le_of_ble_eq_true rfl) hl.1 d_Mods_allow_86 ⟨Nat.le_refl 0, Nat.le_refl 0⟩ (fun u_4 H locs h hH => ?_)
              obtain ⟨mo_4, rfl⟩ : ∃ z, z = u_4 := ⟨_, rfl⟩
              try dsimp only at h
              have hH : q_H dC dI (va_A ([c_FO ad cA fo, c_FR ad cA fr, c_LR ad cA lr, c_MO ad cA mo, c_SE ad cA se sk sw, c_TR ad cA tr].flatten) s.heap.size) s.heap H locs ([c_FO ad cA fo, c_FR ad cA fr, c_LR ad cA lr_3, c_MO ad cA mo_4, c_SE ad cA se_3 sk_3 sw_3, c_TR ad cA tr_3].flatten) := hH
              refine lv_iconst (v := 1) hx hb d_Mods_allow_89 (by decide) ?_
              exact q_retz C0 hH (lr_3, mo_4, se_3, sk_3, sw_3, tr_3) rfl (Or.inr rfl) h d_Mods_allow_90
            · have h := h.2 c
              refine lv_iconst (v := 0) hx hb d_Mods_allow_81 (by decide) ?_
              exact q_retz C0 hH (lr_3, mo_1, se_3, sk_3, sw_3, tr_3) rfl (Or.inl rfl) h d_Mods_allow_82
          · have h := h.2 c
            refine lv_iconst (v := 1) hx hb d_Mods_allow_61 (by decide) ?_
            exact q_retz C0 hH (lr_1, mo_1, se_1, sk, sw, tr_1) rfl (Or.inr rfl) h d_Mods_allow_62
      · have h := h.2 c
        refine lv_iload_n hx hb d_Mods_allow_35 rfl (lv_at hl 1 rfl) ?_
        refine lv_goto (tgt := 40) hx hb d_Mods_allow_36 (by decide) ?_
        refine lv_istore (lv' := [(4, .int ((1 : Int32) <<< ((r_2 - 1) &&& 31))), (3, .int 0), (2, .int ((1 : Int32) <<< ((r_2 - 1) &&& 31))), (0, .ref (ad 11)), (1, .int x1)]) hx hb d_Mods_allow_40 hl (by decide) rfl (fun ls hl => ?_)
        refine lv_iload_n hx hb d_Mods_allow_42 rfl (lv_at hl 1 rfl) ?_
        refine lv_aload_n hx hb d_Mods_allow_43 rfl (lv_at hl 3 rfl) ?_
        refine q_get (v := .int mo_1.seenTrue) C0 hH 10 rfl hc_3 4 (by decide) k_160 rfl d_Mods_allow_44 ?_
        refine lv_iand hx hb d_Mods_allow_47 ?_
        refine lv_if_ne (tgt := 61) hx hb d_Mods_allow_48 (by decide) (fun c => ?_) (fun c => ?_)
        · have h := h.1 c
          refine lv_iconst (v := 1) hx hb d_Mods_allow_61 (by decide) ?_
          exact q_retz C0 hH (lr_1, mo_1, se_1, sk, sw, tr_1) rfl (Or.inr rfl) h d_Mods_allow_62
        · have h := h.2 c
          refine lv_iload hx hb d_Mods_allow_51 (lv_at hl 0 rfl) ?_
          refine lv_aload_n hx hb d_Mods_allow_53 rfl (lv_at hl 3 rfl) ?_
          refine q_get (v := .int mo_1.seenFalse) C0 hH 10 rfl hc_3 5 (by decide) k_161 rfl d_Mods_allow_54 ?_
          refine lv_iand hx hb d_Mods_allow_57 ?_
          refine lv_if_eq (tgt := 63) hx hb d_Mods_allow_58 (by decide) (fun c => ?_) (fun c => ?_)
          · have h := h.1 c
            refine lv_aload_n hx hb d_Mods_allow_63 rfl (lv_at hl 3 rfl) ?_
            refine q_get (v := .ref (ad 13)) C0 hH 10 rfl hc_3 1 (by decide) k_156 rfl d_Mods_allow_64 ?_
            refine lv_iload_n hx hb d_Mods_allow_67 rfl (lv_at hl 1 rfl) ?_
            refine lv_iload hx hb d_Mods_allow_68 (lv_at hl 0 rfl) ?_
            refine q_calli (rest := []) (ws' := fun u : tRows × tSear × tClash × (Nat → Int32) × tTrail => [c_FO ad cA fo, c_FR ad cA fr, c_LR ad cA u.1, c_MO ad cA mo_1, c_SE ad cA u.2.1 u.2.2.1 u.2.2.2.1, c_TR ad cA u.2.2.2.2].flatten) C0 hH hA (c_Sear_find l dC dI cA ad 0 ((1 : Int32) <<< ((r_2 - 1) &&& 31)) fo fr lr_1 se_1 sk sw tr_1 _ _ h) Y_Sear_find k_352 12 rfl hc_4 (q_pg [0, 1, 2, 4, 5] [3] [1, 2, 3, 0, 4, 5] 6 5 rfl (by decide) rfl (fun _ => rfl) rfl (by decide) (fun _ => rfl)) ⟨Nat.le_of_ble_eq_true rfl, Nat.le_of_ble_eq_true rfl⟩ rfl rfl (Nat.le_of_ble_eq_true rfl) hl.1 d_Mods_allow_70 ⟨Nat.le_refl 0, Nat.le_refl 0⟩ (fun r_5 u_5 H locs h hH => ?_)
            obtain ⟨lr_5, se_5, sk_5, sw_5, tr_5⟩ := u_5
            try dsimp only at h
            have hH : q_H dC dI (va_A ([c_FO ad cA fo, c_FR ad cA fr, c_LR ad cA lr, c_MO ad cA mo, c_SE ad cA se sk sw, c_TR ad cA tr].flatten) s.heap.size) s.heap H locs ([c_FO ad cA fo, c_FR ad cA fr, c_LR ad cA lr_5, c_MO ad cA mo_1, c_SE ad cA se_5 sk_5 sw_5, c_TR ad cA tr_5].flatten) := hH
            refine lv_istore (lv' := [(5, .int r_5), (4, .int ((1 : Int32) <<< ((r_2 - 1) &&& 31))), (3, .int 0), (2, .int ((1 : Int32) <<< ((r_2 - 1) &&& 31))), (0, .ref (ad 11)), (1, .int x1)]) hx hb d_Mods_allow_73 hl (by decide) rfl (fun ls hl => ?_)
            refine lv_iload hx hb d_Mods_allow_75 (lv_at hl 0 rfl) ?_
            refine lv_iconst (v := (-1)) hx hb d_Mods_allow_77 (by decide) ?_
            refine lv_icmp_ne (tgt := 83) hx hb d_Mods_allow_78 (by decide) (fun c => ?_) (fun c => ?_)
            · have h := h.1 c
              refine lv_aload_n hx hb d_Mods_allow_83 rfl (lv_at hl 4 rfl) ?_
              refine lv_iload hx hb d_Mods_allow_84 (lv_at hl 0 rfl) ?_
              refine q_callv (rest := []) (ws' := fun u : tMods => [c_FO ad cA fo, c_FR ad cA fr, c_LR ad cA lr_5, c_MO ad cA u, c_SE ad cA se_5 sk_5 sw_5, c_TR ad cA tr_5].flatten) C0 hH hA (c_Mods_see l dC dI cA ad r_5 mo_1 _ _ h) Y_Mods_see k_408 10 rfl hc_3 (q_pg [3] [0, 1, 2, 4, 5] [0, 1, 2, 5, 3, 4] 6 1 rfl (by decide) rfl (fun _ => rfl) rfl (by decide) (fun _ => rfl)) ⟨Nat.le_of_ble_eq_true rfl, Nat.le_of_ble_eq_true rfl⟩ rfl rfl (Nat.le_of_ble_eq_true rfl) hl.1 d_Mods_allow_86 ⟨Nat.le_refl 0, Nat.le_refl 0⟩ (fun u_6 H locs h hH => ?_)
              obtain ⟨mo_6, rfl⟩ : ∃ z, z = u_6 := ⟨_, rfl⟩
              try dsimp only at h
              have hH : q_H dC dI (va_A ([c_FO ad cA fo, c_FR ad cA fr, c_LR ad cA lr, c_MO ad cA mo, c_SE ad cA se sk sw, c_TR ad cA tr].flatten) s.heap.size) s.heap H locs ([c_FO ad cA fo, c_FR ad cA fr, c_LR ad cA lr_5, c_MO ad cA mo_6, c_SE ad cA se_5 sk_5 sw_5, c_TR ad cA tr_5].flatten) := hH
              refine lv_iconst (v := 1) hx hb d_Mods_allow_89 (by decide) ?_
              exact q_retz C0 hH (lr_5, mo_6, se_5, sk_5, sw_5, tr_5) rfl (Or.inr rfl) h d_Mods_allow_90
            · have h := h.2 c
              refine lv_iconst (v := 0) hx hb d_Mods_allow_81 (by decide) ?_
              exact q_retz C0 hH (lr_5, mo_1, se_5, sk_5, sw_5, tr_5) rfl (Or.inl rfl) h d_Mods_allow_82
          · have h := h.2 c
            refine lv_iconst (v := 1) hx hb d_Mods_allow_61 (by decide) ?_
            exact q_retz C0 hH (lr_1, mo_1, se_1, sk, sw, tr_1) rfl (Or.inr rfl) h d_Mods_allow_62
    · have h := h.2 c
      refine lv_iload_n hx hb d_Mods_allow_25 rfl (lv_at hl 0 rfl) ?_
      refine lv_goto (tgt := 30) hx hb d_Mods_allow_26 (by decide) ?_
      refine lv_istore_n (lv' := [(3, .int ((1 : Int32) <<< ((r_2 - 1) &&& 31))), (2, .int ((1 : Int32) <<< ((r_2 - 1) &&& 31))), (0, .ref (ad 11)), (1, .int x1)]) hx hb d_Mods_allow_30 rfl hl (by decide) rfl (fun ls hl => ?_)
      refine lv_iload_n hx hb d_Mods_allow_31 rfl (lv_at hl 3 rfl) ?_
      refine lv_if_ge (tgt := 39) hx hb d_Mods_allow_32 (by decide) (fun c => ?_) (fun c => ?_)
      · have h := h.1 c
        refine lv_iconst (v := 0) hx hb d_Mods_allow_39 (by decide) ?_
        refine lv_istore (lv' := [(4, .int 0), (3, .int ((1 : Int32) <<< ((r_2 - 1) &&& 31))), (2, .int ((1 : Int32) <<< ((r_2 - 1) &&& 31))), (0, .ref (ad 11)), (1, .int x1)]) hx hb d_Mods_allow_40 hl (by decide) rfl (fun ls hl => ?_)
        refine lv_iload_n hx hb d_Mods_allow_42 rfl (lv_at hl 1 rfl) ?_
        refine lv_aload_n hx hb d_Mods_allow_43 rfl (lv_at hl 3 rfl) ?_
        refine q_get (v := .int mo_1.seenTrue) C0 hH 10 rfl hc_3 4 (by decide) k_160 rfl d_Mods_allow_44 ?_
        refine lv_iand hx hb d_Mods_allow_47 ?_
        refine lv_if_ne (tgt := 61) hx hb d_Mods_allow_48 (by decide) (fun c => ?_) (fun c => ?_)
        · have h := h.1 c
          refine lv_iconst (v := 1) hx hb d_Mods_allow_61 (by decide) ?_
          exact q_retz C0 hH (lr_1, mo_1, se_1, sk, sw, tr_1) rfl (Or.inr rfl) h d_Mods_allow_62
        · have h := h.2 c
          refine lv_iload hx hb d_Mods_allow_51 (lv_at hl 0 rfl) ?_
          refine lv_aload_n hx hb d_Mods_allow_53 rfl (lv_at hl 3 rfl) ?_
          refine q_get (v := .int mo_1.seenFalse) C0 hH 10 rfl hc_3 5 (by decide) k_161 rfl d_Mods_allow_54 ?_
          refine lv_iand hx hb d_Mods_allow_57 ?_
          refine lv_if_eq (tgt := 63) hx hb d_Mods_allow_58 (by decide) (fun c => ?_) (fun c => ?_)
          · have h := h.1 c
            refine lv_aload_n hx hb d_Mods_allow_63 rfl (lv_at hl 3 rfl) ?_
            refine q_get (v := .ref (ad 13)) C0 hH 10 rfl hc_3 1 (by decide) k_156 rfl d_Mods_allow_64 ?_
            refine lv_iload_n hx hb d_Mods_allow_67 rfl (lv_at hl 1 rfl) ?_
            refine lv_iload hx hb d_Mods_allow_68 (lv_at hl 0 rfl) ?_
            refine q_calli (rest := []) (ws' := fun u : tRows × tSear × tClash × (Nat → Int32) × tTrail => [c_FO ad cA fo, c_FR ad cA fr, c_LR ad cA u.1, c_MO ad cA mo_1, c_SE ad cA u.2.1 u.2.2.1 u.2.2.2.1, c_TR ad cA u.2.2.2.2].flatten) C0 hH hA (c_Sear_find l dC dI cA ad ((1 : Int32) <<< ((r_2 - 1) &&& 31)) 0 fo fr lr_1 se_1 sk sw tr_1 _ _ h) Y_Sear_find k_352 12 rfl hc_4 (q_pg [0, 1, 2, 4, 5] [3] [1, 2, 3, 0, 4, 5] 6 5 rfl (by decide) rfl (fun _ => rfl) rfl (by decide) (fun _ => rfl)) ⟨Nat.le_of_ble_eq_true rfl, Nat.le_of_ble_eq_true rfl⟩ rfl rfl (Nat.le_of_ble_eq_true rfl) hl.1 d_Mods_allow_70 ⟨Nat.le_refl 0, Nat.le_refl 0⟩ (fun r_7 u_7 H locs h hH => ?_)
            obtain ⟨lr_7, se_7, sk_7, sw_7, tr_7⟩ := u_7
            try dsimp only at h
            have hH : q_H dC dI (va_A ([c_FO ad cA fo, c_FR ad cA fr, c_LR ad cA lr, c_MO ad cA mo, c_SE ad cA se sk sw, c_TR ad cA tr].flatten) s.heap.size) s.heap H locs ([c_FO ad cA fo, c_FR ad cA fr, c_LR ad cA lr_7, c_MO ad cA mo_1, c_SE ad cA se_7 sk_7 sw_7, c_TR ad cA tr_7].flatten) := hH
            refine lv_istore (lv' := [(5, .int r_7), (4, .int 0), (3, .int ((1 : Int32) <<< ((r_2 - 1) &&& 31))), (2, .int ((1 : Int32) <<< ((r_2 - 1) &&& 31))), (0, .ref (ad 11)), (1, .int x1)]) hx hb d_Mods_allow_73 hl (by decide) rfl (fun ls hl => ?_)
            refine lv_iload hx hb d_Mods_allow_75 (lv_at hl 0 rfl) ?_
            refine lv_iconst (v := (-1)) hx hb d_Mods_allow_77 (by decide) ?_
            refine lv_icmp_ne (tgt := 83) hx hb d_Mods_allow_78 (by decide) (fun c => ?_) (fun c => ?_)
            · have h := h.1 c
              refine lv_aload_n hx hb d_Mods_allow_83 rfl (lv_at hl 4 rfl) ?_
              refine lv_iload hx hb d_Mods_allow_84 (lv_at hl 0 rfl) ?_
              refine q_callv (rest := []) (ws' := fun u : tMods => [c_FO ad cA fo, c_FR ad cA fr, c_LR ad cA lr_7, c_MO ad cA u, c_SE ad cA se_7 sk_7 sw_7, c_TR ad cA tr_7].flatten) C0 hH hA (c_Mods_see l dC dI cA ad r_7 mo_1 _ _ h) Y_Mods_see k_408 10 rfl hc_3 (q_pg [3] [0, 1, 2, 4, 5] [0, 1, 2, 5, 3, 4] 6 1 rfl (by decide) rfl (fun _ => rfl) rfl (by decide) (fun _ => rfl)) ⟨Nat.le_of_ble_eq_true rfl, Nat.le_of_ble_eq_true rfl⟩ rfl rfl (Nat.le_of_ble_eq_true rfl) hl.1 d_Mods_allow_86 ⟨Nat.le_refl 0, Nat.le_refl 0⟩ (fun u_8 H locs h hH => ?_)
              obtain ⟨mo_8, rfl⟩ : ∃ z, z = u_8 := ⟨_, rfl⟩
              try dsimp only at h
              have hH : q_H dC dI (va_A ([c_FO ad cA fo, c_FR ad cA fr, c_LR ad cA lr, c_MO ad cA mo, c_SE ad cA se sk sw, c_TR ad cA tr].flatten) s.heap.size) s.heap H locs ([c_FO ad cA fo, c_FR ad cA fr, c_LR ad cA lr_7, c_MO ad cA mo_8, c_SE ad cA se_7 sk_7 sw_7, c_TR ad cA tr_7].flatten) := hH
              refine lv_iconst (v := 1) hx hb d_Mods_allow_89 (by decide) ?_
              exact q_retz C0 hH (lr_7, mo_8, se_7, sk_7, sw_7, tr_7) rfl (Or.inr rfl) h d_Mods_allow_90
            · have h := h.2 c
              refine lv_iconst (v := 0) hx hb d_Mods_allow_81 (by decide) ?_
              exact q_retz C0 hH (lr_7, mo_1, se_7, sk_7, sw_7, tr_7) rfl (Or.inl rfl) h d_Mods_allow_82
          · have h := h.2 c
            refine lv_iconst (v := 1) hx hb d_Mods_allow_61 (by decide) ?_
            exact q_retz C0 hH (lr_1, mo_1, se_1, sk, sw, tr_1) rfl (Or.inr rfl) h d_Mods_allow_62
      · have h := h.2 c
        refine lv_iload_n hx hb d_Mods_allow_35 rfl (lv_at hl 1 rfl) ?_
        refine lv_goto (tgt := 40) hx hb d_Mods_allow_36 (by decide) ?_
        refine lv_istore (lv' := [(4, .int ((1 : Int32) <<< ((r_2 - 1) &&& 31))), (3, .int ((1 : Int32) <<< ((r_2 - 1) &&& 31))), (2, .int ((1 : Int32) <<< ((r_2 - 1) &&& 31))), (0, .ref (ad 11)), (1, .int x1)]) hx hb d_Mods_allow_40 hl (by decide) rfl (fun ls hl => ?_)
        refine lv_iload_n hx hb d_Mods_allow_42 rfl (lv_at hl 1 rfl) ?_
        refine lv_aload_n hx hb d_Mods_allow_43 rfl (lv_at hl 3 rfl) ?_
        refine q_get (v := .int mo_1.seenTrue) C0 hH 10 rfl hc_3 4 (by decide) k_160 rfl d_Mods_allow_44 ?_
        refine lv_iand hx hb d_Mods_allow_47 ?_
        refine lv_if_ne (tgt := 61) hx hb d_Mods_allow_48 (by decide) (fun c => ?_) (fun c => ?_)
        · have h := h.1 c
          refine lv_iconst (v := 1) hx hb d_Mods_allow_61 (by decide) ?_
          exact q_retz C0 hH (lr_1, mo_1, se_1, sk, sw, tr_1) rfl (Or.inr rfl) h d_Mods_allow_62
        · have h := h.2 c
          refine lv_iload hx hb d_Mods_allow_51 (lv_at hl 0 rfl) ?_
          refine lv_aload_n hx hb d_Mods_allow_53 rfl (lv_at hl 3 rfl) ?_
          refine q_get (v := .int mo_1.seenFalse) C0 hH 10 rfl hc_3 5 (by decide) k_161 rfl d_Mods_allow_54 ?_
          refine lv_iand hx hb d_Mods_allow_57 ?_
          refine lv_if_eq (tgt := 63) hx hb d_Mods_allow_58 (by decide) (fun c => ?_) (fun c => ?_)
          · have h := h.1 c
            refine lv_aload_n hx hb d_Mods_allow_63 rfl (lv_at hl 3 rfl) ?_
            refine q_get (v := .ref (ad 13)) C0 hH 10 rfl hc_3 1 (by decide) k_156 rfl d_Mods_allow_64 ?_
            refine lv_iload_n hx hb d_Mods_allow_67 rfl (lv_at hl 1 rfl) ?_
            refine lv_iload hx hb d_Mods_allow_68 (lv_at hl 0 rfl) ?_
            refine q_calli (rest := []) (ws' := fun u : tRows × tSear × tClash × (Nat → Int32) × tTrail => [c_FO ad cA fo, c_FR ad cA fr, c_LR ad cA u.1, c_MO ad cA mo_1, c_SE ad cA u.2.1 u.2.2.1 u.2.2.2.1, c_TR ad cA u.2.2.2.2].flatten) C0 hH hA (c_Sear_find l dC dI cA ad ((1 : Int32) <<< ((r_2 - 1) &&& 31)) ((1 : Int32) <<< ((r_2 - 1) &&& 31)) fo fr lr_1 se_1 sk sw tr_1 _ _ h) Y_Sear_find k_352 12 rfl hc_4 (q_pg [0, 1, 2, 4, 5] [3] [1, 2, 3, 0, 4, 5] 6 5 rfl (by decide) rfl (fun _ => rfl) rfl (by decide) (fun _ => rfl)) ⟨Nat.le_of_ble_eq_true rfl, Nat.le_of_ble_eq_true rfl⟩ rfl rfl (Nat.le_of_ble_eq_true rfl) hl.1 d_Mods_allow_70 ⟨Nat.le_refl 0, Nat.le_refl 0⟩ (fun r_9 u_9 H locs h hH => ?_)
            obtain ⟨lr_9, se_9, sk_9, sw_9, tr_9⟩ := u_9
            try dsimp only at h
            have hH : q_H dC dI (va_A ([c_FO ad cA fo, c_FR ad cA fr, c_LR ad cA lr, c_MO ad cA mo, c_SE ad cA se sk sw, c_TR ad cA tr].flatten) s.heap.size) s.heap H locs ([c_FO ad cA fo, c_FR ad cA fr, c_LR ad cA lr_9, c_MO ad cA mo_1, c_SE ad cA se_9 sk_9 sw_9, c_TR ad cA tr_9].flatten) := hH
            refine lv_istore (lv' := [(5, .int r_9), (4, .int ((1 : Int32) <<< ((r_2 - 1) &&& 31))), (3, .int ((1 : Int32) <<< ((r_2 - 1) &&& 31))), (2, .int ((1 : Int32) <<< ((r_2 - 1) &&& 31))), (0, .ref (ad 11)), (1, .int x1)]) hx hb d_Mods_allow_73 hl (by decide) rfl (fun ls hl => ?_)
            refine lv_iload hx hb d_Mods_allow_75 (lv_at hl 0 rfl) ?_
            refine lv_iconst (v := (-1)) hx hb d_Mods_allow_77 (by decide) ?_
            refine lv_icmp_ne (tgt := 83) hx hb d_Mods_allow_78 (by decide) (fun c => ?_) (fun c => ?_)
            · have h := h.1 c
              refine lv_aload_n hx hb d_Mods_allow_83 rfl (lv_at hl 4 rfl) ?_
              refine lv_iload hx hb d_Mods_allow_84 (lv_at hl 0 rfl) ?_
              refine q_callv (rest := []) (ws' := fun u : tMods => [c_FO ad cA fo, c_FR ad cA fr, c_LR ad cA lr_9, c_MO ad cA u, c_SE ad cA se_9 sk_9 sw_9, c_TR ad cA tr_9].flatten) C0 hH hA (c_Mods_see l dC dI cA ad r_9 mo_1 _ _ h) Y_Mods_see k_408 10 rfl hc_3 (q_pg [3] [0, 1, 2, 4, 5] [0, 1, 2, 5, 3, 4] 6 1 rfl (by decide) rfl (fun _ => rfl) rfl (by decide) (fun _ => rfl)) ⟨Nat.le_of_ble_eq_true rfl, Nat.le_of_ble_eq_true rfl⟩ rfl rfl (Nat.le_of_ble_eq_true rfl) hl.1 d_Mods_allow_86 ⟨Nat.le_refl 0, Nat.le_refl 0⟩ (fun u_10 H locs h hH => ?_)
              obtain ⟨mo_10, rfl⟩ : ∃ z, z = u_10 := ⟨_, rfl⟩
              try dsimp only at h
              have hH : q_H dC dI (va_A ([c_FO ad cA fo, c_FR ad cA fr, c_LR ad cA lr, c_MO ad cA mo, c_SE ad cA se sk sw, c_TR ad cA tr].flatten) s.heap.size) s.heap H locs ([c_FO ad cA fo, c_FR ad cA fr, c_LR ad cA lr_9, c_MO ad cA mo_10, c_SE ad cA se_9 sk_9 sw_9, c_TR ad cA tr_9].flatten) := hH
              refine lv_iconst (v := 1) hx hb d_Mods_allow_89 (by decide) ?_
              exact q_retz C0 hH (lr_9, mo_10, se_9, sk_9, sw_9, tr_9) rfl (Or.inr rfl) h d_Mods_allow_90
            · have h := h.2 c
              refine lv_iconst (v := 0) hx hb d_Mods_allow_81 (by decide) ?_
              exact q_retz C0 hH (lr_9, mo_1, se_9, sk_9, sw_9, tr_9) rfl (Or.inl rfl) h d_Mods_allow_82
          · have h := h.2 c
            refine lv_iconst (v := 1) hx hb d_Mods_allow_61 (by decide) ?_
            exact q_retz C0 hH (lr_1, mo_1, se_1, sk, sw, tr_1) rfl (Or.inr rfl) h d_Mods_allow_62
  · have h := h.2 c
    refine lv_iconst (v := 0) hx hb d_Mods_allow_8 (by decide) ?_
    refine lv_goto (tgt := 20) hx hb d_Mods_allow_9 (by decide) ?_
    refine lv_istore_n (lv' := [(2, .int 0), (0, .ref (ad 11)), (1, .int x1)]) hx hb d_Mods_allow_20 rfl hl (by decide) rfl (fun ls hl => ?_)
    refine lv_iload_n hx hb d_Mods_allow_21 rfl (lv_at hl 2 rfl) ?_
    refine lv_if_le (tgt := 29) hx hb d_Mods_allow_22 (by decide) (fun c => ?_) (fun c => ?_)
    · have h := h.1 c
      refine lv_iconst (v := 0) hx hb d_Mods_allow_29 (by decide) ?_
      refine lv_istore_n (lv' := [(3, .int 0), (2, .int 0), (0, .ref (ad 11)), (1, .int x1)]) hx hb d_Mods_allow_30 rfl hl (by decide) rfl (fun ls hl => ?_)
      refine lv_iload_n hx hb d_Mods_allow_31 rfl (lv_at hl 3 rfl) ?_
      refine lv_if_ge (tgt := 39) hx hb d_Mods_allow_32 (by decide) (fun c => ?_) (fun c => ?_)
      · have h := h.1 c
        refine lv_iconst (v := 0) hx hb d_Mods_allow_39 (by decide) ?_
        refine lv_istore (lv' := [(4, .int 0), (3, .int 0), (2, .int 0), (0, .ref (ad 11)), (1, .int x1)]) hx hb d_Mods_allow_40 hl (by decide) rfl (fun ls hl => ?_)
        refine lv_iload_n hx hb d_Mods_allow_42 rfl (lv_at hl 1 rfl) ?_
        refine lv_aload_n hx hb d_Mods_allow_43 rfl (lv_at hl 3 rfl) ?_
        refine q_get (v := .int mo_1.seenTrue) C0 hH 10 rfl hc_3 4 (by decide) k_160 rfl d_Mods_allow_44 ?_
        refine lv_iand hx hb d_Mods_allow_47 ?_
        refine lv_if_ne (tgt := 61) hx hb d_Mods_allow_48 (by decide) (fun c => ?_) (fun c => ?_)
        · have h := h.1 c
          refine lv_iconst (v := 1) hx hb d_Mods_allow_61 (by decide) ?_
          exact q_retz C0 hH (lr_1, mo_1, se_1, sk, sw, tr_1) rfl (Or.inr rfl) h d_Mods_allow_62
        · have h := h.2 c
          refine lv_iload hx hb d_Mods_allow_51 (lv_at hl 0 rfl) ?_
          refine lv_aload_n hx hb d_Mods_allow_53 rfl (lv_at hl 3 rfl) ?_
          refine q_get (v := .int mo_1.seenFalse) C0 hH 10 rfl hc_3 5 (by decide) k_161 rfl d_Mods_allow_54 ?_
          refine lv_iand hx hb d_Mods_allow_57 ?_
          refine lv_if_eq (tgt := 63) hx hb d_Mods_allow_58 (by decide) (fun c => ?_) (fun c => ?_)
          · have h := h.1 c
            refine lv_aload_n hx hb d_Mods_allow_63 rfl (lv_at hl 3 rfl) ?_
            refine q_get (v := .ref (ad 13)) C0 hH 10 rfl hc_3 1 (by decide) k_156 rfl d_Mods_allow_64 ?_
            refine lv_iload_n hx hb d_Mods_allow_67 rfl (lv_at hl 1 rfl) ?_
            refine lv_iload hx hb d_Mods_allow_68 (lv_at hl 0 rfl) ?_
            refine q_calli (rest := []) (ws' := fun u : tRows × tSear × tClash × (Nat → Int32) × tTrail => [c_FO ad cA fo, c_FR ad cA fr, c_LR ad cA u.1, c_MO ad cA mo_1, c_SE ad cA u.2.1 u.2.2.1 u.2.2.2.1, c_TR ad cA u.2.2.2.2].flatten) C0 hH hA (c_Sear_find l dC dI cA ad 0 0 fo fr lr_1 se_1 sk sw tr_1 _ _ h) Y_Sear_find k_352 12 rfl hc_4 (q_pg [0, 1, 2, 4, 5] [3] [1, 2, 3, 0, 4, 5] 6 5 rfl (by decide) rfl (fun _ => rfl) rfl (by decide) (fun _ => rfl)) ⟨Nat.le_of_ble_eq_true rfl, Nat.le_of_ble_eq_true rfl⟩ rfl rfl (Nat.le_of_ble_eq_true rfl) hl.1 d_Mods_allow_70 ⟨Nat.le_refl 0, Nat.le_refl 0⟩ (fun r_11 u_11 H locs h hH => ?_)
            obtain ⟨lr_11, se_11, sk_11, sw_11, tr_11⟩ := u_11
            try dsimp only at h
            have hH : q_H dC dI (va_A ([c_FO ad cA fo, c_FR ad cA fr, c_LR ad cA lr, c_MO ad cA mo, c_SE ad cA se sk sw, c_TR ad cA tr].flatten) s.heap.size) s.heap H locs ([c_FO ad cA fo, c_FR ad cA fr, c_LR ad cA lr_11, c_MO ad cA mo_1, c_SE ad cA se_11 sk_11 sw_11, c_TR ad cA tr_11].flatten) := hH
            refine lv_istore (lv' := [(5, .int r_11), (4, .int 0), (3, .int 0), (2, .int 0), (0, .ref (ad 11)), (1, .int x1)]) hx hb d_Mods_allow_73 hl (by decide) rfl (fun ls hl => ?_)
            refine lv_iload hx hb d_Mods_allow_75 (lv_at hl 0 rfl) ?_
            refine lv_iconst (v := (-1)) hx hb d_Mods_allow_77 (by decide) ?_
            refine lv_icmp_ne (tgt := 83) hx hb d_Mods_allow_78 (by decide) (fun c => ?_) (fun c => ?_)
            · have h := h.1 c
              refine lv_aload_n hx hb d_Mods_allow_83 rfl (lv_at hl 4 rfl) ?_
              refine lv_iload hx hb d_Mods_allow_84 (lv_at hl 0 rfl) ?_
              refine q_callv (rest := []) (ws' := fun u : tMods => [c_FO ad cA fo, c_FR ad cA fr, c_LR ad cA lr_11, c_MO ad cA u, c_SE ad cA se_11 sk_11 sw_11, c_TR ad cA tr_11].flatten) C0 hH hA (c_Mods_see l dC dI cA ad r_11 mo_1 _ _ h) Y_Mods_see k_408 10 rfl hc_3 (q_pg [3] [0, 1, 2, 4, 5] [0, 1, 2, 5, 3, 4] 6 1 rfl (by decide) rfl (fun _ => rfl) rfl (by decide) (fun _ => rfl)) ⟨Nat.le_of_ble_eq_true rfl, Nat.le_of_ble_eq_true rfl⟩ rfl rfl (Nat.le_of_ble_eq_true rfl) hl.1 d_Mods_allow_86 ⟨Nat.le_refl 0, Nat.le_refl 0⟩ (fun u_12 H locs h hH => ?_)
              obtain ⟨mo_12, rfl⟩ : ∃ z, z = u_12 := ⟨_, rfl⟩
              try dsimp only at h
              have hH : q_H dC dI (va_A ([c_FO ad cA fo, c_FR ad cA fr, c_LR ad cA lr, c_MO ad cA mo, c_SE ad cA se sk sw, c_TR ad cA tr].flatten) s.heap.size) s.heap H locs ([c_FO ad cA fo, c_FR ad cA fr, c_LR ad cA lr_11, c_MO ad cA mo_12, c_SE ad cA se_11 sk_11 sw_11, c_TR ad cA tr_11].flatten) := hH
              refine lv_iconst (v := 1) hx hb d_Mods_allow_89 (by decide) ?_
              exact q_retz C0 hH (lr_11, mo_12, se_11, sk_11, sw_11, tr_11) rfl (Or.inr rfl) h d_Mods_allow_90
            · have h := h.2 c
              refine lv_iconst (v := 0) hx hb d_Mods_allow_81 (by decide) ?_
              exact q_retz C0 hH (lr_11, mo_1, se_11, sk_11, sw_11, tr_11) rfl (Or.inl rfl) h d_Mods_allow_82
          · have h := h.2 c
            refine lv_iconst (v := 1) hx hb d_Mods_allow_61 (by decide) ?_
            exact q_retz C0 hH (lr_1, mo_1, se_1, sk, sw, tr_1) rfl (Or.inr rfl) h d_Mods_allow_62
      · have h := h.2 c
        refine lv_iload_n hx hb d_Mods_allow_35 rfl (lv_at hl 1 rfl) ?_
        refine lv_goto (tgt := 40) hx hb d_Mods_allow_36 (by decide) ?_
        refine lv_istore (lv' := [(4, .int 0), (3, .int 0), (2, .int 0), (0, .ref (ad 11)), (1, .int x1)]) hx hb d_Mods_allow_40 hl (by decide) rfl (fun ls hl => ?_)
        refine lv_iload_n hx hb d_Mods_allow_42 rfl (lv_at hl 1 rfl) ?_
        refine lv_aload_n hx hb d_Mods_allow_43 rfl (lv_at hl 3 rfl) ?_
        refine q_get (v := .int mo_1.seenTrue) C0 hH 10 rfl hc_3 4 (by decide) k_160 rfl d_Mods_allow_44 ?_
        refine lv_iand hx hb d_Mods_allow_47 ?_
        refine lv_if_ne (tgt := 61) hx hb d_Mods_allow_48 (by decide) (fun c => ?_) (fun c => ?_)
        · have h := h.1 c
          refine lv_iconst (v := 1) hx hb d_Mods_allow_61 (by decide) ?_
          exact q_retz C0 hH (lr_1, mo_1, se_1, sk, sw, tr_1) rfl (Or.inr rfl) h d_Mods_allow_62
        · have h := h.2 c
          refine lv_iload hx hb d_Mods_allow_51 (lv_at hl 0 rfl) ?_
          refine lv_aload_n hx hb d_Mods_allow_53 rfl (lv_at hl 3 rfl) ?_
          refine q_get (v := .int mo_1.seenFalse) C0 hH 10 rfl hc_3 5 (by decide) k_161 rfl d_Mods_allow_54 ?_
          refine lv_iand hx hb d_Mods_allow_57 ?_
          refine lv_if_eq (tgt := 63) hx hb d_Mods_allow_58 (by decide) (fun c => ?_) (fun c => ?_)
          · have h := h.1 c
            refine lv_aload_n hx hb d_Mods_allow_63 rfl (lv_at hl 3 rfl) ?_
            refine q_get (v := .ref (ad 13)) C0 hH 10 rfl hc_3 1 (by decide) k_156 rfl d_Mods_allow_64 ?_
            refine lv_iload_n hx hb d_Mods_allow_67 rfl (lv_at hl 1 rfl) ?_
            refine lv_iload hx hb d_Mods_allow_68 (lv_at hl 0 rfl) ?_
            refine q_calli (rest := []) (ws' := fun u : tRows × tSear × tClash × (Nat → Int32) × tTrail => [c_FO ad cA fo, c_FR ad cA fr, c_LR ad cA u.1, c_MO ad cA mo_1, c_SE ad cA u.2.1 u.2.2.1 u.2.2.2.1, c_TR ad cA u.2.2.2.2].flatten) C0 hH hA (c_Sear_find l dC dI cA ad 0 0 fo fr lr_1 se_1 sk sw tr_1 _ _ h) Y_Sear_find k_352 12 rfl hc_4 (q_pg [0, 1, 2, 4, 5] [3] [1, 2, 3, 0, 4, 5] 6 5 rfl (by decide) rfl (fun _ => rfl) rfl (by decide) (fun _ => rfl)) ⟨Nat.le_of_ble_eq_true rfl, Nat.le_of_ble_eq_true rfl⟩ rfl rfl (Nat.le_of_ble_eq_true rfl) hl.1 d_Mods_allow_70 ⟨Nat.le_refl 0, Nat.le_refl 0⟩ (fun r_13 u_13 H locs h hH => ?_)
            obtain ⟨lr_13, se_13, sk_13, sw_13, tr_13⟩ := u_13
            try dsimp only at h
            have hH : q_H dC dI (va_A ([c_FO ad cA fo, c_FR ad cA fr, c_LR ad cA lr, c_MO ad cA mo, c_SE ad cA se sk sw, c_TR ad cA tr].flatten) s.heap.size) s.heap H locs ([c_FO ad cA fo, c_FR ad cA fr, c_LR ad cA lr_13, c_MO ad cA mo_1, c_SE ad cA se_13 sk_13 sw_13, c_TR ad cA tr_13].flatten) := hH
            refine lv_istore (lv' := [(5, .int r_13), (4, .int 0), (3, .int 0), (2, .int 0), (0, .ref (ad 11)), (1, .int x1)]) hx hb d_Mods_allow_73 hl (by decide) rfl (fun ls hl => ?_)
            refine lv_iload hx hb d_Mods_allow_75 (lv_at hl 0 rfl) ?_
            refine lv_iconst (v := (-1)) hx hb d_Mods_allow_77 (by decide) ?_
            refine lv_icmp_ne (tgt := 83) hx hb d_Mods_allow_78 (by decide) (fun c => ?_) (fun c => ?_)
            · have h := h.1 c
              refine lv_aload_n hx hb d_Mods_allow_83 rfl (lv_at hl 4 rfl) ?_
              refine lv_iload hx hb d_Mods_allow_84 (lv_at hl 0 rfl) ?_
              refine q_callv (rest := []) (ws' := fun u : tMods => [c_FO ad cA fo, c_FR ad cA fr, c_LR ad cA lr_13, c_MO ad cA u, c_SE ad cA se_13 sk_13 sw_13, c_TR ad cA tr_13].flatten) C0 hH hA (c_Mods_see l dC dI cA ad r_13 mo_1 _ _ h) Y_Mods_see k_408 10 rfl hc_3 (q_pg [3] [0, 1, 2, 4, 5] [0, 1, 2, 5, 3, 4] 6 1 rfl (by decide) rfl (fun _ => rfl) rfl (by decide) (fun _ => rfl)) ⟨Nat.le_of_ble_eq_true rfl, Nat.le_of_ble_eq_true rfl⟩ rfl rfl (Nat.le_of_ble_eq_true rfl) hl.1 d_Mods_allow_86 ⟨Nat.le_refl 0, Nat.le_refl 0⟩ (fun u_14 H locs h hH => ?_)
              obtain ⟨mo_14, rfl⟩ : ∃ z, z = u_14 := ⟨_, rfl⟩
              try dsimp only at h
              have hH : q_H dC dI (va_A ([c_FO ad cA fo, c_FR ad cA fr, c_LR ad cA lr, c_MO ad cA mo, c_SE ad cA se sk sw, c_TR ad cA tr].flatten) s.heap.size) s.heap H locs ([c_FO ad cA fo, c_FR ad cA fr, c_LR ad cA lr_13, c_MO ad cA mo_14, c_SE ad cA se_13 sk_13 sw_13, c_TR ad cA tr_13].flatten) := hH
              refine lv_iconst (v := 1) hx hb d_Mods_allow_89 (by decide) ?_
              exact q_retz C0 hH (lr_13, mo_14, se_13, sk_13, sw_13, tr_13) rfl (Or.inr rfl) h d_Mods_allow_90
            · have h := h.2 c
              refine lv_iconst (v := 0) hx hb d_Mods_allow_81 (by decide) ?_
              exact q_retz C0 hH (lr_13, mo_1, se_13, sk_13, sw_13, tr_13) rfl (Or.inl rfl) h d_Mods_allow_82
          · have h := h.2 c
            refine lv_iconst (v := 1) hx hb d_Mods_allow_61 (by decide) ?_
            exact q_retz C0 hH (lr_1, mo_1, se_1, sk, sw, tr_1) rfl (Or.inr rfl) h d_Mods_allow_62
    · have h := h.2 c
      refine lv_iload_n hx hb d_Mods_allow_25 rfl (lv_at hl 0 rfl) ?_
      refine lv_goto (tgt := 30) hx hb d_Mods_allow_26 (by decide) ?_
      refine lv_istore_n (lv' := [(3, .int 0), (2, .int 0), (0, .ref (ad 11)), (1, .int x1)]) hx hb d_Mods_allow_30 rfl hl (by decide) rfl (fun ls hl => ?_)
      refine lv_iload_n hx hb d_Mods_allow_31 rfl (lv_at hl 3 rfl) ?_
      refine lv_if_ge (tgt := 39) hx hb d_Mods_allow_32 (by decide) (fun c => ?_) (fun c => ?_)
      · have h := h.1 c
        refine lv_iconst (v := 0) hx hb d_Mods_allow_39 (by decide) ?_
        refine lv_istore (lv' := [(4, .int 0), (3, .int 0), (2, .int 0), (0, .ref (ad 11)), (1, .int x1)]) hx hb d_Mods_allow_40 hl (by decide) rfl (fun ls hl => ?_)
        refine lv_iload_n hx hb d_Mods_allow_42 rfl (lv_at hl 1 rfl) ?_
        refine lv_aload_n hx hb d_Mods_allow_43 rfl (lv_at hl 3 rfl) ?_
        refine q_get (v := .int mo_1.seenTrue) C0 hH 10 rfl hc_3 4 (by decide) k_160 rfl d_Mods_allow_44 ?_
        refine lv_iand hx hb d_Mods_allow_47 ?_
        refine lv_if_ne (tgt := 61) hx hb d_Mods_allow_48 (by decide) (fun c => ?_) (fun c => ?_)
        · have h := h.1 c
          refine lv_iconst (v := 1) hx hb d_Mods_allow_61 (by decide) ?_
          exact q_retz C0 hH (lr_1, mo_1, se_1, sk, sw, tr_1) rfl (Or.inr rfl) h d_Mods_allow_62
        · have h := h.2 c
          refine lv_iload hx hb d_Mods_allow_51 (lv_at hl 0 rfl) ?_
          refine lv_aload_n hx hb d_Mods_allow_53 rfl (lv_at hl 3 rfl) ?_
          refine q_get (v := .int mo_1.seenFalse) C0 hH 10 rfl hc_3 5 (by decide) k_161 rfl d_Mods_allow_54 ?_
          refine lv_iand hx hb d_Mods_allow_57 ?_
          refine lv_if_eq (tgt := 63) hx hb d_Mods_allow_58 (by decide) (fun c => ?_) (fun c => ?_)
          · have h := h.1 c
            refine lv_aload_n hx hb d_Mods_allow_63 rfl (lv_at hl 3 rfl) ?_
            refine q_get (v := .ref (ad 13)) C0 hH 10 rfl hc_3 1 (by decide) k_156 rfl d_Mods_allow_64 ?_
            refine lv_iload_n hx hb d_Mods_allow_67 rfl (lv_at hl 1 rfl) ?_
            refine lv_iload hx hb d_Mods_allow_68 (lv_at hl 0 rfl) ?_
            refine q_calli (rest := []) (ws' := fun u : tRows × tSear × tClash × (Nat → Int32) × tTrail => [c_FO ad cA fo, c_FR ad cA fr, c_LR ad cA u.1, c_MO ad cA mo_1, c_SE ad cA u.2.1 u.2.2.1 u.2.2.2.1, c_TR ad cA u.2.2.2.2].flatten) C0 hH hA (c_Sear_find l dC dI cA ad 0 0 fo fr lr_1 se_1 sk sw tr_1 _ _ h) Y_Sear_find k_352 12 rfl hc_4 (q_pg [0, 1, 2, 4, 5] [3] [1, 2, 3, 0, 4, 5] 6 5 rfl (by decide) rfl (fun _ => rfl) rfl (by decide) (fun _ => rfl)) ⟨Nat.le_of_ble_eq_true rfl, Nat.le_of_ble_eq_true rfl⟩ rfl rfl (Nat.le_of_ble_eq_true rfl) hl.1 d_Mods_allow_70 ⟨Nat.le_refl 0, Nat.le_refl 0⟩ (fun r_15 u_15 H locs h hH => ?_)
            obtain ⟨lr_15, se_15, sk_15, sw_15, tr_15⟩ := u_15
            try dsimp only at h
            have hH : q_H dC dI (va_A ([c_FO ad cA fo, c_FR ad cA fr, c_LR ad cA lr, c_MO ad cA mo, c_SE ad cA se sk sw, c_TR ad cA tr].flatten) s.heap.size) s.heap H locs ([c_FO ad cA fo, c_FR ad cA fr, c_LR ad cA lr_15, c_MO ad cA mo_1, c_SE ad cA se_15 sk_15 sw_15, c_TR ad cA tr_15].flatten) := hH
            refine lv_istore (lv' := [(5, .int r_15), (4, .int 0), (3, .int 0), (2, .int 0), (0, .ref (ad 11)), (1, .int x1)]) hx hb d_Mods_allow_73 hl (by decide) rfl (fun ls hl => ?_)
            refine lv_iload hx hb d_Mods_allow_75 (lv_at hl 0 rfl) ?_
            refine lv_iconst (v := (-1)) hx hb d_Mods_allow_77 (by decide) ?_
            refine lv_icmp_ne (tgt := 83) hx hb d_Mods_allow_78 (by decide) (fun c => ?_) (fun c => ?_)
            · have h := h.1 c
              refine lv_aload_n hx hb d_Mods_allow_83 rfl (lv_at hl 4 rfl) ?_
              refine lv_iload hx hb d_Mods_allow_84 (lv_at hl 0 rfl) ?_
              refine q_callv (rest := []) (ws' := fun u : tMods => [c_FO ad cA fo, c_FR ad cA fr, c_LR ad cA lr_15, c_MO ad cA u, c_SE ad cA se_15 sk_15 sw_15, c_TR ad cA tr_15].flatten) C0 hH hA (c_Mods_see l dC dI cA ad r_15 mo_1 _ _ h) Y_Mods_see k_408 10 rfl hc_3 (q_pg [3] [0, 1, 2, 4, 5] [0, 1, 2, 5, 3, 4] 6 1 rfl (by decide) rfl (fun _ => rfl) rfl (by decide) (fun _ => rfl)) ⟨Nat.le_of_ble_eq_true rfl, Nat.le_of_ble_eq_true rfl⟩ rfl rfl (Nat.le_of_ble_eq_true rfl) hl.1 d_Mods_allow_86 ⟨Nat.le_refl 0, Nat.le_refl 0⟩ (fun u_16 H locs h hH => ?_)
              obtain ⟨mo_16, rfl⟩ : ∃ z, z = u_16 := ⟨_, rfl⟩
              try dsimp only at h
              have hH : q_H dC dI (va_A ([c_FO ad cA fo, c_FR ad cA fr, c_LR ad cA lr, c_MO ad cA mo, c_SE ad cA se sk sw, c_TR ad cA tr].flatten) s.heap.size) s.heap H locs ([c_FO ad cA fo, c_FR ad cA fr, c_LR ad cA lr_15, c_MO ad cA mo_16, c_SE ad cA se_15 sk_15 sw_15, c_TR ad cA tr_15].flatten) := hH
              refine lv_iconst (v := 1) hx hb d_Mods_allow_89 (by decide) ?_
              exact q_retz C0 hH (lr_15, mo_16, se_15, sk_15, sw_15, tr_15) rfl (Or.inr rfl) h d_Mods_allow_90
            · have h := h.2 c
              refine lv_iconst (v := 0) hx hb d_Mods_allow_81 (by decide) ?_
              exact q_retz C0 hH (lr_15, mo_1, se_15, sk_15, sw_15, tr_15) rfl (Or.inl rfl) h d_Mods_allow_82
          · have h := h.2 c
            refine lv_iconst (v := 1) hx hb d_Mods_allow_61 (by decide) ?_
            exact q_retz C0 hH (lr_1, mo_1, se_1, sk, sw, tr_1) rfl (Or.inr rfl) h d_Mods_allow_62
      · have h := h.2 c
        refine lv_iload_n hx hb d_Mods_allow_35 rfl (lv_at hl 1 rfl) ?_
        refine lv_goto (tgt := 40) hx hb d_Mods_allow_36 (by decide) ?_
        refine lv_istore (lv' := [(4, .int 0), (3, .int 0), (2, .int 0), (0, .ref (ad 11)), (1, .int x1)]) hx hb d_Mods_allow_40 hl (by decide) rfl (fun ls hl => ?_)
        refine lv_iload_n hx hb d_Mods_allow_42 rfl (lv_at hl 1 rfl) ?_
        refine lv_aload_n hx hb d_Mods_allow_43 rfl (lv_at hl 3 rfl) ?_
        refine q_get (v := .int mo_1.seenTrue) C0 hH 10 rfl hc_3 4 (by decide) k_160 rfl d_Mods_allow_44 ?_
        refine lv_iand hx hb d_Mods_allow_47 ?_
        refine lv_if_ne (tgt := 61) hx hb d_Mods_allow_48 (by decide) (fun c => ?_) (fun c => ?_)
        · have h := h.1 c
          refine lv_iconst (v := 1) hx hb d_Mods_allow_61 (by decide) ?_
          exact q_retz C0 hH (lr_1, mo_1, se_1, sk, sw, tr_1) rfl (Or.inr rfl) h d_Mods_allow_62
        · have h := h.2 c
          refine lv_iload hx hb d_Mods_allow_51 (lv_at hl 0 rfl) ?_
          refine lv_aload_n hx hb d_Mods_allow_53 rfl (lv_at hl 3 rfl) ?_
          refine q_get (v := .int mo_1.seenFalse) C0 hH 10 rfl hc_3 5 (by decide) k_161 rfl d_Mods_allow_54 ?_
          refine lv_iand hx hb d_Mods_allow_57 ?_
          refine lv_if_eq (tgt := 63) hx hb d_Mods_allow_58 (by decide) (fun c => ?_) (fun c => ?_)
          · have h := h.1 c
            refine lv_aload_n hx hb d_Mods_allow_63 rfl (lv_at hl 3 rfl) ?_
            refine q_get (v := .ref (ad 13)) C0 hH 10 rfl hc_3 1 (by decide) k_156 rfl d_Mods_allow_64 ?_
            refine lv_iload_n hx hb d_Mods_allow_67 rfl (lv_at hl 1 rfl) ?_
            refine lv_iload hx hb d_Mods_allow_68 (lv_at hl 0 rfl) ?_
            refine q_calli (rest := []) (ws' := fun u : tRows × tSear × tClash × (Nat → Int32) × tTrail => [c_FO ad cA fo, c_FR ad cA fr, c_LR ad cA u.1, c_MO ad cA mo_1, c_SE ad cA u.2.1 u.2.2.1 u.2.2.2.1, c_TR ad cA u.2.2.2.2].flatten) C0 hH hA (c_Sear_find l dC dI cA ad 0 0 fo fr lr_1 se_1 sk sw tr_1 _ _ h) Y_Sear_find k_352 12 rfl hc_4 (q_pg [0, 1, 2, 4, 5] [3] [1, 2, 3, 0, 4, 5] 6 5 rfl (by decide) rfl (fun _ => rfl) rfl (by decide) (fun _ => rfl)) ⟨Nat.le_of_ble_eq_true rfl, Nat.le_of_ble_eq_true rfl⟩ rfl rfl (Nat.le_of_ble_eq_true rfl) hl.1 d_Mods_allow_70 ⟨Nat.le_refl 0, Nat.le_refl 0⟩ (fun r_17 u_17 H locs h hH => ?_)
            obtain ⟨lr_17, se_17, sk_17, sw_17, tr_17⟩ := u_17
            try dsimp only at h
            have hH : q_H dC dI (va_A ([c_FO ad cA fo, c_FR ad cA fr, c_LR ad cA lr, c_MO ad cA mo, c_SE ad cA se sk sw, c_TR ad cA tr].flatten) s.heap.size) s.heap H locs ([c_FO ad cA fo, c_FR ad cA fr, c_LR ad cA lr_17, c_MO ad cA mo_1, c_SE ad cA se_17 sk_17 sw_17, c_TR ad cA tr_17].flatten) := hH
            refine lv_istore (lv' := [(5, .int r_17), (4, .int 0), (3, .int 0), (2, .int 0), (0, .ref (ad 11)), (1, .int x1)]) hx hb d_Mods_allow_73 hl (by decide) rfl (fun ls hl => ?_)
            refine lv_iload hx hb d_Mods_allow_75 (lv_at hl 0 rfl) ?_
            refine lv_iconst (v := (-1)) hx hb d_Mods_allow_77 (by decide) ?_
            refine lv_icmp_ne (tgt := 83) hx hb d_Mods_allow_78 (by decide) (fun c => ?_) (fun c => ?_)
            · have h := h.1 c
              refine lv_aload_n hx hb d_Mods_allow_83 rfl (lv_at hl 4 rfl) ?_
              refine lv_iload hx hb d_Mods_allow_84 (lv_at hl 0 rfl) ?_
              refine q_callv (rest := []) (ws' := fun u : tMods => [c_FO ad cA fo, c_FR ad cA fr, c_LR ad cA lr_17, c_MO ad cA u, c_SE ad cA se_17 sk_17 sw_17, c_TR ad cA tr_17].flatten) C0 hH hA (c_Mods_see l dC dI cA ad r_17 mo_1 _ _ h) Y_Mods_see k_408 10 rfl hc_3 (q_pg [3] [0, 1, 2, 4, 5] [0, 1, 2, 5, 3, 4] 6 1 rfl (by decide) rfl (fun _ => rfl) rfl (by decide) (fun _ => rfl)) ⟨Nat.le_of_ble_eq_true rfl, Nat.le_of_ble_eq_true rfl⟩ rfl rfl (Nat.le_of_ble_eq_true rfl) hl.1 d_Mods_allow_86 ⟨Nat.le_refl 0, Nat.le_refl 0⟩ (fun u_18 H locs h hH => ?_)
              obtain ⟨mo_18, rfl⟩ : ∃ z, z = u_18 := ⟨_, rfl⟩
              try dsimp only at h
              have hH : q_H dC dI (va_A ([c_FO ad cA fo, c_FR ad cA fr, c_LR ad cA lr, c_MO ad cA mo, c_SE ad cA se sk sw, c_TR ad cA tr].flatten) s.heap.size) s.heap H locs ([c_FO ad cA fo, c_FR ad cA fr, c_LR ad cA lr_17, c_MO ad cA mo_18, c_SE ad cA se_17 sk_17 sw_17, c_TR ad cA tr_17].flatten) := hH
              refine lv_iconst (v := 1) hx hb d_Mods_allow_89 (by decide) ?_
              exact q_retz C0 hH (lr_17, mo_18, se_17, sk_17, sw_17, tr_17) rfl (Or.inr rfl) h d_Mods_allow_90
            · have h := h.2 c
              refine lv_iconst (v := 0) hx hb d_Mods_allow_81 (by decide) ?_
              exact q_retz C0 hH (lr_17, mo_1, se_17, sk_17, sw_17, tr_17) rfl (Or.inl rfl) h d_Mods_allow_82
          · have h := h.2 c
            refine lv_iconst (v := 1) hx hb d_Mods_allow_61 (by decide) ?_
            exact q_retz C0 hH (lr_1, mo_1, se_1, sk, sw, tr_1) rfl (Or.inr rfl) h d_Mods_allow_62
theorem d_PC_sat_0 : decode b_PC_sat 0 = .ok (.aload_n 0, 1) := by decide +kernel
theorem d_PC_sat_1 : decode b_PC_sat 1 = .ok (.iload_n 1, 1) := by decide +kernel
theorem d_PC_sat_2 : decode b_PC_sat 2 = .ok (.invokevirtual 60, 3) := by decide +kernel
theorem d_PC_sat_5 : decode b_PC_sat 5 = .ok (.ifCond .ne 5, 3) := by decide +kernel
theorem d_PC_sat_8 : decode b_PC_sat 8 = .ok (.iconst (-1), 1) := by decide +kernel
theorem d_PC_sat_9 : decode b_PC_sat 9 = .ok (.ireturn, 1) := by decide +kernel
theorem d_PC_sat_10 : decode b_PC_sat 10 = .ok (.aload_n 0, 1) := by decide +kernel
theorem d_PC_sat_11 : decode b_PC_sat 11 = .ok (.getfield 21, 3) := by decide +kernel
theorem d_PC_sat_14 : decode b_PC_sat 14 = .ok (.iload_n 1, 1) := by decide +kernel
theorem d_PC_sat_15 : decode b_PC_sat 15 = .ok (.invokevirtual 83, 3) := by decide +kernel
theorem d_PC_sat_18 : decode b_PC_sat 18 = .ok (.ifCond .eq 7, 3) := by decide +kernel
theorem d_PC_sat_21 : decode b_PC_sat 21 = .ok (.iconst 1, 1) := by decide +kernel
theorem d_PC_sat_22 : decode b_PC_sat 22 = .ok (.goto 4, 3) := by decide +kernel
theorem d_PC_sat_25 : decode b_PC_sat 25 = .ok (.iconst 0, 1) := by decide +kernel
theorem d_PC_sat_26 : decode b_PC_sat 26 = .ok (.ireturn, 1) := by decide +kernel
set_option maxHeartbeats 4000000 in
set_option maxRecDepth 100000 in
theorem c_PC_sat (l : Launch) (dC : Nat → ClassId) (dI : Nat → Nat → Nat) (cA : ClassId) (ad : Nat → Nat) (x1 : Int32) (fo : tForm) (fr : tRows) (lr : tRows) (mo : tMods) (se : tSear) (sk : tClash) (sw : (Nat → Int32)) (tr : tTrail) (Q : Int32 → tRows → tMods → tSear → tClash → (Nat → Int32) → tTrail → Prop) (sz : Nat) (h : w_PC_sat x1 fo fr lr mo se sk sw tr Q) :
    q_Mi l y_PC_sat b_PC_sat 2 (some .int) 6 144 [.ref (ad 0), .int x1] dC dI cA ([c_PC ad, c_FO ad cA fo, c_FR ad cA fr, c_LR ad cA lr, c_MO ad cA mo, c_SE ad cA se sk sw, c_TR ad cA tr].flatten) (fun u : tRows × tMods × tSear × tClash × (Nat → Int32) × tTrail => [c_PC ad, c_FO ad cA fo, c_FR ad cA fr, c_LR ad cA u.1, c_MO ad cA u.2.1, c_SE ad cA u.2.2.1 u.2.2.2.1 u.2.2.2.2.1, c_TR ad cA u.2.2.2.2.2].flatten) sz (fun r u => Q r u.1 u.2.1 u.2.2.1 u.2.2.2.1 u.2.2.2.2.1 u.2.2.2.2.2) := by
  refine q_meti (plainFor_of_name (by decide +kernel)) (Nat.le_of_ble_eq_true rfl) (fun {p e s m below meth c ls} C0 hl hH => ?_)
  obtain ⟨hx, hb, -⟩ := id C0
  have hA : ∀ q, s.heap.size ≤ q → va_A ([c_PC ad, c_FO ad cA fo, c_FR ad cA fr, c_LR ad cA lr, c_MO ad cA mo, c_SE ad cA se sk sw, c_TR ad cA tr].flatten) s.heap.size q := q_nA
  have hl : lv_has ls 2 [(0, .ref (ad 0)), (1, .int x1)] := hl
  unfold w_PC_sat at h
  refine lv_aload_n hx hb d_PC_sat_0 rfl (lv_at hl 0 rfl) ?_
  refine lv_iload_n hx hb d_PC_sat_1 rfl (lv_at hl 1 rfl) ?_
  refine q_calli (rest := []) (ws' := fun _ : Unit => [c_PC ad, c_FO ad cA fo, c_FR ad cA fr, c_LR ad cA lr, c_MO ad cA mo, c_SE ad cA se sk sw, c_TR ad cA tr].flatten) C0 hH hA (c_PC_isLiteralOrZero l dC dI cA ad x1 fo _ _ h) Y_PC_isLiteralOrZero k_281 0 rfl hc_0 (q_pg [0, 1] [2, 3, 4, 5, 6] [5, 6, 0, 1, 2, 3, 4] 7 2 rfl (by decide) rfl (fun _ => rfl) rfl (by decide) (fun _ => rfl)) ⟨Nat.le_of_ble_eq_true rfl, Nat.le_of_ble_eq_true rfl⟩ rfl rfl (Nat.le_of_ble_eq_true rfl) hl.1 d_PC_sat_2 ⟨Nat.le_refl 0, Nat.le_refl 0⟩ (fun r_1 u_1 H locs h hH => ?_)
  try dsimp only at h
  have hH : q_H dC dI (va_A ([c_PC ad, c_FO ad cA fo, c_FR ad cA fr, c_LR ad cA lr, c_MO ad cA mo, c_SE ad cA se sk sw, c_TR ad cA tr].flatten) s.heap.size) s.heap H locs ([c_PC ad, c_FO ad cA fo, c_FR ad cA fr, c_LR ad cA lr, c_MO ad cA mo, c_SE ad cA se sk sw, c_TR ad cA tr].flatten) := hH
  refine lv_if_ne (tgt := 10) hx hb d_PC_sat_5 (by decide) (fun c => ?_) (fun c => ?_)
  · have h := h.1 c
    refine lv_aload_n hx hb d_PC_sat_10 rfl (lv_at hl 0 rfl) ?_
    refine q_get (v := .ref (ad 11)) C0 hH 0 rfl hc_0 1 (by decide) k_257 rfl d_PC_sat_11 ?_
    refine lv_iload_n hx hb d_PC_sat_14 rfl (lv_at hl 1 rfl) ?_
    refine q_calli (rest := []) (ws' := fun u : tRows × tMods × tSear × tClash × (Nat → Int32) × tTrail => [c_PC ad, c_FO ad cA fo, c_FR ad cA fr, c_LR ad cA u.1, c_MO ad cA u.2.1, c_SE ad cA u.2.2.1 u.2.2.2.1 u.2.2.2.2.1, c_TR ad cA u.2.2.2.2.2].flatten) C0 hH hA (c_Mods_allow l dC dI cA ad x1 fo fr lr mo se sk sw tr _ _ h) Y_Mods_allow k_325 11 rfl hc_3 (q_pg [1, 2, 3, 4, 5, 6] [0] [0, 1, 2, 3, 4, 5, 6] 7 6 rfl (by decide) rfl (fun _ => rfl) rfl (by decide) (fun _ => rfl)) ⟨Nat.le_of_ble_eq_true rfl, Nat.le_of_ble_eq_true rfl⟩ rfl rfl (Nat.le_of_ble_eq_true rfl) hl.1 d_PC_sat_15 ⟨Nat.le_refl 0, Nat.le_refl 0⟩ (fun r_2 u_2 H locs h hH => ?_)
    obtain ⟨lr_2, mo_2, se_2, sk_2, sw_2, tr_2⟩ := u_2
    try dsimp only at h
    have hH : q_H dC dI (va_A ([c_PC ad, c_FO ad cA fo, c_FR ad cA fr, c_LR ad cA lr, c_MO ad cA mo, c_SE ad cA se sk sw, c_TR ad cA tr].flatten) s.heap.size) s.heap H locs ([c_PC ad, c_FO ad cA fo, c_FR ad cA fr, c_LR ad cA lr_2, c_MO ad cA mo_2, c_SE ad cA se_2 sk_2 sw_2, c_TR ad cA tr_2].flatten) := hH
    refine lv_if_eq (tgt := 25) hx hb d_PC_sat_18 (by decide) (fun c => ?_) (fun c => ?_)
    · have h := h.1 c
      refine lv_iconst (v := 0) hx hb d_PC_sat_25 (by decide) ?_
      exact q_reti C0 hH (lr_2, mo_2, se_2, sk_2, sw_2, tr_2) rfl h d_PC_sat_26
    · have h := h.2 c
      refine lv_iconst (v := 1) hx hb d_PC_sat_21 (by decide) ?_
      refine lv_goto (tgt := 26) hx hb d_PC_sat_22 (by decide) ?_
      exact q_reti C0 hH (lr_2, mo_2, se_2, sk_2, sw_2, tr_2) rfl h d_PC_sat_26
  · have h := h.2 c
    refine lv_iconst (v := (-1)) hx hb d_PC_sat_8 (by decide) ?_
    exact q_reti C0 hH (lr, mo, se, sk, sw, tr) rfl h d_PC_sat_9
theorem d_PC_isVariable_0 : decode b_PC_isVariable 0 = .ok (.iload_n 1, 1) := by decide +kernel
theorem d_PC_isVariable_1 : decode b_PC_isVariable 1 = .ok (.iconst 1, 1) := by decide +kernel
theorem d_PC_isVariable_2 : decode b_PC_isVariable 2 = .ok (.if_icmp .lt 18, 3) := by decide +kernel
theorem d_PC_isVariable_5 : decode b_PC_isVariable 5 = .ok (.iload_n 1, 1) := by decide +kernel
theorem d_PC_isVariable_6 : decode b_PC_isVariable 6 = .ok (.aload_n 0, 1) := by decide +kernel
theorem d_PC_isVariable_7 : decode b_PC_isVariable 7 = .ok (.getfield 12, 3) := by decide +kernel
theorem d_PC_isVariable_10 : decode b_PC_isVariable 10 = .ok (.getfield 51, 3) := by decide +kernel
theorem d_PC_isVariable_13 : decode b_PC_isVariable 13 = .ok (.if_icmp .gt 7, 3) := by decide +kernel
theorem d_PC_isVariable_16 : decode b_PC_isVariable 16 = .ok (.iconst 1, 1) := by decide +kernel
theorem d_PC_isVariable_17 : decode b_PC_isVariable 17 = .ok (.goto 4, 3) := by decide +kernel
theorem d_PC_isVariable_20 : decode b_PC_isVariable 20 = .ok (.iconst 0, 1) := by decide +kernel
theorem d_PC_isVariable_21 : decode b_PC_isVariable 21 = .ok (.ireturn, 1) := by decide +kernel
set_option maxHeartbeats 4000000 in
set_option maxRecDepth 100000 in
theorem c_PC_isVariable (l : Launch) (dC : Nat → ClassId) (dI : Nat → Nat → Nat) (cA : ClassId) (ad : Nat → Nat) (x1 : Int32) (fo : tForm) (Q : Int32 → Prop) (sz : Nat) (h : w_PC_isVariable x1 fo Q) :
    q_Mi l y_PC_isVariable b_PC_isVariable 2 (some .boolean) 0 0 [.ref (ad 0), .int x1] dC dI cA ([c_PC ad, c_FO ad cA fo].flatten) (fun _ : Unit => [c_PC ad, c_FO ad cA fo].flatten) sz (fun r _ => Q r) := by
  refine q_meti (plainFor_of_name (by decide +kernel)) (Nat.le_of_ble_eq_true rfl) (fun {p e s m below meth c ls} C0 hl hH => ?_)
  obtain ⟨hx, hb, -⟩ := id C0
  have hA : ∀ q, s.heap.size ≤ q → va_A ([c_PC ad, c_FO ad cA fo].flatten) s.heap.size q := q_nA
  have hl : lv_has ls 2 [(0, .ref (ad 0)), (1, .int x1)] := hl
  unfold w_PC_isVariable at h
  refine lv_iload_n hx hb d_PC_isVariable_0 rfl (lv_at hl 1 rfl) ?_
  refine lv_iconst (v := 1) hx hb d_PC_isVariable_1 (by decide) ?_
  refine lv_icmp_lt (tgt := 20) hx hb d_PC_isVariable_2 (by decide) (fun c => ?_) (fun c => ?_)
  · have h := h.1 c
    refine lv_iconst (v := 0) hx hb d_PC_isVariable_20 (by decide) ?_
    exact q_retz C0 hH () rfl (Or.inl rfl) h d_PC_isVariable_21
  · have h := h.2 c
    refine lv_iload_n hx hb d_PC_isVariable_5 rfl (lv_at hl 1 rfl) ?_
    refine lv_aload_n hx hb d_PC_isVariable_6 rfl (lv_at hl 0 rfl) ?_
    refine q_get (v := .ref (ad 1)) C0 hH 0 rfl hc_0 0 (by decide) k_256 rfl d_PC_isVariable_7 ?_
    refine q_get (v := .int fo.width) C0 hH 1 rfl hc_1 0 (by decide) k_52 rfl d_PC_isVariable_10 ?_
    refine lv_icmp_gt (tgt := 20) hx hb d_PC_isVariable_13 (by decide) (fun c => ?_) (fun c => ?_)
    · have h := h.1 c
      refine lv_iconst (v := 0) hx hb d_PC_isVariable_20 (by decide) ?_
      exact q_retz C0 hH () rfl (Or.inl rfl) h d_PC_isVariable_21
    · have h := h.2 c
      refine lv_iconst (v := 1) hx hb d_PC_isVariable_16 (by decide) ?_
      refine lv_goto (tgt := 21) hx hb d_PC_isVariable_17 (by decide) ?_
      exact q_retz C0 hH () rfl (Or.inr rfl) h d_PC_isVariable_21
theorem d_Mods_least_0 : decode b_Mods_least 0 = .ok (.iload_n 1, 1) := by decide +kernel
theorem d_Mods_least_1 : decode b_Mods_least 1 = .ok (.istore_n 3, 1) := by decide +kernel
theorem d_Mods_least_2 : decode b_Mods_least 2 = .ok (.iload_n 2, 1) := by decide +kernel
theorem d_Mods_least_3 : decode b_Mods_least 3 = .ok (.istore 4, 2) := by decide +kernel
theorem d_Mods_least_5 : decode b_Mods_least 5 = .ok (.iload 4, 2) := by decide +kernel
theorem d_Mods_least_7 : decode b_Mods_least 7 = .ok (.aload_n 0, 1) := by decide +kernel
theorem d_Mods_least_8 : decode b_Mods_least 8 = .ok (.getfield 15, 3) := by decide +kernel
theorem d_Mods_least_11 : decode b_Mods_least 11 = .ok (.getfield 76, 3) := by decide +kernel
theorem d_Mods_least_14 : decode b_Mods_least 14 = .ok (.if_icmp .ge 63, 3) := by decide +kernel
theorem d_Mods_least_17 : decode b_Mods_least 17 = .ok (.iconst 1, 1) := by decide +kernel
theorem d_Mods_least_18 : decode b_Mods_least 18 = .ok (.iload 4, 2) := by decide +kernel
theorem d_Mods_least_20 : decode b_Mods_least 20 = .ok (.ishl, 1) := by decide +kernel
theorem d_Mods_least_21 : decode b_Mods_least 21 = .ok (.istore 5, 2) := by decide +kernel
theorem d_Mods_least_23 : decode b_Mods_least 23 = .ok (.iload_n 3, 1) := by decide +kernel
theorem d_Mods_least_24 : decode b_Mods_least 24 = .ok (.iload 5, 2) := by decide +kernel
theorem d_Mods_least_26 : decode b_Mods_least 26 = .ok (.iand, 1) := by decide +kernel
theorem d_Mods_least_27 : decode b_Mods_least 27 = .ok (.ifCond .eq 44, 3) := by decide +kernel
theorem d_Mods_least_30 : decode b_Mods_least 30 = .ok (.iload 5, 2) := by decide +kernel
theorem d_Mods_least_32 : decode b_Mods_least 32 = .ok (.iconst 1, 1) := by decide +kernel
theorem d_Mods_least_33 : decode b_Mods_least 33 = .ok (.isub, 1) := by decide +kernel
theorem d_Mods_least_34 : decode b_Mods_least 34 = .ok (.istore 6, 2) := by decide +kernel
theorem d_Mods_least_36 : decode b_Mods_least 36 = .ok (.aload_n 0, 1) := by decide +kernel
theorem d_Mods_least_37 : decode b_Mods_least 37 = .ok (.getfield 24, 3) := by decide +kernel
theorem d_Mods_least_40 : decode b_Mods_least 40 = .ok (.iload_n 3, 1) := by decide +kernel
theorem d_Mods_least_41 : decode b_Mods_least 41 = .ok (.iload 6, 2) := by decide +kernel
theorem d_Mods_least_43 : decode b_Mods_least 43 = .ok (.iand, 1) := by decide +kernel
theorem d_Mods_least_44 : decode b_Mods_least 44 = .ok (.iload_n 3, 1) := by decide +kernel
theorem d_Mods_least_45 : decode b_Mods_least 45 = .ok (.iconst (-1), 1) := by decide +kernel
theorem d_Mods_least_46 : decode b_Mods_least 46 = .ok (.ixor, 1) := by decide +kernel
theorem d_Mods_least_47 : decode b_Mods_least 47 = .ok (.iload 6, 2) := by decide +kernel
theorem d_Mods_least_49 : decode b_Mods_least 49 = .ok (.iand, 1) := by decide +kernel
theorem d_Mods_least_50 : decode b_Mods_least 50 = .ok (.iload 5, 2) := by decide +kernel
theorem d_Mods_least_52 : decode b_Mods_least 52 = .ok (.ior, 1) := by decide +kernel
theorem d_Mods_least_53 : decode b_Mods_least 53 = .ok (.invokevirtual 59, 3) := by decide +kernel
theorem d_Mods_least_56 : decode b_Mods_least 56 = .ok (.istore 7, 2) := by decide +kernel
theorem d_Mods_least_58 : decode b_Mods_least 58 = .ok (.iload 7, 2) := by decide +kernel
theorem d_Mods_least_60 : decode b_Mods_least 60 = .ok (.iconst (-1), 1) := by decide +kernel
theorem d_Mods_least_61 : decode b_Mods_least 61 = .ok (.if_icmp .ne 7, 3) := by decide +kernel
theorem d_Mods_least_64 : decode b_Mods_least 64 = .ok (.iload_n 3, 1) := by decide +kernel
theorem d_Mods_least_65 : decode b_Mods_least 65 = .ok (.goto 5, 3) := by decide +kernel
theorem d_Mods_least_68 : decode b_Mods_least 68 = .ok (.iload 7, 2) := by decide +kernel
theorem d_Mods_least_70 : decode b_Mods_least 70 = .ok (.istore_n 3, 1) := by decide +kernel
theorem d_Mods_least_71 : decode b_Mods_least 71 = .ok (.iinc 4 1, 3) := by decide +kernel
theorem d_Mods_least_74 : decode b_Mods_least 74 = .ok (.goto (-69), 3) := by decide +kernel
theorem d_Mods_least_77 : decode b_Mods_least 77 = .ok (.iload_n 3, 1) := by decide +kernel
theorem d_Mods_least_78 : decode b_Mods_least 78 = .ok (.ireturn, 1) := by decide +kernel
set_option maxHeartbeats 4000000 in
set_option maxRecDepth 100000 in
theorem x_Mods_least_L5 {p : Program} {e : Env} {s : State} {m : MethodId} {args : Array Value} {below : List Frame} {meth : Method} {c : Code} {l : Launch} {dC : Nat → ClassId} {dI : Nat → Nat → Nat} {cA : ClassId} {ad : Nat → Nat} {w0 : va_W} (C0 : q_C p s m args meth c b_Mods_least 8 (some .int) "PlanClauses$Models" dC dI cA) (hA : ∀ q, s.heap.size ≤ q → va_A w0 s.heap.size q) (fo : tForm) (fr : tRows) (mo : tMods) {Q : Int32 → tRows → tSear → tClash → (Nat → Int32) → tTrail → Prop} {K77 : Int32 → tRows → tSear → tClash → (Nat → Int32) → tTrail → Prop}
    (hK77 : ∀ (x3 : Int32) (lr : tRows) (se : tSear) (sk : tClash) (sw : (Nat → Int32)) (tr : tTrail) (H : Heap) (locs : List Loc) (ls : Array Slot), K77 x3 lr se sk sw tr → lv_has ls 8 [(3, .int x3)] → q_H dC dI (va_A w0 s.heap.size) s.heap H locs ([c_FO ad cA fo, c_FR ad cA fr, c_LR ad cA lr, c_MO ad cA mo, c_SE ad cA se sk sw, c_TR ad cA tr].flatten) → W p l e (q_R 5 119) s m args below meth c H locs 0 0 (q_Zi below args s dC dI cA w0 (fun u : tRows × tSear × tClash × (Nat → Int32) × tTrail => [c_FO ad cA fo, c_FR ad cA fr, c_LR ad cA u.1, c_MO ad cA mo, c_SE ad cA u.2.1 u.2.2.1 u.2.2.2.1, c_TR ad cA u.2.2.2.2].flatten) (fun r u => Q r u.1 u.2.1 u.2.2.1 u.2.2.2.1 u.2.2.2.2)) (F0 m 77 ls [])) :
    ∀ (nn : Nat) (x3 : Int32) (x4 : Int32) (lr : tRows) (se : tSear) (sk : tClash) (sw : (Nat → Int32)) (tr : tTrail) (H : Heap) (locs : List Loc) (ls : Array Slot), w_Mods_least_L5 fo fr K77 nn x3 x4 lr se sk sw tr → lv_has ls 8 [(0, .ref (ad 11)), (3, .int x3), (4, .int x4)] → q_H dC dI (va_A w0 s.heap.size) s.heap H locs ([c_FO ad cA fo, c_FR ad cA fr, c_LR ad cA lr, c_MO ad cA mo, c_SE ad cA se sk sw, c_TR ad cA tr].flatten) → W p l e (q_R 5 119) s m args below meth c H locs 0 0 (q_Zi below args s dC dI cA w0 (fun u : tRows × tSear × tClash × (Nat → Int32) × tTrail => [c_FO ad cA fo, c_FR ad cA fr, c_LR ad cA u.1, c_MO ad cA mo, c_SE ad cA u.2.1 u.2.2.1 u.2.2.2.1, c_TR ad cA u.2.2.2.2].flatten) (fun r u => Q r u.1 u.2.1 u.2.2.1 u.2.2.2.1 u.2.2.2.2)) (F0 m 5 ls []) := by
  obtain ⟨hx, hb, -⟩ := id C0
  intro nn
  induction nn with
  | zero =>
    intro x3 x4 lr se sk sw tr H locs ls h
    exact (show False from h).elim
  | succ nn ih =>
    intro x3 x4 lr se sk sw tr H locs ls h hl hH
    rw [w_Mods_least_L5] at h
    refine lv_iload hx hb d_Mods_least_5 (lv_at hl 2 rfl) ?_
    refine lv_aload_n hx hb d_Mods_least_7 rfl (lv_at hl 0 rfl) ?_
    refine q_get (v := .ref (ad 1)) C0 hH 10 rfl hc_3 0 (by decide) k_155 rfl d_Mods_least_8 ?_
    refine q_get (v := .int fo.width) C0 hH 0 rfl hc_1 0 (by decide) k_53 rfl d_Mods_least_11 ?_
    refine lv_icmp_ge (tgt := 77) hx hb d_Mods_least_14 (by decide) (fun c => ?_) (fun c => ?_)
    · have h := h.1 c
      exact hK77 x3 lr se sk sw tr _ _ _ h (lv_sub hl [1] rfl) hH
    · have h := h.2 c
      refine lv_iconst (v := 1) hx hb d_Mods_least_17 (by decide) ?_
      refine lv_iload hx hb d_Mods_least_18 (lv_at hl 2 rfl) ?_
      refine lv_ishl hx hb d_Mods_least_20 ?_
      refine lv_istore (lv' := [(5, .int ((1 : Int32) <<< (x4 &&& 31))), (0, .ref (ad 11)), (3, .int x3), (4, .int x4)]) hx hb d_Mods_least_21 hl (by decide) rfl (fun ls hl => ?_)
      refine lv_iload_n hx hb d_Mods_least_23 rfl (lv_at hl 2 rfl) ?_
      refine lv_iload hx hb d_Mods_least_24 (lv_at hl 0 rfl) ?_
      refine lv_iand hx hb d_Mods_least_26 ?_
      refine lv_if_eq (tgt := 71) hx hb d_Mods_least_27 (by decide) (fun c => ?_) (fun c => ?_)
      · have h := h.1 c
        refine lv_iinc (v := (x4 + 1)) (lv' := [(4, .int (x4 + 1)), (5, .int ((1 : Int32) <<< (x4 &&& 31))), (0, .ref (ad 11)), (3, .int x3)]) hx hb d_Mods_least_71 hl (k := 3) rfl rfl (by decide) rfl (fun ls hl => ?_)
        refine lv_goto (tgt := 5) hx hb d_Mods_least_74 (by decide) ?_
        exact ih x3 (x4 + 1) lr se sk sw tr _ _ _ h (lv_sub hl [2, 3, 0] rfl) hH
      · have h := h.2 c
        refine lv_iload hx hb d_Mods_least_30 (lv_at hl 0 rfl) ?_
        refine lv_iconst (v := 1) hx hb d_Mods_least_32 (by decide) ?_
        refine lv_isub hx hb d_Mods_least_33 ?_
        refine lv_istore (lv' := [(6, .int (((1 : Int32) <<< (x4 &&& 31)) - 1)), (5, .int ((1 : Int32) <<< (x4 &&& 31))), (0, .ref (ad 11)), (3, .int x3), (4, .int x4)]) hx hb d_Mods_least_34 hl (by decide) rfl (fun ls hl => ?_)
        refine lv_aload_n hx hb d_Mods_least_36 rfl (lv_at hl 2 rfl) ?_
        refine q_get (v := .ref (ad 13)) C0 hH 10 rfl hc_3 1 (by decide) k_156 rfl d_Mods_least_37 ?_
        refine lv_iload_n hx hb d_Mods_least_40 rfl (lv_at hl 3 rfl) ?_
        refine lv_iload hx hb d_Mods_least_41 (lv_at hl 0 rfl) ?_
        refine lv_iand hx hb d_Mods_least_43 ?_
        refine lv_iload_n hx hb d_Mods_least_44 rfl (lv_at hl 3 rfl) ?_
        refine lv_iconst (v := (-1)) hx hb d_Mods_least_45 (by decide) ?_
        refine lv_ixor hx hb d_Mods_least_46 ?_
        refine lv_iload hx hb d_Mods_least_47 (lv_at hl 0 rfl) ?_
        refine lv_iand hx hb d_Mods_least_49 ?_
        refine lv_iload hx hb d_Mods_least_50 (lv_at hl 1 rfl) ?_
        refine lv_ior hx hb d_Mods_least_52 ?_
        refine q_calli (rest := []) (ws' := fun u : tRows × tSear × tClash × (Nat → Int32) × tTrail => [c_FO ad cA fo, c_FR ad cA fr, c_LR ad cA u.1, c_MO ad cA mo, c_SE ad cA u.2.1 u.2.2.1 u.2.2.2.1, c_TR ad cA u.2.2.2.2].flatten) C0 hH hA (c_Sear_find l dC dI cA ad (x3 &&& (((1 : Int32) <<< (x4 &&& 31)) - 1)) (((x3 ^^^ (-1)) &&& (((1 : Int32) <<< (x4 &&& 31)) - 1)) ||| ((1 : Int32) <<< (x4 &&& 31))) fo fr lr se sk sw tr _ _ h) Y_Sear_find k_352 12 rfl hc_4 (q_pg [0, 1, 2, 4, 5] [3] [1, 2, 3, 0, 4, 5] 6 5 rfl (by decide) rfl (fun _ => rfl) rfl (by decide) (fun _ => rfl)) ⟨Nat.le_of_ble_eq_true rfl, Nat.le_of_ble_eq_true rfl⟩ rfl rfl (Nat.le_of_ble_eq_true rfl) hl.1 d_Mods_least_53 ⟨Nat.le_refl 0, Nat.le_refl 0⟩ (fun r_1 u_1 H locs h hH => ?_)
        obtain ⟨lr_1, se_1, sk_1, sw_1, tr_1⟩ := u_1
        try dsimp only at h
        have hH : q_H dC dI (va_A w0 s.heap.size) s.heap H locs ([c_FO ad cA fo, c_FR ad cA fr, c_LR ad cA lr_1, c_MO ad cA mo, c_SE ad cA se_1 sk_1 sw_1, c_TR ad cA tr_1].flatten) := hH
        refine lv_istore (lv' := [(7, .int r_1), (6, .int (((1 : Int32) <<< (x4 &&& 31)) - 1)), (5, .int ((1 : Int32) <<< (x4 &&& 31))), (0, .ref (ad 11)), (3, .int x3), (4, .int x4)]) hx hb d_Mods_least_56 hl (by decide) rfl (fun ls hl => ?_)
        refine lv_iload hx hb d_Mods_least_58 (lv_at hl 0 rfl) ?_
        refine lv_iconst (v := (-1)) hx hb d_Mods_least_60 (by decide) ?_
        refine lv_icmp_ne (tgt := 68) hx hb d_Mods_least_61 (by decide) (fun c => ?_) (fun c => ?_)
        · have h := h.1 c
          refine lv_iload hx hb d_Mods_least_68 (lv_at hl 0 rfl) ?_
          refine lv_istore_n (lv' := [(3, .int r_1), (7, .int r_1), (6, .int (((1 : Int32) <<< (x4 &&& 31)) - 1)), (5, .int ((1 : Int32) <<< (x4 &&& 31))), (0, .ref (ad 11)), (4, .int x4)]) hx hb d_Mods_least_70 rfl hl (by decide) rfl (fun ls hl => ?_)
          refine lv_iinc (v := (x4 + 1)) (lv' := [(4, .int (x4 + 1)), (3, .int r_1), (7, .int r_1), (6, .int (((1 : Int32) <<< (x4 &&& 31)) - 1)), (5, .int ((1 : Int32) <<< (x4 &&& 31))), (0, .ref (ad 11))]) hx hb d_Mods_least_71 hl (k := 5) rfl rfl (by decide) rfl (fun ls hl => ?_)
          refine lv_goto (tgt := 5) hx hb d_Mods_least_74 (by decide) ?_
          exact ih r_1 (x4 + 1) lr_1 se_1 sk_1 sw_1 tr_1 _ _ _ h (lv_sub hl [5, 1, 0] rfl) hH
        · have h := h.2 c
          refine lv_iload_n hx hb d_Mods_least_64 rfl (lv_at hl 4 rfl) ?_
          refine lv_goto (tgt := 70) hx hb d_Mods_least_65 (by decide) ?_
          refine lv_istore_n (lv' := [(3, .int x3), (7, .int r_1), (6, .int (((1 : Int32) <<< (x4 &&& 31)) - 1)), (5, .int ((1 : Int32) <<< (x4 &&& 31))), (0, .ref (ad 11)), (4, .int x4)]) hx hb d_Mods_least_70 rfl hl (by decide) rfl (fun ls hl => ?_)
          refine lv_iinc (v := (x4 + 1)) (lv' := [(4, .int (x4 + 1)), (3, .int x3), (7, .int r_1), (6, .int (((1 : Int32) <<< (x4 &&& 31)) - 1)), (5, .int ((1 : Int32) <<< (x4 &&& 31))), (0, .ref (ad 11))]) hx hb d_Mods_least_71 hl (k := 5) rfl rfl (by decide) rfl (fun ls hl => ?_)
          refine lv_goto (tgt := 5) hx hb d_Mods_least_74 (by decide) ?_
          exact ih x3 (x4 + 1) lr_1 se_1 sk_1 sw_1 tr_1 _ _ _ h (lv_sub hl [5, 1, 0] rfl) hH
set_option maxHeartbeats 4000000 in
set_option maxRecDepth 100000 in
theorem c_Mods_least (l : Launch) (dC : Nat → ClassId) (dI : Nat → Nat → Nat) (cA : ClassId) (ad : Nat → Nat) (x1 : Int32) (x2 : Int32) (fo : tForm) (fr : tRows) (lr : tRows) (mo : tMods) (se : tSear) (sk : tClash) (sw : (Nat → Int32)) (tr : tTrail) (Q : Int32 → tRows → tSear → tClash → (Nat → Int32) → tTrail → Prop) (sz : Nat) (h : w_Mods_least x1 x2 fo fr lr se sk sw tr Q) :
    q_Mi l y_Mods_least b_Mods_least 8 (some .int) 5 119 [.ref (ad 11), .int x1, .int x2] dC dI cA ([c_FO ad cA fo, c_FR ad cA fr, c_LR ad cA lr, c_MO ad cA mo, c_SE ad cA se sk sw, c_TR ad cA tr].flatten) (fun u : tRows × tSear × tClash × (Nat → Int32) × tTrail => [c_FO ad cA fo, c_FR ad cA fr, c_LR ad cA u.1, c_MO ad cA mo, c_SE ad cA u.2.1 u.2.2.1 u.2.2.2.1, c_TR ad cA u.2.2.2.2].flatten) sz (fun r u => Q r u.1 u.2.1 u.2.2.1 u.2.2.2.1 u.2.2.2.2) := by
  refine q_meti (plainFor_of_name (by decide +kernel)) (Nat.le_of_ble_eq_true rfl) (fun {p e s m below meth c ls} C0 hl hH => ?_)
  obtain ⟨hx, hb, -⟩ := id C0
  have hA : ∀ q, s.heap.size ≤ q → va_A ([c_FO ad cA fo, c_FR ad cA fr, c_LR ad cA lr, c_MO ad cA mo, c_SE ad cA se sk sw, c_TR ad cA tr].flatten) s.heap.size q := q_nA
  have hl : lv_has ls 8 [(0, .ref (ad 11)), (1, .int x1), (2, .int x2)] := hl
  unfold w_Mods_least at h
  refine lv_iload_n hx hb d_Mods_least_0 rfl (lv_at hl 1 rfl) ?_
  refine lv_istore_n (lv' := [(3, .int x1), (0, .ref (ad 11)), (1, .int x1), (2, .int x2)]) hx hb d_Mods_least_1 rfl hl (by decide) rfl (fun ls hl => ?_)
  refine lv_iload_n hx hb d_Mods_least_2 rfl (lv_at hl 3 rfl) ?_
  refine lv_istore (lv' := [(4, .int x2), (3, .int x1), (0, .ref (ad 11)), (1, .int x1), (2, .int x2)]) hx hb d_Mods_least_3 hl (by decide) rfl (fun ls hl => ?_)
  obtain ⟨nn, h⟩ := h
  refine x_Mods_least_L5 C0 hA fo fr mo ?_ nn x1 x2 lr se sk sw tr _ _ _ h (lv_sub hl [2, 1, 0] rfl) hH
  · intro x3_1 lr_1 se_1 sk_1 sw_1 tr_1 H locs ls h hl hH
    try dsimp only at h
    refine lv_iload_n hx hb d_Mods_least_77 rfl (lv_at hl 0 rfl) ?_
    exact q_reti C0 hH (lr_1, se_1, sk_1, sw_1, tr_1) rfl h d_Mods_least_78
