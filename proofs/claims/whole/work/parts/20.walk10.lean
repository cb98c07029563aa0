theorem d_Ref_codes_0 : decode b_Ref_codes 0 = .ok (.aload_n 0, 1) := by decide +kernel
theorem d_Ref_codes_1 : decode b_Ref_codes 1 = .ok (.iconst 0, 1) := by decide +kernel
theorem d_Ref_codes_2 : decode b_Ref_codes 2 = .ok (.putfield 156, 3) := by decide +kernel
theorem d_Ref_codes_5 : decode b_Ref_codes 5 = .ok (.aload_n 0, 1) := by decide +kernel
theorem d_Ref_codes_6 : decode b_Ref_codes 6 = .ok (.iconst 0, 1) := by decide +kernel
theorem d_Ref_codes_7 : decode b_Ref_codes 7 = .ok (.putfield 165, 3) := by decide +kernel
theorem d_Ref_codes_10 : decode b_Ref_codes 10 = .ok (.aload_n 0, 1) := by decide +kernel
theorem d_Ref_codes_11 : decode b_Ref_codes 11 = .ok (.iload_n 2, 1) := by decide +kernel
theorem d_Ref_codes_12 : decode b_Ref_codes 12 = .ok (.putfield 159, 3) := by decide +kernel
theorem d_Ref_codes_15 : decode b_Ref_codes 15 = .ok (.aload_n 0, 1) := by decide +kernel
theorem d_Ref_codes_16 : decode b_Ref_codes 16 = .ok (.iconst 0, 1) := by decide +kernel
theorem d_Ref_codes_17 : decode b_Ref_codes 17 = .ok (.putfield 168, 3) := by decide +kernel
theorem d_Ref_codes_20 : decode b_Ref_codes 20 = .ok (.aload_n 0, 1) := by decide +kernel
theorem d_Ref_codes_21 : decode b_Ref_codes 21 = .ok (.iconst 0, 1) := by decide +kernel
theorem d_Ref_codes_22 : decode b_Ref_codes 22 = .ok (.putfield 162, 3) := by decide +kernel
theorem d_Ref_codes_25 : decode b_Ref_codes 25 = .ok (.iconst 0, 1) := by decide +kernel
theorem d_Ref_codes_26 : decode b_Ref_codes 26 = .ok (.istore_n 3, 1) := by decide +kernel
theorem d_Ref_codes_27 : decode b_Ref_codes 27 = .ok (.iload_n 3, 1) := by decide +kernel
theorem d_Ref_codes_28 : decode b_Ref_codes 28 = .ok (.aload_n 0, 1) := by decide +kernel
theorem d_Ref_codes_29 : decode b_Ref_codes 29 = .ok (.getfield 118, 3) := by decide +kernel
theorem d_Ref_codes_32 : decode b_Ref_codes 32 = .ok (.if_icmp .ge 45, 3) := by decide +kernel
theorem d_Ref_codes_35 : decode b_Ref_codes 35 = .ok (.aload_n 0, 1) := by decide +kernel
theorem d_Ref_codes_36 : decode b_Ref_codes 36 = .ok (.aload_n 0, 1) := by decide +kernel
theorem d_Ref_codes_37 : decode b_Ref_codes 37 = .ok (.getfield 124, 3) := by decide +kernel
theorem d_Ref_codes_40 : decode b_Ref_codes 40 = .ok (.iload_n 3, 1) := by decide +kernel
theorem d_Ref_codes_41 : decode b_Ref_codes 41 = .ok (.ishr, 1) := by decide +kernel
theorem d_Ref_codes_42 : decode b_Ref_codes 42 = .ok (.iconst 1, 1) := by decide +kernel
theorem d_Ref_codes_43 : decode b_Ref_codes 43 = .ok (.iand, 1) := by decide +kernel
theorem d_Ref_codes_44 : decode b_Ref_codes 44 = .ok (.iconst 1, 1) := by decide +kernel
theorem d_Ref_codes_45 : decode b_Ref_codes 45 = .ok (.if_icmp .ne 12, 3) := by decide +kernel
theorem d_Ref_codes_48 : decode b_Ref_codes 48 = .ok (.aload_n 0, 1) := by decide +kernel
theorem d_Ref_codes_49 : decode b_Ref_codes 49 = .ok (.iload_n 3, 1) := by decide +kernel
theorem d_Ref_codes_50 : decode b_Ref_codes 50 = .ok (.iconst 0, 1) := by decide +kernel
theorem d_Ref_codes_51 : decode b_Ref_codes 51 = .ok (.invokevirtual 178, 3) := by decide +kernel
theorem d_Ref_codes_54 : decode b_Ref_codes 54 = .ok (.goto 10, 3) := by decide +kernel
theorem d_Ref_codes_57 : decode b_Ref_codes 57 = .ok (.aload_n 0, 1) := by decide +kernel
theorem d_Ref_codes_58 : decode b_Ref_codes 58 = .ok (.iload_n 3, 1) := by decide +kernel
theorem d_Ref_codes_59 : decode b_Ref_codes 59 = .ok (.iconst 0, 1) := by decide +kernel
theorem d_Ref_codes_60 : decode b_Ref_codes 60 = .ok (.invokevirtual 178, 3) := by decide +kernel
theorem d_Ref_codes_63 : decode b_Ref_codes 63 = .ok (.ineg, 1) := by decide +kernel
theorem d_Ref_codes_64 : decode b_Ref_codes 64 = .ok (.invokevirtual 175, 3) := by decide +kernel
theorem d_Ref_codes_67 : decode b_Ref_codes 67 = .ok (.aload_n 0, 1) := by decide +kernel
theorem d_Ref_codes_68 : decode b_Ref_codes 68 = .ok (.invokevirtual 181, 3) := by decide +kernel
theorem d_Ref_codes_71 : decode b_Ref_codes 71 = .ok (.iinc 3 1, 3) := by decide +kernel
theorem d_Ref_codes_74 : decode b_Ref_codes 74 = .ok (.goto (-47), 3) := by decide +kernel
theorem d_Ref_codes_77 : decode b_Ref_codes 77 = .ok (.iconst 0, 1) := by decide +kernel
theorem d_Ref_codes_78 : decode b_Ref_codes 78 = .ok (.istore_n 3, 1) := by decide +kernel
theorem d_Ref_codes_79 : decode b_Ref_codes 79 = .ok (.iload_n 3, 1) := by decide +kernel
theorem d_Ref_codes_80 : decode b_Ref_codes 80 = .ok (.aload_n 0, 1) := by decide +kernel
theorem d_Ref_codes_81 : decode b_Ref_codes 81 = .ok (.getfield 118, 3) := by decide +kernel
theorem d_Ref_codes_84 : decode b_Ref_codes 84 = .ok (.if_icmp .ge 35, 3) := by decide +kernel
theorem d_Ref_codes_87 : decode b_Ref_codes 87 = .ok (.aload_n 0, 1) := by decide +kernel
theorem d_Ref_codes_88 : decode b_Ref_codes 88 = .ok (.getfield 127, 3) := by decide +kernel
theorem d_Ref_codes_91 : decode b_Ref_codes 91 = .ok (.iload_n 3, 1) := by decide +kernel
theorem d_Ref_codes_92 : decode b_Ref_codes 92 = .ok (.ishr, 1) := by decide +kernel
theorem d_Ref_codes_93 : decode b_Ref_codes 93 = .ok (.iconst 1, 1) := by decide +kernel
theorem d_Ref_codes_94 : decode b_Ref_codes 94 = .ok (.iand, 1) := by decide +kernel
theorem d_Ref_codes_95 : decode b_Ref_codes 95 = .ok (.iconst 1, 1) := by decide +kernel
theorem d_Ref_codes_96 : decode b_Ref_codes 96 = .ok (.if_icmp .ne 17, 3) := by decide +kernel
theorem d_Ref_codes_99 : decode b_Ref_codes 99 = .ok (.aload_n 0, 1) := by decide +kernel
theorem d_Ref_codes_100 : decode b_Ref_codes 100 = .ok (.aload_n 0, 1) := by decide +kernel
theorem d_Ref_codes_101 : decode b_Ref_codes 101 = .ok (.iload_n 3, 1) := by decide +kernel
theorem d_Ref_codes_102 : decode b_Ref_codes 102 = .ok (.iload_n 1, 1) := by decide +kernel
theorem d_Ref_codes_103 : decode b_Ref_codes 103 = .ok (.invokevirtual 178, 3) := by decide +kernel
theorem d_Ref_codes_106 : decode b_Ref_codes 106 = .ok (.invokevirtual 175, 3) := by decide +kernel
theorem d_Ref_codes_109 : decode b_Ref_codes 109 = .ok (.aload_n 0, 1) := by decide +kernel
theorem d_Ref_codes_110 : decode b_Ref_codes 110 = .ok (.invokevirtual 181, 3) := by decide +kernel
theorem d_Ref_codes_113 : decode b_Ref_codes 113 = .ok (.iinc 3 1, 3) := by decide +kernel
theorem d_Ref_codes_116 : decode b_Ref_codes 116 = .ok (.goto (-37), 3) := by decide +kernel
theorem d_Ref_codes_119 : decode b_Ref_codes 119 = .ok (.iconst 0, 1) := by decide +kernel
theorem d_Ref_codes_120 : decode b_Ref_codes 120 = .ok (.istore_n 3, 1) := by decide +kernel
theorem d_Ref_codes_121 : decode b_Ref_codes 121 = .ok (.iload_n 3, 1) := by decide +kernel
theorem d_Ref_codes_122 : decode b_Ref_codes 122 = .ok (.iload_n 1, 1) := by decide +kernel
theorem d_Ref_codes_123 : decode b_Ref_codes 123 = .ok (.if_icmp .ge 15, 3) := by decide +kernel
theorem d_Ref_codes_126 : decode b_Ref_codes 126 = .ok (.aload_n 0, 1) := by decide +kernel
theorem d_Ref_codes_127 : decode b_Ref_codes 127 = .ok (.iload_n 1, 1) := by decide +kernel
theorem d_Ref_codes_128 : decode b_Ref_codes 128 = .ok (.iload_n 3, 1) := by decide +kernel
theorem d_Ref_codes_129 : decode b_Ref_codes 129 = .ok (.invokevirtual 190, 3) := by decide +kernel
theorem d_Ref_codes_132 : decode b_Ref_codes 132 = .ok (.iinc 3 1, 3) := by decide +kernel
theorem d_Ref_codes_135 : decode b_Ref_codes 135 = .ok (.goto (-14), 3) := by decide +kernel
theorem d_Ref_codes_138 : decode b_Ref_codes 138 = .ok (.return_, 1) := by decide +kernel
set_option maxHeartbeats 4000000 in
set_option maxRecDepth 100000 in
theorem x_Ref_codes_L121 {p : Program} {e : Env} {s : State} {m : MethodId} {args : Array Value} {below : List Frame} {meth : Method} {c : Code} {l : Launch} {dC : Nat → ClassId} {dI : Nat → Nat → Nat} {cA : ClassId} {ad : Nat → Nat} {w0 : va_W} (C0 : q_C p s m args meth c b_Ref_codes 4 none "PlanClausesModel" dC dI cA) (hA : ∀ q, s.heap.size ≤ q → va_A w0 s.heap.size q) (x1 : Int32) (ma : mForm) (mn : mKnow) (ms : mSat) (mb : mBack) (mt : mTask) (mw : (Nat → Int32)) (mg : mGo) {Q : mCode → Prop} {K138 : mCode → Prop}
    (hK138 : ∀ (md : mCode) (H : Heap) (locs : List Loc) (ls : Array Slot), K138 md → lv_has ls 4 [] → q_H dC dI (va_A w0 s.heap.size) s.heap H locs ([c_RE ad cA ma mn ms mb mt mw mg md].flatten) → W p l e (q_R 3 71) s m args below meth c H locs 0 0 (q_Zv below args s dC dI cA w0 (fun u : mCode => [c_RE ad cA ma mn ms mb mt mw mg u].flatten) (fun u => Q u)) (F0 m 138 ls [])) :
    ∀ (nn : Nat) (x3 : Int32) (md : mCode) (H : Heap) (locs : List Loc) (ls : Array Slot), w_Ref_codes_L121 x1 mt K138 nn x3 md → lv_has ls 4 [(0, .ref (ad 28)), (1, .int x1), (3, .int x3)] → q_H dC dI (va_A w0 s.heap.size) s.heap H locs ([c_RE ad cA ma mn ms mb mt mw mg md].flatten) → W p l e (q_R 3 71) s m args below meth c H locs 0 0 (q_Zv below args s dC dI cA w0 (fun u : mCode => [c_RE ad cA ma mn ms mb mt mw mg u].flatten) (fun u => Q u)) (F0 m 121 ls []) := by
  obtain ⟨hx, hb, -⟩ := id C0
  intro nn
  induction nn with
  | zero =>
    intro x3 md H locs ls h
    exact (show False from h).elim
  | succ nn ih =>
    intro x3 md H locs ls h hl hH
    rw [w_Ref_codes_L121] at h
    refine lv_iload_n hx hb d_Ref_codes_121 rfl (lv_at hl 2 rfl) ?_
    refine lv_iload_n hx hb d_Ref_codes_122 rfl (lv_at hl 1 rfl) ?_
    refine lv_icmp_ge (tgt := 138) hx hb d_Ref_codes_123 (by decide) (fun c => ?_) (fun c => ?_)
    · have h := h.1 c
      exact hK138 md _ _ _ h (lv_sub hl [] rfl) hH
    · have h := h.2 c
      refine lv_aload_n hx hb d_Ref_codes_126 rfl (lv_at hl 0 rfl) ?_
      refine lv_iload_n hx hb d_Ref_codes_127 rfl (lv_at hl 1 rfl) ?_
      refine lv_iload_n hx hb d_Ref_codes_128 rfl (lv_at hl 2 rfl) ?_
      refine q_callv (rest := []) (ws' := fun u : mCode => [c_RE ad cA ma mn ms mb mt mw mg u].flatten) C0 hH hA (c_Ref_codesStep l dC dI cA ad x1 x3 ma mn ms mb mt mw mg md _ _ h) Y_Ref_codesStep k_883 0 rfl hc_8 (q_pg [0] [] [0] 1 1 rfl (by decide) rfl (fun _ => rfl) rfl (by decide) (fun _ => rfl)) ⟨Nat.le_of_ble_eq_true rfl, Nat.le_of_ble_eq_true rfl⟩ rfl rfl (Nat.le_of_ble_eq_true rfl) hl.1 d_Ref_codes_129 ⟨Nat.le_refl 0, Nat.le_refl 0⟩ (fun u_1 H locs h hH => ?_)
      obtain ⟨md_1, rfl⟩ : ∃ z, z = u_1 := ⟨_, rfl⟩
      try dsimp only at h
      have hH : q_H dC dI (va_A w0 s.heap.size) s.heap H locs ([c_RE ad cA ma mn ms mb mt mw mg md_1].flatten) := hH
      refine lv_iinc (v := (x3 + 1)) (lv' := [(3, .int (x3 + 1)), (0, .ref (ad 28)), (1, .int x1)]) hx hb d_Ref_codes_132 hl (k := 2) rfl rfl (by decide) rfl (fun ls hl => ?_)
      refine lv_goto (tgt := 121) hx hb d_Ref_codes_135 (by decide) ?_
      exact ih (x3 + 1) md_1 _ _ _ h (lv_sub hl [1, 2, 0] rfl) hH
set_option maxHeartbeats 4000000 in
set_option maxRecDepth 100000 in
theorem x_Ref_codes_L79 {p : Program} {e : Env} {s : State} {m : MethodId} {args : Array Value} {below : List Frame} {meth : Method} {c : Code} {l : Launch} {dC : Nat → ClassId} {dI : Nat → Nat → Nat} {cA : ClassId} {ad : Nat → Nat} {w0 : va_W} (C0 : q_C p s m args meth c b_Ref_codes 4 none "PlanClausesModel" dC dI cA) (hA : ∀ q, s.heap.size ≤ q → va_A w0 s.heap.size q) (x1 : Int32) (ma : mForm) (mn : mKnow) (ms : mSat) (mb : mBack) (mt : mTask) (mw : (Nat → Int32)) (mg : mGo) {Q : mCode → Prop} {K119 : mCode → Prop}
    (hK119 : ∀ (md : mCode) (H : Heap) (locs : List Loc) (ls : Array Slot), K119 md → lv_has ls 4 [(0, .ref (ad 28)), (1, .int x1)] → q_H dC dI (va_A w0 s.heap.size) s.heap H locs ([c_RE ad cA ma mn ms mb mt mw mg md].flatten) → W p l e (q_R 3 71) s m args below meth c H locs 0 0 (q_Zv below args s dC dI cA w0 (fun u : mCode => [c_RE ad cA ma mn ms mb mt mw mg u].flatten) (fun u => Q u)) (F0 m 119 ls [])) :
    ∀ (nn : Nat) (x3 : Int32) (md : mCode) (H : Heap) (locs : List Loc) (ls : Array Slot), w_Ref_codes_L79 x1 mt K119 nn x3 md → lv_has ls 4 [(0, .ref (ad 28)), (1, .int x1), (3, .int x3)] → q_H dC dI (va_A w0 s.heap.size) s.heap H locs ([c_RE ad cA ma mn ms mb mt mw mg md].flatten) → W p l e (q_R 3 71) s m args below meth c H locs 0 0 (q_Zv below args s dC dI cA w0 (fun u : mCode => [c_RE ad cA ma mn ms mb mt mw mg u].flatten) (fun u => Q u)) (F0 m 79 ls []) := by
  obtain ⟨hx, hb, -⟩ := id C0
  intro nn
  induction nn with
  | zero =>
    intro x3 md H locs ls h
    exact (show False from h).elim
  | succ nn ih =>
    intro x3 md H locs ls h hl hH
    rw [w_Ref_codes_L79] at h
    refine lv_iload_n hx hb d_Ref_codes_79 rfl (lv_at hl 2 rfl) ?_
    refine lv_aload_n hx hb d_Ref_codes_80 rfl (lv_at hl 0 rfl) ?_
    refine q_get (v := .int mt.facts) C0 hH 0 rfl hc_8 11 (by decide) k_633 rfl d_Ref_codes_81 ?_
    refine lv_icmp_ge (tgt := 119) hx hb d_Ref_codes_84 (by decide) (fun c => ?_) (fun c => ?_)
    · have h := h.1 c
      exact hK119 md _ _ _ h (lv_sub hl [0, 1] rfl) hH
    · have h := h.2 c
      refine lv_aload_n hx hb d_Ref_codes_87 rfl (lv_at hl 0 rfl) ?_
      refine q_get (v := .int mt.goal) C0 hH 0 rfl hc_8 17 (by decide) k_639 rfl d_Ref_codes_88 ?_
      refine lv_iload_n hx hb d_Ref_codes_91 rfl (lv_at hl 2 rfl) ?_
      refine lv_ishr hx hb d_Ref_codes_92 ?_
      refine lv_iconst (v := 1) hx hb d_Ref_codes_93 (by decide) ?_
      refine lv_iand hx hb d_Ref_codes_94 ?_
      refine lv_iconst (v := 1) hx hb d_Ref_codes_95 (by decide) ?_
      refine lv_icmp_ne (tgt := 113) hx hb d_Ref_codes_96 (by decide) (fun c => ?_) (fun c => ?_)
      · have h := h.1 c
        refine lv_iinc (v := (x3 + 1)) (lv' := [(3, .int (x3 + 1)), (0, .ref (ad 28)), (1, .int x1)]) hx hb d_Ref_codes_113 hl (k := 2) rfl rfl (by decide) rfl (fun ls hl => ?_)
        refine lv_goto (tgt := 79) hx hb d_Ref_codes_116 (by decide) ?_
        exact ih (x3 + 1) md _ _ _ h (lv_sub hl [1, 2, 0] rfl) hH
      · have h := h.2 c
        refine lv_aload_n hx hb d_Ref_codes_99 rfl (lv_at hl 0 rfl) ?_
        refine lv_aload_n hx hb d_Ref_codes_100 rfl (lv_at hl 0 rfl) ?_
        refine lv_iload_n hx hb d_Ref_codes_101 rfl (lv_at hl 2 rfl) ?_
        refine lv_iload_n hx hb d_Ref_codes_102 rfl (lv_at hl 1 rfl) ?_
        refine q_calli (rest := [.ref (ad 28)]) (ws' := fun _ : Unit => [c_RE ad cA ma mn ms mb mt mw mg md].flatten) C0 hH hA (c_Ref_factAt l dC dI cA ad x3 x1 ma mn ms mb mt mw mg md _ _ h) Y_Ref_factAt k_871 0 rfl hc_8 (q_pg [0] [] [0] 1 1 rfl (by decide) rfl (fun _ => rfl) rfl (by decide) (fun _ => rfl)) ⟨Nat.le_of_ble_eq_true rfl, Nat.le_of_ble_eq_true rfl⟩ rfl rfl (Nat.le_of_ble_eq_true rfl) hl.1 d_Ref_codes_103 ⟨Nat.le_refl 0, Nat.le_refl 0⟩ (fun r_1 u_1 H locs h hH => ?_)
        try dsimp only at h
        have hH : q_H dC dI (va_A w0 s.heap.size) s.heap H locs ([c_RE ad cA ma mn ms mb mt mw mg md].flatten) := hH
        refine q_callv (rest := []) (ws' := fun u : mCode => [c_RE ad cA ma mn ms mb mt mw mg u].flatten) C0 hH hA (c_Ref_says l dC dI cA ad r_1 ma mn ms mb mt mw mg md _ _ h) Y_Ref_says k_875 0 rfl hc_8 (q_pg [0] [] [0] 1 1 rfl (by decide) rfl (fun _ => rfl) rfl (by decide) (fun _ => rfl)) ⟨Nat.le_of_ble_eq_true rfl, Nat.le_of_ble_eq_true rfl⟩ rfl rfl (Nat.le_of_ble_eq_true rfl) hl.1 d_Ref_codes_106 ⟨Nat.le_refl 0, Nat.le_refl 0⟩ (fun u_2 H locs h hH => ?_)
        obtain ⟨md_2, rfl⟩ : ∃ z, z = u_2 := ⟨_, rfl⟩
        try dsimp only at h
        have hH : q_H dC dI (va_A w0 s.heap.size) s.heap H locs ([c_RE ad cA ma mn ms mb mt mw mg md_2].flatten) := hH
        refine lv_aload_n hx hb d_Ref_codes_109 rfl (lv_at hl 0 rfl) ?_
        refine q_callv (rest := []) (ws' := fun u : mCode => [c_RE ad cA ma mn ms mb mt mw mg u].flatten) C0 hH hA (c_Ref_ends l dC dI cA ad ma mn ms mb mt mw mg md_2 _ _ h) Y_Ref_ends k_879 0 rfl hc_8 (q_pg [0] [] [0] 1 1 rfl (by decide) rfl (fun _ => rfl) rfl (by decide) (fun _ => rfl)) ⟨Nat.le_of_ble_eq_true rfl, Nat.le_of_ble_eq_true rfl⟩ rfl rfl (Nat.le_of_ble_eq_true rfl) hl.1 d_Ref_codes_110 ⟨Nat.le_refl 0, Nat.le_refl 0⟩ (fun u_3 H locs h hH => ?_)
        obtain ⟨md_3, rfl⟩ : ∃ z, z = u_3 := ⟨_, rfl⟩
        try dsimp only at h
        have hH : q_H dC dI (va_A w0 s.heap.size) s.heap H locs ([c_RE ad cA ma mn ms mb mt mw mg md_3].flatten) := hH
        refine lv_iinc (v := (x3 + 1)) (lv' := [(3, .int (x3 + 1)), (0, .ref (ad 28)), (1, .int x1)]) hx hb d_Ref_codes_113 hl (k := 2) rfl rfl (by decide) rfl (fun ls hl => ?_)
        refine lv_goto (tgt := 79) hx hb d_Ref_codes_116 (by decide) ?_
        exact ih (x3 + 1) md_3 _ _ _ h (lv_sub hl [1, 2, 0] rfl) hH
set_option maxHeartbeats 4000000 in
set_option maxRecDepth 100000 in
theorem x_Ref_codes_L27 {p : Program} {e : Env} {s : State} {m : MethodId} {args : Array Value} {below : List Frame} {meth : Method} {c : Code} {l : Launch} {dC : Nat → ClassId} {dI : Nat → Nat → Nat} {cA : ClassId} {ad : Nat → Nat} {w0 : va_W} (C0 : q_C p s m args meth c b_Ref_codes 4 none "PlanClausesModel" dC dI cA) (hA : ∀ q, s.heap.size ≤ q → va_A w0 s.heap.size q) (x1 : Int32) (ma : mForm) (mn : mKnow) (ms : mSat) (mb : mBack) (mt : mTask) (mw : (Nat → Int32)) (mg : mGo) {Q : mCode → Prop} {K77 : mCode → Prop}
    (hK77 : ∀ (md : mCode) (H : Heap) (locs : List Loc) (ls : Array Slot), K77 md → lv_has ls 4 [(0, .ref (ad 28)), (1, .int x1)] → q_H dC dI (va_A w0 s.heap.size) s.heap H locs ([c_RE ad cA ma mn ms mb mt mw mg md].flatten) → W p l e (q_R 3 71) s m args below meth c H locs 0 0 (q_Zv below args s dC dI cA w0 (fun u : mCode => [c_RE ad cA ma mn ms mb mt mw mg u].flatten) (fun u => Q u)) (F0 m 77 ls [])) :
    ∀ (nn : Nat) (x3 : Int32) (md : mCode) (H : Heap) (locs : List Loc) (ls : Array Slot), w_Ref_codes_L27 x1 mt K77 nn x3 md → lv_has ls 4 [(0, .ref (ad 28)), (1, .int x1), (3, .int x3)] → q_H dC dI (va_A w0 s.heap.size) s.heap H locs ([c_RE ad cA ma mn ms mb mt mw mg md].flatten) → W p l e (q_R 3 71) s m args below meth c H locs 0 0 (q_Zv below args s dC dI cA w0 (fun u : mCode => [c_RE ad cA ma mn ms mb mt mw mg u].flatten) (fun u => Q u)) (F0 m 27 ls []) := by
  obtain ⟨hx, hb, -⟩ := id C0
  intro nn
  induction nn with
  | zero =>
    intro x3 md H locs ls h
    exact (show False from h).elim
  | succ nn ih =>
    intro x3 md H locs ls h hl hH
    rw [w_Ref_codes_L27] at h
    refine lv_iload_n hx hb d_Ref_codes_27 rfl (lv_at hl 2 rfl) ?_
    refine lv_aload_n hx hb d_Ref_codes_28 rfl (lv_at hl 0 rfl) ?_
    refine q_get (v := .int mt.facts) C0 hH 0 rfl hc_8 11 (by decide) k_633 rfl d_Ref_codes_29 ?_
    refine lv_icmp_ge (tgt := 77) hx hb d_Ref_codes_32 (by decide) (fun c => ?_) (fun c => ?_)
    · have h := h.1 c
      exact hK77 md _ _ _ h (lv_sub hl [0, 1] rfl) hH
    · have h := h.2 c
      refine lv_aload_n hx hb d_Ref_codes_35 rfl (lv_at hl 0 rfl) ?_
      refine lv_aload_n hx hb d_Ref_codes_36 rfl (lv_at hl 0 rfl) ?_
      refine q_get (v := .int mt.beginning) C0 hH 0 rfl hc_8 16 (by decide) k_638 rfl d_Ref_codes_37 ?_
      refine lv_iload_n hx hb d_Ref_codes_40 rfl (lv_at hl 2 rfl) ?_
      refine lv_ishr hx hb d_Ref_codes_41 ?_
      refine lv_iconst (v := 1) hx hb d_Ref_codes_42 (by decide) ?_
      refine lv_iand hx hb d_Ref_codes_43 ?_
      refine lv_iconst (v := 1) hx hb d_Ref_codes_44 (by decide) ?_
      refine lv_icmp_ne (tgt := 57) hx hb d_Ref_codes_45 (by decide) (fun c => ?_) (fun c => ?_)
      · have h := h.1 c
        refine lv_aload_n hx hb d_Ref_codes_57 rfl (lv_at hl 0 rfl) ?_
        refine lv_iload_n hx hb d_Ref_codes_58 rfl (lv_at hl 2 rfl) ?_
        refine lv_iconst (v := 0) hx hb d_Ref_codes_59 (by decide) ?_
        refine q_calli (rest := [.ref (ad 28)]) (ws' := fun _ : Unit => [c_RE ad cA ma mn ms mb mt mw mg md].flatten) C0 hH hA (c_Ref_factAt l dC dI cA ad x3 0 ma mn ms mb mt mw mg md _ _ h) Y_Ref_factAt k_871 0 rfl hc_8 (q_pg [0] [] [0] 1 1 rfl (by decide) rfl (fun _ => rfl) rfl (by decide) (fun _ => rfl)) ⟨Nat.le_of_ble_eq_true rfl, Nat.le_of_ble_eq_true rfl⟩ rfl rfl (Nat.le_of_ble_eq_true rfl) hl.1 d_Ref_codes_60 ⟨Nat.le_refl 0, Nat.le_refl 0⟩ (fun r_1 u_1 H locs h hH => ?_)
        try dsimp only at h
        have hH : q_H dC dI (va_A w0 s.heap.size) s.heap H locs ([c_RE ad cA ma mn ms mb mt mw mg md].flatten) := hH
        refine lv_ineg hx hb d_Ref_codes_63 ?_
        refine q_callv (rest := []) (ws' := fun u : mCode => [c_RE ad cA ma mn ms mb mt mw mg u].flatten) C0 hH hA (c_Ref_says l dC dI cA ad (-r_1) ma mn ms mb mt mw mg md _ _ h) Y_Ref_says k_875 0 rfl hc_8 (q_pg [0] [] [0] 1 1 rfl (by decide) rfl (fun _ => rfl) rfl (by decide) (fun _ => rfl)) ⟨Nat.le_of_ble_eq_true rfl, Nat.le_of_ble_eq_true rfl⟩ rfl rfl (Nat.le_of_ble_eq_true rfl) hl.1 d_Ref_codes_64 ⟨Nat.le_refl 0, Nat.le_refl 0⟩ (fun u_2 H locs h hH => ?_)
        obtain ⟨md_2, rfl⟩ : ∃ z, z = u_2 := ⟨_, rfl⟩
        try dsimp only at h
        have hH : q_H dC dI (va_A w0 s.heap.size) s.heap H locs ([c_RE ad cA ma mn ms mb mt mw mg md_2].flatten) := hH
        refine lv_aload_n hx hb d_Ref_codes_67 rfl (lv_at hl 0 rfl) ?_
        refine q_callv (rest := []) (ws' := fun u : mCode => [c_RE ad cA ma mn ms mb mt mw mg u].flatten) C0 hH hA (c_Ref_ends l dC dI cA ad ma mn ms mb mt mw mg md_2 _ _ h) Y_Ref_ends k_879 0 rfl hc_8 (q_pg [0] [] [0] 1 1 rfl (by decide) rfl (fun _ => rfl) rfl (by decide) (fun _ => rfl)) ⟨Nat.le_of_ble_eq_true rfl, Nat.le_of_ble_eq_true rfl⟩ rfl rfl (Nat.le_of_ble_eq_true rfl) hl.1 d_Ref_codes_68 ⟨Nat.le_refl 0, Nat.le_refl 0⟩ (fun u_3 H locs h hH => ?_)
        obtain ⟨md_3, rfl⟩ : ∃ z, z = u_3 := ⟨_, rfl⟩
        try dsimp only at h
        have hH : q_H dC dI (va_A w0 s.heap.size) s.heap H locs ([c_RE ad cA ma mn ms mb mt mw mg md_3].flatten) := hH
        refine lv_iinc (v := (x3 + 1)) (lv' := [(3, .int (x3 + 1)), (0, .ref (ad 28)), (1, .int x1)]) hx hb d_Ref_codes_71 hl (k := 2) rfl rfl (by decide) rfl (fun ls hl => ?_)
        refine lv_goto (tgt := 27) hx hb d_Ref_codes_74 (by decide) ?_
        exact ih (x3 + 1) md_3 _ _ _ h (lv_sub hl [1, 2, 0] rfl) hH
      · have h := h.2 c
        refine lv_aload_n hx hb d_Ref_codes_48 rfl (lv_at hl 0 rfl) ?_
        refine lv_iload_n hx hb d_Ref_codes_49 rfl (lv_at hl 2 rfl) ?_
        refine lv_iconst (v := 0) hx hb d_Ref_codes_50 (by decide) ?_
        refine q_calli (rest := [.ref (ad 28)]) (ws' := fun _ : Unit => [c_RE ad cA ma mn ms mb mt mw mg md].flatten) C0 hH hA (c_Ref_factAt l dC dI cA ad x3 0 ma mn ms mb mt mw mg md _ _ h) Y_Ref_factAt k_871 0 rfl hc_8 (q_pg [0] [] [0] 1 1 rfl (by decide) rfl (fun _ => rfl) rfl (by decide) (fun _ => rfl)) ⟨Nat.le_of_ble_eq_true rfl, Nat.le_of_ble_eq_true rfl⟩ rfl rfl (Nat.le_of_ble_eq_true rfl) hl.1 d_Ref_codes_51 ⟨Nat.le_refl 0, Nat.le_refl 0⟩ (fun r_4 u_4 H locs h hH => ?_)
        try dsimp only at h
        have hH : q_H dC dI (va_A w0 s.heap.size) s.heap H locs ([c_RE ad cA ma mn ms mb mt mw mg md].flatten) := hH
        refine lv_goto (tgt := 64) hx hb d_Ref_codes_54 (by decide) ?_
        refine q_callv (rest := []) (ws' := fun u : mCode => [c_RE ad cA ma mn ms mb mt mw mg u].flatten) C0 hH hA (c_Ref_says l dC dI cA ad r_4 ma mn ms mb mt mw mg md _ _ h) Y_Ref_says k_875 0 rfl hc_8 (q_pg [0] [] [0] 1 1 rfl (by decide) rfl (fun _ => rfl) rfl (by decide) (fun _ => rfl)) ⟨Nat.le_of_ble_eq_true rfl, Nat.le_of_ble_eq_true rfl⟩ rfl rfl (Nat.le_of_ble_eq_true rfl) hl.1 d_Ref_codes_64 ⟨Nat.le_refl 0, Nat.le_refl 0⟩ (fun u_5 H locs h hH => ?_)
        obtain ⟨md_5, rfl⟩ : ∃ z, z = u_5 := ⟨_, rfl⟩
        try dsimp only at h
        have hH : q_H dC dI (va_A w0 s.heap.size) s.heap H locs ([c_RE ad cA ma mn ms mb mt mw mg md_5].flatten) := hH
        refine lv_aload_n hx hb d_Ref_codes_67 rfl (lv_at hl 0 rfl) ?_
        refine q_callv (rest := []) (ws' := fun u : mCode => [c_RE ad cA ma mn ms mb mt mw mg u].flatten) C0 hH hA (c_Ref_ends l dC dI cA ad ma mn ms mb mt mw mg md_5 _ _ h) Y_Ref_ends k_879 0 rfl hc_8 (q_pg [0] [] [0] 1 1 rfl (by decide) rfl (fun _ => rfl) rfl (by decide) (fun _ => rfl)) ⟨Nat.le_of_ble_eq_true rfl, Nat.le_of_ble_eq_true rfl⟩ rfl rfl (Nat.le_of_ble_eq_true rfl) hl.1 d_Ref_codes_68 ⟨Nat.le_refl 0, Nat.le_refl 0⟩ (fun u_6 H locs h hH => ?_)
        obtain ⟨md_6, rfl⟩ : ∃ z, z = u_6 := ⟨_, rfl⟩
        try dsimp only at h
        have hH : q_H dC dI (va_A w0 s.heap.size) s.heap H locs ([c_RE ad cA ma mn ms mb mt mw mg md_6].flatten) := hH
        refine lv_iinc (v := (x3 + 1)) (lv' := [(3, .int (x3 + 1)), (0, .ref (ad 28)), (1, .int x1)]) hx hb d_Ref_codes_71 hl (k := 2) rfl rfl (by decide) rfl (fun ls hl => ?_)
        refine lv_goto (tgt := 27) hx hb d_Ref_codes_74 (by decide) ?_
        exact ih (x3 + 1) md_6 _ _ _ h (lv_sub hl [1, 2, 0] rfl) hH
set_option maxHeartbeats 4000000 in
set_option maxRecDepth 100000 in
theorem c_Ref_codes (l : Launch) (dC : Nat → ClassId) (dI : Nat → Nat → Nat) (cA : ClassId) (ad : Nat → Nat) (x1 : Int32) (x2 : Int32) (ma : mForm) (mn : mKnow) (ms : mSat) (mb : mBack) (mt : mTask) (mw : (Nat → Int32)) (mg : mGo) (md : mCode) (Q : mCode → Prop) (sz : Nat) (h : w_Ref_codes x1 x2 mt md Q) :
    q_Mv l y_Ref_codes b_Ref_codes 4 3 71 [.ref (ad 28), .int x1, .int x2] dC dI cA ([c_RE ad cA ma mn ms mb mt mw mg md].flatten) (fun u : mCode => [c_RE ad cA ma mn ms mb mt mw mg u].flatten) sz (fun u => Q u) := by
  refine q_metv (plainFor_of_name (by decide +kernel)) (Nat.le_of_ble_eq_true rfl) (fun {p e s m below meth c ls} C0 hl hH => ?_)
  obtain ⟨hx, hb, -⟩ := id C0
  have hA : ∀ q, s.heap.size ≤ q → va_A ([c_RE ad cA ma mn ms mb mt mw mg md].flatten) s.heap.size q := q_nA
  have hl : lv_has ls 4 [(0, .ref (ad 28)), (1, .int x1), (2, .int x2)] := hl
  unfold w_Ref_codes at h
  refine lv_aload_n hx hb d_Ref_codes_0 rfl (lv_at hl 0 rfl) ?_
  refine lv_iconst (v := 0) hx hb d_Ref_codes_1 (by decide) ?_
  refine q_puti (ws' := [c_RE ad cA ma mn ms mb mt mw mg (mCode.mk 0 md.codedLiterals md.wanted md.wantedSize md.kept md.inHand)].flatten) C0 hH 0 rfl hc_8 30 (by decide) k_652 rfl rfl (Nat.le_of_ble_eq_true rfl) rfl d_Ref_codes_2 (fun H locs hH => ?_)
  refine lv_aload_n hx hb d_Ref_codes_5 rfl (lv_at hl 0 rfl) ?_
  refine lv_iconst (v := 0) hx hb d_Ref_codes_6 (by decide) ?_
  refine q_puti (ws' := [c_RE ad cA ma mn ms mb mt mw mg (mCode.mk 0 0 md.wanted md.wantedSize md.kept md.inHand)].flatten) C0 hH 0 rfl hc_8 31 (by decide) k_653 rfl rfl (Nat.le_of_ble_eq_true rfl) rfl d_Ref_codes_7 (fun H locs hH => ?_)
  refine lv_aload_n hx hb d_Ref_codes_10 rfl (lv_at hl 0 rfl) ?_
  refine lv_iload_n hx hb d_Ref_codes_11 rfl (lv_at hl 2 rfl) ?_
  refine q_puti (ws' := [c_RE ad cA ma mn ms mb mt mw mg (mCode.mk 0 0 x2 md.wantedSize md.kept md.inHand)].flatten) C0 hH 0 rfl hc_8 32 (by decide) k_654 rfl rfl (Nat.le_of_ble_eq_true rfl) rfl d_Ref_codes_12 (fun H locs hH => ?_)
  refine lv_aload_n hx hb d_Ref_codes_15 rfl (lv_at hl 0 rfl) ?_
  refine lv_iconst (v := 0) hx hb d_Ref_codes_16 (by decide) ?_
  refine q_puti (ws' := [c_RE ad cA ma mn ms mb mt mw mg (mCode.mk 0 0 x2 0 md.kept md.inHand)].flatten) C0 hH 0 rfl hc_8 33 (by decide) k_655 rfl rfl (Nat.le_of_ble_eq_true rfl) rfl d_Ref_codes_17 (fun H locs hH => ?_)
  refine lv_aload_n hx hb d_Ref_codes_20 rfl (lv_at hl 0 rfl) ?_
  refine lv_iconst (v := 0) hx hb d_Ref_codes_21 (by decide) ?_
  refine q_puti (ws' := [c_RE ad cA ma mn ms mb mt mw mg (mCode.mk 0 0 x2 0 md.kept 0)].flatten) C0 hH 0 rfl hc_8 35 (by decide) k_657 rfl rfl (Nat.le_of_ble_eq_true rfl) rfl d_Ref_codes_22 (fun H locs hH => ?_)
  refine lv_iconst (v := 0) hx hb d_Ref_codes_25 (by decide) ?_
  refine lv_istore_n (lv' := [(3, .int 0), (0, .ref (ad 28)), (1, .int x1), (2, .int x2)]) hx hb d_Ref_codes_26 rfl hl (by decide) rfl (fun ls hl => ?_)
  obtain ⟨nn, h⟩ := h
  refine x_Ref_codes_L27 C0 hA x1 ma mn ms mb mt mw mg ?_ nn 0 (mCode.mk 0 0 x2 0 md.kept 0) _ _ _ h (lv_sub hl [1, 2, 0] rfl) hH
  · intro md_1 H locs ls h hl hH
    try dsimp only at h
    refine lv_iconst (v := 0) hx hb d_Ref_codes_77 (by decide) ?_
    refine lv_istore_n (lv' := [(3, .int 0), (0, .ref (ad 28)), (1, .int x1)]) hx hb d_Ref_codes_78 rfl hl (by decide) rfl (fun ls hl => ?_)
    obtain ⟨nn, h⟩ := h
    refine x_Ref_codes_L79 C0 hA x1 ma mn ms mb mt mw mg ?_ nn 0 md_1 _ _ _ h (lv_sub hl [1, 2, 0] rfl) hH
    · intro md_2 H locs ls h hl hH
      try dsimp only at h
      refine lv_iconst (v := 0) hx hb d_Ref_codes_119 (by decide) ?_
      refine lv_istore_n (lv' := [(3, .int 0), (0, .ref (ad 28)), (1, .int x1)]) hx hb d_Ref_codes_120 rfl hl (by decide) rfl (fun ls hl => ?_)
      obtain ⟨nn, h⟩ := h
      refine x_Ref_codes_L121 C0 hA x1 ma mn ms mb mt mw mg ?_ nn 0 md_2 _ _ _ h (lv_sub hl [1, 2, 0] rfl) hH
      · intro md_3 H locs ls h hl hH
        try dsimp only at h
        exact q_retv C0 hH md_3 rfl h d_Ref_codes_138
theorem d_Ref_code_0 : decode b_Ref_code 0 = .ok (.iload_n 1, 1) := by decide +kernel
theorem d_Ref_code_1 : decode b_Ref_code 1 = .ok (.invokestatic 140, 3) := by decide +kernel
theorem d_Ref_code_4 : decode b_Ref_code 4 = .ok (.ifCond .eq 12, 3) := by decide +kernel
theorem d_Ref_code_7 : decode b_Ref_code 7 = .ok (.iload_n 2, 1) := by decide +kernel
theorem d_Ref_code_8 : decode b_Ref_code 8 = .ok (.iconst 0, 1) := by decide +kernel
theorem d_Ref_code_9 : decode b_Ref_code 9 = .ok (.iconst 2, 1) := by decide +kernel
theorem d_Ref_code_10 : decode b_Ref_code 10 = .ok (.invokestatic 59, 3) := by decide +kernel
theorem d_Ref_code_13 : decode b_Ref_code 13 = .ok (.ifCond .ne 5, 3) := by decide +kernel
theorem d_Ref_code_16 : decode b_Ref_code 16 = .ok (.iconst (-1), 1) := by decide +kernel
theorem d_Ref_code_17 : decode b_Ref_code 17 = .ok (.ireturn, 1) := by decide +kernel
theorem d_Ref_code_18 : decode b_Ref_code 18 = .ok (.aload_n 0, 1) := by decide +kernel
theorem d_Ref_code_19 : decode b_Ref_code 19 = .ok (.iload_n 1, 1) := by decide +kernel
theorem d_Ref_code_20 : decode b_Ref_code 20 = .ok (.iconst (-1), 1) := by decide +kernel
theorem d_Ref_code_21 : decode b_Ref_code 21 = .ok (.invokevirtual 193, 3) := by decide +kernel
theorem d_Ref_code_24 : decode b_Ref_code 24 = .ok (.iload_n 2, 1) := by decide +kernel
theorem d_Ref_code_25 : decode b_Ref_code 25 = .ok (.ifCond .ne 21, 3) := by decide +kernel
theorem d_Ref_code_28 : decode b_Ref_code 28 = .ok (.iload_n 1, 1) := by decide +kernel
theorem d_Ref_code_29 : decode b_Ref_code 29 = .ok (.iconst 1, 1) := by decide +kernel
theorem d_Ref_code_30 : decode b_Ref_code 30 = .ok (.iadd, 1) := by decide +kernel
theorem d_Ref_code_31 : decode b_Ref_code 31 = .ok (.aload_n 0, 1) := by decide +kernel
theorem d_Ref_code_32 : decode b_Ref_code 32 = .ok (.getfield 118, 3) := by decide +kernel
theorem d_Ref_code_35 : decode b_Ref_code 35 = .ok (.imul, 1) := by decide +kernel
theorem d_Ref_code_36 : decode b_Ref_code 36 = .ok (.iload_n 1, 1) := by decide +kernel
theorem d_Ref_code_37 : decode b_Ref_code 37 = .ok (.aload_n 0, 1) := by decide +kernel
theorem d_Ref_code_38 : decode b_Ref_code 38 = .ok (.getfield 121, 3) := by decide +kernel
theorem d_Ref_code_41 : decode b_Ref_code 41 = .ok (.imul, 1) := by decide +kernel
theorem d_Ref_code_42 : decode b_Ref_code 42 = .ok (.iadd, 1) := by decide +kernel
theorem d_Ref_code_43 : decode b_Ref_code 43 = .ok (.goto 19, 3) := by decide +kernel
theorem d_Ref_code_46 : decode b_Ref_code 46 = .ok (.iload_n 2, 1) := by decide +kernel
theorem d_Ref_code_47 : decode b_Ref_code 47 = .ok (.iconst 1, 1) := by decide +kernel
theorem d_Ref_code_48 : decode b_Ref_code 48 = .ok (.if_icmp .ne 10, 3) := by decide +kernel
theorem d_Ref_code_51 : decode b_Ref_code 51 = .ok (.aload_n 0, 1) := by decide +kernel
theorem d_Ref_code_52 : decode b_Ref_code 52 = .ok (.getfield 156, 3) := by decide +kernel
theorem d_Ref_code_55 : decode b_Ref_code 55 = .ok (.goto 7, 3) := by decide +kernel
theorem d_Ref_code_58 : decode b_Ref_code 58 = .ok (.aload_n 0, 1) := by decide +kernel
theorem d_Ref_code_59 : decode b_Ref_code 59 = .ok (.getfield 165, 3) := by decide +kernel
theorem d_Ref_code_62 : decode b_Ref_code 62 = .ok (.ireturn, 1) := by decide +kernel
set_option maxHeartbeats 4000000 in
set_option maxRecDepth 100000 in
theorem c_Ref_code (l : Launch) (dC : Nat → ClassId) (dI : Nat → Nat → Nat) (cA : ClassId) (ad : Nat → Nat) (x1 : Int32) (x2 : Int32) (ma : mForm) (mn : mKnow) (ms : mSat) (mb : mBack) (mt : mTask) (mw : (Nat → Int32)) (mg : mGo) (md : mCode) (Q : Int32 → mCode → Prop) (sz : Nat) (h : w_Ref_code x1 x2 mt md Q) :
    q_Mi l y_Ref_code b_Ref_code 3 (some .int) 4 94 [.ref (ad 28), .int x1, .int x2] dC dI cA ([c_RE ad cA ma mn ms mb mt mw mg md].flatten) (fun u : mCode => [c_RE ad cA ma mn ms mb mt mw mg u].flatten) sz (fun r u => Q r u) := by
  refine q_meti (plainFor_of_name (by decide +kernel)) (Nat.le_of_ble_eq_true rfl) (fun {p e s m below meth c ls} C0 hl hH => ?_)
  obtain ⟨hx, hb, -⟩ := id C0
  have hA : ∀ q, s.heap.size ≤ q → va_A ([c_RE ad cA ma mn ms mb mt mw mg md].flatten) s.heap.size q := q_nA
  have hl : lv_has ls 3 [(0, .ref (ad 28)), (1, .int x1), (2, .int x2)] := hl
  unfold w_Ref_code at h
  refine lv_iload_n hx hb d_Ref_code_0 rfl (lv_at hl 1 rfl) ?_
  refine q_calls (rest := []) C0 hH hA (c_Ref_isLength l dC dI cA ad x1 _ _ h) Y_Ref_isLength k_828 ⟨Nat.le_of_ble_eq_true rfl, Nat.le_of_ble_eq_true rfl⟩ rfl rfl (Nat.le_of_ble_eq_true rfl) hl.1 d_Ref_code_1 ⟨Nat.le_refl 0, Nat.le_refl 0⟩ (fun r_1 H locs h hH => ?_)
  try dsimp only at h
  refine lv_if_eq (tgt := 16) hx hb d_Ref_code_4 (by decide) (fun c => ?_) (fun c => ?_)
  · have h := h.1 c
    refine lv_iconst (v := (-1)) hx hb d_Ref_code_16 (by decide) ?_
    exact q_reti C0 hH md rfl h d_Ref_code_17
  · have h := h.2 c
    refine lv_iload_n hx hb d_Ref_code_7 rfl (lv_at hl 2 rfl) ?_
    refine lv_iconst (v := 0) hx hb d_Ref_code_8 (by decide) ?_
    refine lv_iconst (v := 2) hx hb d_Ref_code_9 (by decide) ?_
    refine q_calls (rest := []) C0 hH hA (c_Ref_in l dC dI cA ad x2 0 2 _ _ h) Y_Ref_in k_735 ⟨Nat.le_of_ble_eq_true rfl, Nat.le_of_ble_eq_true rfl⟩ rfl rfl (Nat.le_of_ble_eq_true rfl) hl.1 d_Ref_code_10 ⟨Nat.le_refl 0, Nat.le_refl 0⟩ (fun r_2 H locs h hH => ?_)
    try dsimp only at h
    refine lv_if_ne (tgt := 18) hx hb d_Ref_code_13 (by decide) (fun c => ?_) (fun c => ?_)
    · have h := h.1 c
      refine lv_aload_n hx hb d_Ref_code_18 rfl (lv_at hl 0 rfl) ?_
      refine lv_iload_n hx hb d_Ref_code_19 rfl (lv_at hl 1 rfl) ?_
      refine lv_iconst (v := (-1)) hx hb d_Ref_code_20 (by decide) ?_
      refine q_callv (rest := []) (ws' := fun u : mCode => [c_RE ad cA ma mn ms mb mt mw mg u].flatten) C0 hH hA (c_Ref_codes l dC dI cA ad x1 (-1) ma mn ms mb mt mw mg md _ _ h) Y_Ref_codes k_867 0 rfl hc_8 (q_pg [0] [] [0] 1 1 rfl (by decide) rfl (fun _ => rfl) rfl (by decide) (fun _ => rfl)) ⟨Nat.le_of_ble_eq_true rfl, Nat.le_of_ble_eq_true rfl⟩ rfl rfl (Nat.le_of_ble_eq_true rfl) hl.1 d_Ref_code_21 ⟨Nat.le_refl 0, Nat.le_refl 0⟩ (fun u_3 H locs h hH => ?_)
      obtain ⟨md_3, rfl⟩ : ∃ z, z = u_3 := ⟨_, rfl⟩
      try dsimp only at h
      have hH : q_H dC dI (va_A ([c_RE ad cA ma mn ms mb mt mw mg md].flatten) s.heap.size) s.heap H locs ([c_RE ad cA ma mn ms mb mt mw mg md_3].flatten) := hH
      refine lv_iload_n hx hb d_Ref_code_24 rfl (lv_at hl 2 rfl) ?_
      refine lv_if_ne (tgt := 46) hx hb d_Ref_code_25 (by decide) (fun c => ?_) (fun c => ?_)
      · have h := h.1 c
        refine lv_iload_n hx hb d_Ref_code_46 rfl (lv_at hl 2 rfl) ?_
        refine lv_iconst (v := 1) hx hb d_Ref_code_47 (by decide) ?_
        refine lv_icmp_ne (tgt := 58) hx hb d_Ref_code_48 (by decide) (fun c => ?_) (fun c => ?_)
        · have h := h.1 c
          refine lv_aload_n hx hb d_Ref_code_58 rfl (lv_at hl 0 rfl) ?_
          refine q_get (v := .int md_3.codedLiterals) C0 hH 0 rfl hc_8 31 (by decide) k_653 rfl d_Ref_code_59 ?_
          exact q_reti C0 hH md_3 rfl h d_Ref_code_62
        · have h := h.2 c
          refine lv_aload_n hx hb d_Ref_code_51 rfl (lv_at hl 0 rfl) ?_
          refine q_get (v := .int md_3.codedClauses) C0 hH 0 rfl hc_8 30 (by decide) k_652 rfl d_Ref_code_52 ?_
          refine lv_goto (tgt := 62) hx hb d_Ref_code_55 (by decide) ?_
          exact q_reti C0 hH md_3 rfl h d_Ref_code_62
      · have h := h.2 c
        refine lv_iload_n hx hb d_Ref_code_28 rfl (lv_at hl 1 rfl) ?_
        refine lv_iconst (v := 1) hx hb d_Ref_code_29 (by decide) ?_
        refine lv_iadd hx hb d_Ref_code_30 ?_
        refine lv_aload_n hx hb d_Ref_code_31 rfl (lv_at hl 0 rfl) ?_
        refine q_get (v := .int mt.facts) C0 hH 0 rfl hc_8 11 (by decide) k_633 rfl d_Ref_code_32 ?_
        refine lv_imul hx hb d_Ref_code_35 ?_
        refine lv_iload_n hx hb d_Ref_code_36 rfl (lv_at hl 1 rfl) ?_
        refine lv_aload_n hx hb d_Ref_code_37 rfl (lv_at hl 0 rfl) ?_
        refine q_get (v := .int mt.actions) C0 hH 0 rfl hc_8 12 (by decide) k_634 rfl d_Ref_code_38 ?_
        refine lv_imul hx hb d_Ref_code_41 ?_
        refine lv_iadd hx hb d_Ref_code_42 ?_
        refine lv_goto (tgt := 62) hx hb d_Ref_code_43 (by decide) ?_
        exact q_reti C0 hH md_3 rfl h d_Ref_code_62
    · have h := h.2 c
      refine lv_iconst (v := (-1)) hx hb d_Ref_code_16 (by decide) ?_
      exact q_reti C0 hH md rfl h d_Ref_code_17
theorem d_Ref_coded_0 : decode b_Ref_coded 0 = .ok (.iload_n 1, 1) := by decide +kernel
theorem d_Ref_coded_1 : decode b_Ref_coded 1 = .ok (.invokestatic 140, 3) := by decide +kernel
theorem d_Ref_coded_4 : decode b_Ref_coded 4 = .ok (.ifCond .eq 11, 3) := by decide +kernel
theorem d_Ref_coded_7 : decode b_Ref_coded 7 = .ok (.iload_n 2, 1) := by decide +kernel
theorem d_Ref_coded_8 : decode b_Ref_coded 8 = .ok (.ifCond .lt 7, 3) := by decide +kernel
theorem d_Ref_coded_11 : decode b_Ref_coded 11 = .ok (.iload_n 3, 1) := by decide +kernel
theorem d_Ref_coded_12 : decode b_Ref_coded 12 = .ok (.ifCond .ge 5, 3) := by decide +kernel
theorem d_Ref_coded_15 : decode b_Ref_coded 15 = .ok (.iconst (-1), 1) := by decide +kernel
theorem d_Ref_coded_16 : decode b_Ref_coded 16 = .ok (.ireturn, 1) := by decide +kernel
theorem d_Ref_coded_17 : decode b_Ref_coded 17 = .ok (.aload_n 0, 1) := by decide +kernel
theorem d_Ref_coded_18 : decode b_Ref_coded 18 = .ok (.iload_n 1, 1) := by decide +kernel
theorem d_Ref_coded_19 : decode b_Ref_coded 19 = .ok (.iload_n 2, 1) := by decide +kernel
theorem d_Ref_coded_20 : decode b_Ref_coded 20 = .ok (.invokevirtual 193, 3) := by decide +kernel
theorem d_Ref_coded_23 : decode b_Ref_coded 23 = .ok (.iload_n 2, 1) := by decide +kernel
theorem d_Ref_coded_24 : decode b_Ref_coded 24 = .ok (.aload_n 0, 1) := by decide +kernel
theorem d_Ref_coded_25 : decode b_Ref_coded 25 = .ok (.getfield 156, 3) := by decide +kernel
theorem d_Ref_coded_28 : decode b_Ref_coded 28 = .ok (.if_icmp .lt 5, 3) := by decide +kernel
theorem d_Ref_coded_31 : decode b_Ref_coded 31 = .ok (.iconst (-1), 1) := by decide +kernel
theorem d_Ref_coded_32 : decode b_Ref_coded 32 = .ok (.ireturn, 1) := by decide +kernel
theorem d_Ref_coded_33 : decode b_Ref_coded 33 = .ok (.iload_n 3, 1) := by decide +kernel
theorem d_Ref_coded_34 : decode b_Ref_coded 34 = .ok (.aload_n 0, 1) := by decide +kernel
theorem d_Ref_coded_35 : decode b_Ref_coded 35 = .ok (.getfield 168, 3) := by decide +kernel
theorem d_Ref_coded_38 : decode b_Ref_coded 38 = .ok (.if_icmp .ge 12, 3) := by decide +kernel
theorem d_Ref_coded_41 : decode b_Ref_coded 41 = .ok (.aload_n 0, 1) := by decide +kernel
theorem d_Ref_coded_42 : decode b_Ref_coded 42 = .ok (.getfield 52, 3) := by decide +kernel
theorem d_Ref_coded_45 : decode b_Ref_coded 45 = .ok (.iload_n 3, 1) := by decide +kernel
theorem d_Ref_coded_46 : decode b_Ref_coded 46 = .ok (.iaload, 1) := by decide +kernel
theorem d_Ref_coded_47 : decode b_Ref_coded 47 = .ok (.goto 5, 3) := by decide +kernel
theorem d_Ref_coded_50 : decode b_Ref_coded 50 = .ok (.bipush (-9), 2) := by decide +kernel
theorem d_Ref_coded_52 : decode b_Ref_coded 52 = .ok (.ireturn, 1) := by decide +kernel
set_option maxHeartbeats 4000000 in
set_option maxRecDepth 100000 in
theorem c_Ref_coded (l : Launch) (dC : Nat → ClassId) (dI : Nat → Nat → Nat) (cA : ClassId) (ad : Nat → Nat) (x1 : Int32) (x2 : Int32) (x3 : Int32) (ma : mForm) (mn : mKnow) (ms : mSat) (mb : mBack) (mt : mTask) (mw : (Nat → Int32)) (mg : mGo) (md : mCode) (Q : Int32 → mCode → Prop) (sz : Nat) (h : w_Ref_coded x1 x2 x3 mt md Q) :
    q_Mi l y_Ref_coded b_Ref_coded 4 (some .int) 4 94 [.ref (ad 28), .int x1, .int x2, .int x3] dC dI cA ([c_RE ad cA ma mn ms mb mt mw mg md].flatten) (fun u : mCode => [c_RE ad cA ma mn ms mb mt mw mg u].flatten) sz (fun r u => Q r u) := by
  refine q_meti (plainFor_of_name (by decide +kernel)) (Nat.le_of_ble_eq_true rfl) (fun {p e s m below meth c ls} C0 hl hH => ?_)
  obtain ⟨hx, hb, -⟩ := id C0
  have hA : ∀ q, s.heap.size ≤ q → va_A ([c_RE ad cA ma mn ms mb mt mw mg md].flatten) s.heap.size q := q_nA
  have hl : lv_has ls 4 [(0, .ref (ad 28)), (1, .int x1), (2, .int x2), (3, .int x3)] := hl
  unfold w_Ref_coded at h
  refine lv_iload_n hx hb d_Ref_coded_0 rfl (lv_at hl 1 rfl) ?_
  refine q_calls (rest := []) C0 hH hA (c_Ref_isLength l dC dI cA ad x1 _ _ h) Y_Ref_isLength k_828 ⟨Nat.le_of_ble_eq_true rfl, Nat.le_of_ble_eq_true rfl⟩ rfl rfl (Nat.le_of_ble_eq_true rfl) hl.1 d_Ref_coded_1 ⟨Nat.le_refl 0, Nat.le_refl 0⟩ (fun r_1 H locs h hH => ?_)
  try dsimp only at h
  refine lv_if_eq (tgt := 15) hx hb d_Ref_coded_4 (by decide) (fun c => ?_) (fun c => ?_)
  · have h := h.1 c
    refine lv_iconst (v := (-1)) hx hb d_Ref_coded_15 (by decide) ?_
    exact q_reti C0 hH md rfl h d_Ref_coded_16
  · have h := h.2 c
    refine lv_iload_n hx hb d_Ref_coded_7 rfl (lv_at hl 2 rfl) ?_
    refine lv_if_lt (tgt := 15) hx hb d_Ref_coded_8 (by decide) (fun c => ?_) (fun c => ?_)
    · have h := h.1 c
      refine lv_iconst (v := (-1)) hx hb d_Ref_coded_15 (by decide) ?_
      exact q_reti C0 hH md rfl h d_Ref_coded_16
    · have h := h.2 c
      refine lv_iload_n hx hb d_Ref_coded_11 rfl (lv_at hl 3 rfl) ?_
      refine lv_if_ge (tgt := 17) hx hb d_Ref_coded_12 (by decide) (fun c => ?_) (fun c => ?_)
      · have h := h.1 c
        refine lv_aload_n hx hb d_Ref_coded_17 rfl (lv_at hl 0 rfl) ?_
        refine lv_iload_n hx hb d_Ref_coded_18 rfl (lv_at hl 1 rfl) ?_
        refine lv_iload_n hx hb d_Ref_coded_19 rfl (lv_at hl 2 rfl) ?_
        refine q_callv (rest := []) (ws' := fun u : mCode => [c_RE ad cA ma mn ms mb mt mw mg u].flatten) C0 hH hA (c_Ref_codes l dC dI cA ad x1 x2 ma mn ms mb mt mw mg md _ _ h) Y_Ref_codes k_867 0 rfl hc_8 (q_pg [0] [] [0] 1 1 rfl (by decide) rfl (fun _ => rfl) rfl (by decide) (fun _ => rfl)) ⟨Nat.le_of_ble_eq_true rfl, Nat.le_of_ble_eq_true rfl⟩ rfl rfl (Nat.le_of_ble_eq_true rfl) hl.1 d_Ref_coded_20 ⟨Nat.le_refl 0, Nat.le_refl 0⟩ (fun u_2 H locs h hH => ?_)
        obtain ⟨md_2, rfl⟩ : ∃ z, z = u_2 := ⟨_, rfl⟩
        try dsimp only at h
        have hH : q_H dC dI (va_A ([c_RE ad cA ma mn ms mb mt mw mg md].flatten) s.heap.size) s.heap H locs ([c_RE ad cA ma mn ms mb mt mw mg md_2].flatten) := hH
        refine lv_iload_n hx hb d_Ref_coded_23 rfl (lv_at hl 2 rfl) ?_
        refine lv_aload_n hx hb d_Ref_coded_24 rfl (lv_at hl 0 rfl) ?_
        refine q_get (v := .int md_2.codedClauses) C0 hH 0 rfl hc_8 30 (by decide) k_652 rfl d_Ref_coded_25 ?_
        refine lv_icmp_lt (tgt := 33) hx hb d_Ref_coded_28 (by decide) (fun c => ?_) (fun c => ?_)
        · have h := h.1 c
          refine lv_iload_n hx hb d_Ref_coded_33 rfl (lv_at hl 3 rfl) ?_
          refine lv_aload_n hx hb d_Ref_coded_34 rfl (lv_at hl 0 rfl) ?_
          refine q_get (v := .int md_2.wantedSize) C0 hH 0 rfl hc_8 33 (by decide) k_655 rfl d_Ref_coded_35 ?_
          refine lv_icmp_ge (tgt := 50) hx hb d_Ref_coded_38 (by decide) (fun c => ?_) (fun c => ?_)
          · have h := h.1 c
            refine lv_bipush (v := (-9)) hx hb d_Ref_coded_50 (by decide) ?_
            exact q_reti C0 hH md_2 rfl h d_Ref_coded_52
          · have h := h.2 c
            refine lv_aload_n hx hb d_Ref_coded_41 rfl (lv_at hl 0 rfl) ?_
            refine q_get (v := .ref (ad 43)) C0 hH 0 rfl hc_8 34 (by decide) k_656 rfl d_Ref_coded_42 ?_
            refine lv_iload_n hx hb d_Ref_coded_45 rfl (lv_at hl 3 rfl) ?_
            obtain ⟨hi, h⟩ := h
            refine q_ald (f := md_2.kept) C0 hH 15 rfl hi d_Ref_coded_46 ?_
            refine lv_goto (tgt := 52) hx hb d_Ref_coded_47 (by decide) ?_
            exact q_reti C0 hH md_2 rfl h d_Ref_coded_52
        · have h := h.2 c
          refine lv_iconst (v := (-1)) hx hb d_Ref_coded_31 (by decide) ?_
          exact q_reti C0 hH md_2 rfl h d_Ref_coded_32
      · have h := h.2 c
        refine lv_iconst (v := (-1)) hx hb d_Ref_coded_15 (by decide) ?_
        exact q_reti C0 hH md rfl h d_Ref_coded_16
theorem d_Ref_count_0 : decode b_Ref_count 0 = .ok (.iload_n 1, 1) := by decide +kernel
theorem d_Ref_count_1 : decode b_Ref_count 1 = .ok (.tableswitch 78 0 6 #[43, 48, 53, 58, 63, 68, 73], 43) := by decide +kernel
theorem d_Ref_count_44 : decode b_Ref_count 44 = .ok (.aload_n 0, 1) := by decide +kernel
theorem d_Ref_count_45 : decode b_Ref_count 45 = .ok (.getfield 55, 3) := by decide +kernel
theorem d_Ref_count_48 : decode b_Ref_count 48 = .ok (.ireturn, 1) := by decide +kernel
theorem d_Ref_count_49 : decode b_Ref_count 49 = .ok (.aload_n 0, 1) := by decide +kernel
theorem d_Ref_count_50 : decode b_Ref_count 50 = .ok (.getfield 63, 3) := by decide +kernel
theorem d_Ref_count_53 : decode b_Ref_count 53 = .ok (.ireturn, 1) := by decide +kernel
theorem d_Ref_count_54 : decode b_Ref_count 54 = .ok (.aload_n 0, 1) := by decide +kernel
theorem d_Ref_count_55 : decode b_Ref_count 55 = .ok (.getfield 66, 3) := by decide +kernel
theorem d_Ref_count_58 : decode b_Ref_count 58 = .ok (.ireturn, 1) := by decide +kernel
theorem d_Ref_count_59 : decode b_Ref_count 59 = .ok (.aload_n 0, 1) := by decide +kernel
theorem d_Ref_count_60 : decode b_Ref_count 60 = .ok (.getfield 118, 3) := by decide +kernel
theorem d_Ref_count_63 : decode b_Ref_count 63 = .ok (.ireturn, 1) := by decide +kernel
theorem d_Ref_count_64 : decode b_Ref_count 64 = .ok (.aload_n 0, 1) := by decide +kernel
theorem d_Ref_count_65 : decode b_Ref_count 65 = .ok (.getfield 121, 3) := by decide +kernel
theorem d_Ref_count_68 : decode b_Ref_count 68 = .ok (.ireturn, 1) := by decide +kernel
theorem d_Ref_count_69 : decode b_Ref_count 69 = .ok (.aload_n 0, 1) := by decide +kernel
theorem d_Ref_count_70 : decode b_Ref_count 70 = .ok (.getfield 124, 3) := by decide +kernel
theorem d_Ref_count_73 : decode b_Ref_count 73 = .ok (.ireturn, 1) := by decide +kernel
theorem d_Ref_count_74 : decode b_Ref_count 74 = .ok (.aload_n 0, 1) := by decide +kernel
theorem d_Ref_count_75 : decode b_Ref_count 75 = .ok (.getfield 127, 3) := by decide +kernel
theorem d_Ref_count_78 : decode b_Ref_count 78 = .ok (.ireturn, 1) := by decide +kernel
theorem d_Ref_count_79 : decode b_Ref_count 79 = .ok (.iconst (-1), 1) := by decide +kernel
theorem d_Ref_count_80 : decode b_Ref_count 80 = .ok (.ireturn, 1) := by decide +kernel
set_option maxHeartbeats 4000000 in
set_option maxRecDepth 100000 in
theorem c_Ref_count (l : Launch) (dC : Nat → ClassId) (dI : Nat → Nat → Nat) (cA : ClassId) (ad : Nat → Nat) (x1 : Int32) (ma : mForm) (mn : mKnow) (ms : mSat) (mb : mBack) (mt : mTask) (mw : (Nat → Int32)) (mg : mGo) (md : mCode) (Q : Int32 → Prop) (sz : Nat) (h : w_Ref_count x1 ma mt Q) :
    q_Mi l y_Ref_count b_Ref_count 2 (some .int) 0 0 [.ref (ad 28), .int x1] dC dI cA ([c_RE ad cA ma mn ms mb mt mw mg md].flatten) (fun _ : Unit => [c_RE ad cA ma mn ms mb mt mw mg md].flatten) sz (fun r _ => Q r) := by
  refine q_meti (plainFor_of_name (by decide +kernel)) (Nat.le_of_ble_eq_true rfl) (fun {p e s m below meth c ls} C0 hl hH => ?_)
  obtain ⟨hx, hb, -⟩ := id C0
  have hA : ∀ q, s.heap.size ≤ q → va_A ([c_RE ad cA ma mn ms mb mt mw mg md].flatten) s.heap.size q := q_nA
  have hl : lv_has ls 2 [(0, .ref (ad 28)), (1, .int x1)] := hl
  unfold w_Ref_count at h
  refine lv_iload_n hx hb d_Ref_count_0 rfl (lv_at hl 1 rfl) ?_
  rcases q_tc7 x1 with c | c | c | c | c | c | c | c
  · have h := h.1 c
    refine lv_tableOut (tgt := 79) hx hb d_Ref_count_1 c (by decide) ?_
    refine lv_iconst (v := (-1)) hx hb d_Ref_count_79 (by decide) ?_
    exact q_reti C0 hH () rfl h d_Ref_count_80
  · have h := h.2.1 c
    refine lv_tableIn (tgt := 44) hx hb d_Ref_count_1 (by rw [c]; decide) (by rw [c]; decide) (by rw [c]; rfl) (by decide) ?_
    refine lv_aload_n hx hb d_Ref_count_44 rfl (lv_at hl 0 rfl) ?_
    refine q_get (v := .int ma.variables) C0 hH 0 rfl hc_8 0 (by decide) k_622 rfl d_Ref_count_45 ?_
    exact q_reti C0 hH () rfl h d_Ref_count_48
  · have h := h.2.2.1 c
    refine lv_tableIn (tgt := 49) hx hb d_Ref_count_1 (by rw [c]; decide) (by rw [c]; decide) (by rw [c]; rfl) (by decide) ?_
    refine lv_aload_n hx hb d_Ref_count_49 rfl (lv_at hl 0 rfl) ?_
    refine q_get (v := .int ma.clauses) C0 hH 0 rfl hc_8 1 (by decide) k_623 rfl d_Ref_count_50 ?_
    exact q_reti C0 hH () rfl h d_Ref_count_53
  · have h := h.2.2.2.1 c
    refine lv_tableIn (tgt := 54) hx hb d_Ref_count_1 (by rw [c]; decide) (by rw [c]; decide) (by rw [c]; rfl) (by decide) ?_
    refine lv_aload_n hx hb d_Ref_count_54 rfl (lv_at hl 0 rfl) ?_
    refine q_get (v := .int ma.drafted) C0 hH 0 rfl hc_8 6 (by decide) k_628 rfl d_Ref_count_55 ?_
    exact q_reti C0 hH () rfl h d_Ref_count_58
  · have h := h.2.2.2.2.1 c
    refine lv_tableIn (tgt := 59) hx hb d_Ref_count_1 (by rw [c]; decide) (by rw [c]; decide) (by rw [c]; rfl) (by decide) ?_
    refine lv_aload_n hx hb d_Ref_count_59 rfl (lv_at hl 0 rfl) ?_
    refine q_get (v := .int mt.facts) C0 hH 0 rfl hc_8 11 (by decide) k_633 rfl d_Ref_count_60 ?_
    exact q_reti C0 hH () rfl h d_Ref_count_63
  · have h := h.2.2.2.2.2.1 c
    refine lv_tableIn (tgt := 64) hx hb d_Ref_count_1 (by rw [c]; decide) (by rw [c]; decide) (by rw [c]; rfl) (by decide) ?_
    refine lv_aload_n hx hb d_Ref_count_64 rfl (lv_at hl 0 rfl) ?_
    refine q_get (v := .int mt.actions) C0 hH 0 rfl hc_8 12 (by decide) k_634 rfl d_Ref_count_65 ?_
    exact q_reti C0 hH () rfl h d_Ref_count_68
  · have h := h.2.2.2.2.2.2.1 c
    refine lv_tableIn (tgt := 69) hx hb d_Ref_count_1 (by rw [c]; decide) (by rw [c]; decide) (by rw [c]; rfl) (by decide) ?_
    refine lv_aload_n hx hb d_Ref_count_69 rfl (lv_at hl 0 rfl) ?_
    refine q_get (v := .int mt.beginning) C0 hH 0 rfl hc_8 16 (by decide) k_638 rfl d_Ref_count_70 ?_
    exact q_reti C0 hH () rfl h d_Ref_count_73
  · have h := h.2.2.2.2.2.2.2 c
    refine lv_tableIn (tgt := 74) hx hb d_Ref_count_1 (by rw [c]; decide) (by rw [c]; decide) (by rw [c]; rfl) (by decide) ?_
    refine lv_aload_n hx hb d_Ref_count_74 rfl (lv_at hl 0 rfl) ?_
    refine q_get (v := .int mt.goal) C0 hH 0 rfl hc_8 17 (by decide) k_639 rfl d_Ref_count_75 ?_
    exact q_reti C0 hH () rfl h d_Ref_count_78
