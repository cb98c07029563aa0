theorem d_Ref_follows_0 : decode b_Ref_follows 0 = .ok (.iconst 1, 1) := by decide +kernel
theorem d_Ref_follows_1 : decode b_Ref_follows 1 = .ok (.istore_n 2, 1) := by decide +kernel
theorem d_Ref_follows_2 : decode b_Ref_follows 2 = .ok (.iload_n 2, 1) := by decide +kernel
theorem d_Ref_follows_3 : decode b_Ref_follows 3 = .ok (.ifCond .eq 161, 3) := by decide +kernel
theorem d_Ref_follows_6 : decode b_Ref_follows 6 = .ok (.iconst 0, 1) := by decide +kernel
theorem d_Ref_follows_7 : decode b_Ref_follows 7 = .ok (.istore_n 2, 1) := by decide +kernel
theorem d_Ref_follows_8 : decode b_Ref_follows 8 = .ok (.aload_n 0, 1) := by decide +kernel
theorem d_Ref_follows_9 : decode b_Ref_follows 9 = .ok (.iconst (-1), 1) := by decide +kernel
theorem d_Ref_follows_10 : decode b_Ref_follows 10 = .ok (.putfield 81, 3) := by decide +kernel
theorem d_Ref_follows_13 : decode b_Ref_follows 13 = .ok (.bipush 99, 2) := by decide +kernel
theorem d_Ref_follows_15 : decode b_Ref_follows 15 = .ok (.istore_n 3, 1) := by decide +kernel
theorem d_Ref_follows_16 : decode b_Ref_follows 16 = .ok (.iconst 0, 1) := by decide +kernel
theorem d_Ref_follows_17 : decode b_Ref_follows 17 = .ok (.istore 4, 2) := by decide +kernel
theorem d_Ref_follows_19 : decode b_Ref_follows 19 = .ok (.iload 4, 2) := by decide +kernel
theorem d_Ref_follows_21 : decode b_Ref_follows 21 = .ok (.iload_n 1, 1) := by decide +kernel
theorem d_Ref_follows_22 : decode b_Ref_follows 22 = .ok (.if_icmp .ge 139, 3) := by decide +kernel
theorem d_Ref_follows_25 : decode b_Ref_follows 25 = .ok (.aload_n 0, 1) := by decide +kernel
theorem d_Ref_follows_26 : decode b_Ref_follows 26 = .ok (.getfield 16, 3) := by decide +kernel
theorem d_Ref_follows_29 : decode b_Ref_follows 29 = .ok (.iload 4, 2) := by decide +kernel
theorem d_Ref_follows_31 : decode b_Ref_follows 31 = .ok (.iaload, 1) := by decide +kernel
theorem d_Ref_follows_32 : decode b_Ref_follows 32 = .ok (.aload_n 0, 1) := by decide +kernel
theorem d_Ref_follows_33 : decode b_Ref_follows 33 = .ok (.getfield 84, 3) := by decide +kernel
theorem d_Ref_follows_36 : decode b_Ref_follows 36 = .ok (.iand, 1) := by decide +kernel
theorem d_Ref_follows_37 : decode b_Ref_follows 37 = .ok (.ifCond .ne 118, 3) := by decide +kernel
theorem d_Ref_follows_40 : decode b_Ref_follows 40 = .ok (.aload_n 0, 1) := by decide +kernel
theorem d_Ref_follows_41 : decode b_Ref_follows 41 = .ok (.getfield 19, 3) := by decide +kernel
theorem d_Ref_follows_44 : decode b_Ref_follows 44 = .ok (.iload 4, 2) := by decide +kernel
theorem d_Ref_follows_46 : decode b_Ref_follows 46 = .ok (.iaload, 1) := by decide +kernel
theorem d_Ref_follows_47 : decode b_Ref_follows 47 = .ok (.aload_n 0, 1) := by decide +kernel
theorem d_Ref_follows_48 : decode b_Ref_follows 48 = .ok (.getfield 87, 3) := by decide +kernel
theorem d_Ref_follows_51 : decode b_Ref_follows 51 = .ok (.iand, 1) := by decide +kernel
theorem d_Ref_follows_52 : decode b_Ref_follows 52 = .ok (.ifCond .ne 103, 3) := by decide +kernel
theorem d_Ref_follows_55 : decode b_Ref_follows 55 = .ok (.aload_n 0, 1) := by decide +kernel
theorem d_Ref_follows_56 : decode b_Ref_follows 56 = .ok (.getfield 16, 3) := by decide +kernel
theorem d_Ref_follows_59 : decode b_Ref_follows 59 = .ok (.iload 4, 2) := by decide +kernel
theorem d_Ref_follows_61 : decode b_Ref_follows 61 = .ok (.iaload, 1) := by decide +kernel
theorem d_Ref_follows_62 : decode b_Ref_follows 62 = .ok (.aload_n 0, 1) := by decide +kernel
theorem d_Ref_follows_63 : decode b_Ref_follows 63 = .ok (.getfield 87, 3) := by decide +kernel
theorem d_Ref_follows_66 : decode b_Ref_follows 66 = .ok (.iconst (-1), 1) := by decide +kernel
theorem d_Ref_follows_67 : decode b_Ref_follows 67 = .ok (.ixor, 1) := by decide +kernel
theorem d_Ref_follows_68 : decode b_Ref_follows 68 = .ok (.iand, 1) := by decide +kernel
theorem d_Ref_follows_69 : decode b_Ref_follows 69 = .ok (.istore 5, 2) := by decide +kernel
theorem d_Ref_follows_71 : decode b_Ref_follows 71 = .ok (.aload_n 0, 1) := by decide +kernel
theorem d_Ref_follows_72 : decode b_Ref_follows 72 = .ok (.getfield 19, 3) := by decide +kernel
theorem d_Ref_follows_75 : decode b_Ref_follows 75 = .ok (.iload 4, 2) := by decide +kernel
theorem d_Ref_follows_77 : decode b_Ref_follows 77 = .ok (.iaload, 1) := by decide +kernel
theorem d_Ref_follows_78 : decode b_Ref_follows 78 = .ok (.aload_n 0, 1) := by decide +kernel
theorem d_Ref_follows_79 : decode b_Ref_follows 79 = .ok (.getfield 84, 3) := by decide +kernel
theorem d_Ref_follows_82 : decode b_Ref_follows 82 = .ok (.iconst (-1), 1) := by decide +kernel
theorem d_Ref_follows_83 : decode b_Ref_follows 83 = .ok (.ixor, 1) := by decide +kernel
theorem d_Ref_follows_84 : decode b_Ref_follows 84 = .ok (.iand, 1) := by decide +kernel
theorem d_Ref_follows_85 : decode b_Ref_follows 85 = .ok (.istore 6, 2) := by decide +kernel
theorem d_Ref_follows_87 : decode b_Ref_follows 87 = .ok (.iload 5, 2) := by decide +kernel
theorem d_Ref_follows_89 : decode b_Ref_follows 89 = .ok (.invokestatic 90, 3) := by decide +kernel
theorem d_Ref_follows_92 : decode b_Ref_follows 92 = .ok (.iload 6, 2) := by decide +kernel
theorem d_Ref_follows_94 : decode b_Ref_follows 94 = .ok (.invokestatic 90, 3) := by decide +kernel
theorem d_Ref_follows_97 : decode b_Ref_follows 97 = .ok (.iadd, 1) := by decide +kernel
theorem d_Ref_follows_98 : decode b_Ref_follows 98 = .ok (.istore 7, 2) := by decide +kernel
theorem d_Ref_follows_100 : decode b_Ref_follows 100 = .ok (.iload 7, 2) := by decide +kernel
theorem d_Ref_follows_102 : decode b_Ref_follows 102 = .ok (.ifCond .ne 5, 3) := by decide +kernel
theorem d_Ref_follows_105 : decode b_Ref_follows 105 = .ok (.iconst 0, 1) := by decide +kernel
theorem d_Ref_follows_106 : decode b_Ref_follows 106 = .ok (.ireturn, 1) := by decide +kernel
theorem d_Ref_follows_107 : decode b_Ref_follows 107 = .ok (.iload 7, 2) := by decide +kernel
theorem d_Ref_follows_109 : decode b_Ref_follows 109 = .ok (.iconst 1, 1) := by decide +kernel
theorem d_Ref_follows_110 : decode b_Ref_follows 110 = .ok (.if_icmp .ne 30, 3) := by decide +kernel
theorem d_Ref_follows_113 : decode b_Ref_follows 113 = .ok (.aload_n 0, 1) := by decide +kernel
theorem d_Ref_follows_114 : decode b_Ref_follows 114 = .ok (.dup, 1) := by decide +kernel
theorem d_Ref_follows_115 : decode b_Ref_follows 115 = .ok (.getfield 84, 3) := by decide +kernel
theorem d_Ref_follows_118 : decode b_Ref_follows 118 = .ok (.iload 5, 2) := by decide +kernel
theorem d_Ref_follows_120 : decode b_Ref_follows 120 = .ok (.ior, 1) := by decide +kernel
theorem d_Ref_follows_121 : decode b_Ref_follows 121 = .ok (.putfield 84, 3) := by decide +kernel
theorem d_Ref_follows_124 : decode b_Ref_follows 124 = .ok (.aload_n 0, 1) := by decide +kernel
theorem d_Ref_follows_125 : decode b_Ref_follows 125 = .ok (.dup, 1) := by decide +kernel
theorem d_Ref_follows_126 : decode b_Ref_follows 126 = .ok (.getfield 87, 3) := by decide +kernel
theorem d_Ref_follows_129 : decode b_Ref_follows 129 = .ok (.iload 6, 2) := by decide +kernel
theorem d_Ref_follows_131 : decode b_Ref_follows 131 = .ok (.ior, 1) := by decide +kernel
theorem d_Ref_follows_132 : decode b_Ref_follows 132 = .ok (.putfield 87, 3) := by decide +kernel
theorem d_Ref_follows_135 : decode b_Ref_follows 135 = .ok (.iconst 1, 1) := by decide +kernel
theorem d_Ref_follows_136 : decode b_Ref_follows 136 = .ok (.istore_n 2, 1) := by decide +kernel
theorem d_Ref_follows_137 : decode b_Ref_follows 137 = .ok (.goto 18, 3) := by decide +kernel
theorem d_Ref_follows_140 : decode b_Ref_follows 140 = .ok (.iload 7, 2) := by decide +kernel
theorem d_Ref_follows_142 : decode b_Ref_follows 142 = .ok (.iload_n 3, 1) := by decide +kernel
theorem d_Ref_follows_143 : decode b_Ref_follows 143 = .ok (.if_icmp .ge 12, 3) := by decide +kernel
theorem d_Ref_follows_146 : decode b_Ref_follows 146 = .ok (.iload 7, 2) := by decide +kernel
theorem d_Ref_follows_148 : decode b_Ref_follows 148 = .ok (.istore_n 3, 1) := by decide +kernel
theorem d_Ref_follows_149 : decode b_Ref_follows 149 = .ok (.aload_n 0, 1) := by decide +kernel
theorem d_Ref_follows_150 : decode b_Ref_follows 150 = .ok (.iload 4, 2) := by decide +kernel
theorem d_Ref_follows_152 : decode b_Ref_follows 152 = .ok (.putfield 81, 3) := by decide +kernel
theorem d_Ref_follows_155 : decode b_Ref_follows 155 = .ok (.iinc 4 1, 3) := by decide +kernel
theorem d_Ref_follows_158 : decode b_Ref_follows 158 = .ok (.goto (-139), 3) := by decide +kernel
theorem d_Ref_follows_161 : decode b_Ref_follows 161 = .ok (.goto (-159), 3) := by decide +kernel
theorem d_Ref_follows_164 : decode b_Ref_follows 164 = .ok (.iconst 1, 1) := by decide +kernel
theorem d_Ref_follows_165 : decode b_Ref_follows 165 = .ok (.ireturn, 1) := by decide +kernel
set_option maxHeartbeats 4000000 in
set_option maxRecDepth 100000 in
theorem x_Ref_follows_L19 {p : Program} {e : Env} {s : State} {m : MethodId} {args : Array Value} {below : List Frame} {meth : Method} {c : Code} {l : Launch} {dC : Nat → ClassId} {dI : Nat → Nat → Nat} {cA : ClassId} {ad : Nat → Nat} {w0 : va_W} (C0 : q_C p s m args meth c b_Ref_follows 8 (some .boolean) "PlanClausesModel" dC dI cA) (hA : ∀ q, s.heap.size ≤ q → va_A w0 s.heap.size q) (x1 : Int32) (ma : mForm) (mn : mKnow) (mb : mBack) (mt : mTask) (mw : (Nat → Int32)) (mg : mGo) (md : mCode) {Q : Int32 → mSat → Prop} {K161 : Int32 → mSat → Prop}
    (hK161 : ∀ (x2 : Int32) (ms : mSat) (H : Heap) (locs : List Loc) (ls : Array Slot), K161 x2 ms → lv_has ls 8 [(0, .ref (ad 28)), (1, .int x1), (2, .int x2)] → q_H dC dI (va_A w0 s.heap.size) s.heap H locs ([c_RE ad cA ma mn ms mb mt mw mg md].flatten) → W p l e (q_R 1 22) s m args below meth c H locs 0 0 (q_Zi below args s dC dI cA w0 (fun u : mSat => [c_RE ad cA ma mn u mb mt mw mg md].flatten) (fun r u => Q r u)) (F0 m 161 ls [])) :
    ∀ (nn : Nat) (x2 : Int32) (x3 : Int32) (x4 : Int32) (ms : mSat) (H : Heap) (locs : List Loc) (ls : Array Slot), w_Ref_follows_L19 x1 ma K161 Q nn x2 x3 x4 ms → lv_has ls 8 [(0, .ref (ad 28)), (1, .int x1), (2, .int x2), (3, .int x3), (4, .int x4)] → q_H dC dI (va_A w0 s.heap.size) s.heap H locs ([c_RE ad cA ma mn ms mb mt mw mg md].flatten) → W p l e (q_R 1 22) s m args below meth c H locs 0 0 (q_Zi below args s dC dI cA w0 (fun u : mSat => [c_RE ad cA ma mn u mb mt mw mg md].flatten) (fun r u => Q r u)) (F0 m 19 ls []) := by
  obtain ⟨hx, hb, -⟩ := id C0
  intro nn
  induction nn with
  | zero =>
    intro x2 x3 x4 ms H locs ls h
    exact (show False from h).elim
  | succ nn ih =>
    intro x2 x3 x4 ms H locs ls h hl hH
    rw [w_Ref_follows_L19] at h
    refine lv_iload hx hb d_Ref_follows_19 (lv_at hl 4 rfl) ?_
    refine lv_iload_n hx hb d_Ref_follows_21 rfl (lv_at hl 1 rfl) ?_
    refine lv_icmp_ge (tgt := 161) hx hb d_Ref_follows_22 (by decide) (fun c => ?_) (fun c => ?_)
    · have h := h.1 c
      exact hK161 x2 ms _ _ _ h (lv_sub hl [0, 1, 2] rfl) hH
    · have h := h.2 c
      refine lv_aload_n hx hb d_Ref_follows_25 rfl (lv_at hl 0 rfl) ?_
      refine q_get (v := .ref (ad 31)) C0 hH 0 rfl hc_8 4 (by decide) k_626 rfl d_Ref_follows_26 ?_
      refine lv_iload hx hb d_Ref_follows_29 (lv_at hl 4 rfl) ?_
      obtain ⟨hi, h⟩ := h
      refine q_ald (f := ma.told) C0 hH 3 rfl hi d_Ref_follows_31 ?_
      refine lv_aload_n hx hb d_Ref_follows_32 rfl (lv_at hl 0 rfl) ?_
      refine q_get (v := .int ms.isTrue) C0 hH 0 rfl hc_8 18 (by decide) k_640 rfl d_Ref_follows_33 ?_
      refine lv_iand hx hb d_Ref_follows_36 ?_
      refine lv_if_ne (tgt := 155) hx hb d_Ref_follows_37 (by decide) (fun c => ?_) (fun c => ?_)
      · have h := h.1 c
        refine lv_iinc (v := (x4 + 1)) (lv' := [(4, .int (x4 + 1)), (0, .ref (ad 28)), (1, .int x1), (2, .int x2), (3, .int x3)]) hx hb d_Ref_follows_155 hl (k := 4) rfl rfl (by decide) rfl (fun ls hl => ?_)
        refine lv_goto (tgt := 19) hx hb d_Ref_follows_158 (by decide) ?_
        exact ih x2 x3 (x4 + 1) ms _ _ _ h (lv_sub hl [1, 2, 3, 4, 0] rfl) hH
      · have h := h.2 c
        refine lv_aload_n hx hb d_Ref_follows_40 rfl (lv_at hl 0 rfl) ?_
        refine q_get (v := .ref (ad 32)) C0 hH 0 rfl hc_8 5 (by decide) k_627 rfl d_Ref_follows_41 ?_
        refine lv_iload hx hb d_Ref_follows_44 (lv_at hl 4 rfl) ?_
        obtain ⟨hi, h⟩ := h
        refine q_ald (f := ma.toldNot) C0 hH 4 rfl hi d_Ref_follows_46 ?_
        refine lv_aload_n hx hb d_Ref_follows_47 rfl (lv_at hl 0 rfl) ?_
        refine q_get (v := .int ms.isFalse) C0 hH 0 rfl hc_8 19 (by decide) k_641 rfl d_Ref_follows_48 ?_
        refine lv_iand hx hb d_Ref_follows_51 ?_
        refine lv_if_ne (tgt := 155) hx hb d_Ref_follows_52 (by decide) (fun c => ?_) (fun c => ?_)
        · have h := h.1 c
          refine lv_iinc (v := (x4 + 1)) (lv' := [(4, .int (x4 + 1)), (0, .ref (ad 28)), (1, .int x1), (2, .int x2), (3, .int x3)]) hx hb d_Ref_follows_155 hl (k := 4) rfl rfl (by decide) rfl (fun ls hl => ?_)
          refine lv_goto (tgt := 19) hx hb d_Ref_follows_158 (by decide) ?_
          exact ih x2 x3 (x4 + 1) ms _ _ _ h (lv_sub hl [1, 2, 3, 4, 0] rfl) hH
        · have h := h.2 c
          refine lv_aload_n hx hb d_Ref_follows_55 rfl (lv_at hl 0 rfl) ?_
          refine q_get (v := .ref (ad 31)) C0 hH 0 rfl hc_8 4 (by decide) k_626 rfl d_Ref_follows_56 ?_
          refine lv_iload hx hb d_Ref_follows_59 (lv_at hl 4 rfl) ?_
          obtain ⟨hi, h⟩ := h
          refine q_ald (f := ma.told) C0 hH 3 rfl hi d_Ref_follows_61 ?_
          refine lv_aload_n hx hb d_Ref_follows_62 rfl (lv_at hl 0 rfl) ?_
          refine q_get (v := .int ms.isFalse) C0 hH 0 rfl hc_8 19 (by decide) k_641 rfl d_Ref_follows_63 ?_
          refine lv_iconst (v := (-1)) hx hb d_Ref_follows_66 (by decide) ?_
          refine lv_ixor hx hb d_Ref_follows_67 ?_
          refine lv_iand hx hb d_Ref_follows_68 ?_
          refine lv_istore (lv' := [(5, .int ((ma.told x4.toNatClampNeg) &&& (ms.isFalse ^^^ (-1)))), (0, .ref (ad 28)), (1, .int x1), (2, .int x2), (3, .int x3), (4, .int x4)]) hx hb d_Ref_follows_69 hl (by decide) rfl (fun ls hl => ?_)
          refine lv_aload_n hx hb d_Ref_follows_71 rfl (lv_at hl 1 rfl) ?_
          refine q_get (v := .ref (ad 32)) C0 hH 0 rfl hc_8 5 (by decide) k_627 rfl d_Ref_follows_72 ?_
          refine lv_iload hx hb d_Ref_follows_75 (lv_at hl 5 rfl) ?_
          obtain ⟨hi, h⟩ := h
          refine q_ald (f := ma.toldNot) C0 hH 4 rfl hi d_Ref_follows_77 ?_
          refine lv_aload_n hx hb d_Ref_follows_78 rfl (lv_at hl 1 rfl) ?_
          refine q_get (v := .int ms.isTrue) C0 hH 0 rfl hc_8 18 (by decide) k_640 rfl d_Ref_follows_79 ?_
          refine lv_iconst (v := (-1)) hx hb d_Ref_follows_82 (by decide) ?_
          refine lv_ixor hx hb d_Ref_follows_83 ?_
          refine lv_iand hx hb d_Ref_follows_84 ?_
          refine lv_istore (lv' := [(6, .int ((ma.toldNot x4.toNatClampNeg) &&& (ms.isTrue ^^^ (-1)))), (5, .int ((ma.told x4.toNatClampNeg) &&& (ms.isFalse ^^^ (-1)))), (0, .ref (ad 28)), (1, .int x1), (2, .int x2), (3, .int x3), (4, .int x4)]) hx hb d_Ref_follows_85 hl (by decide) rfl (fun ls hl => ?_)
          refine lv_iload hx hb d_Ref_follows_87 (lv_at hl 1 rfl) ?_
          refine q_calls (rest := []) C0 hH hA (c_Ref_ones l dC dI cA ad ((ma.told x4.toNatClampNeg) &&& (ms.isFalse ^^^ (-1))) _ _ h) Y_Ref_ones k_773 ⟨Nat.le_of_ble_eq_true rfl, Nat.le_of_ble_eq_true rfl⟩ rfl rfl (Nat.le_of_ble_eq_true rfl) hl.1 d_Ref_follows_89 ⟨Nat.le_refl 0, Nat.le_refl 0⟩ (fun r_1 H locs h hH => ?_)
          try dsimp only at h
          refine lv_iload hx hb d_Ref_follows_92 (lv_at hl 0 rfl) ?_
          refine q_calls (rest := [.int r_1]) C0 hH hA (c_Ref_ones l dC dI cA ad ((ma.toldNot x4.toNatClampNeg) &&& (ms.isTrue ^^^ (-1))) _ _ h) Y_Ref_ones k_773 ⟨Nat.le_of_ble_eq_true rfl, Nat.le_of_ble_eq_true rfl⟩ rfl rfl (Nat.le_of_ble_eq_true rfl) hl.1 d_Ref_follows_94 ⟨Nat.le_refl 0, Nat.le_refl 0⟩ (fun r_2 H locs h hH => ?_)
          try dsimp only at h
          refine lv_iadd hx hb d_Ref_follows_97 ?_
          refine lv_istore (lv' := [(7, .int (r_1 + r_2)), (6, .int ((ma.toldNot x4.toNatClampNeg) &&& (ms.isTrue ^^^ (-1)))), (5, .int ((ma.told x4.toNatClampNeg) &&& (ms.isFalse ^^^ (-1)))), (0, .ref (ad 28)), (1, .int x1), (2, .int x2), (3, .int x3), (4, .int x4)]) hx hb d_Ref_follows_98 hl (by decide) rfl (fun ls hl => ?_)
          refine lv_iload hx hb d_Ref_follows_100 (lv_at hl 0 rfl) ?_
          refine lv_if_ne (tgt := 107) hx hb d_Ref_follows_102 (by decide) (fun c => ?_) (fun c => ?_)
          · have h := h.1 c
            refine lv_iload hx hb d_Ref_follows_107 (lv_at hl 0 rfl) ?_
            refine lv_iconst (v := 1) hx hb d_Ref_follows_109 (by decide) ?_
            refine lv_icmp_ne (tgt := 140) hx hb d_Ref_follows_110 (by decide) (fun c => ?_) (fun c => ?_)
            · have h := h.1 c
              refine lv_iload hx hb d_Ref_follows_140 (lv_at hl 0 rfl) ?_
              refine lv_iload_n hx hb d_Ref_follows_142 rfl (lv_at hl 6 rfl) ?_
              refine lv_icmp_ge (tgt := 155) hx hb d_Ref_follows_143 (by decide) (fun c => ?_) (fun c => ?_)
              · have h := h.1 c
                refine lv_iinc (v := (x4 + 1)) (lv' := [(4, .int (x4 + 1)), (7, .int (r_1 + r_2)), (6, .int ((ma.toldNot x4.toNatClampNeg) &&& (ms.isTrue ^^^ (-1)))), (5, .int ((ma.told x4.toNatClampNeg) &&& (ms.isFalse ^^^ (-1)))), (0, .ref (ad 28)), (1, .int x1), (2, .int x2), (3, .int x3)]) hx hb d_Ref_follows_155 hl (k := 7) rfl rfl (by decide) rfl (fun ls hl => ?_)
                refine lv_goto (tgt := 19) hx hb d_Ref_follows_158 (by decide) ?_
                exact ih x2 x3 (x4 + 1) ms _ _ _ h (lv_sub hl [4, 5, 6, 7, 0] rfl) hH
              · have h := h.2 c
                refine lv_iload hx hb d_Ref_follows_146 (lv_at hl 0 rfl) ?_
                refine lv_istore_n (lv' := [(3, .int (r_1 + r_2)), (7, .int (r_1 + r_2)), (6, .int ((ma.toldNot x4.toNatClampNeg) &&& (ms.isTrue ^^^ (-1)))), (5, .int ((ma.told x4.toNatClampNeg) &&& (ms.isFalse ^^^ (-1)))), (0, .ref (ad 28)), (1, .int x1), (2, .int x2), (4, .int x4)]) hx hb d_Ref_follows_148 rfl hl (by decide) rfl (fun ls hl => ?_)
                refine lv_aload_n hx hb d_Ref_follows_149 rfl (lv_at hl 4 rfl) ?_
                refine lv_iload hx hb d_Ref_follows_150 (lv_at hl 7 rfl) ?_
                refine q_puti (ws' := [c_RE ad cA ma mn (mSat.mk ms.isTrue ms.isFalse ms.keptTrue ms.keptFalse ms.triedTrue ms.triedFalse x4) mb mt mw mg md].flatten) C0 hH 0 rfl hc_8 24 (by decide) k_646 rfl rfl (Nat.le_of_ble_eq_true rfl) rfl d_Ref_follows_152 (fun H locs hH => ?_)
                refine lv_iinc (v := (x4 + 1)) (lv' := [(4, .int (x4 + 1)), (3, .int (r_1 + r_2)), (7, .int (r_1 + r_2)), (6, .int ((ma.toldNot x4.toNatClampNeg) &&& (ms.isTrue ^^^ (-1)))), (5, .int ((ma.told x4.toNatClampNeg) &&& (ms.isFalse ^^^ (-1)))), (0, .ref (ad 28)), (1, .int x1), (2, .int x2)]) hx hb d_Ref_follows_155 hl (k := 7) rfl rfl (by decide) rfl (fun ls hl => ?_)
                refine lv_goto (tgt := 19) hx hb d_Ref_follows_158 (by decide) ?_
                exact ih x2 (r_1 + r_2) (x4 + 1) (mSat.mk ms.isTrue ms.isFalse ms.keptTrue ms.keptFalse ms.triedTrue ms.triedFalse x4) _ _ _ h (lv_sub hl [5, 6, 7, 1, 0] rfl) hH
            · have h := h.2 c
              refine lv_aload_n hx hb d_Ref_follows_113 rfl (lv_at hl 3 rfl) ?_
              refine lv_dup hx hb d_Ref_follows_114 rfl ?_
              refine q_get (v := .int ms.isTrue) C0 hH 0 rfl hc_8 18 (by decide) k_640 rfl d_Ref_follows_115 ?_
              refine lv_iload hx hb d_Ref_follows_118 (lv_at hl 2 rfl) ?_
              refine lv_ior hx hb d_Ref_follows_120 ?_
              refine q_puti (ws' := [c_RE ad cA ma mn (mSat.mk (ms.isTrue ||| ((ma.told x4.toNatClampNeg) &&& (ms.isFalse ^^^ (-1)))) ms.isFalse ms.keptTrue ms.keptFalse ms.triedTrue ms.triedFalse ms.shortest1) mb mt mw mg md].flatten) C0 hH 0 rfl hc_8 18 (by decide) k_640 rfl rfl (Nat.le_of_ble_eq_true rfl) rfl d_Ref_follows_121 (fun H locs hH => ?_)
              refine lv_aload_n hx hb d_Ref_follows_124 rfl (lv_at hl 3 rfl) ?_
              refine lv_dup hx hb d_Ref_follows_125 rfl ?_
              refine q_get (v := .int ms.isFalse) C0 hH 0 rfl hc_8 19 (by decide) k_641 rfl d_Ref_follows_126 ?_
              refine lv_iload hx hb d_Ref_follows_129 (lv_at hl 1 rfl) ?_
              refine lv_ior hx hb d_Ref_follows_131 ?_
              refine q_puti (ws' := [c_RE ad cA ma mn (mSat.mk (ms.isTrue ||| ((ma.told x4.toNatClampNeg) &&& (ms.isFalse ^^^ (-1)))) (ms.isFalse ||| ((ma.toldNot x4.toNatClampNeg) &&& (ms.isTrue ^^^ (-1)))) ms.keptTrue ms.keptFalse ms.triedTrue ms.triedFalse ms.shortest1) mb mt mw mg md].flatten) C0 hH 0 rfl hc_8 19 (by decide) k_641 rfl rfl (Nat.le_of_ble_eq_true rfl) rfl d_Ref_follows_132 (fun H locs hH => ?_)
              refine lv_iconst (v := 1) hx hb d_Ref_follows_135 (by decide) ?_
              refine lv_istore_n (lv' := [(2, .int 1), (7, .int (r_1 + r_2)), (6, .int ((ma.toldNot x4.toNatClampNeg) &&& (ms.isTrue ^^^ (-1)))), (5, .int ((ma.told x4.toNatClampNeg) &&& (ms.isFalse ^^^ (-1)))), (0, .ref (ad 28)), (1, .int x1), (3, .int x3), (4, .int x4)]) hx hb d_Ref_follows_136 rfl hl (by decide) rfl (fun ls hl => ?_)
              refine lv_goto (tgt := 155) hx hb d_Ref_follows_137 (by decide) ?_
              refine lv_iinc (v := (x4 + 1)) (lv' := [(4, .int (x4 + 1)), (2, .int 1), (7, .int (r_1 + r_2)), (6, .int ((ma.toldNot x4.toNatClampNeg) &&& (ms.isTrue ^^^ (-1)))), (5, .int ((ma.told x4.toNatClampNeg) &&& (ms.isFalse ^^^ (-1)))), (0, .ref (ad 28)), (1, .int x1), (3, .int x3)]) hx hb d_Ref_follows_155 hl (k := 7) rfl rfl (by decide) rfl (fun ls hl => ?_)
              refine lv_goto (tgt := 19) hx hb d_Ref_follows_158 (by decide) ?_
              exact ih 1 x3 (x4 + 1) (mSat.mk (ms.isTrue ||| ((ma.told x4.toNatClampNeg) &&& (ms.isFalse ^^^ (-1)))) (ms.isFalse ||| ((ma.toldNot x4.toNatClampNeg) &&& (ms.isTrue ^^^ (-1)))) ms.keptTrue ms.keptFalse ms.triedTrue ms.triedFalse ms.shortest1) _ _ _ h (lv_sub hl [5, 6, 1, 7, 0] rfl) hH
          · have h := h.2 c
            refine lv_iconst (v := 0) hx hb d_Ref_follows_105 (by decide) ?_
            exact q_retz C0 hH ms rfl (Or.inl rfl) h d_Ref_follows_106
set_option maxHeartbeats 4000000 in
set_option maxRecDepth 100000 in
theorem x_Ref_follows_L2 {p : Program} {e : Env} {s : State} {m : MethodId} {args : Array Value} {below : List Frame} {meth : Method} {c : Code} {l : Launch} {dC : Nat → ClassId} {dI : Nat → Nat → Nat} {cA : ClassId} {ad : Nat → Nat} {w0 : va_W} (C0 : q_C p s m args meth c b_Ref_follows 8 (some .boolean) "PlanClausesModel" dC dI cA) (hA : ∀ q, s.heap.size ≤ q → va_A w0 s.heap.size q) (x1 : Int32) (ma : mForm) (mn : mKnow) (mb : mBack) (mt : mTask) (mw : (Nat → Int32)) (mg : mGo) (md : mCode) {Q : Int32 → mSat → Prop} {K164 : mSat → Prop}
    (hK164 : ∀ (ms : mSat) (H : Heap) (locs : List Loc) (ls : Array Slot), K164 ms → lv_has ls 8 [] → q_H dC dI (va_A w0 s.heap.size) s.heap H locs ([c_RE ad cA ma mn ms mb mt mw mg md].flatten) → W p l e (q_R 1 22) s m args below meth c H locs 0 0 (q_Zi below args s dC dI cA w0 (fun u : mSat => [c_RE ad cA ma mn u mb mt mw mg md].flatten) (fun r u => Q r u)) (F0 m 164 ls [])) :
    ∀ (nn : Nat) (x2 : Int32) (ms : mSat) (H : Heap) (locs : List Loc) (ls : Array Slot), w_Ref_follows_L2 x1 ma K164 Q nn x2 ms → lv_has ls 8 [(0, .ref (ad 28)), (1, .int x1), (2, .int x2)] → q_H dC dI (va_A w0 s.heap.size) s.heap H locs ([c_RE ad cA ma mn ms mb mt mw mg md].flatten) → W p l e (q_R 1 22) s m args below meth c H locs 0 0 (q_Zi below args s dC dI cA w0 (fun u : mSat => [c_RE ad cA ma mn u mb mt mw mg md].flatten) (fun r u => Q r u)) (F0 m 2 ls []) := by
  obtain ⟨hx, hb, -⟩ := id C0
  intro nn
  induction nn with
  | zero =>
    intro x2 ms H locs ls h
    exact (show False from h).elim
  | succ nn ih =>
    intro x2 ms H locs ls h hl hH
    rw [w_Ref_follows_L2] at h
    refine lv_iload_n hx hb d_Ref_follows_2 rfl (lv_at hl 2 rfl) ?_
    refine lv_if_eq (tgt := 164) hx hb d_Ref_follows_3 (by decide) (fun c => ?_) (fun c => ?_)
    · have h := h.1 c
      exact hK164 ms _ _ _ h (lv_sub hl [] rfl) hH
    · have h := h.2 c
      refine lv_iconst (v := 0) hx hb d_Ref_follows_6 (by decide) ?_
      refine lv_istore_n (lv' := [(2, .int 0), (0, .ref (ad 28)), (1, .int x1)]) hx hb d_Ref_follows_7 rfl hl (by decide) rfl (fun ls hl => ?_)
      refine lv_aload_n hx hb d_Ref_follows_8 rfl (lv_at hl 1 rfl) ?_
      refine lv_iconst (v := (-1)) hx hb d_Ref_follows_9 (by decide) ?_
      refine q_puti (ws' := [c_RE ad cA ma mn (mSat.mk ms.isTrue ms.isFalse ms.keptTrue ms.keptFalse ms.triedTrue ms.triedFalse (-1)) mb mt mw mg md].flatten) C0 hH 0 rfl hc_8 24 (by decide) k_646 rfl rfl (Nat.le_of_ble_eq_true rfl) rfl d_Ref_follows_10 (fun H locs hH => ?_)
      refine lv_bipush (v := 99) hx hb d_Ref_follows_13 (by decide) ?_
      refine lv_istore_n (lv' := [(3, .int 99), (2, .int 0), (0, .ref (ad 28)), (1, .int x1)]) hx hb d_Ref_follows_15 rfl hl (by decide) rfl (fun ls hl => ?_)
      refine lv_iconst (v := 0) hx hb d_Ref_follows_16 (by decide) ?_
      refine lv_istore (lv' := [(4, .int 0), (3, .int 99), (2, .int 0), (0, .ref (ad 28)), (1, .int x1)]) hx hb d_Ref_follows_17 hl (by decide) rfl (fun ls hl => ?_)
      obtain ⟨nn, h⟩ := h
      refine x_Ref_follows_L19 C0 hA x1 ma mn mb mt mw mg md ?_ nn 0 99 0 (mSat.mk ms.isTrue ms.isFalse ms.keptTrue ms.keptFalse ms.triedTrue ms.triedFalse (-1)) _ _ _ h (lv_sub hl [3, 4, 2, 1, 0] rfl) hH
      · intro x2_1 ms_1 H locs ls h hl hH
        try dsimp only at h
        refine lv_goto (tgt := 2) hx hb d_Ref_follows_161 (by decide) ?_
        exact ih x2_1 ms_1 _ _ _ h (lv_sub hl [0, 1, 2] rfl) hH
set_option maxHeartbeats 4000000 in
set_option maxRecDepth 100000 in
theorem c_Ref_follows (l : Launch) (dC : Nat → ClassId) (dI : Nat → Nat → Nat) (cA : ClassId) (ad : Nat → Nat) (x1 : Int32) (ma : mForm) (mn : mKnow) (ms : mSat) (mb : mBack) (mt : mTask) (mw : (Nat → Int32)) (mg : mGo) (md : mCode) (Q : Int32 → mSat → Prop) (sz : Nat) (h : w_Ref_follows x1 ma ms Q) :
    q_Mi l y_Ref_follows b_Ref_follows 8 (some .boolean) 1 22 [.ref (ad 28), .int x1] dC dI cA ([c_RE ad cA ma mn ms mb mt mw mg md].flatten) (fun u : mSat => [c_RE ad cA ma mn u mb mt mw mg md].flatten) sz (fun r u => Q r u) := by
  refine q_meti (plainFor_of_name (by decide +kernel)) (Nat.le_of_ble_eq_true rfl) (fun {p e s m below meth c ls} C0 hl hH => ?_)
  obtain ⟨hx, hb, -⟩ := id C0
  have hA : ∀ q, s.heap.size ≤ q → va_A ([c_RE ad cA ma mn ms mb mt mw mg md].flatten) s.heap.size q := q_nA
  have hl : lv_has ls 8 [(0, .ref (ad 28)), (1, .int x1)] := hl
  unfold w_Ref_follows at h
  refine lv_iconst (v := 1) hx hb d_Ref_follows_0 (by decide) ?_
  refine lv_istore_n (lv' := [(2, .int 1), (0, .ref (ad 28)), (1, .int x1)]) hx hb d_Ref_follows_1 rfl hl (by decide) rfl (fun ls hl => ?_)
  obtain ⟨nn, h⟩ := h
  refine x_Ref_follows_L2 C0 hA x1 ma mn mb mt mw mg md ?_ nn 1 ms _ _ _ h (lv_sub hl [1, 2, 0] rfl) hH
  · intro ms_1 H locs ls h hl hH
    try dsimp only at h
    refine lv_iconst (v := 1) hx hb d_Ref_follows_164 (by decide) ?_
    exact q_retz C0 hH ms_1 rfl (Or.inr rfl) h d_Ref_follows_165
theorem d_Ref_canBe_0 : decode b_Ref_canBe 0 = .ok (.aload_n 0, 1) := by decide +kernel
theorem d_Ref_canBe_1 : decode b_Ref_canBe 1 = .ok (.iload_n 2, 1) := by decide +kernel
theorem d_Ref_canBe_2 : decode b_Ref_canBe 2 = .ok (.putfield 84, 3) := by decide +kernel
theorem d_Ref_canBe_5 : decode b_Ref_canBe 5 = .ok (.aload_n 0, 1) := by decide +kernel
theorem d_Ref_canBe_6 : decode b_Ref_canBe 6 = .ok (.iload_n 3, 1) := by decide +kernel
theorem d_Ref_canBe_7 : decode b_Ref_canBe 7 = .ok (.putfield 87, 3) := by decide +kernel
theorem d_Ref_canBe_10 : decode b_Ref_canBe 10 = .ok (.iconst 0, 1) := by decide +kernel
theorem d_Ref_canBe_11 : decode b_Ref_canBe 11 = .ok (.istore 4, 2) := by decide +kernel
theorem d_Ref_canBe_13 : decode b_Ref_canBe 13 = .ok (.aload_n 0, 1) := by decide +kernel
theorem d_Ref_canBe_14 : decode b_Ref_canBe 14 = .ok (.iload_n 1, 1) := by decide +kernel
theorem d_Ref_canBe_15 : decode b_Ref_canBe 15 = .ok (.invokevirtual 93, 3) := by decide +kernel
theorem d_Ref_canBe_18 : decode b_Ref_canBe 18 = .ok (.istore 5, 2) := by decide +kernel
theorem d_Ref_canBe_20 : decode b_Ref_canBe 20 = .ok (.iload 5, 2) := by decide +kernel
theorem d_Ref_canBe_22 : decode b_Ref_canBe 22 = .ok (.ifCond .eq 12, 3) := by decide +kernel
theorem d_Ref_canBe_25 : decode b_Ref_canBe 25 = .ok (.aload_n 0, 1) := by decide +kernel
theorem d_Ref_canBe_26 : decode b_Ref_canBe 26 = .ok (.getfield 81, 3) := by decide +kernel
theorem d_Ref_canBe_29 : decode b_Ref_canBe 29 = .ok (.ifCond .ge 5, 3) := by decide +kernel
theorem d_Ref_canBe_32 : decode b_Ref_canBe 32 = .ok (.iconst 1, 1) := by decide +kernel
theorem d_Ref_canBe_33 : decode b_Ref_canBe 33 = .ok (.ireturn, 1) := by decide +kernel
theorem d_Ref_canBe_34 : decode b_Ref_canBe 34 = .ok (.iload 5, 2) := by decide +kernel
theorem d_Ref_canBe_36 : decode b_Ref_canBe 36 = .ok (.ifCond .eq 134, 3) := by decide +kernel
theorem d_Ref_canBe_39 : decode b_Ref_canBe 39 = .ok (.aload_n 0, 1) := by decide +kernel
theorem d_Ref_canBe_40 : decode b_Ref_canBe 40 = .ok (.getfield 16, 3) := by decide +kernel
theorem d_Ref_canBe_43 : decode b_Ref_canBe 43 = .ok (.aload_n 0, 1) := by decide +kernel
theorem d_Ref_canBe_44 : decode b_Ref_canBe 44 = .ok (.getfield 81, 3) := by decide +kernel
theorem d_Ref_canBe_47 : decode b_Ref_canBe 47 = .ok (.iaload, 1) := by decide +kernel
theorem d_Ref_canBe_48 : decode b_Ref_canBe 48 = .ok (.aload_n 0, 1) := by decide +kernel
theorem d_Ref_canBe_49 : decode b_Ref_canBe 49 = .ok (.getfield 87, 3) := by decide +kernel
theorem d_Ref_canBe_52 : decode b_Ref_canBe 52 = .ok (.iconst (-1), 1) := by decide +kernel
theorem d_Ref_canBe_53 : decode b_Ref_canBe 53 = .ok (.ixor, 1) := by decide +kernel
theorem d_Ref_canBe_54 : decode b_Ref_canBe 54 = .ok (.iand, 1) := by decide +kernel
theorem d_Ref_canBe_55 : decode b_Ref_canBe 55 = .ok (.istore 6, 2) := by decide +kernel
theorem d_Ref_canBe_57 : decode b_Ref_canBe 57 = .ok (.aload_n 0, 1) := by decide +kernel
theorem d_Ref_canBe_58 : decode b_Ref_canBe 58 = .ok (.getfield 19, 3) := by decide +kernel
theorem d_Ref_canBe_61 : decode b_Ref_canBe 61 = .ok (.aload_n 0, 1) := by decide +kernel
theorem d_Ref_canBe_62 : decode b_Ref_canBe 62 = .ok (.getfield 81, 3) := by decide +kernel
theorem d_Ref_canBe_65 : decode b_Ref_canBe 65 = .ok (.iaload, 1) := by decide +kernel
theorem d_Ref_canBe_66 : decode b_Ref_canBe 66 = .ok (.aload_n 0, 1) := by decide +kernel
theorem d_Ref_canBe_67 : decode b_Ref_canBe 67 = .ok (.getfield 84, 3) := by decide +kernel
theorem d_Ref_canBe_70 : decode b_Ref_canBe 70 = .ok (.iconst (-1), 1) := by decide +kernel
theorem d_Ref_canBe_71 : decode b_Ref_canBe 71 = .ok (.ixor, 1) := by decide +kernel
theorem d_Ref_canBe_72 : decode b_Ref_canBe 72 = .ok (.iand, 1) := by decide +kernel
theorem d_Ref_canBe_73 : decode b_Ref_canBe 73 = .ok (.istore 7, 2) := by decide +kernel
theorem d_Ref_canBe_75 : decode b_Ref_canBe 75 = .ok (.aload_n 0, 1) := by decide +kernel
theorem d_Ref_canBe_76 : decode b_Ref_canBe 76 = .ok (.getfield 37, 3) := by decide +kernel
theorem d_Ref_canBe_79 : decode b_Ref_canBe 79 = .ok (.iload 4, 2) := by decide +kernel
theorem d_Ref_canBe_81 : decode b_Ref_canBe 81 = .ok (.aload_n 0, 1) := by decide +kernel
theorem d_Ref_canBe_82 : decode b_Ref_canBe 82 = .ok (.getfield 84, 3) := by decide +kernel
theorem d_Ref_canBe_85 : decode b_Ref_canBe 85 = .ok (.iastore, 1) := by decide +kernel
theorem d_Ref_canBe_86 : decode b_Ref_canBe 86 = .ok (.aload_n 0, 1) := by decide +kernel
theorem d_Ref_canBe_87 : decode b_Ref_canBe 87 = .ok (.getfield 40, 3) := by decide +kernel
theorem d_Ref_canBe_90 : decode b_Ref_canBe 90 = .ok (.iload 4, 2) := by decide +kernel
theorem d_Ref_canBe_92 : decode b_Ref_canBe 92 = .ok (.aload_n 0, 1) := by decide +kernel
theorem d_Ref_canBe_93 : decode b_Ref_canBe 93 = .ok (.getfield 87, 3) := by decide +kernel
theorem d_Ref_canBe_96 : decode b_Ref_canBe 96 = .ok (.iastore, 1) := by decide +kernel
theorem d_Ref_canBe_97 : decode b_Ref_canBe 97 = .ok (.aload_n 0, 1) := by decide +kernel
theorem d_Ref_canBe_98 : decode b_Ref_canBe 98 = .ok (.getfield 43, 3) := by decide +kernel
theorem d_Ref_canBe_101 : decode b_Ref_canBe 101 = .ok (.iload 4, 2) := by decide +kernel
theorem d_Ref_canBe_103 : decode b_Ref_canBe 103 = .ok (.iload 6, 2) := by decide +kernel
theorem d_Ref_canBe_105 : decode b_Ref_canBe 105 = .ok (.iload 6, 2) := by decide +kernel
theorem d_Ref_canBe_107 : decode b_Ref_canBe 107 = .ok (.ineg, 1) := by decide +kernel
theorem d_Ref_canBe_108 : decode b_Ref_canBe 108 = .ok (.iand, 1) := by decide +kernel
theorem d_Ref_canBe_109 : decode b_Ref_canBe 109 = .ok (.iastore, 1) := by decide +kernel
theorem d_Ref_canBe_110 : decode b_Ref_canBe 110 = .ok (.aload_n 0, 1) := by decide +kernel
theorem d_Ref_canBe_111 : decode b_Ref_canBe 111 = .ok (.getfield 46, 3) := by decide +kernel
theorem d_Ref_canBe_114 : decode b_Ref_canBe 114 = .ok (.iload 4, 2) := by decide +kernel
theorem d_Ref_canBe_116 : decode b_Ref_canBe 116 = .ok (.iload 6, 2) := by decide +kernel
theorem d_Ref_canBe_118 : decode b_Ref_canBe 118 = .ok (.ifCond .ne 12, 3) := by decide +kernel
theorem d_Ref_canBe_121 : decode b_Ref_canBe 121 = .ok (.iload 7, 2) := by decide +kernel
theorem d_Ref_canBe_123 : decode b_Ref_canBe 123 = .ok (.iload 7, 2) := by decide +kernel
theorem d_Ref_canBe_125 : decode b_Ref_canBe 125 = .ok (.ineg, 1) := by decide +kernel
theorem d_Ref_canBe_126 : decode b_Ref_canBe 126 = .ok (.iand, 1) := by decide +kernel
theorem d_Ref_canBe_127 : decode b_Ref_canBe 127 = .ok (.goto 4, 3) := by decide +kernel
theorem d_Ref_canBe_130 : decode b_Ref_canBe 130 = .ok (.iconst 0, 1) := by decide +kernel
theorem d_Ref_canBe_131 : decode b_Ref_canBe 131 = .ok (.iastore, 1) := by decide +kernel
theorem d_Ref_canBe_132 : decode b_Ref_canBe 132 = .ok (.aload_n 0, 1) := by decide +kernel
theorem d_Ref_canBe_133 : decode b_Ref_canBe 133 = .ok (.dup, 1) := by decide +kernel
theorem d_Ref_canBe_134 : decode b_Ref_canBe 134 = .ok (.getfield 84, 3) := by decide +kernel
theorem d_Ref_canBe_137 : decode b_Ref_canBe 137 = .ok (.aload_n 0, 1) := by decide +kernel
theorem d_Ref_canBe_138 : decode b_Ref_canBe 138 = .ok (.getfield 43, 3) := by decide +kernel
theorem d_Ref_canBe_141 : decode b_Ref_canBe 141 = .ok (.iload 4, 2) := by decide +kernel
theorem d_Ref_canBe_143 : decode b_Ref_canBe 143 = .ok (.iaload, 1) := by decide +kernel
theorem d_Ref_canBe_144 : decode b_Ref_canBe 144 = .ok (.ior, 1) := by decide +kernel
theorem d_Ref_canBe_145 : decode b_Ref_canBe 145 = .ok (.putfield 84, 3) := by decide +kernel
theorem d_Ref_canBe_148 : decode b_Ref_canBe 148 = .ok (.aload_n 0, 1) := by decide +kernel
theorem d_Ref_canBe_149 : decode b_Ref_canBe 149 = .ok (.dup, 1) := by decide +kernel
theorem d_Ref_canBe_150 : decode b_Ref_canBe 150 = .ok (.getfield 87, 3) := by decide +kernel
theorem d_Ref_canBe_153 : decode b_Ref_canBe 153 = .ok (.aload_n 0, 1) := by decide +kernel
theorem d_Ref_canBe_154 : decode b_Ref_canBe 154 = .ok (.getfield 46, 3) := by decide +kernel
theorem d_Ref_canBe_157 : decode b_Ref_canBe 157 = .ok (.iload 4, 2) := by decide +kernel
theorem d_Ref_canBe_159 : decode b_Ref_canBe 159 = .ok (.iaload, 1) := by decide +kernel
theorem d_Ref_canBe_160 : decode b_Ref_canBe 160 = .ok (.ior, 1) := by decide +kernel
theorem d_Ref_canBe_161 : decode b_Ref_canBe 161 = .ok (.putfield 87, 3) := by decide +kernel
theorem d_Ref_canBe_164 : decode b_Ref_canBe 164 = .ok (.iinc 4 1, 3) := by decide +kernel
theorem d_Ref_canBe_167 : decode b_Ref_canBe 167 = .ok (.goto 51, 3) := by decide +kernel
theorem d_Ref_canBe_170 : decode b_Ref_canBe 170 = .ok (.iload 4, 2) := by decide +kernel
theorem d_Ref_canBe_172 : decode b_Ref_canBe 172 = .ok (.ifCond .ne 5, 3) := by decide +kernel
theorem d_Ref_canBe_175 : decode b_Ref_canBe 175 = .ok (.iconst 0, 1) := by decide +kernel
theorem d_Ref_canBe_176 : decode b_Ref_canBe 176 = .ok (.ireturn, 1) := by decide +kernel
theorem d_Ref_canBe_177 : decode b_Ref_canBe 177 = .ok (.iinc 4 (-1), 3) := by decide +kernel
theorem d_Ref_canBe_180 : decode b_Ref_canBe 180 = .ok (.aload_n 0, 1) := by decide +kernel
theorem d_Ref_canBe_181 : decode b_Ref_canBe 181 = .ok (.aload_n 0, 1) := by decide +kernel
theorem d_Ref_canBe_182 : decode b_Ref_canBe 182 = .ok (.getfield 37, 3) := by decide +kernel
theorem d_Ref_canBe_185 : decode b_Ref_canBe 185 = .ok (.iload 4, 2) := by decide +kernel
theorem d_Ref_canBe_187 : decode b_Ref_canBe 187 = .ok (.iaload, 1) := by decide +kernel
theorem d_Ref_canBe_188 : decode b_Ref_canBe 188 = .ok (.aload_n 0, 1) := by decide +kernel
theorem d_Ref_canBe_189 : decode b_Ref_canBe 189 = .ok (.getfield 46, 3) := by decide +kernel
theorem d_Ref_canBe_192 : decode b_Ref_canBe 192 = .ok (.iload 4, 2) := by decide +kernel
theorem d_Ref_canBe_194 : decode b_Ref_canBe 194 = .ok (.iaload, 1) := by decide +kernel
theorem d_Ref_canBe_195 : decode b_Ref_canBe 195 = .ok (.ior, 1) := by decide +kernel
theorem d_Ref_canBe_196 : decode b_Ref_canBe 196 = .ok (.putfield 84, 3) := by decide +kernel
theorem d_Ref_canBe_199 : decode b_Ref_canBe 199 = .ok (.aload_n 0, 1) := by decide +kernel
theorem d_Ref_canBe_200 : decode b_Ref_canBe 200 = .ok (.aload_n 0, 1) := by decide +kernel
theorem d_Ref_canBe_201 : decode b_Ref_canBe 201 = .ok (.getfield 40, 3) := by decide +kernel
theorem d_Ref_canBe_204 : decode b_Ref_canBe 204 = .ok (.iload 4, 2) := by decide +kernel
theorem d_Ref_canBe_206 : decode b_Ref_canBe 206 = .ok (.iaload, 1) := by decide +kernel
theorem d_Ref_canBe_207 : decode b_Ref_canBe 207 = .ok (.aload_n 0, 1) := by decide +kernel
theorem d_Ref_canBe_208 : decode b_Ref_canBe 208 = .ok (.getfield 43, 3) := by decide +kernel
theorem d_Ref_canBe_211 : decode b_Ref_canBe 211 = .ok (.iload 4, 2) := by decide +kernel
theorem d_Ref_canBe_213 : decode b_Ref_canBe 213 = .ok (.iaload, 1) := by decide +kernel
theorem d_Ref_canBe_214 : decode b_Ref_canBe 214 = .ok (.ior, 1) := by decide +kernel
theorem d_Ref_canBe_215 : decode b_Ref_canBe 215 = .ok (.putfield 87, 3) := by decide +kernel
theorem d_Ref_canBe_218 : decode b_Ref_canBe 218 = .ok (.goto (-205), 3) := by decide +kernel
set_option maxHeartbeats 4000000 in
set_option maxRecDepth 100000 in
theorem x_Ref_canBe_L13 {p : Program} {e : Env} {s : State} {m : MethodId} {args : Array Value} {below : List Frame} {meth : Method} {c : Code} {l : Launch} {dC : Nat → ClassId} {dI : Nat → Nat → Nat} {cA : ClassId} {ad : Nat → Nat} {w0 : va_W} (C0 : q_C p s m args meth c b_Ref_canBe 8 (some .boolean) "PlanClausesModel" dC dI cA) (hA : ∀ q, s.heap.size ≤ q → va_A w0 s.heap.size q) (x1 : Int32) (ma : mForm) (mn : mKnow) (mb : mBack) (mt : mTask) (mw : (Nat → Int32)) (mg : mGo) (md : mCode) {Q : Int32 → mSat → Prop} :
    ∀ (nn : Nat) (x4 : Int32) (ms : mSat) (H : Heap) (locs : List Loc) (ls : Array Slot), w_Ref_canBe_L13 x1 ma Q nn x4 ms → lv_has ls 8 [(0, .ref (ad 28)), (1, .int x1), (4, .int x4)] → q_H dC dI (va_A w0 s.heap.size) s.heap H locs ([c_RE ad cA ma mn ms mb mt mw mg md].flatten) → W p l e (q_R 2 49) s m args below meth c H locs 0 0 (q_Zi below args s dC dI cA w0 (fun u : mSat => [c_RE ad cA ma mn u mb mt mw mg md].flatten) (fun r u => Q r u)) (F0 m 13 ls []) := by
  obtain ⟨hx, hb, -⟩ := id C0
  intro nn
  induction nn with
  | zero =>
    intro x4 ms H locs ls h
    exact (show False from h).elim
  | succ nn ih =>
    intro x4 ms H locs ls h hl hH
    rw [w_Ref_canBe_L13] at h
    refine lv_aload_n hx hb d_Ref_canBe_13 rfl (lv_at hl 0 rfl) ?_
    refine lv_iload_n hx hb d_Ref_canBe_14 rfl (lv_at hl 1 rfl) ?_
    refine q_calli (rest := []) (ws' := fun u : mSat => [c_RE ad cA ma mn u mb mt mw mg md].flatten) C0 hH hA (c_Ref_follows l dC dI cA ad x1 ma mn ms mb mt mw mg md _ _ h) Y_Ref_follows k_769 0 rfl hc_8 (q_pg [0] [] [0] 1 1 rfl (by decide) rfl (fun _ => rfl) rfl (by decide) (fun _ => rfl)) ⟨Nat.le_of_ble_eq_true rfl, Nat.le_of_ble_eq_true rfl⟩ rfl rfl (Nat.le_of_ble_eq_true rfl) hl.1 d_Ref_canBe_15 ⟨Nat.le_refl 0, Nat.le_refl 0⟩ (fun r_1 u_1 H locs h hH => ?_)
    obtain ⟨ms_1, rfl⟩ : ∃ z, z = u_1 := ⟨_, rfl⟩
    try dsimp only at h
    have hH : q_H dC dI (va_A w0 s.heap.size) s.heap H locs ([c_RE ad cA ma mn ms_1 mb mt mw mg md].flatten) := hH
    refine lv_istore (lv' := [(5, .int r_1), (0, .ref (ad 28)), (1, .int x1), (4, .int x4)]) hx hb d_Ref_canBe_18 hl (by decide) rfl (fun ls hl => ?_)
    refine lv_iload hx hb d_Ref_canBe_20 (lv_at hl 0 rfl) ?_
    refine lv_if_eq (tgt := 34) hx hb d_Ref_canBe_22 (by decide) (fun c => ?_) (fun c => ?_)
    · have h := h.1 c
      refine lv_iload hx hb d_Ref_canBe_34 (lv_at hl 0 rfl) ?_
      refine lv_if_eq (tgt := 170) hx hb d_Ref_canBe_36 (by decide) (fun c => ?_) (fun c => ?_)
      · have h := h.1 c
        refine lv_iload hx hb d_Ref_canBe_170 (lv_at hl 3 rfl) ?_
        refine lv_if_ne (tgt := 177) hx hb d_Ref_canBe_172 (by decide) (fun c => ?_) (fun c => ?_)
        · have h := h.1 c
          refine lv_iinc (v := (x4 + (-1))) (lv' := [(4, .int (x4 + (-1))), (5, .int r_1), (0, .ref (ad 28)), (1, .int x1)]) hx hb d_Ref_canBe_177 hl (k := 3) rfl rfl (by decide) rfl (fun ls hl => ?_)
          refine lv_aload_n hx hb d_Ref_canBe_180 rfl (lv_at hl 2 rfl) ?_
          refine lv_aload_n hx hb d_Ref_canBe_181 rfl (lv_at hl 2 rfl) ?_
          refine q_get (v := .ref (ad 38)) C0 hH 0 rfl hc_8 20 (by decide) k_642 rfl d_Ref_canBe_182 ?_
          refine lv_iload hx hb d_Ref_canBe_185 (lv_at hl 0 rfl) ?_
          obtain ⟨hi, h⟩ := h
          refine q_ald (f := ms_1.keptTrue) C0 hH 10 rfl hi d_Ref_canBe_187 ?_
          refine lv_aload_n hx hb d_Ref_canBe_188 rfl (lv_at hl 2 rfl) ?_
          refine q_get (v := .ref (ad 41)) C0 hH 0 rfl hc_8 23 (by decide) k_645 rfl d_Ref_canBe_189 ?_
          refine lv_iload hx hb d_Ref_canBe_192 (lv_at hl 0 rfl) ?_
          obtain ⟨hi, h⟩ := h
          refine q_ald (f := ms_1.triedFalse) C0 hH 13 rfl hi d_Ref_canBe_194 ?_
          refine lv_ior hx hb d_Ref_canBe_195 ?_
          refine q_puti (ws' := [c_RE ad cA ma mn (mSat.mk ((ms_1.keptTrue (x4 + (-1)).toNatClampNeg) ||| (ms_1.triedFalse (x4 + (-1)).toNatClampNeg)) ms_1.isFalse ms_1.keptTrue ms_1.keptFalse ms_1.triedTrue ms_1.triedFalse ms_1.shortest1) mb mt mw mg md].flatten) C0 hH 0 rfl hc_8 18 (by decide) k_640 rfl rfl (Nat.le_of_ble_eq_true rfl) rfl d_Ref_canBe_196 (fun H locs hH => ?_)
          refine lv_aload_n hx hb d_Ref_canBe_199 rfl (lv_at hl 2 rfl) ?_
          refine lv_aload_n hx hb d_Ref_canBe_200 rfl (lv_at hl 2 rfl) ?_
          refine q_get (v := .ref (ad 39)) C0 hH 0 rfl hc_8 21 (by decide) k_643 rfl d_Ref_canBe_201 ?_
          refine lv_iload hx hb d_Ref_canBe_204 (lv_at hl 0 rfl) ?_
          obtain ⟨hi, h⟩ := h
          refine q_ald (f := ms_1.keptFalse) C0 hH 11 rfl hi d_Ref_canBe_206 ?_
          refine lv_aload_n hx hb d_Ref_canBe_207 rfl (lv_at hl 2 rfl) ?_
          refine q_get (v := .ref (ad 40)) C0 hH 0 rfl hc_8 22 (by decide) k_644 rfl d_Ref_canBe_208 ?_
          refine lv_iload hx hb d_Ref_canBe_211 (lv_at hl 0 rfl) ?_
          obtain ⟨hi, h⟩ := h
          refine q_ald (f := ms_1.triedTrue) C0 hH 12 rfl hi d_Ref_canBe_213 ?_
          refine lv_ior hx hb d_Ref_canBe_214 ?_
          refine q_puti (ws' := [c_RE ad cA ma mn (mSat.mk ((ms_1.keptTrue (x4 + (-1)).toNatClampNeg) ||| (ms_1.triedFalse (x4 + (-1)).toNatClampNeg)) ((ms_1.keptFalse (x4 + (-1)).toNatClampNeg) ||| (ms_1.triedTrue (x4 + (-1)).toNatClampNeg)) ms_1.keptTrue ms_1.keptFalse ms_1.triedTrue ms_1.triedFalse ms_1.shortest1) mb mt mw mg md].flatten) C0 hH 0 rfl hc_8 19 (by decide) k_641 rfl rfl (Nat.le_of_ble_eq_true rfl) rfl d_Ref_canBe_215 (fun H locs hH => ?_)
          refine lv_goto (tgt := 13) hx hb d_Ref_canBe_218 (by decide) ?_
          exact ih (x4 + (-1)) (mSat.mk ((ms_1.keptTrue (x4 + (-1)).toNatClampNeg) ||| (ms_1.triedFalse (x4 + (-1)).toNatClampNeg)) ((ms_1.keptFalse (x4 + (-1)).toNatClampNeg) ||| (ms_1.triedTrue (x4 + (-1)).toNatClampNeg)) ms_1.keptTrue ms_1.keptFalse ms_1.triedTrue ms_1.triedFalse ms_1.shortest1) _ _ _ h (lv_sub hl [2, 3, 0] rfl) hH
        · have h := h.2 c
          refine lv_iconst (v := 0) hx hb d_Ref_canBe_175 (by decide) ?_
          exact q_retz C0 hH ms_1 rfl (Or.inl rfl) h d_Ref_canBe_176
      · have h := h.2 c
        refine lv_aload_n hx hb d_Ref_canBe_39 rfl (lv_at hl 1 rfl) ?_
        refine q_get (v := .ref (ad 31)) C0 hH 0 rfl hc_8 4 (by decide) k_626 rfl d_Ref_canBe_40 ?_
        refine lv_aload_n hx hb d_Ref_canBe_43 rfl (lv_at hl 1 rfl) ?_
        refine q_get (v := .int ms_1.shortest1) C0 hH 0 rfl hc_8 24 (by decide) k_646 rfl d_Ref_canBe_44 ?_
        obtain ⟨hi, h⟩ := h
        refine q_ald (f := ma.told) C0 hH 3 rfl hi d_Ref_canBe_47 ?_
        refine lv_aload_n hx hb d_Ref_canBe_48 rfl (lv_at hl 1 rfl) ?_
        refine q_get (v := .int ms_1.isFalse) C0 hH 0 rfl hc_8 19 (by decide) k_641 rfl d_Ref_canBe_49 ?_
        refine lv_iconst (v := (-1)) hx hb d_Ref_canBe_52 (by decide) ?_
        refine lv_ixor hx hb d_Ref_canBe_53 ?_
        refine lv_iand hx hb d_Ref_canBe_54 ?_
        refine lv_istore (lv' := [(6, .int ((ma.told ms_1.shortest1.toNatClampNeg) &&& (ms_1.isFalse ^^^ (-1)))), (5, .int r_1), (0, .ref (ad 28)), (1, .int x1), (4, .int x4)]) hx hb d_Ref_canBe_55 hl (by decide) rfl (fun ls hl => ?_)
        refine lv_aload_n hx hb d_Ref_canBe_57 rfl (lv_at hl 2 rfl) ?_
        refine q_get (v := .ref (ad 32)) C0 hH 0 rfl hc_8 5 (by decide) k_627 rfl d_Ref_canBe_58 ?_
        refine lv_aload_n hx hb d_Ref_canBe_61 rfl (lv_at hl 2 rfl) ?_
        refine q_get (v := .int ms_1.shortest1) C0 hH 0 rfl hc_8 24 (by decide) k_646 rfl d_Ref_canBe_62 ?_
        obtain ⟨hi, h⟩ := h
        refine q_ald (f := ma.toldNot) C0 hH 4 rfl hi d_Ref_canBe_65 ?_
        refine lv_aload_n hx hb d_Ref_canBe_66 rfl (lv_at hl 2 rfl) ?_
        refine q_get (v := .int ms_1.isTrue) C0 hH 0 rfl hc_8 18 (by decide) k_640 rfl d_Ref_canBe_67 ?_
        refine lv_iconst (v := (-1)) hx hb d_Ref_canBe_70 (by decide) ?_
        refine lv_ixor hx hb d_Ref_canBe_71 ?_
        refine lv_iand hx hb d_Ref_canBe_72 ?_
        refine lv_istore (lv' := [(7, .int ((ma.toldNot ms_1.shortest1.toNatClampNeg) &&& (ms_1.isTrue ^^^ (-1)))), (6, .int ((ma.told ms_1.shortest1.toNatClampNeg) &&& (ms_1.isFalse ^^^ (-1)))), (5, .int r_1), (0, .ref (ad 28)), (1, .int x1), (4, .int x4)]) hx hb d_Ref_canBe_73 hl (by decide) rfl (fun ls hl => ?_)
        refine lv_aload_n hx hb d_Ref_canBe_75 rfl (lv_at hl 3 rfl) ?_
        refine q_get (v := .ref (ad 38)) C0 hH 0 rfl hc_8 20 (by decide) k_642 rfl d_Ref_canBe_76 ?_
        refine lv_iload hx hb d_Ref_canBe_79 (lv_at hl 5 rfl) ?_
        refine lv_aload_n hx hb d_Ref_canBe_81 rfl (lv_at hl 3 rfl) ?_
        refine q_get (v := .int ms_1.isTrue) C0 hH 0 rfl hc_8 18 (by decide) k_640 rfl d_Ref_canBe_82 ?_
        obtain ⟨hi, h⟩ := h
        refine q_ast (ws' := [c_RE ad cA ma mn (mSat.mk ms_1.isTrue ms_1.isFalse (upd ms_1.keptTrue x4.toNatClampNeg ms_1.isTrue) ms_1.keptFalse ms_1.triedTrue ms_1.triedFalse ms_1.shortest1) mb mt mw mg md].flatten) (f := ms_1.keptTrue) C0 hH 10 rfl hi rfl d_Ref_canBe_85 (fun H locs hH => ?_)
        refine lv_aload_n hx hb d_Ref_canBe_86 rfl (lv_at hl 3 rfl) ?_
        refine q_get (v := .ref (ad 39)) C0 hH 0 rfl hc_8 21 (by decide) k_643 rfl d_Ref_canBe_87 ?_
        refine lv_iload hx hb d_Ref_canBe_90 (lv_at hl 5 rfl) ?_
        refine lv_aload_n hx hb d_Ref_canBe_92 rfl (lv_at hl 3 rfl) ?_
        refine q_get (v := .int ms_1.isFalse) C0 hH 0 rfl hc_8 19 (by decide) k_641 rfl d_Ref_canBe_93 ?_
        obtain ⟨hi, h⟩ := h
        refine q_ast (ws' := [c_RE ad cA ma mn (mSat.mk ms_1.isTrue ms_1.isFalse (upd ms_1.keptTrue x4.toNatClampNeg ms_1.isTrue) (upd ms_1.keptFalse x4.toNatClampNeg ms_1.isFalse) ms_1.triedTrue ms_1.triedFalse ms_1.shortest1) mb mt mw mg md].flatten) (f := ms_1.keptFalse) C0 hH 11 rfl hi rfl d_Ref_canBe_96 (fun H locs hH => ?_)
        refine lv_aload_n hx hb d_Ref_canBe_97 rfl (lv_at hl 3 rfl) ?_
        refine q_get (v := .ref (ad 40)) C0 hH 0 rfl hc_8 22 (by decide) k_644 rfl d_Ref_canBe_98 ?_
        refine lv_iload hx hb d_Ref_canBe_101 (lv_at hl 5 rfl) ?_
        refine lv_iload hx hb d_Ref_canBe_103 (lv_at hl 1 rfl) ?_
        refine lv_iload hx hb d_Ref_canBe_105 (lv_at hl 1 rfl) ?_
        refine lv_ineg hx hb d_Ref_canBe_107 ?_
        refine lv_iand hx hb d_Ref_canBe_108 ?_
        obtain ⟨hi, h⟩ := h
        refine q_ast (ws' := [c_RE ad cA ma mn (mSat.mk ms_1.isTrue ms_1.isFalse (upd ms_1.keptTrue x4.toNatClampNeg ms_1.isTrue) (upd ms_1.keptFalse x4.toNatClampNeg ms_1.isFalse) (upd ms_1.triedTrue x4.toNatClampNeg (((ma.told ms_1.shortest1.toNatClampNeg) &&& (ms_1.isFalse ^^^ (-1))) &&& (-((ma.told ms_1.shortest1.toNatClampNeg) &&& (ms_1.isFalse ^^^ (-1)))))) ms_1.triedFalse ms_1.shortest1) mb mt mw mg md].flatten) (f := ms_1.triedTrue) C0 hH 12 rfl hi rfl d_Ref_canBe_109 (fun H locs hH => ?_)
        refine lv_aload_n hx hb d_Ref_canBe_110 rfl (lv_at hl 3 rfl) ?_
        refine q_get (v := .ref (ad 41)) C0 hH 0 rfl hc_8 23 (by decide) k_645 rfl d_Ref_canBe_111 ?_
        refine lv_iload hx hb d_Ref_canBe_114 (lv_at hl 5 rfl) ?_
        refine lv_iload hx hb d_Ref_canBe_116 (lv_at hl 1 rfl) ?_
        refine lv_if_ne (tgt := 130) hx hb d_Ref_canBe_118 (by decide) (fun c => ?_) (fun c => ?_)
        · have h := h.1 c
          refine lv_iconst (v := 0) hx hb d_Ref_canBe_130 (by decide) ?_
          obtain ⟨hi, h⟩ := h
          refine q_ast (ws' := [c_RE ad cA ma mn (mSat.mk ms_1.isTrue ms_1.isFalse (upd ms_1.keptTrue x4.toNatClampNeg ms_1.isTrue) (upd ms_1.keptFalse x4.toNatClampNeg ms_1.isFalse) (upd ms_1.triedTrue x4.toNatClampNeg (((ma.told ms_1.shortest1.toNatClampNeg) &&& (ms_1.isFalse ^^^ (-1))) &&& (-((ma.told ms_1.shortest1.toNatClampNeg) &&& (ms_1.isFalse ^^^ (-1)))))) (upd ms_1.triedFalse x4.toNatClampNeg 0) ms_1.shortest1) mb mt mw mg md].flatten) (f := ms_1.triedFalse) C0 hH 13 rfl hi rfl d_Ref_canBe_131 (fun H locs hH => ?_)
          refine lv_aload_n hx hb d_Ref_canBe_132 rfl (lv_at hl 3 rfl) ?_
          refine lv_dup hx hb d_Ref_canBe_133 rfl ?_
          refine q_get (v := .int ms_1.isTrue) C0 hH 0 rfl hc_8 18 (by decide) k_640 rfl d_Ref_canBe_134 ?_
          refine lv_aload_n hx hb d_Ref_canBe_137 rfl (lv_at hl 3 rfl) ?_
          refine q_get (v := .ref (ad 40)) C0 hH 0 rfl hc_8 22 (by decide) k_644 rfl d_Ref_canBe_138 ?_
          refine lv_iload hx hb d_Ref_canBe_141 (lv_at hl 5 rfl) ?_
          obtain ⟨hi, h⟩ := h
          refine q_ald (f := (upd ms_1.triedTrue x4.toNatClampNeg (((ma.told ms_1.shortest1.toNatClampNeg) &&& (ms_1.isFalse ^^^ (-1))) &&& (-((ma.told ms_1.shortest1.toNatClampNeg) &&& (ms_1.isFalse ^^^ (-1))))))) C0 hH 12 rfl hi d_Ref_canBe_143 ?_
          refine lv_ior hx hb d_Ref_canBe_144 ?_
          refine q_puti (ws' := [c_RE ad cA ma mn (mSat.mk (ms_1.isTrue ||| ((upd ms_1.triedTrue x4.toNatClampNeg (((ma.told ms_1.shortest1.toNatClampNeg) &&& (ms_1.isFalse ^^^ (-1))) &&& (-((ma.told ms_1.shortest1.toNatClampNeg) &&& (ms_1.isFalse ^^^ (-1)))))) x4.toNatClampNeg)) ms_1.isFalse (upd ms_1.keptTrue x4.toNatClampNeg ms_1.isTrue) (upd ms_1.keptFalse x4.toNatClampNeg ms_1.isFalse) (upd ms_1.triedTrue x4.toNatClampNeg (((ma.told ms_1.shortest1.toNatClampNeg) &&& (ms_1.isFalse ^^^ (-1))) &&& (-((ma.told ms_1.shortest1.toNatClampNeg) &&& (ms_1.isFalse ^^^ (-1)))))) (upd ms_1.triedFalse x4.toNatClampNeg 0) ms_1.shortest1) mb mt mw mg md].flatten) C0 hH 0 rfl hc_8 18 (by decide) k_640 rfl rfl (Nat.le_of_ble_eq_true rfl) rfl d_Ref_canBe_145 (fun H locs hH => ?_)
          refine lv_aload_n hx hb d_Ref_canBe_148 rfl (lv_at hl 3 rfl) ?_
          refine lv_dup hx hb d_Ref_canBe_149 rfl ?_
          refine q_get (v := .int ms_1.isFalse) C0 hH 0 rfl hc_8 19 (by decide) k_641 rfl d_Ref_canBe_150 ?_
          refine lv_aload_n hx hb d_Ref_canBe_153 rfl (lv_at hl 3 rfl) ?_
          refine q_get (v := .ref (ad 41)) C0 hH 0 rfl hc_8 23 (by decide) k_645 rfl d_Ref_canBe_154 ?_
          refine lv_iload hx hb d_Ref_canBe_157 (lv_at hl 5 rfl) ?_
          obtain ⟨hi, h⟩ := h
          refine q_ald (f := (upd ms_1.triedFalse x4.toNatClampNeg 0)) C0 hH 13 rfl hi d_Ref_canBe_159 ?_
          refine lv_ior hx hb d_Ref_canBe_160 ?_
          refine q_puti (ws' := [c_RE ad cA ma mn (mSat.mk (ms_1.isTrue ||| ((upd ms_1.triedTrue x4.toNatClampNeg (((ma.told ms_1.shortest1.toNatClampNeg) &&& (ms_1.isFalse ^^^ (-1))) &&& (-((ma.told ms_1.shortest1.toNatClampNeg) &&& (ms_1.isFalse ^^^ (-1)))))) x4.toNatClampNeg)) (ms_1.isFalse ||| ((upd ms_1.triedFalse x4.toNatClampNeg 0) x4.toNatClampNeg)) (upd ms_1.keptTrue x4.toNatClampNeg ms_1.isTrue) (upd ms_1.keptFalse x4.toNatClampNeg ms_1.isFalse) (upd ms_1.triedTrue x4.toNatClampNeg (((ma.told ms_1.shortest1.toNatClampNeg) &&& (ms_1.isFalse ^^^ (-1))) &&& (-((ma.told ms_1.shortest1.toNatClampNeg) &&& (ms_1.isFalse ^^^ (-1)))))) (upd ms_1.triedFalse x4.toNatClampNeg 0) ms_1.shortest1) mb mt mw mg md].flatten) C0 hH 0 rfl hc_8 19 (by decide) k_641 rfl rfl (Nat.le_of_ble_eq_true rfl) rfl d_Ref_canBe_161 (fun H locs hH => ?_)
          refine lv_iinc (v := (x4 + 1)) (lv' := [(4, .int (x4 + 1)), (7, .int ((ma.toldNot ms_1.shortest1.toNatClampNeg) &&& (ms_1.isTrue ^^^ (-1)))), (6, .int ((ma.told ms_1.shortest1.toNatClampNeg) &&& (ms_1.isFalse ^^^ (-1)))), (5, .int r_1), (0, .ref (ad 28)), (1, .int x1)]) hx hb d_Ref_canBe_164 hl (k := 5) rfl rfl (by decide) rfl (fun ls hl => ?_)
          refine lv_goto (tgt := 218) hx hb d_Ref_canBe_167 (by decide) ?_
          refine lv_goto (tgt := 13) hx hb d_Ref_canBe_218 (by decide) ?_
          exact ih (x4 + 1) (mSat.mk (ms_1.isTrue ||| ((upd ms_1.triedTrue x4.toNatClampNeg (((ma.told ms_1.shortest1.toNatClampNeg) &&& (ms_1.isFalse ^^^ (-1))) &&& (-((ma.told ms_1.shortest1.toNatClampNeg) &&& (ms_1.isFalse ^^^ (-1)))))) x4.toNatClampNeg)) (ms_1.isFalse ||| ((upd ms_1.triedFalse x4.toNatClampNeg 0) x4.toNatClampNeg)) (upd ms_1.keptTrue x4.toNatClampNeg ms_1.isTrue) (upd ms_1.keptFalse x4.toNatClampNeg ms_1.isFalse) (upd ms_1.triedTrue x4.toNatClampNeg (((ma.told ms_1.shortest1.toNatClampNeg) &&& (ms_1.isFalse ^^^ (-1))) &&& (-((ma.told ms_1.shortest1.toNatClampNeg) &&& (ms_1.isFalse ^^^ (-1)))))) (upd ms_1.triedFalse x4.toNatClampNeg 0) ms_1.shortest1) _ _ _ h (lv_sub hl [4, 5, 0] rfl) hH
        · have h := h.2 c
          refine lv_iload hx hb d_Ref_canBe_121 (lv_at hl 0 rfl) ?_
          refine lv_iload hx hb d_Ref_canBe_123 (lv_at hl 0 rfl) ?_
          refine lv_ineg hx hb d_Ref_canBe_125 ?_
          refine lv_iand hx hb d_Ref_canBe_126 ?_
          refine lv_goto (tgt := 131) hx hb d_Ref_canBe_127 (by decide) ?_
          obtain ⟨hi, h⟩ := h
          refine q_ast (ws' := [c_RE ad cA ma mn (mSat.mk ms_1.isTrue ms_1.isFalse (upd ms_1.keptTrue x4.toNatClampNeg ms_1.isTrue) (upd ms_1.keptFalse x4.toNatClampNeg ms_1.isFalse) (upd ms_1.triedTrue x4.toNatClampNeg (((ma.told ms_1.shortest1.toNatClampNeg) &&& (ms_1.isFalse ^^^ (-1))) &&& (-((ma.told ms_1.shortest1.toNatClampNeg) &&& (ms_1.isFalse ^^^ (-1)))))) (upd ms_1.triedFalse x4.toNatClampNeg (((ma.toldNot ms_1.shortest1.toNatClampNeg) &&& (ms_1.isTrue ^^^ (-1))) &&& (-((ma.toldNot ms_1.shortest1.toNatClampNeg) &&& (ms_1.isTrue ^^^ (-1)))))) ms_1.shortest1) mb mt mw mg md].flatten) (f := ms_1.triedFalse) C0 hH 13 rfl hi rfl d_Ref_canBe_131 (fun H locs hH => ?_)
          refine lv_aload_n hx hb d_Ref_canBe_132 rfl (lv_at hl 3 rfl) ?_
          refine lv_dup hx hb d_Ref_canBe_133 rfl ?_
          refine q_get (v := .int ms_1.isTrue) C0 hH 0 rfl hc_8 18 (by decide) k_640 rfl d_Ref_canBe_134 ?_
          refine lv_aload_n hx hb d_Ref_canBe_137 rfl (lv_at hl 3 rfl) ?_
          refine q_get (v := .ref (ad 40)) C0 hH 0 rfl hc_8 22 (by decide) k_644 rfl d_Ref_canBe_138 ?_
          refine lv_iload hx hb d_Ref_canBe_141 (lv_at hl 5 rfl) ?_
          obtain ⟨hi, h⟩ := h
          refine q_ald (f := (upd ms_1.triedTrue x4.toNatClampNeg (((ma.told ms_1.shortest1.toNatClampNeg) &&& (ms_1.isFalse ^^^ (-1))) &&& (-((ma.told ms_1.shortest1.toNatClampNeg) &&& (ms_1.isFalse ^^^ (-1))))))) C0 hH 12 rfl hi d_Ref_canBe_143 ?_
          refine lv_ior hx hb d_Ref_canBe_144 ?_
          refine q_puti (ws' := [c_RE ad cA ma mn (mSat.mk (ms_1.isTrue ||| ((upd ms_1.triedTrue x4.toNatClampNeg (((ma.told ms_1.shortest1.toNatClampNeg) &&& (ms_1.isFalse ^^^ (-1))) &&& (-((ma.told ms_1.shortest1.toNatClampNeg) &&& (ms_1.isFalse ^^^ (-1)))))) x4.toNatClampNeg)) ms_1.isFalse (upd ms_1.keptTrue x4.toNatClampNeg ms_1.isTrue) (upd ms_1.keptFalse x4.toNatClampNeg ms_1.isFalse) (upd ms_1.triedTrue x4.toNatClampNeg (((ma.told ms_1.shortest1.toNatClampNeg) &&& (ms_1.isFalse ^^^ (-1))) &&& (-((ma.told ms_1.shortest1.toNatClampNeg) &&& (ms_1.isFalse ^^^ (-1)))))) (upd ms_1.triedFalse x4.toNatClampNeg (((ma.toldNot ms_1.shortest1.toNatClampNeg) &&& (ms_1.isTrue ^^^ (-1))) &&& (-((ma.toldNot ms_1.shortest1.toNatClampNeg) &&& (ms_1.isTrue ^^^ (-1)))))) ms_1.shortest1) mb mt mw mg md].flatten) C0 hH 0 rfl hc_8 18 (by decide) k_640 rfl rfl (Nat.le_of_ble_eq_true rfl) rfl d_Ref_canBe_145 (fun H locs hH => ?_)
          refine lv_aload_n hx hb d_Ref_canBe_148 rfl (lv_at hl 3 rfl) ?_
          refine lv_dup hx hb d_Ref_canBe_149 rfl ?_
          refine q_get (v := .int ms_1.isFalse) C0 hH 0 rfl hc_8 19 (by decide) k_641 rfl d_Ref_canBe_150 ?_
          refine lv_aload_n hx hb d_Ref_canBe_153 rfl (lv_at hl 3 rfl) ?_
          refine q_get (v := .ref (ad 41)) C0 hH 0 rfl hc_8 23 (by decide) k_645 rfl d_Ref_canBe_154 ?_
          refine lv_iload hx hb d_Ref_canBe_157 (lv_at hl 5 rfl) ?_
          obtain ⟨hi, h⟩ := h
          refine q_ald (f := (upd ms_1.triedFalse x4.toNatClampNeg (((ma.toldNot ms_1.shortest1.toNatClampNeg) &&& (ms_1.isTrue ^^^ (-1))) &&& (-((ma.toldNot ms_1.shortest1.toNatClampNeg) &&& (ms_1.isTrue ^^^ (-1))))))) C0 hH 13 rfl hi d_Ref_canBe_159 ?_
          refine lv_ior hx hb d_Ref_canBe_160 ?_
          refine q_puti (ws' := [c_RE ad cA ma mn (mSat.mk (ms_1.isTrue ||| ((upd ms_1.triedTrue x4.toNatClampNeg (((ma.told ms_1.shortest1.toNatClampNeg) &&& (ms_1.isFalse ^^^ (-1))) &&& (-((ma.told ms_1.shortest1.toNatClampNeg) &&& (ms_1.isFalse ^^^ (-1)))))) x4.toNatClampNeg)) (ms_1.isFalse ||| ((upd ms_1.triedFalse x4.toNatClampNeg (((ma.toldNot ms_1.shortest1.toNatClampNeg) &&& (ms_1.isTrue ^^^ (-1))) &&& (-((ma.toldNot ms_1.shortest1.toNatClampNeg) &&& (ms_1.isTrue ^^^ (-1)))))) x4.toNatClampNeg)) (upd ms_1.keptTrue x4.toNatClampNeg ms_1.isTrue) (upd ms_1.keptFalse x4.toNatClampNeg ms_1.isFalse) (upd ms_1.triedTrue x4.toNatClampNeg (((ma.told ms_1.shortest1.toNatClampNeg) &&& (ms_1.isFalse ^^^ (-1))) &&& (-((ma.told ms_1.shortest1.toNatClampNeg) &&& (ms_1.isFalse ^^^ (-1)))))) (upd ms_1.triedFalse x4.toNatClampNeg (((ma.toldNot ms_1.shortest1.toNatClampNeg) &&& (ms_1.isTrue ^^^ (-1))) &&& (-((ma.toldNot ms_1.shortest1.toNatClampNeg) &&& (ms_1.isTrue ^^^ (-1)))))) ms_1.shortest1) mb mt mw mg md].flatten) C0 hH 0 rfl hc_8 19 (by decide) k_641 rfl rfl (Nat.le_of_ble_eq_true rfl) rfl d_Ref_canBe_161 (fun H locs hH => ?_)
          refine lv_iinc (v := (x4 + 1)) (lv' := [(4, .int (x4 + 1)), (7, .int ((ma.toldNot ms_1.shortest1.toNatClampNeg) &&& (ms_1.isTrue ^^^ (-1)))), (6, .int ((ma.told ms_1.shortest1.toNatClampNeg) &&& (ms_1.isFalse ^^^ (-1)))), (5, .int r_1), (0, .ref (ad 28)), (1, .int x1)]) hx hb d_Ref_canBe_164 hl (k := 5) rfl rfl (by decide) rfl (fun ls hl => ?_)
          refine lv_goto (tgt := 218) hx hb d_Ref_canBe_167 (by decide) ?_
          refine lv_goto (tgt := 13) hx hb d_Ref_canBe_218 (by decide) ?_
          exact ih (x4 + 1) (mSat.mk (ms_1.isTrue ||| ((upd ms_1.triedTrue x4.toNatClampNeg (((ma.told ms_1.shortest1.toNatClampNeg) &&& (ms_1.isFalse ^^^ (-1))) &&& (-((ma.told ms_1.shortest1.toNatClampNeg) &&& (ms_1.isFalse ^^^ (-1)))))) x4.toNatClampNeg)) (ms_1.isFalse ||| ((upd ms_1.triedFalse x4.toNatClampNeg (((ma.toldNot ms_1.shortest1.toNatClampNeg) &&& (ms_1.isTrue ^^^ (-1))) &&& (-((ma.toldNot ms_1.shortest1.toNatClampNeg) &&& (ms_1.isTrue ^^^ (-1)))))) x4.toNatClampNeg)) (upd ms_1.keptTrue x4.toNatClampNeg ms_1.isTrue) (upd ms_1.keptFalse x4.toNatClampNeg ms_1.isFalse) (upd ms_1.triedTrue x4.toNatClampNeg (((ma.told ms_1.shortest1.toNatClampNeg) &&& (ms_1.isFalse ^^^ (-1))) &&& (-((ma.told ms_1.shortest1.toNatClampNeg) &&& (ms_1.isFalse ^^^ (-1)))))) (upd ms_1.triedFalse x4.toNatClampNeg (((ma.toldNot ms_1.shortest1.toNatClampNeg) &&& (ms_1.isTrue ^^^ (-1))) &&& (-((ma.toldNot ms_1.shortest1.toNatClampNeg) &&& (ms_1.isTrue ^^^ (-1)))))) ms_1.shortest1) _ _ _ h (lv_sub hl [4, 5, 0] rfl) hH
    · have h := h.2 c
      refine lv_aload_n hx hb d_Ref_canBe_25 rfl (lv_at hl 1 rfl) ?_
      refine q_get (v := .int ms_1.shortest1) C0 hH 0 rfl hc_8 24 (by decide) k_646 rfl d_Ref_canBe_26 ?_
      refine lv_if_ge (tgt := 34) hx hb d_Ref_canBe_29 (by decide) (fun c => ?_) (fun c => ?_)
      · have h := h.1 c
        refine lv_iload hx hb d_Ref_canBe_34 (lv_at hl 0 rfl) ?_
        refine lv_if_eq (tgt := 170) hx hb d_Ref_canBe_36 (by decide) (fun c => ?_) (fun c => ?_)
        · have h := h.1 c
          refine lv_iload hx hb d_Ref_canBe_170 (lv_at hl 3 rfl) ?_
          refine lv_if_ne (tgt := 177) hx hb d_Ref_canBe_172 (by decide) (fun c => ?_) (fun c => ?_)
          · have h := h.1 c
            refine lv_iinc (v := (x4 + (-1))) (lv' := [(4, .int (x4 + (-1))), (5, .int r_1), (0, .ref (ad 28)), (1, .int x1)]) hx hb d_Ref_canBe_177 hl (k := 3) rfl rfl (by decide) rfl (fun ls hl => ?_)
            refine lv_aload_n hx hb d_Ref_canBe_180 rfl (lv_at hl 2 rfl) ?_
            refine lv_aload_n hx hb d_Ref_canBe_181 rfl (lv_at hl 2 rfl) ?_
            refine q_get (v := .ref (ad 38)) C0 hH 0 rfl hc_8 20 (by decide) k_642 rfl d_Ref_canBe_182 ?_
            refine lv_iload hx hb d_Ref_canBe_185 (lv_at hl 0 rfl) ?_
            obtain ⟨hi, h⟩ := h
            refine q_ald (f := ms_1.keptTrue) C0 hH 10 rfl hi d_Ref_canBe_187 ?_
            refine lv_aload_n hx hb d_Ref_canBe_188 rfl (lv_at hl 2 rfl) ?_
            refine q_get (v := .ref (ad 41)) C0 hH 0 rfl hc_8 23 (by decide) k_645 rfl d_Ref_canBe_189 ?_
            refine lv_iload hx hb d_Ref_canBe_192 (lv_at hl 0 rfl) ?_
            obtain ⟨hi, h⟩ := h
            refine q_ald (f := ms_1.triedFalse) C0 hH 13 rfl hi d_Ref_canBe_194 ?_
            refine lv_ior hx hb d_Ref_canBe_195 ?_
            refine q_puti (ws' := [c_RE ad cA ma mn (mSat.mk ((ms_1.keptTrue (x4 + (-1)).toNatClampNeg) ||| (ms_1.triedFalse (x4 + (-1)).toNatClampNeg)) ms_1.isFalse ms_1.keptTrue ms_1.keptFalse ms_1.triedTrue ms_1.triedFalse ms_1.shortest1) mb mt mw mg md].flatten) C0 hH 0 rfl hc_8 18 (by decide) k_640 rfl rfl (Nat.le_of_ble_eq_true rfl) rfl d_Ref_canBe_196 (fun H locs hH => ?_)
            refine lv_aload_n hx hb d_Ref_canBe_199 rfl (lv_at hl 2 rfl) ?_
            refine lv_aload_n hx hb d_Ref_canBe_200 rfl (lv_at hl 2 rfl) ?_
            refine q_get (v := .ref (ad 39)) C0 hH 0 rfl hc_8 21 (by decide) k_643 rfl d_Ref_canBe_201 ?_
            refine lv_iload hx hb d_Ref_canBe_204 (lv_at hl 0 rfl) ?_
            obtain ⟨hi, h⟩ := h
            refine q_ald (f := ms_1.keptFalse) C0 hH 11 rfl hi d_Ref_canBe_206 ?_
            refine lv_aload_n hx hb d_Ref_canBe_207 rfl (lv_at hl 2 rfl) ?_
            refine q_get (v := .ref (ad 40)) C0 hH 0 rfl hc_8 22 (by decide) k_644 rfl d_Ref_canBe_208 ?_
            refine lv_iload hx hb d_Ref_canBe_211 (lv_at hl 0 rfl) ?_
            obtain ⟨hi, h⟩ := h
            refine q_ald (f := ms_1.triedTrue) C0 hH 12 rfl hi d_Ref_canBe_213 ?_
            refine lv_ior hx hb d_Ref_canBe_214 ?_
            refine q_puti (ws' := [c_RE ad cA ma mn (mSat.mk ((ms_1.keptTrue (x4 + (-1)).toNatClampNeg) ||| (ms_1.triedFalse (x4 + (-1)).toNatClampNeg)) ((ms_1.keptFalse (x4 + (-1)).toNatClampNeg) ||| (ms_1.triedTrue (x4 + (-1)).toNatClampNeg)) ms_1.keptTrue ms_1.keptFalse ms_1.triedTrue ms_1.triedFalse ms_1.shortest1) mb mt mw mg md].flatten) C0 hH 0 rfl hc_8 19 (by decide) k_641 rfl rfl (Nat.le_of_ble_eq_true rfl) rfl d_Ref_canBe_215 (fun H locs hH => ?_)
            refine lv_goto (tgt := 13) hx hb d_Ref_canBe_218 (by decide) ?_
            exact ih (x4 + (-1)) (mSat.mk ((ms_1.keptTrue (x4 + (-1)).toNatClampNeg) ||| (ms_1.triedFalse (x4 + (-1)).toNatClampNeg)) ((ms_1.keptFalse (x4 + (-1)).toNatClampNeg) ||| (ms_1.triedTrue (x4 + (-1)).toNatClampNeg)) ms_1.keptTrue ms_1.keptFalse ms_1.triedTrue ms_1.triedFalse ms_1.shortest1) _ _ _ h (lv_sub hl [2, 3, 0] rfl) hH
          · have h := h.2 c
            refine lv_iconst (v := 0) hx hb d_Ref_canBe_175 (by decide) ?_
            exact q_retz C0 hH ms_1 rfl (Or.inl rfl) h d_Ref_canBe_176
        · have h := h.2 c
          refine lv_aload_n hx hb d_Ref_canBe_39 rfl (lv_at hl 1 rfl) ?_
          refine q_get (v := .ref (ad 31)) C0 hH 0 rfl hc_8 4 (by decide) k_626 rfl d_Ref_canBe_40 ?_
          refine lv_aload_n hx hb d_Ref_canBe_43 rfl (lv_at hl 1 rfl) ?_
          refine q_get (v := .int ms_1.shortest1) C0 hH 0 rfl hc_8 24 (by decide) k_646 rfl d_Ref_canBe_44 ?_
          obtain ⟨hi, h⟩ := h
          refine q_ald (f := ma.told) C0 hH 3 rfl hi d_Ref_canBe_47 ?_
          refine lv_aload_n hx hb d_Ref_canBe_48 rfl (lv_at hl 1 rfl) ?_
          refine q_get (v := .int ms_1.isFalse) C0 hH 0 rfl hc_8 19 (by decide) k_641 rfl d_Ref_canBe_49 ?_
          refine lv_iconst (v := (-1)) hx hb d_Ref_canBe_52 (by decide) ?_
          refine lv_ixor hx hb d_Ref_canBe_53 ?_
          refine lv_iand hx hb d_Ref_canBe_54 ?_
          refine lv_istore (lv' := [(6, .int ((ma.told ms_1.shortest1.toNatClampNeg) &&& (ms_1.isFalse ^^^ (-1)))), (5, .int r_1), (0, .ref (ad 28)), (1, .int x1), (4, .int x4)]) hx hb d_Ref_canBe_55 hl (by decide) rfl (fun ls hl => ?_)
          refine lv_aload_n hx hb d_Ref_canBe_57 rfl (lv_at hl 2 rfl) ?_
          refine q_get (v := .ref (ad 32)) C0 hH 0 rfl hc_8 5 (by decide) k_627 rfl d_Ref_canBe_58 ?_
          refine lv_aload_n hx hb d_Ref_canBe_61 rfl (lv_at hl 2 rfl) ?_
          refine q_get (v := .int ms_1.shortest1) C0 hH 0 rfl hc_8 24 (by decide) k_646 rfl d_Ref_canBe_62 ?_
          obtain ⟨hi, h⟩ := h
          refine q_ald (f := ma.toldNot) C0 hH 4 rfl hi d_Ref_canBe_65 ?_
          refine lv_aload_n hx hb d_Ref_canBe_66 rfl (lv_at hl 2 rfl) ?_
          refine q_get (v := .int ms_1.isTrue) C0 hH 0 rfl hc_8 18 (by decide) k_640 rfl d_Ref_canBe_67 ?_
          refine lv_iconst (v := (-1)) hx hb d_Ref_canBe_70 (by decide) ?_
          refine lv_ixor hx hb d_Ref_canBe_71 ?_
          refine lv_iand hx hb d_Ref_canBe_72 ?_
          refine lv_istore (lv' := [(7, .int ((ma.toldNot ms_1.shortest1.toNatClampNeg) &&& (ms_1.isTrue ^^^ (-1)))), (6, .int ((ma.told ms_1.shortest1.toNatClampNeg) &&& (ms_1.isFalse ^^^ (-1)))), (5, .int r_1), (0, .ref (ad 28)), (1, .int x1), (4, .int x4)]) hx hb d_Ref_canBe_73 hl (by decide) rfl (fun ls hl => ?_)
          refine lv_aload_n hx hb d_Ref_canBe_75 rfl (lv_at hl 3 rfl) ?_
          refine q_get (v := .ref (ad 38)) C0 hH 0 rfl hc_8 20 (by decide) k_642 rfl d_Ref_canBe_76 ?_
          refine lv_iload hx hb d_Ref_canBe_79 (lv_at hl 5 rfl) ?_
          refine lv_aload_n hx hb d_Ref_canBe_81 rfl (lv_at hl 3 rfl) ?_
          refine q_get (v := .int ms_1.isTrue) C0 hH 0 rfl hc_8 18 (by decide) k_640 rfl d_Ref_canBe_82 ?_
          obtain ⟨hi, h⟩ := h
          refine q_ast (ws' := [c_RE ad cA ma mn (mSat.mk ms_1.isTrue ms_1.isFalse (upd ms_1.keptTrue x4.toNatClampNeg ms_1.isTrue) ms_1.keptFalse ms_1.triedTrue ms_1.triedFalse ms_1.shortest1) mb mt mw mg md].flatten) (f := ms_1.keptTrue) C0 hH 10 rfl hi rfl d_Ref_canBe_85 (fun H locs hH => ?_)
          refine lv_aload_n hx hb d_Ref_canBe_86 rfl (lv_at hl 3 rfl) ?_
          refine q_get (v := .ref (ad 39)) C0 hH 0 rfl hc_8 21 (by decide) k_643 rfl d_Ref_canBe_87 ?_
          refine lv_iload hx hb d_Ref_canBe_90 (lv_at hl 5 rfl) ?_
          refine lv_aload_n hx hb d_Ref_canBe_92 rfl (lv_at hl 3 rfl) ?_
          refine q_get (v := .int ms_1.isFalse) C0 hH 0 rfl hc_8 19 (by decide) k_641 rfl d_Ref_canBe_93 ?_
          obtain ⟨hi, h⟩ := h
          refine q_ast (ws' := [c_RE ad cA ma mn (mSat.mk ms_1.isTrue ms_1.isFalse (upd ms_1.keptTrue x4.toNatClampNeg ms_1.isTrue) (upd ms_1.keptFalse x4.toNatClampNeg ms_1.isFalse) ms_1.triedTrue ms_1.triedFalse ms_1.shortest1) mb mt mw mg md].flatten) (f := ms_1.keptFalse) C0 hH 11 rfl hi rfl d_Ref_canBe_96 (fun H locs hH => ?_)
          refine lv_aload_n hx hb d_Ref_canBe_97 rfl (lv_at hl 3 rfl) ?_
          refine q_get (v := .ref (ad 40)) C0 hH 0 rfl hc_8 22 (by decide) k_644 rfl d_Ref_canBe_98 ?_
          refine lv_iload hx hb d_Ref_canBe_101 (lv_at hl 5 rfl) ?_
          refine lv_iload hx hb d_Ref_canBe_103 (lv_at hl 1 rfl) ?_
          refine lv_iload hx hb d_Ref_canBe_105 (lv_at hl 1 rfl) ?_
          refine lv_ineg hx hb d_Ref_canBe_107 ?_
          refine lv_iand hx hb d_Ref_canBe_108 ?_
          obtain ⟨hi, h⟩ := h
          refine q_ast (ws' := [c_RE ad cA ma mn (mSat.mk ms_1.isTrue ms_1.isFalse (upd ms_1.keptTrue x4.toNatClampNeg ms_1.isTrue) (upd ms_1.keptFalse x4.toNatClampNeg ms_1.isFalse) (upd ms_1.triedTrue x4.toNatClampNeg (((ma.told ms_1.shortest1.toNatClampNeg) &&& (ms_1.isFalse ^^^ (-1))) &&& (-((ma.told ms_1.shortest1.toNatClampNeg) &&& (ms_1.isFalse ^^^ (-1)))))) ms_1.triedFalse ms_1.shortest1) mb mt mw mg md].flatten) (f := ms_1.triedTrue) C0 hH 12 rfl hi rfl d_Ref_canBe_109 (fun H locs hH => ?_)
          refine lv_aload_n hx hb d_Ref_canBe_110 rfl (lv_at hl 3 rfl) ?_
          refine q_get (v := .ref (ad 41)) C0 hH 0 rfl hc_8 23 (by decide) k_645 rfl d_Ref_canBe_111 ?_
          refine lv_iload hx hb d_Ref_canBe_114 (lv_at hl 5 rfl) ?_
          refine lv_iload hx hb d_Ref_canBe_116 (lv_at hl 1 rfl) ?_
          refine lv_if_ne (tgt := 130) hx hb d_Ref_canBe_118 (by decide) (fun c => ?_) (fun c => ?_)
          · have h := h.1 c
            refine lv_iconst (v := 0) hx hb d_Ref_canBe_130 (by decide) ?_
            obtain ⟨hi, h⟩ := h
            refine q_ast (ws' := [c_RE ad cA ma mn (mSat.mk ms_1.isTrue ms_1.isFalse (upd ms_1.keptTrue x4.toNatClampNeg ms_1.isTrue) (upd ms_1.keptFalse x4.toNatClampNeg ms_1.isFalse) (upd ms_1.triedTrue x4.toNatClampNeg (((ma.told ms_1.shortest1.toNatClampNeg) &&& (ms_1.isFalse ^^^ (-1))) &&& (-((ma.told ms_1.shortest1.toNatClampNeg) &&& (ms_1.isFalse ^^^ (-1)))))) (upd ms_1.triedFalse x4.toNatClampNeg 0) ms_1.shortest1) mb mt mw mg md].flatten) (f := ms_1.triedFalse) C0 hH 13 rfl hi rfl d_Ref_canBe_131 (fun H locs hH => ?_)
            refine lv_aload_n hx hb d_Ref_canBe_132 rfl (lv_at hl 3 rfl) ?_
            refine lv_dup hx hb d_Ref_canBe_133 rfl ?_
            refine q_get (v := .int ms_1.isTrue) C0 hH 0 rfl hc_8 18 (by decide) k_640 rfl d_Ref_canBe_134 ?_
            refine lv_aload_n hx hb d_Ref_canBe_137 rfl (lv_at hl 3 rfl) ?_
            refine q_get (v := .ref (ad 40)) C0 hH 0 rfl hc_8 22 (by decide) k_644 rfl d_Ref_canBe_138 ?_
            refine lv_iload hx hb d_Ref_canBe_141 (lv_at hl 5 rfl) ?_
            obtain ⟨hi, h⟩ := h
            refine q_ald (f := (upd ms_1.triedTrue x4.toNatClampNeg (((ma.told ms_1.shortest1.toNatClampNeg) &&& (ms_1.isFalse ^^^ (-1))) &&& (-((ma.told ms_1.shortest1.toNatClampNeg) &&& (ms_1.isFalse ^^^ (-1))))))) C0 hH 12 rfl hi d_Ref_canBe_143 ?_
            refine lv_ior hx hb d_Ref_canBe_144 ?_
            refine q_puti (ws' := [c_RE ad cA ma mn (mSat.mk (ms_1.isTrue ||| ((upd ms_1.triedTrue x4.toNatClampNeg (((ma.told ms_1.shortest1.toNatClampNeg) &&& (ms_1.isFalse ^^^ (-1))) &&& (-((ma.told ms_1.shortest1.toNatClampNeg) &&& (ms_1.isFalse ^^^ (-1)))))) x4.toNatClampNeg)) ms_1.isFalse (upd ms_1.keptTrue x4.toNatClampNeg ms_1.isTrue) (upd ms_1.keptFalse x4.toNatClampNeg ms_1.isFalse) (upd ms_1.triedTrue x4.toNatClampNeg (((ma.told ms_1.shortest1.toNatClampNeg) &&& (ms_1.isFalse ^^^ (-1))) &&& (-((ma.told ms_1.shortest1.toNatClampNeg) &&& (ms_1.isFalse ^^^ (-1)))))) (upd ms_1.triedFalse x4.toNatClampNeg 0) ms_1.shortest1) mb mt mw mg md].flatten) C0 hH 0 rfl hc_8 18 (by decide) k_640 rfl rfl (Nat.le_of_ble_eq_true rfl) rfl d_Ref_canBe_145 (fun H locs hH => ?_)
            refine lv_aload_n hx hb d_Ref_canBe_148 rfl (lv_at hl 3 rfl) ?_
            refine lv_dup hx hb d_Ref_canBe_149 rfl ?_
            refine q_get (v := .int ms_1.isFalse) C0 hH 0 rfl hc_8 19 (by decide) k_641 rfl d_Ref_canBe_150 ?_
            refine lv_aload_n hx hb d_Ref_canBe_153 rfl (lv_at hl 3 rfl) ?_
            refine q_get (v := .ref (ad 41)) C0 hH 0 rfl hc_8 23 (by decide) k_645 rfl d_Ref_canBe_154 ?_
            refine lv_iload hx hb d_Ref_canBe_157 (lv_at hl 5 rfl) ?_
            obtain ⟨hi, h⟩ := h
            refine q_ald (f := (upd ms_1.triedFalse x4.toNatClampNeg 0)) C0 hH 13 rfl hi d_Ref_canBe_159 ?_
            refine lv_ior hx hb d_Ref_canBe_160 ?_
            refine q_puti (ws' := [c_RE ad cA ma mn (mSat.mk (ms_1.isTrue ||| ((upd ms_1.triedTrue x4.toNatClampNeg (((ma.told ms_1.shortest1.toNatClampNeg) &&& (ms_1.isFalse ^^^ (-1))) &&& (-((ma.told ms_1.shortest1.toNatClampNeg) &&& (ms_1.isFalse ^^^ (-1)))))) x4.toNatClampNeg)) (ms_1.isFalse ||| ((upd ms_1.triedFalse x4.toNatClampNeg 0) x4.toNatClampNeg)) (upd ms_1.keptTrue x4.toNatClampNeg ms_1.isTrue) (upd ms_1.keptFalse x4.toNatClampNeg ms_1.isFalse) (upd ms_1.triedTrue x4.toNatClampNeg (((ma.told ms_1.shortest1.toNatClampNeg) &&& (ms_1.isFalse ^^^ (-1))) &&& (-((ma.told ms_1.shortest1.toNatClampNeg) &&& (ms_1.isFalse ^^^ (-1)))))) (upd ms_1.triedFalse x4.toNatClampNeg 0) ms_1.shortest1) mb mt mw mg md].flatten) C0 hH 0 rfl hc_8 19 (by decide) k_641 rfl rfl (Nat.le_of_ble_eq_true rfl) rfl d_Ref_canBe_161 (fun H locs hH => ?_)
            refine lv_iinc (v := (x4 + 1)) (lv' := [(4, .int (x4 + 1)), (7, .int ((ma.toldNot ms_1.shortest1.toNatClampNeg) &&& (ms_1.isTrue ^^^ (-1)))), (6, .int ((ma.told ms_1.shortest1.toNatClampNeg) &&& (ms_1.isFalse ^^^ (-1)))), (5, .int r_1), (0, .ref (ad 28)), (1, .int x1)]) hx hb d_Ref_canBe_164 hl (k := 5) rfl rfl (by decide) rfl (fun ls hl => ?_)
            refine lv_goto (tgt := 218) hx hb d_Ref_canBe_167 (by decide) ?_
            refine lv_goto (tgt := 13) hx hb d_Ref_canBe_218 (by decide) ?_
            exact ih (x4 + 1) (mSat.mk (ms_1.isTrue ||| ((upd ms_1.triedTrue x4.toNatClampNeg (((ma.told ms_1.shortest1.toNatClampNeg) &&& (ms_1.isFalse ^^^ (-1))) &&& (-((ma.told ms_1.shortest1.toNatClampNeg) &&& (ms_1.isFalse ^^^ (-1)))))) x4.toNatClampNeg)) (ms_1.isFalse ||| ((upd ms_1.triedFalse x4.toNatClampNeg 0) x4.toNatClampNeg)) (upd ms_1.keptTrue x4.toNatClampNeg ms_1.isTrue) (upd ms_1.keptFalse x4.toNatClampNeg ms_1.isFalse) (upd ms_1.triedTrue x4.toNatClampNeg (((ma.told ms_1.shortest1.toNatClampNeg) &&& (ms_1.isFalse ^^^ (-1))) &&& (-((ma.told ms_1.shortest1.toNatClampNeg) &&& (ms_1.isFalse ^^^ (-1)))))) (upd ms_1.triedFalse x4.toNatClampNeg 0) ms_1.shortest1) _ _ _ h (lv_sub hl [4, 5, 0] rfl) hH
          · have h := h.2 c
            refine lv_iload hx hb d_Ref_canBe_121 (lv_at hl 0 rfl) ?_
            refine lv_iload hx hb d_Ref_canBe_123 (lv_at hl 0 rfl) ?_
            refine lv_ineg hx hb d_Ref_canBe_125 ?_
            refine lv_iand hx hb d_Ref_canBe_126 ?_
            refine lv_goto (tgt := 131) hx hb d_Ref_canBe_127 (by decide) ?_
            obtain ⟨hi, h⟩ := h
            refine q_ast (ws' := [c_RE ad cA ma mn (mSat.mk ms_1.isTrue ms_1.isFalse (upd ms_1.keptTrue x4.toNatClampNeg ms_1.isTrue) (upd ms_1.keptFalse x4.toNatClampNeg ms_1.isFalse) (upd ms_1.triedTrue x4.toNatClampNeg (((ma.told ms_1.shortest1.toNatClampNeg) &&& (ms_1.isFalse ^^^ (-1))) &&& (-((ma.told ms_1.shortest1.toNatClampNeg) &&& (ms_1.isFalse ^^^ (-1)))))) (upd ms_1.triedFalse x4.toNatClampNeg (((ma.toldNot ms_1.shortest1.toNatClampNeg) &&& (ms_1.isTrue ^^^ (-1))) &&& (-((ma.toldNot ms_1.shortest1.toNatClampNeg) &&& (ms_1.isTrue ^^^ (-1)))))) ms_1.shortest1) mb mt mw mg md].flatten) (f := ms_1.triedFalse) C0 hH 13 rfl hi rfl d_Ref_canBe_131 (fun H locs hH => ?_)
            refine lv_aload_n hx hb d_Ref_canBe_132 rfl (lv_at hl 3 rfl) ?_
            refine lv_dup hx hb d_Ref_canBe_133 rfl ?_
            refine q_get (v := .int ms_1.isTrue) C0 hH 0 rfl hc_8 18 (by decide) k_640 rfl d_Ref_canBe_134 ?_
            refine lv_aload_n hx hb d_Ref_canBe_137 rfl (lv_at hl 3 rfl) ?_
            refine q_get (v := .ref (ad 40)) C0 hH 0 rfl hc_8 22 (by decide) k_644 rfl d_Ref_canBe_138 ?_
            refine lv_iload hx hb d_Ref_canBe_141 (lv_at hl 5 rfl) ?_
            obtain ⟨hi, h⟩ := h
            refine q_ald (f := (upd ms_1.triedTrue x4.toNatClampNeg (((ma.told ms_1.shortest1.toNatClampNeg) &&& (ms_1.isFalse ^^^ (-1))) &&& (-((ma.told ms_1.shortest1.toNatClampNeg) &&& (ms_1.isFalse ^^^ (-1))))))) C0 hH 12 rfl hi d_Ref_canBe_143 ?_
            refine lv_ior hx hb d_Ref_canBe_144 ?_
            refine q_puti (ws' := [c_RE ad cA ma mn (mSat.mk (ms_1.isTrue ||| ((upd ms_1.triedTrue x4.toNatClampNeg (((ma.told ms_1.shortest1.toNatClampNeg) &&& (ms_1.isFalse ^^^ (-1))) &&& (-((ma.told ms_1.shortest1.toNatClampNeg) &&& (ms_1.isFalse ^^^ (-1)))))) x4.toNatClampNeg)) ms_1.isFalse (upd ms_1.keptTrue x4.toNatClampNeg ms_1.isTrue) (upd ms_1.keptFalse x4.toNatClampNeg ms_1.isFalse) (upd ms_1.triedTrue x4.toNatClampNeg (((ma.told ms_1.shortest1.toNatClampNeg) &&& (ms_1.isFalse ^^^ (-1))) &&& (-((ma.told ms_1.shortest1.toNatClampNeg) &&& (ms_1.isFalse ^^^ (-1)))))) (upd ms_1.triedFalse x4.toNatClampNeg (((ma.toldNot ms_1.shortest1.toNatClampNeg) &&& (ms_1.isTrue ^^^ (-1))) &&& (-((ma.toldNot ms_1.shortest1.toNatClampNeg) &&& (ms_1.isTrue ^^^ (-1)))))) ms_1.shortest1) mb mt mw mg md].flatten) C0 hH 0 rfl hc_8 18 (by decide) k_640 rfl rfl (Nat.le_of_ble_eq_true rfl) rfl d_Ref_canBe_145 (fun H locs hH => ?_)
            refine lv_aload_n hx hb d_Ref_canBe_148 rfl (lv_at hl 3 rfl) ?_
            refine lv_dup hx hb d_Ref_canBe_149 rfl ?_
            refine q_get (v := .int ms_1.isFalse) C0 hH 0 rfl hc_8 19 (by decide) k_641 rfl d_Ref_canBe_150 ?_
            refine lv_aload_n hx hb d_Ref_canBe_153 rfl (lv_at hl 3 rfl) ?_
            refine q_get (v := .ref (ad 41)) C0 hH 0 rfl hc_8 23 (by decide) k_645 rfl d_Ref_canBe_154 ?_
            refine lv_iload hx hb d_Ref_canBe_157 (lv_at hl 5 rfl) ?_
            obtain ⟨hi, h⟩ := h
            refine q_ald (f := (upd ms_1.triedFalse x4.toNatClampNeg (((ma.toldNot ms_1.shortest1.toNatClampNeg) &&& (ms_1.isTrue ^^^ (-1))) &&& (-((ma.toldNot ms_1.shortest1.toNatClampNeg) &&& (ms_1.isTrue ^^^ (-1))))))) C0 hH 13 rfl hi d_Ref_canBe_159 ?_
            refine lv_ior hx hb d_Ref_canBe_160 ?_
            refine q_puti (ws' := [c_RE ad cA ma mn (mSat.mk (ms_1.isTrue ||| ((upd ms_1.triedTrue x4.toNatClampNeg (((ma.told ms_1.shortest1.toNatClampNeg) &&& (ms_1.isFalse ^^^ (-1))) &&& (-((ma.told ms_1.shortest1.toNatClampNeg) &&& (ms_1.isFalse ^^^ (-1)))))) x4.toNatClampNeg)) (ms_1.isFalse ||| ((upd ms_1.triedFalse x4.toNatClampNeg (((ma.toldNot ms_1.shortest1.toNatClampNeg) &&& (ms_1.isTrue ^^^ (-1))) &&& (-((ma.toldNot ms_1.shortest1.toNatClampNeg) &&& (ms_1.isTrue ^^^ (-1)))))) x4.toNatClampNeg)) (upd ms_1.keptTrue x4.toNatClampNeg ms_1.isTrue) (upd ms_1.keptFalse x4.toNatClampNeg ms_1.isFalse) (upd ms_1.triedTrue x4.toNatClampNeg (((ma.told ms_1.shortest1.toNatClampNeg) &&& (ms_1.isFalse ^^^ (-1))) &&& (-((ma.told ms_1.shortest1.toNatClampNeg) &&& (ms_1.isFalse ^^^ (-1)))))) (upd ms_1.triedFalse x4.toNatClampNeg (((ma.toldNot ms_1.shortest1.toNatClampNeg) &&& (ms_1.isTrue ^^^ (-1))) &&& (-((ma.toldNot ms_1.shortest1.toNatClampNeg) &&& (ms_1.isTrue ^^^ (-1)))))) ms_1.shortest1) mb mt mw mg md].flatten) C0 hH 0 rfl hc_8 19 (by decide) k_641 rfl rfl (Nat.le_of_ble_eq_true rfl) rfl d_Ref_canBe_161 (fun H locs hH => ?_)
            refine lv_iinc (v := (x4 + 1)) (lv' := [(4, .int (x4 + 1)), (7, .int ((ma.toldNot ms_1.shortest1.toNatClampNeg) &&& (ms_1.isTrue ^^^ (-1)))), (6, .int ((ma.told ms_1.shortest1.toNatClampNeg) &&& (ms_1.isFalse ^^^ (-1)))), (5, .int r_1), (0, .ref (ad 28)), (1, .int x1)]) hx hb d_Ref_canBe_164 hl (k := 5) rfl rfl (by decide) rfl (fun ls hl => ?_)
            refine lv_goto (tgt := 218) hx hb d_Ref_canBe_167 (by decide) ?_
            refine lv_goto (tgt := 13) hx hb d_Ref_canBe_218 (by decide) ?_
            exact ih (x4 + 1) (mSat.mk (ms_1.isTrue ||| ((upd ms_1.triedTrue x4.toNatClampNeg (((ma.told ms_1.shortest1.toNatClampNeg) &&& (ms_1.isFalse ^^^ (-1))) &&& (-((ma.told ms_1.shortest1.toNatClampNeg) &&& (ms_1.isFalse ^^^ (-1)))))) x4.toNatClampNeg)) (ms_1.isFalse ||| ((upd ms_1.triedFalse x4.toNatClampNeg (((ma.toldNot ms_1.shortest1.toNatClampNeg) &&& (ms_1.isTrue ^^^ (-1))) &&& (-((ma.toldNot ms_1.shortest1.toNatClampNeg) &&& (ms_1.isTrue ^^^ (-1)))))) x4.toNatClampNeg)) (upd ms_1.keptTrue x4.toNatClampNeg ms_1.isTrue) (upd ms_1.keptFalse x4.toNatClampNeg ms_1.isFalse) (upd ms_1.triedTrue x4.toNatClampNeg (((ma.told ms_1.shortest1.toNatClampNeg) &&& (ms_1.isFalse ^^^ (-1))) &&& (-((ma.told ms_1.shortest1.toNatClampNeg) &&& (ms_1.isFalse ^^^ (-1)))))) (upd ms_1.triedFalse x4.toNatClampNeg (((ma.toldNot ms_1.shortest1.toNatClampNeg) &&& (ms_1.isTrue ^^^ (-1))) &&& (-((ma.toldNot ms_1.shortest1.toNatClampNeg) &&& (ms_1.isTrue ^^^ (-1)))))) ms_1.shortest1) _ _ _ h (lv_sub hl [4, 5, 0] rfl) hH
      · have h := h.2 c
        refine lv_iconst (v := 1) hx hb d_Ref_canBe_32 (by decide) ?_
        exact q_retz C0 hH ms_1 rfl (Or.inr rfl) h d_Ref_canBe_33
set_option maxHeartbeats 4000000 in
set_option maxRecDepth 100000 in
theorem c_Ref_canBe (l : Launch) (dC : Nat → ClassId) (dI : Nat → Nat → Nat) (cA : ClassId) (ad : Nat → Nat) (x1 : Int32) (x2 : Int32) (x3 : Int32) (ma : mForm) (mn : mKnow) (ms : mSat) (mb : mBack) (mt : mTask) (mw : (Nat → Int32)) (mg : mGo) (md : mCode) (Q : Int32 → mSat → Prop) (sz : Nat) (h : w_Ref_canBe x1 x2 x3 ma ms Q) :
    q_Mi l y_Ref_canBe b_Ref_canBe 8 (some .boolean) 2 49 [.ref (ad 28), .int x1, .int x2, .int x3] dC dI cA ([c_RE ad cA ma mn ms mb mt mw mg md].flatten) (fun u : mSat => [c_RE ad cA ma mn u mb mt mw mg md].flatten) sz (fun r u => Q r u) := by
  refine q_meti (plainFor_of_name (by decide +kernel)) (Nat.le_of_ble_eq_true rfl) (fun {p e s m below meth c ls} C0 hl hH => ?_)
  obtain ⟨hx, hb, -⟩ := id C0
  have hA : ∀ q, s.heap.size ≤ q → va_A ([c_RE ad cA ma mn ms mb mt mw mg md].flatten) s.heap.size q := q_nA
  have hl : lv_has ls 8 [(0, .ref (ad 28)), (1, .int x1), (2, .int x2), (3, .int x3)] := hl
  unfold w_Ref_canBe at h
  refine lv_aload_n hx hb d_Ref_canBe_0 rfl (lv_at hl 0 rfl) ?_
  refine lv_iload_n hx hb d_Ref_canBe_1 rfl (lv_at hl 2 rfl) ?_
  refine q_puti (ws' := [c_RE ad cA ma mn (mSat.mk x2 ms.isFalse ms.keptTrue ms.keptFalse ms.triedTrue ms.triedFalse ms.shortest1) mb mt mw mg md].flatten) C0 hH 0 rfl hc_8 18 (by decide) k_640 rfl rfl (Nat.le_of_ble_eq_true rfl) rfl d_Ref_canBe_2 (fun H locs hH => ?_)
  refine lv_aload_n hx hb d_Ref_canBe_5 rfl (lv_at hl 0 rfl) ?_
  refine lv_iload_n hx hb d_Ref_canBe_6 rfl (lv_at hl 3 rfl) ?_
  refine q_puti (ws' := [c_RE ad cA ma mn (mSat.mk x2 x3 ms.keptTrue ms.keptFalse ms.triedTrue ms.triedFalse ms.shortest1) mb mt mw mg md].flatten) C0 hH 0 rfl hc_8 19 (by decide) k_641 rfl rfl (Nat.le_of_ble_eq_true rfl) rfl d_Ref_canBe_7 (fun H locs hH => ?_)
  refine lv_iconst (v := 0) hx hb d_Ref_canBe_10 (by decide) ?_
  refine lv_istore (lv' := [(4, .int 0), (0, .ref (ad 28)), (1, .int x1), (2, .int x2), (3, .int x3)]) hx hb d_Ref_canBe_11 hl (by decide) rfl (fun ls hl => ?_)
  obtain ⟨nn, h⟩ := h
  refine x_Ref_canBe_L13 C0 hA x1 ma mn mb mt mw mg md nn 0 (mSat.mk x2 x3 ms.keptTrue ms.keptFalse ms.triedTrue ms.triedFalse ms.shortest1) _ _ _ h (lv_sub hl [1, 2, 0] rfl) hH
theorem d_Ref_sat_0 : decode b_Ref_sat 0 = .ok (.iload_n 1, 1) := by decide +kernel
theorem d_Ref_sat_1 : decode b_Ref_sat 1 = .ok (.ifCond .eq 13, 3) := by decide +kernel
theorem d_Ref_sat_4 : decode b_Ref_sat 4 = .ok (.aload_n 0, 1) := by decide +kernel
theorem d_Ref_sat_5 : decode b_Ref_sat 5 = .ok (.iload_n 1, 1) := by decide +kernel
theorem d_Ref_sat_6 : decode b_Ref_sat 6 = .ok (.invokevirtual 73, 3) := by decide +kernel
theorem d_Ref_sat_9 : decode b_Ref_sat 9 = .ok (.ifCond .ne 5, 3) := by decide +kernel
theorem d_Ref_sat_12 : decode b_Ref_sat 12 = .ok (.iconst (-1), 1) := by decide +kernel
theorem d_Ref_sat_13 : decode b_Ref_sat 13 = .ok (.ireturn, 1) := by decide +kernel
theorem d_Ref_sat_14 : decode b_Ref_sat 14 = .ok (.iload_n 1, 1) := by decide +kernel
theorem d_Ref_sat_15 : decode b_Ref_sat 15 = .ok (.ifCond .le 11, 3) := by decide +kernel
theorem d_Ref_sat_18 : decode b_Ref_sat 18 = .ok (.iconst 1, 1) := by decide +kernel
theorem d_Ref_sat_19 : decode b_Ref_sat 19 = .ok (.iload_n 1, 1) := by decide +kernel
theorem d_Ref_sat_20 : decode b_Ref_sat 20 = .ok (.iconst 1, 1) := by decide +kernel
theorem d_Ref_sat_21 : decode b_Ref_sat 21 = .ok (.isub, 1) := by decide +kernel
theorem d_Ref_sat_22 : decode b_Ref_sat 22 = .ok (.ishl, 1) := by decide +kernel
theorem d_Ref_sat_23 : decode b_Ref_sat 23 = .ok (.goto 4, 3) := by decide +kernel
theorem d_Ref_sat_26 : decode b_Ref_sat 26 = .ok (.iconst 0, 1) := by decide +kernel
theorem d_Ref_sat_27 : decode b_Ref_sat 27 = .ok (.istore_n 2, 1) := by decide +kernel
theorem d_Ref_sat_28 : decode b_Ref_sat 28 = .ok (.iload_n 1, 1) := by decide +kernel
theorem d_Ref_sat_29 : decode b_Ref_sat 29 = .ok (.ifCond .ge 12, 3) := by decide +kernel
theorem d_Ref_sat_32 : decode b_Ref_sat 32 = .ok (.iconst 1, 1) := by decide +kernel
theorem d_Ref_sat_33 : decode b_Ref_sat 33 = .ok (.iload_n 1, 1) := by decide +kernel
theorem d_Ref_sat_34 : decode b_Ref_sat 34 = .ok (.ineg, 1) := by decide +kernel
theorem d_Ref_sat_35 : decode b_Ref_sat 35 = .ok (.iconst 1, 1) := by decide +kernel
theorem d_Ref_sat_36 : decode b_Ref_sat 36 = .ok (.isub, 1) := by decide +kernel
theorem d_Ref_sat_37 : decode b_Ref_sat 37 = .ok (.ishl, 1) := by decide +kernel
theorem d_Ref_sat_38 : decode b_Ref_sat 38 = .ok (.goto 4, 3) := by decide +kernel
theorem d_Ref_sat_41 : decode b_Ref_sat 41 = .ok (.iconst 0, 1) := by decide +kernel
theorem d_Ref_sat_42 : decode b_Ref_sat 42 = .ok (.istore_n 3, 1) := by decide +kernel
theorem d_Ref_sat_43 : decode b_Ref_sat 43 = .ok (.aload_n 0, 1) := by decide +kernel
theorem d_Ref_sat_44 : decode b_Ref_sat 44 = .ok (.aload_n 0, 1) := by decide +kernel
theorem d_Ref_sat_45 : decode b_Ref_sat 45 = .ok (.getfield 63, 3) := by decide +kernel
theorem d_Ref_sat_48 : decode b_Ref_sat 48 = .ok (.iload_n 2, 1) := by decide +kernel
theorem d_Ref_sat_49 : decode b_Ref_sat 49 = .ok (.iload_n 3, 1) := by decide +kernel
theorem d_Ref_sat_50 : decode b_Ref_sat 50 = .ok (.invokevirtual 96, 3) := by decide +kernel
theorem d_Ref_sat_53 : decode b_Ref_sat 53 = .ok (.ifCond .eq 7, 3) := by decide +kernel
theorem d_Ref_sat_56 : decode b_Ref_sat 56 = .ok (.iconst 1, 1) := by decide +kernel
theorem d_Ref_sat_57 : decode b_Ref_sat 57 = .ok (.goto 4, 3) := by decide +kernel
theorem d_Ref_sat_60 : decode b_Ref_sat 60 = .ok (.iconst 0, 1) := by decide +kernel
theorem d_Ref_sat_61 : decode b_Ref_sat 61 = .ok (.ireturn, 1) := by decide +kernel
set_option maxHeartbeats 4000000 in
set_option maxRecDepth 100000 in
theorem c_Ref_sat (l : Launch) (dC : Nat → ClassId) (dI : Nat → Nat → Nat) (cA : ClassId) (ad : Nat → Nat) (x1 : Int32) (ma : mForm) (mn : mKnow) (ms : mSat) (mb : mBack) (mt : mTask) (mw : (Nat → Int32)) (mg : mGo) (md : mCode) (Q : Int32 → mSat → Prop) (sz : Nat) (h : w_Ref_sat x1 ma ms Q) :
    q_Mi l y_Ref_sat b_Ref_sat 4 (some .int) 3 76 [.ref (ad 28), .int x1] dC dI cA ([c_RE ad cA ma mn ms mb mt mw mg md].flatten) (fun u : mSat => [c_RE ad cA ma mn u mb mt mw mg md].flatten) sz (fun r u => Q r u) := by
  refine q_meti (plainFor_of_name (by decide +kernel)) (Nat.le_of_ble_eq_true rfl) (fun {p e s m below meth c ls} C0 hl hH => ?_)
  obtain ⟨hx, hb, -⟩ := id C0
  have hA : ∀ q, s.heap.size ≤ q → va_A ([c_RE ad cA ma mn ms mb mt mw mg md].flatten) s.heap.size q := q_nA
  have hl : lv_has ls 4 [(0, .ref (ad 28)), (1, .int x1)] := hl
  unfold w_Ref_sat at h
  refine lv_iload_n hx hb d_Ref_sat_0 rfl (lv_at hl 1 rfl) ?_
  refine lv_if_eq (tgt := 14) hx hb d_Ref_sat_1 (by decide) (fun c => ?_) (fun c => ?_)
  · have h := h.1 c
    refine lv_iload_n hx hb d_Ref_sat_14 rfl (lv_at hl 1 rfl) ?_
    refine lv_if_le (tgt := 26) hx hb d_Ref_sat_15 (by decide) (fun c => ?_) (fun c => ?_)
    · have h := h.1 c
      refine lv_iconst (v := 0) hx hb d_Ref_sat_26 (by decide) ?_
      refine lv_istore_n (lv' := [(2, .int 0), (0, .ref (ad 28)), (1, .int x1)]) hx hb d_Ref_sat_27 rfl hl (by decide) rfl (fun ls hl => ?_)
      refine lv_iload_n hx hb d_Ref_sat_28 rfl (lv_at hl 2 rfl) ?_
      refine lv_if_ge (tgt := 41) hx hb d_Ref_sat_29 (by decide) (fun c => ?_) (fun c => ?_)
      · have h := h.1 c
        refine lv_iconst (v := 0) hx hb d_Ref_sat_41 (by decide) ?_
        refine lv_istore_n (lv' := [(3, .int 0), (2, .int 0), (0, .ref (ad 28)), (1, .int x1)]) hx hb d_Ref_sat_42 rfl hl (by decide) rfl (fun ls hl => ?_)
        refine lv_aload_n hx hb d_Ref_sat_43 rfl (lv_at hl 2 rfl) ?_
        refine lv_aload_n hx hb d_Ref_sat_44 rfl (lv_at hl 2 rfl) ?_
        refine q_get (v := .int ma.clauses) C0 hH 0 rfl hc_8 1 (by decide) k_623 rfl d_Ref_sat_45 ?_
        refine lv_iload_n hx hb d_Ref_sat_48 rfl (lv_at hl 1 rfl) ?_
        refine lv_iload_n hx hb d_Ref_sat_49 rfl (lv_at hl 0 rfl) ?_
        refine q_calli (rest := []) (ws' := fun u : mSat => [c_RE ad cA ma mn u mb mt mw mg md].flatten) C0 hH hA (c_Ref_canBe l dC dI cA ad ma.clauses 0 0 ma mn ms mb mt mw mg md _ _ h) Y_Ref_canBe k_765 0 rfl hc_8 (q_pg [0] [] [0] 1 1 rfl (by decide) rfl (fun _ => rfl) rfl (by decide) (fun _ => rfl)) ⟨Nat.le_of_ble_eq_true rfl, Nat.le_of_ble_eq_true rfl⟩ rfl rfl (Nat.le_of_ble_eq_true rfl) hl.1 d_Ref_sat_50 ⟨Nat.le_refl 0, Nat.le_refl 0⟩ (fun r_1 u_1 H locs h hH => ?_)
        obtain ⟨ms_1, rfl⟩ : ∃ z, z = u_1 := ⟨_, rfl⟩
        try dsimp only at h
        have hH : q_H dC dI (va_A ([c_RE ad cA ma mn ms mb mt mw mg md].flatten) s.heap.size) s.heap H locs ([c_RE ad cA ma mn ms_1 mb mt mw mg md].flatten) := hH
        refine lv_if_eq (tgt := 60) hx hb d_Ref_sat_53 (by decide) (fun c => ?_) (fun c => ?_)
        · have h := h.1 c
          refine lv_iconst (v := 0) hx hb d_Ref_sat_60 (by decide) ?_
          exact q_reti C0 hH ms_1 rfl h d_Ref_sat_61
        · have h := h.2 c
          refine lv_iconst (v := 1) hx hb d_Ref_sat_56 (by decide) ?_
          refine lv_goto (tgt := 61) hx hb d_Ref_sat_57 (by decide) ?_
          exact q_reti C0 hH ms_1 rfl h d_Ref_sat_61
      · have h := h.2 c
        refine lv_iconst (v := 1) hx hb d_Ref_sat_32 (by decide) ?_
        refine lv_iload_n hx hb d_Ref_sat_33 rfl (lv_at hl 2 rfl) ?_
        refine lv_ineg hx hb d_Ref_sat_34 ?_
        refine lv_iconst (v := 1) hx hb d_Ref_sat_35 (by decide) ?_
        refine lv_isub hx hb d_Ref_sat_36 ?_
        refine lv_ishl hx hb d_Ref_sat_37 ?_
        refine lv_goto (tgt := 42) hx hb d_Ref_sat_38 (by decide) ?_
        refine lv_istore_n (lv' := [(3, .int ((1 : Int32) <<< (((-x1) - 1) &&& 31))), (2, .int 0), (0, .ref (ad 28)), (1, .int x1)]) hx hb d_Ref_sat_42 rfl hl (by decide) rfl (fun ls hl => ?_)
        refine lv_aload_n hx hb d_Ref_sat_43 rfl (lv_at hl 2 rfl) ?_
        refine lv_aload_n hx hb d_Ref_sat_44 rfl (lv_at hl 2 rfl) ?_
        refine q_get (v := .int ma.clauses) C0 hH 0 rfl hc_8 1 (by decide) k_623 rfl d_Ref_sat_45 ?_
        refine lv_iload_n hx hb d_Ref_sat_48 rfl (lv_at hl 1 rfl) ?_
        refine lv_iload_n hx hb d_Ref_sat_49 rfl (lv_at hl 0 rfl) ?_
        refine q_calli (rest := []) (ws' := fun u : mSat => [c_RE ad cA ma mn u mb mt mw mg md].flatten) C0 hH hA (c_Ref_canBe l dC dI cA ad ma.clauses 0 ((1 : Int32) <<< (((-x1) - 1) &&& 31)) ma mn ms mb mt mw mg md _ _ h) Y_Ref_canBe k_765 0 rfl hc_8 (q_pg [0] [] [0] 1 1 rfl (by decide) rfl (fun _ => rfl) rfl (by decide) (fun _ => rfl)) ⟨Nat.le_of_ble_eq_true rfl, Nat.le_of_ble_eq_true rfl⟩ rfl rfl (Nat.le_of_ble_eq_true rfl) hl.1 d_Ref_sat_50 ⟨Nat.le_refl 0, Nat.le_refl 0⟩ (fun r_2 u_2 H locs h hH => ?_)
        obtain ⟨ms_2, rfl⟩ : ∃ z, z = u_2 := ⟨_, rfl⟩
        try dsimp only at h
        have hH : q_H dC dI (va_A ([c_RE ad cA ma mn ms mb mt mw mg md].flatten) s.heap.size) s.heap H locs ([c_RE ad cA ma mn ms_2 mb mt mw mg md].flatten) := hH
        refine lv_if_eq (tgt := 60) hx hb d_Ref_sat_53 (by decide) (fun c => ?_) (fun c => ?_)
        · have h := h.1 c
          refine lv_iconst (v := 0) hx hb d_Ref_sat_60 (by decide) ?_
          exact q_reti C0 hH ms_2 rfl h d_Ref_sat_61
        · have h := h.2 c
          refine lv_iconst (v := 1) hx hb d_Ref_sat_56 (by decide) ?_
          refine lv_goto (tgt := 61) hx hb d_Ref_sat_57 (by decide) ?_
          exact q_reti C0 hH ms_2 rfl h d_Ref_sat_61
    · have h := h.2 c
      refine lv_iconst (v := 1) hx hb d_Ref_sat_18 (by decide) ?_
      refine lv_iload_n hx hb d_Ref_sat_19 rfl (lv_at hl 1 rfl) ?_
      refine lv_iconst (v := 1) hx hb d_Ref_sat_20 (by decide) ?_
      refine lv_isub hx hb d_Ref_sat_21 ?_
      refine lv_ishl hx hb d_Ref_sat_22 ?_
      refine lv_goto (tgt := 27) hx hb d_Ref_sat_23 (by decide) ?_
      refine lv_istore_n (lv' := [(2, .int ((1 : Int32) <<< ((x1 - 1) &&& 31))), (0, .ref (ad 28)), (1, .int x1)]) hx hb d_Ref_sat_27 rfl hl (by decide) rfl (fun ls hl => ?_)
      refine lv_iload_n hx hb d_Ref_sat_28 rfl (lv_at hl 2 rfl) ?_
      refine lv_if_ge (tgt := 41) hx hb d_Ref_sat_29 (by decide) (fun c => ?_) (fun c => ?_)
      · have h := h.1 c
        refine lv_iconst (v := 0) hx hb d_Ref_sat_41 (by decide) ?_
        refine lv_istore_n (lv' := [(3, .int 0), (2, .int ((1 : Int32) <<< ((x1 - 1) &&& 31))), (0, .ref (ad 28)), (1, .int x1)]) hx hb d_Ref_sat_42 rfl hl (by decide) rfl (fun ls hl => ?_)
        refine lv_aload_n hx hb d_Ref_sat_43 rfl (lv_at hl 2 rfl) ?_
        refine lv_aload_n hx hb d_Ref_sat_44 rfl (lv_at hl 2 rfl) ?_
        refine q_get (v := .int ma.clauses) C0 hH 0 rfl hc_8 1 (by decide) k_623 rfl d_Ref_sat_45 ?_
        refine lv_iload_n hx hb d_Ref_sat_48 rfl (lv_at hl 1 rfl) ?_
        refine lv_iload_n hx hb d_Ref_sat_49 rfl (lv_at hl 0 rfl) ?_
        refine q_calli (rest := []) (ws' := fun u : mSat => [c_RE ad cA ma mn u mb mt mw mg md].flatten) C0 hH hA (c_Ref_canBe l dC dI cA ad ma.clauses ((1 : Int32) <<< ((x1 - 1) &&& 31)) 0 ma mn ms mb mt mw mg md _ _ h) Y_Ref_canBe k_765 0 rfl hc_8 (q_pg [0] [] [0] 1 1 rfl (by decide) rfl (fun _ => rfl) rfl (by decide) (fun _ => rfl)) ⟨Nat.le_of_ble_eq_true rfl, Nat.le_of_ble_eq_true rfl⟩ rfl rfl (Nat.le_of_ble_eq_true rfl) hl.1 d_Ref_sat_50 ⟨Nat.le_refl 0, Nat.le_refl 0⟩ (fun r_3 u_3 H locs h hH => ?_)
        obtain ⟨ms_3, rfl⟩ : ∃ z, z = u_3 := ⟨_, rfl⟩
        try dsimp only at h
        have hH : q_H dC dI (va_A ([c_RE ad cA ma mn ms mb mt mw mg md].flatten) s.heap.size) s.heap H locs ([c_RE ad cA ma mn ms_3 mb mt mw mg md].flatten) := hH
        refine lv_if_eq (tgt := 60) hx hb d_Ref_sat_53 (by decide) (fun c => ?_) (fun c => ?_)
        · have h := h.1 c
          refine lv_iconst (v := 0) hx hb d_Ref_sat_60 (by decide) ?_
          exact q_reti C0 hH ms_3 rfl h d_Ref_sat_61
        · have h := h.2 c
          refine lv_iconst (v := 1) hx hb d_Ref_sat_56 (by decide) ?_
          refine lv_goto (tgt := 61) hx hb d_Ref_sat_57 (by decide) ?_
          exact q_reti C0 hH ms_3 rfl h d_Ref_sat_61
      · have h := h.2 c
        refine lv_iconst (v := 1) hx hb d_Ref_sat_32 (by decide) ?_
        refine lv_iload_n hx hb d_Ref_sat_33 rfl (lv_at hl 2 rfl) ?_
        refine lv_ineg hx hb d_Ref_sat_34 ?_
        refine lv_iconst (v := 1) hx hb d_Ref_sat_35 (by decide) ?_
        refine lv_isub hx hb d_Ref_sat_36 ?_
        refine lv_ishl hx hb d_Ref_sat_37 ?_
        refine lv_goto (tgt := 42) hx hb d_Ref_sat_38 (by decide) ?_
        refine lv_istore_n (lv' := [(3, .int ((1 : Int32) <<< (((-x1) - 1) &&& 31))), (2, .int ((1 : Int32) <<< ((x1 - 1) &&& 31))), (0, .ref (ad 28)), (1, .int x1)]) hx hb d_Ref_sat_42 rfl hl (by decide) rfl (fun ls hl => ?_)
        refine lv_aload_n hx hb d_Ref_sat_43 rfl (lv_at hl 2 rfl) ?_
        refine lv_aload_n hx hb d_Ref_sat_44 rfl (lv_at hl 2 rfl) ?_
        refine q_get (v := .int ma.clauses) C0 hH 0 rfl hc_8 1 (by decide) k_623 rfl d_Ref_sat_45 ?_
        refine lv_iload_n hx hb d_Ref_sat_48 rfl (lv_at hl 1 rfl) ?_
        refine lv_iload_n hx hb d_Ref_sat_49 rfl (lv_at hl 0 rfl) ?_
        refine q_calli (rest := []) (ws' := fun u : mSat => [c_RE ad cA ma mn u mb mt mw mg md].flatten) C0 hH hA (c_Ref_canBe l dC dI cA ad ma.clauses ((1 : Int32) <<< ((x1 - 1) &&& 31)) ((1 : Int32) <<< (((-x1) - 1) &&& 31)) ma mn ms mb mt mw mg md _ _ h) Y_Ref_canBe k_765 0 rfl hc_8 (q_pg [0] [] [0] 1 1 rfl (by decide) rfl (fun _ => rfl) rfl (by decide) (fun _ => rfl)) ⟨Nat.le_of_ble_eq_true rfl, Nat.le_of_ble_eq_true rfl⟩ rfl rfl (Nat.le_of_ble_eq_true rfl) hl.1 d_Ref_sat_50 ⟨Nat.le_refl 0, Nat.le_refl 0⟩ (fun r_4 u_4 H locs h hH => ?_)
        obtain ⟨ms_4, rfl⟩ : ∃ z, z = u_4 := ⟨_, rfl⟩
        try dsimp only at h
        have hH : q_H dC dI (va_A ([c_RE ad cA ma mn ms mb mt mw mg md].flatten) s.heap.size) s.heap H locs ([c_RE ad cA ma mn ms_4 mb mt mw mg md].flatten) := hH
        refine lv_if_eq (tgt := 60) hx hb d_Ref_sat_53 (by decide) (fun c => ?_) (fun c => ?_)
        · have h := h.1 c
          refine lv_iconst (v := 0) hx hb d_Ref_sat_60 (by decide) ?_
          exact q_reti C0 hH ms_4 rfl h d_Ref_sat_61
        · have h := h.2 c
          refine lv_iconst (v := 1) hx hb d_Ref_sat_56 (by decide) ?_
          refine lv_goto (tgt := 61) hx hb d_Ref_sat_57 (by decide) ?_
          exact q_reti C0 hH ms_4 rfl h d_Ref_sat_61
  · have h := h.2 c
    refine lv_aload_n hx hb d_Ref_sat_4 rfl (lv_at hl 0 rfl) ?_
    refine lv_iload_n hx hb d_Ref_sat_5 rfl (lv_at hl 1 rfl) ?_
    refine q_calli (rest := []) (ws' := fun _ : Unit => [c_RE ad cA ma mn ms mb mt mw mg md].flatten) C0 hH hA (c_Ref_isLiteral l dC dI cA ad x1 ma mn ms mb mt mw mg md _ _ h) Y_Ref_isLiteral k_742 0 rfl hc_8 (q_pg [0] [] [0] 1 1 rfl (by decide) rfl (fun _ => rfl) rfl (by decide) (fun _ => rfl)) ⟨Nat.le_of_ble_eq_true rfl, Nat.le_of_ble_eq_true rfl⟩ rfl rfl (Nat.le_of_ble_eq_true rfl) hl.1 d_Ref_sat_6 ⟨Nat.le_refl 0, Nat.le_refl 0⟩ (fun r_5 u_5 H locs h hH => ?_)
    try dsimp only at h
    have hH : q_H dC dI (va_A ([c_RE ad cA ma mn ms mb mt mw mg md].flatten) s.heap.size) s.heap H locs ([c_RE ad cA ma mn ms mb mt mw mg md].flatten) := hH
    refine lv_if_ne (tgt := 14) hx hb d_Ref_sat_9 (by decide) (fun c => ?_) (fun c => ?_)
    · have h := h.1 c
      refine lv_iload_n hx hb d_Ref_sat_14 rfl (lv_at hl 1 rfl) ?_
      refine lv_if_le (tgt := 26) hx hb d_Ref_sat_15 (by decide) (fun c => ?_) (fun c => ?_)
      · have h := h.1 c
        refine lv_iconst (v := 0) hx hb d_Ref_sat_26 (by decide) ?_
        refine lv_istore_n (lv' := [(2, .int 0), (0, .ref (ad 28)), (1, .int x1)]) hx hb d_Ref_sat_27 rfl hl (by decide) rfl (fun ls hl => ?_)
        refine lv_iload_n hx hb d_Ref_sat_28 rfl (lv_at hl 2 rfl) ?_
        refine lv_if_ge (tgt := 41) hx hb d_Ref_sat_29 (by decide) (fun c => ?_) (fun c => ?_)
        · have h := h.1 c
          refine lv_iconst (v := 0) hx hb d_Ref_sat_41 (by decide) ?_
          refine lv_istore_n (lv' := [(3, .int 0), (2, .int 0), (0, .ref (ad 28)), (1, .int x1)]) hx hb d_Ref_sat_42 rfl hl (by decide) rfl (fun ls hl => ?_)
          refine lv_aload_n hx hb d_Ref_sat_43 rfl (lv_at hl 2 rfl) ?_
          refine lv_aload_n hx hb d_Ref_sat_44 rfl (lv_at hl 2 rfl) ?_
          refine q_get (v := .int ma.clauses) C0 hH 0 rfl hc_8 1 (by decide) k_623 rfl d_Ref_sat_45 ?_
          refine lv_iload_n hx hb d_Ref_sat_48 rfl (lv_at hl 1 rfl) ?_
          refine lv_iload_n hx hb d_Ref_sat_49 rfl (lv_at hl 0 rfl) ?_
          refine q_calli (rest := []) (ws' := fun u : mSat => [c_RE ad cA ma mn u mb mt mw mg md].flatten) C0 hH hA (c_Ref_canBe l dC dI cA ad ma.clauses 0 0 ma mn ms mb mt mw mg md _ _ h) Y_Ref_canBe k_765 0 rfl hc_8 (q_pg [0] [] [0] 1 1 rfl (by decide) rfl (fun _ => rfl) rfl (by decide) (fun _ => rfl)) ⟨Nat.le_of_ble_eq_true rfl, Nat.le_of_ble_eq_true rfl⟩ rfl rfl (Nat.le_of_ble_eq_true rfl) hl.1 d_Ref_sat_50 ⟨Nat.le_refl 0, Nat.le_refl 0⟩ (fun r_6 u_6 H locs h hH => ?_)
          obtain ⟨ms_6, rfl⟩ : ∃ z, z = u_6 := ⟨_, rfl⟩
          try dsimp only at h
          have hH : q_H dC dI (va_A ([c_RE ad cA ma mn ms mb mt mw mg md].flatten) s.heap.size) s.heap H locs ([c_RE ad cA ma mn ms_6 mb mt mw mg md].flatten) := hH
          refine lv_if_eq (tgt := 60) hx hb d_Ref_sat_53 (by decide) (fun c => ?_) (fun c => ?_)
          · have h := h.1 c
            refine lv_iconst (v := 0) hx hb d_Ref_sat_60 (by decide) ?_
            exact q_reti C0 hH ms_6 rfl h d_Ref_sat_61
          · have h := h.2 c
            refine lv_iconst (v := 1) hx hb d_Ref_sat_56 (by decide) ?_
            refine lv_goto (tgt := 61) hx hb d_Ref_sat_57 (by decide) ?_
            exact q_reti C0 hH ms_6 rfl h d_Ref_sat_61
        · have h := h.2 c
          refine lv_iconst (v := 1) hx hb d_Ref_sat_32 (by decide) ?_
          refine lv_iload_n hx hb d_Ref_sat_33 rfl (lv_at hl 2 rfl) ?_
          refine lv_ineg hx hb d_Ref_sat_34 ?_
          refine lv_iconst (v := 1) hx hb d_Ref_sat_35 (by decide) ?_
          refine lv_isub hx hb d_Ref_sat_36 ?_
          refine lv_ishl hx hb d_Ref_sat_37 ?_
          refine lv_goto (tgt := 42) hx hb d_Ref_sat_38 (by decide) ?_
          refine lv_istore_n (lv' := [(3, .int ((1 : Int32) <<< (((-x1) - 1) &&& 31))), (2, .int 0), (0, .ref (ad 28)), (1, .int x1)]) hx hb d_Ref_sat_42 rfl hl (by decide) rfl (fun ls hl => ?_)
          refine lv_aload_n hx hb d_Ref_sat_43 rfl (lv_at hl 2 rfl) ?_
          refine lv_aload_n hx hb d_Ref_sat_44 rfl (lv_at hl 2 rfl) ?_
          refine q_get (v := .int ma.clauses) C0 hH 0 rfl hc_8 1 (by decide) k_623 rfl d_Ref_sat_45 ?_
          refine lv_iload_n hx hb d_Ref_sat_48 rfl (lv_at hl 1 rfl) ?_
          refine lv_iload_n hx hb d_Ref_sat_49 rfl (lv_at hl 0 rfl) ?_
          refine q_calli (rest := []) (ws' := fun u : mSat => [c_RE ad cA ma mn u mb mt mw mg md].flatten) C0 hH hA (c_Ref_canBe l dC dI cA ad ma.clauses 0 ((1 : Int32) <<< (((-x1) - 1) &&& 31)) ma mn ms mb mt mw mg md _ _ h) Y_Ref_canBe k_765 0 rfl hc_8 (q_pg [0] [] [0] 1 1 rfl (by decide) rfl (fun _ => rfl) rfl (by decide) (fun _ => rfl)) ⟨Nat.le_of_ble_eq_true rfl, Nat.le_of_ble_eq_true rfl⟩ rfl rfl (Nat.le_of_ble_eq_true rfl) hl.1 d_Ref_sat_50 ⟨Nat.le_refl 0, Nat.le_refl 0⟩ (fun r_7 u_7 H locs h hH => ?_)
          obtain ⟨ms_7, rfl⟩ : ∃ z, z = u_7 := ⟨_, rfl⟩
          try dsimp only at h
          have hH : q_H dC dI (va_A ([c_RE ad cA ma mn ms mb mt mw mg md].flatten) s.heap.size) s.heap H locs ([c_RE ad cA ma mn ms_7 mb mt mw mg md].flatten) := hH
          refine lv_if_eq (tgt := 60) hx hb d_Ref_sat_53 (by decide) (fun c => ?_) (fun c => ?_)
          · have h := h.1 c
            refine lv_iconst (v := 0) hx hb d_Ref_sat_60 (by decide) ?_
            exact q_reti C0 hH ms_7 rfl h d_Ref_sat_61
          · have h := h.2 c
            refine lv_iconst (v := 1) hx hb d_Ref_sat_56 (by decide) ?_
            refine lv_goto (tgt := 61) hx hb d_Ref_sat_57 (by decide) ?_
            exact q_reti C0 hH ms_7 rfl h d_Ref_sat_61
      · have h := h.2 c
        refine lv_iconst (v := 1) hx hb d_Ref_sat_18 (by decide) ?_
        refine lv_iload_n hx hb d_Ref_sat_19 rfl (lv_at hl 1 rfl) ?_
        refine lv_iconst (v := 1) hx hb d_Ref_sat_20 (by decide) ?_
        refine lv_isub hx hb d_Ref_sat_21 ?_
        refine lv_ishl hx hb d_Ref_sat_22 ?_
        refine lv_goto (tgt := 27) hx hb d_Ref_sat_23 (by decide) ?_
        refine lv_istore_n (lv' := [(2, .int ((1 : Int32) <<< ((x1 - 1) &&& 31))), (0, .ref (ad 28)), (1, .int x1)]) hx hb d_Ref_sat_27 rfl hl (by decide) rfl (fun ls hl => ?_)
        refine lv_iload_n hx hb d_Ref_sat_28 rfl (lv_at hl 2 rfl) ?_
        refine lv_if_ge (tgt := 41) hx hb d_Ref_sat_29 (by decide) (fun c => ?_) (fun c => ?_)
        · have h := h.1 c
          refine lv_iconst (v := 0) hx hb d_Ref_sat_41 (by decide) ?_
          refine lv_istore_n (lv' := [(3, .int 0), (2, .int ((1 : Int32) <<< ((x1 - 1) &&& 31))), (0, .ref (ad 28)), (1, .int x1)]) hx hb d_Ref_sat_42 rfl hl (by decide) rfl (fun ls hl => ?_)
          refine lv_aload_n hx hb d_Ref_sat_43 rfl (lv_at hl 2 rfl) ?_
          refine lv_aload_n hx hb d_Ref_sat_44 rfl (lv_at hl 2 rfl) ?_
          refine q_get (v := .int ma.clauses) C0 hH 0 rfl hc_8 1 (by decide) k_623 rfl d_Ref_sat_45 ?_
          refine lv_iload_n hx hb d_Ref_sat_48 rfl (lv_at hl 1 rfl) ?_
          refine lv_iload_n hx hb d_Ref_sat_49 rfl (lv_at hl 0 rfl) ?_
          refine q_calli (rest := []) (ws' := fun u : mSat => [c_RE ad cA ma mn u mb mt mw mg md].flatten) C0 hH hA (c_Ref_canBe l dC dI cA ad ma.clauses ((1 : Int32) <<< ((x1 - 1) &&& 31)) 0 ma mn ms mb mt mw mg md _ _ h) Y_Ref_canBe k_765 0 rfl hc_8 (q_pg [0] [] [0] 1 1 rfl (by decide) rfl (fun _ => rfl) rfl (by decide) (fun _ => rfl)) ⟨Nat.le_of_ble_eq_true rfl, Nat.le_of_ble_eq_true rfl⟩ rfl rfl (Nat.le_of_ble_eq_true rfl) hl.1 d_Ref_sat_50 ⟨Nat.le_refl 0, Nat.le_refl 0⟩ (fun r_8 u_8 H locs h hH => ?_)
          obtain ⟨ms_8, rfl⟩ : ∃ z, z = u_8 := ⟨_, rfl⟩
          try dsimp only at h
          have hH : q_H dC dI (va_A ([c_RE ad cA ma mn ms mb mt mw mg md].flatten) s.heap.size) s.heap H locs ([c_RE ad cA ma mn ms_8 mb mt mw mg md].flatten) := hH
          refine lv_if_eq (tgt := 60) hx hb d_Ref_sat_53 (by decide) (fun c => ?_) (fun c => ?_)
          · have h := h.1 c
            refine lv_iconst (v := 0) hx hb d_Ref_sat_60 (by decide) ?_
            exact q_reti C0 hH ms_8 rfl h d_Ref_sat_61
          · have h := h.2 c
            refine lv_iconst (v := 1) hx hb d_Ref_sat_56 (by decide) ?_
            refine lv_goto (tgt := 61) hx hb d_Ref_sat_57 (by decide) ?_
            exact q_reti C0 hH ms_8 rfl h d_Ref_sat_61
        · have h := h.2 c
          refine lv_iconst (v := 1) hx hb d_Ref_sat_32 (by decide) ?_
          refine lv_iload_n hx hb d_Ref_sat_33 rfl (lv_at hl 2 rfl) ?_
          refine lv_ineg hx hb d_Ref_sat_34 ?_
          refine lv_iconst (v := 1) hx hb d_Ref_sat_35 (by decide) ?_
          refine lv_isub hx hb d_Ref_sat_36 ?_
          refine lv_ishl hx hb d_Ref_sat_37 ?_
          refine lv_goto (tgt := 42) hx hb d_Ref_sat_38 (by decide) ?_
          refine lv_istore_n (lv' := [(3, .int ((1 : Int32) <<< (((-x1) - 1) &&& 31))), (2, .int ((1 : Int32) <<< ((x1 - 1) &&& 31))), (0, .ref (ad 28)), (1, .int x1)]) hx hb d_Ref_sat_42 rfl hl (by decide) rfl (fun ls hl => ?_)
          refine lv_aload_n hx hb d_Ref_sat_43 rfl (lv_at hl 2 rfl) ?_
          refine lv_aload_n hx hb d_Ref_sat_44 rfl (lv_at hl 2 rfl) ?_
          refine q_get (v := .int ma.clauses) C0 hH 0 rfl hc_8 1 (by decide) k_623 rfl d_Ref_sat_45 ?_
          refine lv_iload_n hx hb d_Ref_sat_48 rfl (lv_at hl 1 rfl) ?_
          refine lv_iload_n hx hb d_Ref_sat_49 rfl (lv_at hl 0 rfl) ?_
          refine q_calli (rest := []) (ws' := fun u : mSat => [c_RE ad cA ma mn u mb mt mw mg md].flatten) C0 hH hA (c_Ref_canBe l dC dI cA ad ma.clauses ((1 : Int32) <<< ((x1 - 1) &&& 31)) ((1 : Int32) <<< (((-x1) - 1) &&& 31)) ma mn ms mb mt mw mg md _ _ h) Y_Ref_canBe k_765 0 rfl hc_8 (q_pg [0] [] [0] 1 1 rfl (by decide) rfl (fun _ => rfl) rfl (by decide) (fun _ => rfl)) ⟨Nat.le_of_ble_eq_true rfl, Nat.le_of_ble_eq_true rfl⟩ rfl rfl (Nat.le_of_ble_eq_true rfl) hl.1 d_Ref_sat_50 ⟨Nat.le_refl 0, Nat.le_refl 0⟩ (fun r_9 u_9 H locs h hH => ?_)
          obtain ⟨ms_9, rfl⟩ : ∃ z, z = u_9 := ⟨_, rfl⟩
          try dsimp only at h
          have hH : q_H dC dI (va_A ([c_RE ad cA ma mn ms mb mt mw mg md].flatten) s.heap.size) s.heap H locs ([c_RE ad cA ma mn ms_9 mb mt mw mg md].flatten) := hH
          refine lv_if_eq (tgt := 60) hx hb d_Ref_sat_53 (by decide) (fun c => ?_) (fun c => ?_)
          · have h := h.1 c
            refine lv_iconst (v := 0) hx hb d_Ref_sat_60 (by decide) ?_
            exact q_reti C0 hH ms_9 rfl h d_Ref_sat_61
          · have h := h.2 c
            refine lv_iconst (v := 1) hx hb d_Ref_sat_56 (by decide) ?_
            refine lv_goto (tgt := 61) hx hb d_Ref_sat_57 (by decide) ?_
            exact q_reti C0 hH ms_9 rfl h d_Ref_sat_61
    · have h := h.2 c
      refine lv_iconst (v := (-1)) hx hb d_Ref_sat_12 (by decide) ?_
      exact q_reti C0 hH ms rfl h d_Ref_sat_13
theorem d_Ref_isVariable_0 : decode b_Ref_isVariable 0 = .ok (.iload_n 1, 1) := by decide +kernel
theorem d_Ref_isVariable_1 : decode b_Ref_isVariable 1 = .ok (.iconst 1, 1) := by decide +kernel
theorem d_Ref_isVariable_2 : decode b_Ref_isVariable 2 = .ok (.aload_n 0, 1) := by decide +kernel
theorem d_Ref_isVariable_3 : decode b_Ref_isVariable 3 = .ok (.getfield 55, 3) := by decide +kernel
theorem d_Ref_isVariable_6 : decode b_Ref_isVariable 6 = .ok (.invokestatic 59, 3) := by decide +kernel
theorem d_Ref_isVariable_9 : decode b_Ref_isVariable 9 = .ok (.ireturn, 1) := by decide +kernel
set_option maxHeartbeats 4000000 in
set_option maxRecDepth 100000 in
theorem c_Ref_isVariable (l : Launch) (dC : Nat → ClassId) (dI : Nat → Nat → Nat) (cA : ClassId) (ad : Nat → Nat) (x1 : Int32) (ma : mForm) (mn : mKnow) (ms : mSat) (mb : mBack) (mt : mTask) (mw : (Nat → Int32)) (mg : mGo) (md : mCode) (Q : Int32 → Prop) (sz : Nat) (h : w_Ref_isVariable x1 ma Q) :
    q_Mi l y_Ref_isVariable b_Ref_isVariable 2 (some .boolean) 1 22 [.ref (ad 28), .int x1] dC dI cA ([c_RE ad cA ma mn ms mb mt mw mg md].flatten) (fun _ : Unit => [c_RE ad cA ma mn ms mb mt mw mg md].flatten) sz (fun r _ => Q r) := by
  refine q_meti (plainFor_of_name (by decide +kernel)) (Nat.le_of_ble_eq_true rfl) (fun {p e s m below meth c ls} C0 hl hH => ?_)
  obtain ⟨hx, hb, -⟩ := id C0
  have hA : ∀ q, s.heap.size ≤ q → va_A ([c_RE ad cA ma mn ms mb mt mw mg md].flatten) s.heap.size q := q_nA
  have hl : lv_has ls 2 [(0, .ref (ad 28)), (1, .int x1)] := hl
  unfold w_Ref_isVariable at h
  refine lv_iload_n hx hb d_Ref_isVariable_0 rfl (lv_at hl 1 rfl) ?_
  refine lv_iconst (v := 1) hx hb d_Ref_isVariable_1 (by decide) ?_
  refine lv_aload_n hx hb d_Ref_isVariable_2 rfl (lv_at hl 0 rfl) ?_
  refine q_get (v := .int ma.variables) C0 hH 0 rfl hc_8 0 (by decide) k_622 rfl d_Ref_isVariable_3 ?_
  refine q_calls (rest := []) C0 hH hA (c_Ref_in l dC dI cA ad x1 1 ma.variables _ _ h) Y_Ref_in k_735 ⟨Nat.le_of_ble_eq_true rfl, Nat.le_of_ble_eq_true rfl⟩ rfl rfl (Nat.le_of_ble_eq_true rfl) hl.1 d_Ref_isVariable_6 ⟨Nat.le_refl 0, Nat.le_refl 0⟩ (fun r_1 H locs h hH => ?_)
  try dsimp only at h
  exact q_retz C0 hH () rfl h.1 h.2 d_Ref_isVariable_9
theorem d_Ref_back_0 : decode b_Ref_back 0 = .ok (.iload_n 2, 1) := by decide +kernel
theorem d_Ref_back_1 : decode b_Ref_back 1 = .ok (.iconst 1, 1) := by decide +kernel
theorem d_Ref_back_2 : decode b_Ref_back 2 = .ok (.isub, 1) := by decide +kernel
theorem d_Ref_back_3 : decode b_Ref_back 3 = .ok (.istore_n 3, 1) := by decide +kernel
theorem d_Ref_back_4 : decode b_Ref_back 4 = .ok (.iload_n 3, 1) := by decide +kernel
theorem d_Ref_back_5 : decode b_Ref_back 5 = .ok (.ifCond .lt 81, 3) := by decide +kernel
theorem d_Ref_back_8 : decode b_Ref_back 8 = .ok (.iconst 1, 1) := by decide +kernel
theorem d_Ref_back_9 : decode b_Ref_back 9 = .ok (.iload_n 3, 1) := by decide +kernel
theorem d_Ref_back_10 : decode b_Ref_back 10 = .ok (.ishl, 1) := by decide +kernel
theorem d_Ref_back_11 : decode b_Ref_back 11 = .ok (.iconst 1, 1) := by decide +kernel
theorem d_Ref_back_12 : decode b_Ref_back 12 = .ok (.isub, 1) := by decide +kernel
theorem d_Ref_back_13 : decode b_Ref_back 13 = .ok (.istore 4, 2) := by decide +kernel
theorem d_Ref_back_15 : decode b_Ref_back 15 = .ok (.iload_n 1, 1) := by decide +kernel
theorem d_Ref_back_16 : decode b_Ref_back 16 = .ok (.iload_n 3, 1) := by decide +kernel
theorem d_Ref_back_17 : decode b_Ref_back 17 = .ok (.ishr, 1) := by decide +kernel
theorem d_Ref_back_18 : decode b_Ref_back 18 = .ok (.iconst 1, 1) := by decide +kernel
theorem d_Ref_back_19 : decode b_Ref_back 19 = .ok (.iand, 1) := by decide +kernel
theorem d_Ref_back_20 : decode b_Ref_back 20 = .ok (.ifCond .ne 7, 3) := by decide +kernel
theorem d_Ref_back_23 : decode b_Ref_back 23 = .ok (.iconst 1, 1) := by decide +kernel
theorem d_Ref_back_24 : decode b_Ref_back 24 = .ok (.goto 4, 3) := by decide +kernel
theorem d_Ref_back_27 : decode b_Ref_back 27 = .ok (.iconst 0, 1) := by decide +kernel
theorem d_Ref_back_28 : decode b_Ref_back 28 = .ok (.istore 5, 2) := by decide +kernel
theorem d_Ref_back_30 : decode b_Ref_back 30 = .ok (.aload_n 0, 1) := by decide +kernel
theorem d_Ref_back_31 : decode b_Ref_back 31 = .ok (.iload_n 1, 1) := by decide +kernel
theorem d_Ref_back_32 : decode b_Ref_back 32 = .ok (.iload 4, 2) := by decide +kernel
theorem d_Ref_back_34 : decode b_Ref_back 34 = .ok (.iand, 1) := by decide +kernel
theorem d_Ref_back_35 : decode b_Ref_back 35 = .ok (.iconst 1, 1) := by decide +kernel
theorem d_Ref_back_36 : decode b_Ref_back 36 = .ok (.iload_n 3, 1) := by decide +kernel
theorem d_Ref_back_37 : decode b_Ref_back 37 = .ok (.ishl, 1) := by decide +kernel
theorem d_Ref_back_38 : decode b_Ref_back 38 = .ok (.ior, 1) := by decide +kernel
theorem d_Ref_back_39 : decode b_Ref_back 39 = .ok (.putfield 106, 3) := by decide +kernel
theorem d_Ref_back_42 : decode b_Ref_back 42 = .ok (.aload_n 0, 1) := by decide +kernel
theorem d_Ref_back_43 : decode b_Ref_back 43 = .ok (.iload_n 1, 1) := by decide +kernel
theorem d_Ref_back_44 : decode b_Ref_back 44 = .ok (.iconst (-1), 1) := by decide +kernel
theorem d_Ref_back_45 : decode b_Ref_back 45 = .ok (.ixor, 1) := by decide +kernel
theorem d_Ref_back_46 : decode b_Ref_back 46 = .ok (.iload 4, 2) := by decide +kernel
theorem d_Ref_back_48 : decode b_Ref_back 48 = .ok (.iand, 1) := by decide +kernel
theorem d_Ref_back_49 : decode b_Ref_back 49 = .ok (.putfield 109, 3) := by decide +kernel
theorem d_Ref_back_52 : decode b_Ref_back 52 = .ok (.iload 5, 2) := by decide +kernel
theorem d_Ref_back_54 : decode b_Ref_back 54 = .ok (.ifCond .eq 26, 3) := by decide +kernel
theorem d_Ref_back_57 : decode b_Ref_back 57 = .ok (.aload_n 0, 1) := by decide +kernel
theorem d_Ref_back_58 : decode b_Ref_back 58 = .ok (.aload_n 0, 1) := by decide +kernel
theorem d_Ref_back_59 : decode b_Ref_back 59 = .ok (.getfield 63, 3) := by decide +kernel
theorem d_Ref_back_62 : decode b_Ref_back 62 = .ok (.aload_n 0, 1) := by decide +kernel
theorem d_Ref_back_63 : decode b_Ref_back 63 = .ok (.getfield 106, 3) := by decide +kernel
theorem d_Ref_back_66 : decode b_Ref_back 66 = .ok (.aload_n 0, 1) := by decide +kernel
theorem d_Ref_back_67 : decode b_Ref_back 67 = .ok (.getfield 109, 3) := by decide +kernel
theorem d_Ref_back_70 : decode b_Ref_back 70 = .ok (.invokevirtual 96, 3) := by decide +kernel
theorem d_Ref_back_73 : decode b_Ref_back 73 = .ok (.ifCond .eq 7, 3) := by decide +kernel
theorem d_Ref_back_76 : decode b_Ref_back 76 = .ok (.iload_n 3, 1) := by decide +kernel
theorem d_Ref_back_77 : decode b_Ref_back 77 = .ok (.iconst 1, 1) := by decide +kernel
theorem d_Ref_back_78 : decode b_Ref_back 78 = .ok (.iadd, 1) := by decide +kernel
theorem d_Ref_back_79 : decode b_Ref_back 79 = .ok (.ireturn, 1) := by decide +kernel
theorem d_Ref_back_80 : decode b_Ref_back 80 = .ok (.iinc 3 (-1), 3) := by decide +kernel
theorem d_Ref_back_83 : decode b_Ref_back 83 = .ok (.goto (-79), 3) := by decide +kernel
theorem d_Ref_back_86 : decode b_Ref_back 86 = .ok (.iconst (-1), 1) := by decide +kernel
theorem d_Ref_back_87 : decode b_Ref_back 87 = .ok (.ireturn, 1) := by decide +kernel
set_option maxHeartbeats 4000000 in
set_option maxRecDepth 100000 in
theorem x_Ref_back_L4 {p : Program} {e : Env} {s : State} {m : MethodId} {args : Array Value} {below : List Frame} {meth : Method} {c : Code} {l : Launch} {dC : Nat → ClassId} {dI : Nat → Nat → Nat} {cA : ClassId} {ad : Nat → Nat} {w0 : va_W} (C0 : q_C p s m args meth c b_Ref_back 6 (some .int) "PlanClausesModel" dC dI cA) (hA : ∀ q, s.heap.size ≤ q → va_A w0 s.heap.size q) (x1 : Int32) (ma : mForm) (mn : mKnow) (mt : mTask) (mw : (Nat → Int32)) (mg : mGo) (md : mCode) {Q : Int32 → mSat → mBack → Prop} {K86 : mSat → mBack → Prop}
    (hK86 : ∀ (ms : mSat) (mb : mBack) (H : Heap) (locs : List Loc) (ls : Array Slot), K86 ms mb → lv_has ls 6 [] → q_H dC dI (va_A w0 s.heap.size) s.heap H locs ([c_RE ad cA ma mn ms mb mt mw mg md].flatten) → W p l e (q_R 3 76) s m args below meth c H locs 0 0 (q_Zi below args s dC dI cA w0 (fun u : mSat × mBack => [c_RE ad cA ma mn u.1 u.2 mt mw mg md].flatten) (fun r u => Q r u.1 u.2)) (F0 m 86 ls [])) :
    ∀ (nn : Nat) (x3 : Int32) (ms : mSat) (mb : mBack) (H : Heap) (locs : List Loc) (ls : Array Slot), w_Ref_back_L4 x1 ma K86 Q nn x3 ms mb → lv_has ls 6 [(0, .ref (ad 28)), (1, .int x1), (3, .int x3)] → q_H dC dI (va_A w0 s.heap.size) s.heap H locs ([c_RE ad cA ma mn ms mb mt mw mg md].flatten) → W p l e (q_R 3 76) s m args below meth c H locs 0 0 (q_Zi below args s dC dI cA w0 (fun u : mSat × mBack => [c_RE ad cA ma mn u.1 u.2 mt mw mg md].flatten) (fun r u => Q r u.1 u.2)) (F0 m 4 ls []) := by
  obtain ⟨hx, hb, -⟩ := id C0
  intro nn
  induction nn with
  | zero =>
    intro x3 ms mb H locs ls h
    exact (show False from h).elim
  | succ nn ih =>
    intro x3 ms mb H locs ls h hl hH
    rw [w_Ref_back_L4] at h
    refine lv_iload_n hx hb d_Ref_back_4 rfl (lv_at hl 2 rfl) ?_
    refine lv_if_lt (tgt := 86) hx hb d_Ref_back_5 (by decide) (fun c => ?_) (fun c => ?_)
    · have h := h.1 c
      exact hK86 ms mb _ _ _ h (lv_sub hl [] rfl) hH
    · have h := h.2 c
      refine lv_iconst (v := 1) hx hb d_Ref_back_8 (by decide) ?_
      refine lv_iload_n hx hb d_Ref_back_9 rfl (lv_at hl 2 rfl) ?_
      refine lv_ishl hx hb d_Ref_back_10 ?_
      refine lv_iconst (v := 1) hx hb d_Ref_back_11 (by decide) ?_
      refine lv_isub hx hb d_Ref_back_12 ?_
      refine lv_istore (lv' := [(4, .int (((1 : Int32) <<< (x3 &&& 31)) - 1)), (0, .ref (ad 28)), (1, .int x1), (3, .int x3)]) hx hb d_Ref_back_13 hl (by decide) rfl (fun ls hl => ?_)
      refine lv_iload_n hx hb d_Ref_back_15 rfl (lv_at hl 2 rfl) ?_
      refine lv_iload_n hx hb d_Ref_back_16 rfl (lv_at hl 3 rfl) ?_
      refine lv_ishr hx hb d_Ref_back_17 ?_
      refine lv_iconst (v := 1) hx hb d_Ref_back_18 (by decide) ?_
      refine lv_iand hx hb d_Ref_back_19 ?_
      refine lv_if_ne (tgt := 27) hx hb d_Ref_back_20 (by decide) (fun c => ?_) (fun c => ?_)
      · have h := h.1 c
        refine lv_iconst (v := 0) hx hb d_Ref_back_27 (by decide) ?_
        refine lv_istore (lv' := [(5, .int 0), (4, .int (((1 : Int32) <<< (x3 &&& 31)) - 1)), (0, .ref (ad 28)), (1, .int x1), (3, .int x3)]) hx hb d_Ref_back_28 hl (by decide) rfl (fun ls hl => ?_)
        refine lv_aload_n hx hb d_Ref_back_30 rfl (lv_at hl 2 rfl) ?_
        refine lv_iload_n hx hb d_Ref_back_31 rfl (lv_at hl 3 rfl) ?_
        refine lv_iload hx hb d_Ref_back_32 (lv_at hl 1 rfl) ?_
        refine lv_iand hx hb d_Ref_back_34 ?_
        refine lv_iconst (v := 1) hx hb d_Ref_back_35 (by decide) ?_
        refine lv_iload_n hx hb d_Ref_back_36 rfl (lv_at hl 4 rfl) ?_
        refine lv_ishl hx hb d_Ref_back_37 ?_
        refine lv_ior hx hb d_Ref_back_38 ?_
        refine q_puti (ws' := [c_RE ad cA ma mn ms (mBack.mk ((x1 &&& (((1 : Int32) <<< (x3 &&& 31)) - 1)) ||| ((1 : Int32) <<< (x3 &&& 31))) mb.backNo) mt mw mg md].flatten) C0 hH 0 rfl hc_8 25 (by decide) k_647 rfl rfl (Nat.le_of_ble_eq_true rfl) rfl d_Ref_back_39 (fun H locs hH => ?_)
        refine lv_aload_n hx hb d_Ref_back_42 rfl (lv_at hl 2 rfl) ?_
        refine lv_iload_n hx hb d_Ref_back_43 rfl (lv_at hl 3 rfl) ?_
        refine lv_iconst (v := (-1)) hx hb d_Ref_back_44 (by decide) ?_
        refine lv_ixor hx hb d_Ref_back_45 ?_
        refine lv_iload hx hb d_Ref_back_46 (lv_at hl 1 rfl) ?_
        refine lv_iand hx hb d_Ref_back_48 ?_
        refine q_puti (ws' := [c_RE ad cA ma mn ms (mBack.mk ((x1 &&& (((1 : Int32) <<< (x3 &&& 31)) - 1)) ||| ((1 : Int32) <<< (x3 &&& 31))) ((x1 ^^^ (-1)) &&& (((1 : Int32) <<< (x3 &&& 31)) - 1))) mt mw mg md].flatten) C0 hH 0 rfl hc_8 26 (by decide) k_648 rfl rfl (Nat.le_of_ble_eq_true rfl) rfl d_Ref_back_49 (fun H locs hH => ?_)
        refine lv_iload hx hb d_Ref_back_52 (lv_at hl 0 rfl) ?_
        refine lv_if_eq (tgt := 80) hx hb d_Ref_back_54 (by decide) (fun c => ?_) (fun c => ?_)
        · have h := h.1 c
          refine lv_iinc (v := (x3 + (-1))) (lv' := [(3, .int (x3 + (-1))), (5, .int 0), (4, .int (((1 : Int32) <<< (x3 &&& 31)) - 1)), (0, .ref (ad 28)), (1, .int x1)]) hx hb d_Ref_back_80 hl (k := 4) rfl rfl (by decide) rfl (fun ls hl => ?_)
          refine lv_goto (tgt := 4) hx hb d_Ref_back_83 (by decide) ?_
          exact ih (x3 + (-1)) ms (mBack.mk ((x1 &&& (((1 : Int32) <<< (x3 &&& 31)) - 1)) ||| ((1 : Int32) <<< (x3 &&& 31))) ((x1 ^^^ (-1)) &&& (((1 : Int32) <<< (x3 &&& 31)) - 1))) _ _ _ h (lv_sub hl [3, 4, 0] rfl) hH
        · have h := h.2 c
          refine lv_aload_n hx hb d_Ref_back_57 rfl (lv_at hl 2 rfl) ?_
          refine lv_aload_n hx hb d_Ref_back_58 rfl (lv_at hl 2 rfl) ?_
          refine q_get (v := .int ma.clauses) C0 hH 0 rfl hc_8 1 (by decide) k_623 rfl d_Ref_back_59 ?_
          refine lv_aload_n hx hb d_Ref_back_62 rfl (lv_at hl 2 rfl) ?_
          refine q_get (v := .int ((x1 &&& (((1 : Int32) <<< (x3 &&& 31)) - 1)) ||| ((1 : Int32) <<< (x3 &&& 31)))) C0 hH 0 rfl hc_8 25 (by decide) k_647 rfl d_Ref_back_63 ?_
          refine lv_aload_n hx hb d_Ref_back_66 rfl (lv_at hl 2 rfl) ?_
          refine q_get (v := .int ((x1 ^^^ (-1)) &&& (((1 : Int32) <<< (x3 &&& 31)) - 1))) C0 hH 0 rfl hc_8 26 (by decide) k_648 rfl d_Ref_back_67 ?_
          refine q_calli (rest := []) (ws' := fun u : mSat => [c_RE ad cA ma mn u (mBack.mk ((x1 &&& (((1 : Int32) <<< (x3 &&& 31)) - 1)) ||| ((1 : Int32) <<< (x3 &&& 31))) ((x1 ^^^ (-1)) &&& (((1 : Int32) <<< (x3 &&& 31)) - 1))) mt mw mg md].flatten) C0 hH hA (c_Ref_canBe l dC dI cA ad ma.clauses ((x1 &&& (((1 : Int32) <<< (x3 &&& 31)) - 1)) ||| ((1 : Int32) <<< (x3 &&& 31))) ((x1 ^^^ (-1)) &&& (((1 : Int32) <<< (x3 &&& 31)) - 1)) ma mn ms (mBack.mk ((x1 &&& (((1 : Int32) <<< (x3 &&& 31)) - 1)) ||| ((1 : Int32) <<< (x3 &&& 31))) ((x1 ^^^ (-1)) &&& (((1 : Int32) <<< (x3 &&& 31)) - 1))) mt mw mg md _ _ h) Y_Ref_canBe k_765 0 rfl hc_8 (q_pg [0] [] [0] 1 1 rfl (by decide) rfl (fun _ => rfl) rfl (by decide) (fun _ => rfl)) ⟨Nat.le_of_ble_eq_true rfl, Nat.le_of_ble_eq_true rfl⟩ rfl rfl (Nat.le_of_ble_eq_true rfl) hl.1 d_Ref_back_70 ⟨Nat.le_refl 0, Nat.le_refl 0⟩ (fun r_1 u_1 H locs h hH => ?_)
          obtain ⟨ms_1, rfl⟩ : ∃ z, z = u_1 := ⟨_, rfl⟩
          try dsimp only at h
          have hH : q_H dC dI (va_A w0 s.heap.size) s.heap H locs ([c_RE ad cA ma mn ms_1 (mBack.mk ((x1 &&& (((1 : Int32) <<< (x3 &&& 31)) - 1)) ||| ((1 : Int32) <<< (x3 &&& 31))) ((x1 ^^^ (-1)) &&& (((1 : Int32) <<< (x3 &&& 31)) - 1))) mt mw mg md].flatten) := hH
          refine lv_if_eq (tgt := 80) hx hb d_Ref_back_73 (by decide) (fun c => ?_) (fun c => ?_)
          · have h := h.1 c
            refine lv_iinc (v := (x3 + (-1))) (lv' := [(3, .int (x3 + (-1))), (5, .int 0), (4, .int (((1 : Int32) <<< (x3 &&& 31)) - 1)), (0, .ref (ad 28)), (1, .int x1)]) hx hb d_Ref_back_80 hl (k := 4) rfl rfl (by decide) rfl (fun ls hl => ?_)
            refine lv_goto (tgt := 4) hx hb d_Ref_back_83 (by decide) ?_
            exact ih (x3 + (-1)) ms_1 (mBack.mk ((x1 &&& (((1 : Int32) <<< (x3 &&& 31)) - 1)) ||| ((1 : Int32) <<< (x3 &&& 31))) ((x1 ^^^ (-1)) &&& (((1 : Int32) <<< (x3 &&& 31)) - 1))) _ _ _ h (lv_sub hl [3, 4, 0] rfl) hH
          · have h := h.2 c
            refine lv_iload_n hx hb d_Ref_back_76 rfl (lv_at hl 4 rfl) ?_
            refine lv_iconst (v := 1) hx hb d_Ref_back_77 (by decide) ?_
            refine lv_iadd hx hb d_Ref_back_78 ?_
            exact q_reti C0 hH (ms_1, (mBack.mk ((x1 &&& (((1 : Int32) <<< (x3 &&& 31)) - 1)) ||| ((1 : Int32) <<< (x3 &&& 31))) ((x1 ^^^ (-1)) &&& (((1 : Int32) <<< (x3 &&& 31)) - 1)))) rfl h d_Ref_back_79
      · have h := h.2 c
        refine lv_iconst (v := 1) hx hb d_Ref_back_23 (by decide) ?_
        refine lv_goto (tgt := 28) hx hb d_Ref_back_24 (by decide) ?_
        refine lv_istore (lv' := [(5, .int 1), (4, .int (((1 : Int32) <<< (x3 &&& 31)) - 1)), (0, .ref (ad 28)), (1, .int x1), (3, .int x3)]) hx hb d_Ref_back_28 hl (by decide) rfl (fun ls hl => ?_)
        refine lv_aload_n hx hb d_Ref_back_30 rfl (lv_at hl 2 rfl) ?_
        refine lv_iload_n hx hb d_Ref_back_31 rfl (lv_at hl 3 rfl) ?_
        refine lv_iload hx hb d_Ref_back_32 (lv_at hl 1 rfl) ?_
        refine lv_iand hx hb d_Ref_back_34 ?_
        refine lv_iconst (v := 1) hx hb d_Ref_back_35 (by decide) ?_
        refine lv_iload_n hx hb d_Ref_back_36 rfl (lv_at hl 4 rfl) ?_
        refine lv_ishl hx hb d_Ref_back_37 ?_
        refine lv_ior hx hb d_Ref_back_38 ?_
        refine q_puti (ws' := [c_RE ad cA ma mn ms (mBack.mk ((x1 &&& (((1 : Int32) <<< (x3 &&& 31)) - 1)) ||| ((1 : Int32) <<< (x3 &&& 31))) mb.backNo) mt mw mg md].flatten) C0 hH 0 rfl hc_8 25 (by decide) k_647 rfl rfl (Nat.le_of_ble_eq_true rfl) rfl d_Ref_back_39 (fun H locs hH => ?_)
        refine lv_aload_n hx hb d_Ref_back_42 rfl (lv_at hl 2 rfl) ?_
        refine lv_iload_n hx hb d_Ref_back_43 rfl (lv_at hl 3 rfl) ?_
        refine lv_iconst (v := (-1)) hx hb d_Ref_back_44 (by decide) ?_
        refine lv_ixor hx hb d_Ref_back_45 ?_
        refine lv_iload hx hb d_Ref_back_46 (lv_at hl 1 rfl) ?_
        refine lv_iand hx hb d_Ref_back_48 ?_
        refine q_puti (ws' := [c_RE ad cA ma mn ms (mBack.mk ((x1 &&& (((1 : Int32) <<< (x3 &&& 31)) - 1)) ||| ((1 : Int32) <<< (x3 &&& 31))) ((x1 ^^^ (-1)) &&& (((1 : Int32) <<< (x3 &&& 31)) - 1))) mt mw mg md].flatten) C0 hH 0 rfl hc_8 26 (by decide) k_648 rfl rfl (Nat.le_of_ble_eq_true rfl) rfl d_Ref_back_49 (fun H locs hH => ?_)
        refine lv_iload hx hb d_Ref_back_52 (lv_at hl 0 rfl) ?_
        refine lv_if_eq (tgt := 80) hx hb d_Ref_back_54 (by decide) (fun c => ?_) (fun c => ?_)
        · have h := h.1 c
          refine lv_iinc (v := (x3 + (-1))) (lv' := [(3, .int (x3 + (-1))), (5, .int 1), (4, .int (((1 : Int32) <<< (x3 &&& 31)) - 1)), (0, .ref (ad 28)), (1, .int x1)]) hx hb d_Ref_back_80 hl (k := 4) rfl rfl (by decide) rfl (fun ls hl => ?_)
          refine lv_goto (tgt := 4) hx hb d_Ref_back_83 (by decide) ?_
          exact ih (x3 + (-1)) ms (mBack.mk ((x1 &&& (((1 : Int32) <<< (x3 &&& 31)) - 1)) ||| ((1 : Int32) <<< (x3 &&& 31))) ((x1 ^^^ (-1)) &&& (((1 : Int32) <<< (x3 &&& 31)) - 1))) _ _ _ h (lv_sub hl [3, 4, 0] rfl) hH
        · have h := h.2 c
          refine lv_aload_n hx hb d_Ref_back_57 rfl (lv_at hl 2 rfl) ?_
          refine lv_aload_n hx hb d_Ref_back_58 rfl (lv_at hl 2 rfl) ?_
          refine q_get (v := .int ma.clauses) C0 hH 0 rfl hc_8 1 (by decide) k_623 rfl d_Ref_back_59 ?_
          refine lv_aload_n hx hb d_Ref_back_62 rfl (lv_at hl 2 rfl) ?_
          refine q_get (v := .int ((x1 &&& (((1 : Int32) <<< (x3 &&& 31)) - 1)) ||| ((1 : Int32) <<< (x3 &&& 31)))) C0 hH 0 rfl hc_8 25 (by decide) k_647 rfl d_Ref_back_63 ?_
          refine lv_aload_n hx hb d_Ref_back_66 rfl (lv_at hl 2 rfl) ?_
          refine q_get (v := .int ((x1 ^^^ (-1)) &&& (((1 : Int32) <<< (x3 &&& 31)) - 1))) C0 hH 0 rfl hc_8 26 (by decide) k_648 rfl d_Ref_back_67 ?_
          refine q_calli (rest := []) (ws' := fun u : mSat => [c_RE ad cA ma mn u (mBack.mk ((x1 &&& (((1 : Int32) <<< (x3 &&& 31)) - 1)) ||| ((1 : Int32) <<< (x3 &&& 31))) ((x1 ^^^ (-1)) &&& (((1 : Int32) <<< (x3 &&& 31)) - 1))) mt mw mg md].flatten) C0 hH hA (c_Ref_canBe l dC dI cA ad ma.clauses ((x1 &&& (((1 : Int32) <<< (x3 &&& 31)) - 1)) ||| ((1 : Int32) <<< (x3 &&& 31))) ((x1 ^^^ (-1)) &&& (((1 : Int32) <<< (x3 &&& 31)) - 1)) ma mn ms (mBack.mk ((x1 &&& (((1 : Int32) <<< (x3 &&& 31)) - 1)) ||| ((1 : Int32) <<< (x3 &&& 31))) ((x1 ^^^ (-1)) &&& (((1 : Int32) <<< (x3 &&& 31)) - 1))) mt mw mg md _ _ h) Y_Ref_canBe k_765 0 rfl hc_8 (q_pg [0] [] [0] 1 1 rfl (by decide) rfl (fun _ => rfl) rfl (by decide) (fun _ => rfl)) ⟨Nat.le_of_ble_eq_true rfl, Nat.le_of_ble_eq_true rfl⟩ rfl rfl (Nat.le_of_ble_eq_true rfl) hl.1 d_Ref_back_70 ⟨Nat.le_refl 0, Nat.le_refl 0⟩ (fun r_2 u_2 H locs h hH => ?_)
          obtain ⟨ms_2, rfl⟩ : ∃ z, z = u_2 := ⟨_, rfl⟩
          try dsimp only at h
          have hH : q_H dC dI (va_A w0 s.heap.size) s.heap H locs ([c_RE ad cA ma mn ms_2 (mBack.mk ((x1 &&& (((1 : Int32) <<< (x3 &&& 31)) - 1)) ||| ((1 : Int32) <<< (x3 &&& 31))) ((x1 ^^^ (-1)) &&& (((1 : Int32) <<< (x3 &&& 31)) - 1))) mt mw mg md].flatten) := hH
          refine lv_if_eq (tgt := 80) hx hb d_Ref_back_73 (by decide) (fun c => ?_) (fun c => ?_)
          · have h := h.1 c
            refine lv_iinc (v := (x3 + (-1))) (lv' := [(3, .int (x3 + (-1))), (5, .int 1), (4, .int (((1 : Int32) <<< (x3 &&& 31)) - 1)), (0, .ref (ad 28)), (1, .int x1)]) hx hb d_Ref_back_80 hl (k := 4) rfl rfl (by decide) rfl (fun ls hl => ?_)
            refine lv_goto (tgt := 4) hx hb d_Ref_back_83 (by decide) ?_
            exact ih (x3 + (-1)) ms_2 (mBack.mk ((x1 &&& (((1 : Int32) <<< (x3 &&& 31)) - 1)) ||| ((1 : Int32) <<< (x3 &&& 31))) ((x1 ^^^ (-1)) &&& (((1 : Int32) <<< (x3 &&& 31)) - 1))) _ _ _ h (lv_sub hl [3, 4, 0] rfl) hH
          · have h := h.2 c
            refine lv_iload_n hx hb d_Ref_back_76 rfl (lv_at hl 4 rfl) ?_
            refine lv_iconst (v := 1) hx hb d_Ref_back_77 (by decide) ?_
            refine lv_iadd hx hb d_Ref_back_78 ?_
            exact q_reti C0 hH (ms_2, (mBack.mk ((x1 &&& (((1 : Int32) <<< (x3 &&& 31)) - 1)) ||| ((1 : Int32) <<< (x3 &&& 31))) ((x1 ^^^ (-1)) &&& (((1 : Int32) <<< (x3 &&& 31)) - 1)))) rfl h d_Ref_back_79
set_option maxHeartbeats 4000000 in
set_option maxRecDepth 100000 in
theorem c_Ref_back (l : Launch) (dC : Nat → ClassId) (dI : Nat → Nat → Nat) (cA : ClassId) (ad : Nat → Nat) (x1 : Int32) (x2 : Int32) (ma : mForm) (mn : mKnow) (ms : mSat) (mb : mBack) (mt : mTask) (mw : (Nat → Int32)) (mg : mGo) (md : mCode) (Q : Int32 → mSat → mBack → Prop) (sz : Nat) (h : w_Ref_back x1 x2 ma ms mb Q) :
    q_Mi l y_Ref_back b_Ref_back 6 (some .int) 3 76 [.ref (ad 28), .int x1, .int x2] dC dI cA ([c_RE ad cA ma mn ms mb mt mw mg md].flatten) (fun u : mSat × mBack => [c_RE ad cA ma mn u.1 u.2 mt mw mg md].flatten) sz (fun r u => Q r u.1 u.2) := by
  refine q_meti (plainFor_of_name (by decide +kernel)) (Nat.le_of_ble_eq_true rfl) (fun {p e s m below meth c ls} C0 hl hH => ?_)
  obtain ⟨hx, hb, -⟩ := id C0
  have hA : ∀ q, s.heap.size ≤ q → va_A ([c_RE ad cA ma mn ms mb mt mw mg md].flatten) s.heap.size q := q_nA
  have hl : lv_has ls 6 [(0, .ref (ad 28)), (1, .int x1), (2, .int x2)] := hl
  unfold w_Ref_back at h
  refine lv_iload_n hx hb d_Ref_back_0 rfl (lv_at hl 2 rfl) ?_
  refine lv_iconst (v := 1) hx hb d_Ref_back_1 (by decide) ?_
  refine lv_isub hx hb d_Ref_back_2 ?_
  refine lv_istore_n (lv' := [(3, .int (x2 - 1)), (0, .ref (ad 28)), (1, .int x1), (2, .int x2)]) hx hb d_Ref_back_3 rfl hl (by decide) rfl (fun ls hl => ?_)
  obtain ⟨nn, h⟩ := h
  refine x_Ref_back_L4 C0 hA x1 ma mn mt mw mg md ?_ nn (x2 - 1) ms mb _ _ _ h (lv_sub hl [1, 2, 0] rfl) hH
  · intro ms_1 mb_1 H locs ls h hl hH
    try dsimp only at h
    refine lv_iconst (v := (-1)) hx hb d_Ref_back_86 (by decide) ?_
    exact q_reti C0 hH (ms_1, mb_1) rfl h d_Ref_back_87
theorem d_Ref_know_0 : decode b_Ref_know 0 = .ok (.aload_n 0, 1) := by decide +kernel
theorem d_Ref_know_1 : decode b_Ref_know 1 = .ok (.getfield 69, 3) := by decide +kernel
theorem d_Ref_know_4 : decode b_Ref_know 4 = .ok (.ifCond .eq 4, 3) := by decide +kernel
theorem d_Ref_know_7 : decode b_Ref_know 7 = .ok (.return_, 1) := by decide +kernel
theorem d_Ref_know_8 : decode b_Ref_know 8 = .ok (.aload_n 0, 1) := by decide +kernel
theorem d_Ref_know_9 : decode b_Ref_know 9 = .ok (.iconst 1, 1) := by decide +kernel
theorem d_Ref_know_10 : decode b_Ref_know 10 = .ok (.putfield 69, 3) := by decide +kernel
theorem d_Ref_know_13 : decode b_Ref_know 13 = .ok (.aload_n 0, 1) := by decide +kernel
theorem d_Ref_know_14 : decode b_Ref_know 14 = .ok (.iconst 0, 1) := by decide +kernel
theorem d_Ref_know_15 : decode b_Ref_know 15 = .ok (.putfield 99, 3) := by decide +kernel
theorem d_Ref_know_18 : decode b_Ref_know 18 = .ok (.aload_n 0, 1) := by decide +kernel
theorem d_Ref_know_19 : decode b_Ref_know 19 = .ok (.aload_n 0, 1) := by decide +kernel
theorem d_Ref_know_20 : decode b_Ref_know 20 = .ok (.getfield 63, 3) := by decide +kernel
theorem d_Ref_know_23 : decode b_Ref_know 23 = .ok (.iconst 0, 1) := by decide +kernel
theorem d_Ref_know_24 : decode b_Ref_know 24 = .ok (.iconst 0, 1) := by decide +kernel
theorem d_Ref_know_25 : decode b_Ref_know 25 = .ok (.invokevirtual 96, 3) := by decide +kernel
theorem d_Ref_know_28 : decode b_Ref_know 28 = .ok (.ifCond .ne 4, 3) := by decide +kernel
theorem d_Ref_know_31 : decode b_Ref_know 31 = .ok (.return_, 1) := by decide +kernel
theorem d_Ref_know_32 : decode b_Ref_know 32 = .ok (.iconst 0, 1) := by decide +kernel
theorem d_Ref_know_33 : decode b_Ref_know 33 = .ok (.istore_n 1, 1) := by decide +kernel
theorem d_Ref_know_34 : decode b_Ref_know 34 = .ok (.iconst 0, 1) := by decide +kernel
theorem d_Ref_know_35 : decode b_Ref_know 35 = .ok (.istore_n 2, 1) := by decide +kernel
theorem d_Ref_know_36 : decode b_Ref_know 36 = .ok (.iconst 0, 1) := by decide +kernel
theorem d_Ref_know_37 : decode b_Ref_know 37 = .ok (.istore_n 3, 1) := by decide +kernel
theorem d_Ref_know_38 : decode b_Ref_know 38 = .ok (.iload_n 3, 1) := by decide +kernel
theorem d_Ref_know_39 : decode b_Ref_know 39 = .ok (.ifCond .lt 101, 3) := by decide +kernel
theorem d_Ref_know_42 : decode b_Ref_know 42 = .ok (.aload_n 0, 1) := by decide +kernel
theorem d_Ref_know_43 : decode b_Ref_know 43 = .ok (.getfield 99, 3) := by decide +kernel
theorem d_Ref_know_46 : decode b_Ref_know 46 = .ok (.bipush 60, 2) := by decide +kernel
theorem d_Ref_know_48 : decode b_Ref_know 48 = .ok (.if_icmp .ge 92, 3) := by decide +kernel
theorem d_Ref_know_51 : decode b_Ref_know 51 = .ok (.iload_n 3, 1) := by decide +kernel
theorem d_Ref_know_52 : decode b_Ref_know 52 = .ok (.aload_n 0, 1) := by decide +kernel
theorem d_Ref_know_53 : decode b_Ref_know 53 = .ok (.getfield 55, 3) := by decide +kernel
theorem d_Ref_know_56 : decode b_Ref_know 56 = .ok (.if_icmp .ne 43, 3) := by decide +kernel
theorem d_Ref_know_59 : decode b_Ref_know 59 = .ok (.aload_n 0, 1) := by decide +kernel
theorem d_Ref_know_60 : decode b_Ref_know 60 = .ok (.getfield 25, 3) := by decide +kernel
theorem d_Ref_know_63 : decode b_Ref_know 63 = .ok (.aload_n 0, 1) := by decide +kernel
theorem d_Ref_know_64 : decode b_Ref_know 64 = .ok (.getfield 99, 3) := by decide +kernel
theorem d_Ref_know_67 : decode b_Ref_know 67 = .ok (.iload_n 1, 1) := by decide +kernel
theorem d_Ref_know_68 : decode b_Ref_know 68 = .ok (.iastore, 1) := by decide +kernel
theorem d_Ref_know_69 : decode b_Ref_know 69 = .ok (.aload_n 0, 1) := by decide +kernel
theorem d_Ref_know_70 : decode b_Ref_know 70 = .ok (.dup, 1) := by decide +kernel
theorem d_Ref_know_71 : decode b_Ref_know 71 = .ok (.getfield 99, 3) := by decide +kernel
theorem d_Ref_know_74 : decode b_Ref_know 74 = .ok (.iconst 1, 1) := by decide +kernel
theorem d_Ref_know_75 : decode b_Ref_know 75 = .ok (.iadd, 1) := by decide +kernel
theorem d_Ref_know_76 : decode b_Ref_know 76 = .ok (.putfield 99, 3) := by decide +kernel
theorem d_Ref_know_79 : decode b_Ref_know 79 = .ok (.aload_n 0, 1) := by decide +kernel
theorem d_Ref_know_80 : decode b_Ref_know 80 = .ok (.iload_n 1, 1) := by decide +kernel
theorem d_Ref_know_81 : decode b_Ref_know 81 = .ok (.iload_n 3, 1) := by decide +kernel
theorem d_Ref_know_82 : decode b_Ref_know 82 = .ok (.invokevirtual 102, 3) := by decide +kernel
theorem d_Ref_know_85 : decode b_Ref_know 85 = .ok (.istore_n 3, 1) := by decide +kernel
theorem d_Ref_know_86 : decode b_Ref_know 86 = .ok (.aload_n 0, 1) := by decide +kernel
theorem d_Ref_know_87 : decode b_Ref_know 87 = .ok (.getfield 106, 3) := by decide +kernel
theorem d_Ref_know_90 : decode b_Ref_know 90 = .ok (.istore_n 1, 1) := by decide +kernel
theorem d_Ref_know_91 : decode b_Ref_know 91 = .ok (.aload_n 0, 1) := by decide +kernel
theorem d_Ref_know_92 : decode b_Ref_know 92 = .ok (.getfield 109, 3) := by decide +kernel
theorem d_Ref_know_95 : decode b_Ref_know 95 = .ok (.istore_n 2, 1) := by decide +kernel
theorem d_Ref_know_96 : decode b_Ref_know 96 = .ok (.goto (-58), 3) := by decide +kernel
theorem d_Ref_know_99 : decode b_Ref_know 99 = .ok (.aload_n 0, 1) := by decide +kernel
theorem d_Ref_know_100 : decode b_Ref_know 100 = .ok (.aload_n 0, 1) := by decide +kernel
theorem d_Ref_know_101 : decode b_Ref_know 101 = .ok (.getfield 63, 3) := by decide +kernel
theorem d_Ref_know_104 : decode b_Ref_know 104 = .ok (.iload_n 1, 1) := by decide +kernel
theorem d_Ref_know_105 : decode b_Ref_know 105 = .ok (.iload_n 2, 1) := by decide +kernel
theorem d_Ref_know_106 : decode b_Ref_know 106 = .ok (.iconst 1, 1) := by decide +kernel
theorem d_Ref_know_107 : decode b_Ref_know 107 = .ok (.iload_n 3, 1) := by decide +kernel
theorem d_Ref_know_108 : decode b_Ref_know 108 = .ok (.ishl, 1) := by decide +kernel
theorem d_Ref_know_109 : decode b_Ref_know 109 = .ok (.ior, 1) := by decide +kernel
theorem d_Ref_know_110 : decode b_Ref_know 110 = .ok (.invokevirtual 96, 3) := by decide +kernel
theorem d_Ref_know_113 : decode b_Ref_know 113 = .ok (.ifCond .eq 15, 3) := by decide +kernel
theorem d_Ref_know_116 : decode b_Ref_know 116 = .ok (.iload_n 2, 1) := by decide +kernel
theorem d_Ref_know_117 : decode b_Ref_know 117 = .ok (.iconst 1, 1) := by decide +kernel
theorem d_Ref_know_118 : decode b_Ref_know 118 = .ok (.iload_n 3, 1) := by decide +kernel
theorem d_Ref_know_119 : decode b_Ref_know 119 = .ok (.ishl, 1) := by decide +kernel
theorem d_Ref_know_120 : decode b_Ref_know 120 = .ok (.ior, 1) := by decide +kernel
theorem d_Ref_know_121 : decode b_Ref_know 121 = .ok (.istore_n 2, 1) := by decide +kernel
theorem d_Ref_know_122 : decode b_Ref_know 122 = .ok (.iinc 3 1, 3) := by decide +kernel
theorem d_Ref_know_125 : decode b_Ref_know 125 = .ok (.goto (-87), 3) := by decide +kernel
theorem d_Ref_know_128 : decode b_Ref_know 128 = .ok (.iload_n 1, 1) := by decide +kernel
theorem d_Ref_know_129 : decode b_Ref_know 129 = .ok (.iconst 1, 1) := by decide +kernel
theorem d_Ref_know_130 : decode b_Ref_know 130 = .ok (.iload_n 3, 1) := by decide +kernel
theorem d_Ref_know_131 : decode b_Ref_know 131 = .ok (.ishl, 1) := by decide +kernel
theorem d_Ref_know_132 : decode b_Ref_know 132 = .ok (.ior, 1) := by decide +kernel
theorem d_Ref_know_133 : decode b_Ref_know 133 = .ok (.istore_n 1, 1) := by decide +kernel
theorem d_Ref_know_134 : decode b_Ref_know 134 = .ok (.iinc 3 1, 3) := by decide +kernel
theorem d_Ref_know_137 : decode b_Ref_know 137 = .ok (.goto (-99), 3) := by decide +kernel
theorem d_Ref_know_140 : decode b_Ref_know 140 = .ok (.return_, 1) := by decide +kernel
set_option maxHeartbeats 4000000 in
set_option maxRecDepth 100000 in
theorem x_Ref_know_L38 {p : Program} {e : Env} {s : State} {m : MethodId} {args : Array Value} {below : List Frame} {meth : Method} {c : Code} {l : Launch} {dC : Nat → ClassId} {dI : Nat → Nat → Nat} {cA : ClassId} {ad : Nat → Nat} {w0 : va_W} (C0 : q_C p s m args meth c b_Ref_know 4 none "PlanClausesModel" dC dI cA) (hA : ∀ q, s.heap.size ≤ q → va_A w0 s.heap.size q) (ma : mForm) (mt : mTask) (mw : (Nat → Int32)) (mg : mGo) (md : mCode) {Q : mKnow → mSat → mBack → Prop} {K140 : mKnow → mSat → mBack → Prop}
    (hK140 : ∀ (mn : mKnow) (ms : mSat) (mb : mBack) (H : Heap) (locs : List Loc) (ls : Array Slot), K140 mn ms mb → lv_has ls 4 [] → q_H dC dI (va_A w0 s.heap.size) s.heap H locs ([c_RE ad cA ma mn ms mb mt mw mg md].flatten) → W p l e (q_R 4 101) s m args below meth c H locs 0 0 (q_Zv below args s dC dI cA w0 (fun u : mKnow × mSat × mBack => [c_RE ad cA ma u.1 u.2.1 u.2.2 mt mw mg md].flatten) (fun u => Q u.1 u.2.1 u.2.2)) (F0 m 140 ls [])) :
    ∀ (nn : Nat) (x1 : Int32) (x2 : Int32) (x3 : Int32) (mn : mKnow) (ms : mSat) (mb : mBack) (H : Heap) (locs : List Loc) (ls : Array Slot), w_Ref_know_L38 ma K140 nn x1 x2 x3 mn ms mb → lv_has ls 4 [(0, .ref (ad 28)), (1, .int x1), (2, .int x2), (3, .int x3)] → q_H dC dI (va_A w0 s.heap.size) s.heap H locs ([c_RE ad cA ma mn ms mb mt mw mg md].flatten) → W p l e (q_R 4 101) s m args below meth c H locs 0 0 (q_Zv below args s dC dI cA w0 (fun u : mKnow × mSat × mBack => [c_RE ad cA ma u.1 u.2.1 u.2.2 mt mw mg md].flatten) (fun u => Q u.1 u.2.1 u.2.2)) (F0 m 38 ls []) := by
  obtain ⟨hx, hb, -⟩ := id C0
  intro nn
  induction nn with
  | zero =>
    intro x1 x2 x3 mn ms mb H locs ls h
    exact (show False from h).elim
  | succ nn ih =>
    intro x1 x2 x3 mn ms mb H locs ls h hl hH
    rw [w_Ref_know_L38] at h
    refine lv_iload_n hx hb d_Ref_know_38 rfl (lv_at hl 3 rfl) ?_
    refine lv_if_lt (tgt := 140) hx hb d_Ref_know_39 (by decide) (fun c => ?_) (fun c => ?_)
    · have h := h.1 c
      exact hK140 mn ms mb _ _ _ h (lv_sub hl [] rfl) hH
    · have h := h.2 c
      refine lv_aload_n hx hb d_Ref_know_42 rfl (lv_at hl 0 rfl) ?_
      refine q_get (v := .int mn.many) C0 hH 0 rfl hc_8 9 (by decide) k_631 rfl d_Ref_know_43 ?_
      refine lv_bipush (v := 60) hx hb d_Ref_know_46 (by decide) ?_
      refine lv_icmp_ge (tgt := 140) hx hb d_Ref_know_48 (by decide) (fun c => ?_) (fun c => ?_)
      · have h := h.1 c
        exact hK140 mn ms mb _ _ _ h (lv_sub hl [] rfl) hH
      · have h := h.2 c
        refine lv_iload_n hx hb d_Ref_know_51 rfl (lv_at hl 3 rfl) ?_
        refine lv_aload_n hx hb d_Ref_know_52 rfl (lv_at hl 0 rfl) ?_
        refine q_get (v := .int ma.variables) C0 hH 0 rfl hc_8 0 (by decide) k_622 rfl d_Ref_know_53 ?_
        refine lv_icmp_ne (tgt := 99) hx hb d_Ref_know_56 (by decide) (fun c => ?_) (fun c => ?_)
        · have h := h.1 c
          refine lv_aload_n hx hb d_Ref_know_99 rfl (lv_at hl 0 rfl) ?_
          refine lv_aload_n hx hb d_Ref_know_100 rfl (lv_at hl 0 rfl) ?_
          refine q_get (v := .int ma.clauses) C0 hH 0 rfl hc_8 1 (by decide) k_623 rfl d_Ref_know_101 ?_
          refine lv_iload_n hx hb d_Ref_know_104 rfl (lv_at hl 1 rfl) ?_
          refine lv_iload_n hx hb d_Ref_know_105 rfl (lv_at hl 2 rfl) ?_
          refine lv_iconst (v := 1) hx hb d_Ref_know_106 (by decide) ?_
          refine lv_iload_n hx hb d_Ref_know_107 rfl (lv_at hl 3 rfl) ?_
          refine lv_ishl hx hb d_Ref_know_108 ?_
          refine lv_ior hx hb d_Ref_know_109 ?_
          refine q_calli (rest := []) (ws' := fun u : mSat => [c_RE ad cA ma mn u mb mt mw mg md].flatten) C0 hH hA (c_Ref_canBe l dC dI cA ad ma.clauses x1 (x2 ||| ((1 : Int32) <<< (x3 &&& 31))) ma mn ms mb mt mw mg md _ _ h) Y_Ref_canBe k_765 0 rfl hc_8 (q_pg [0] [] [0] 1 1 rfl (by decide) rfl (fun _ => rfl) rfl (by decide) (fun _ => rfl)) ⟨Nat.le_of_ble_eq_true rfl, Nat.le_of_ble_eq_true rfl⟩ rfl rfl (Nat.le_of_ble_eq_true rfl) hl.1 d_Ref_know_110 ⟨Nat.le_refl 0, Nat.le_refl 0⟩ (fun r_1 u_1 H locs h hH => ?_)
          obtain ⟨ms_1, rfl⟩ : ∃ z, z = u_1 := ⟨_, rfl⟩
          try dsimp only at h
          have hH : q_H dC dI (va_A w0 s.heap.size) s.heap H locs ([c_RE ad cA ma mn ms_1 mb mt mw mg md].flatten) := hH
          refine lv_if_eq (tgt := 128) hx hb d_Ref_know_113 (by decide) (fun c => ?_) (fun c => ?_)
          · have h := h.1 c
            refine lv_iload_n hx hb d_Ref_know_128 rfl (lv_at hl 1 rfl) ?_
            refine lv_iconst (v := 1) hx hb d_Ref_know_129 (by decide) ?_
            refine lv_iload_n hx hb d_Ref_know_130 rfl (lv_at hl 3 rfl) ?_
            refine lv_ishl hx hb d_Ref_know_131 ?_
            refine lv_ior hx hb d_Ref_know_132 ?_
            refine lv_istore_n (lv' := [(1, .int (x1 ||| ((1 : Int32) <<< (x3 &&& 31)))), (0, .ref (ad 28)), (2, .int x2), (3, .int x3)]) hx hb d_Ref_know_133 rfl hl (by decide) rfl (fun ls hl => ?_)
            refine lv_iinc (v := (x3 + 1)) (lv' := [(3, .int (x3 + 1)), (1, .int (x1 ||| ((1 : Int32) <<< (x3 &&& 31)))), (0, .ref (ad 28)), (2, .int x2)]) hx hb d_Ref_know_134 hl (k := 3) rfl rfl (by decide) rfl (fun ls hl => ?_)
            refine lv_goto (tgt := 38) hx hb d_Ref_know_137 (by decide) ?_
            exact ih (x1 ||| ((1 : Int32) <<< (x3 &&& 31))) x2 (x3 + 1) mn ms_1 mb _ _ _ h (lv_sub hl [2, 1, 3, 0] rfl) hH
          · have h := h.2 c
            refine lv_iload_n hx hb d_Ref_know_116 rfl (lv_at hl 2 rfl) ?_
            refine lv_iconst (v := 1) hx hb d_Ref_know_117 (by decide) ?_
            refine lv_iload_n hx hb d_Ref_know_118 rfl (lv_at hl 3 rfl) ?_
            refine lv_ishl hx hb d_Ref_know_119 ?_
            refine lv_ior hx hb d_Ref_know_120 ?_
            refine lv_istore_n (lv' := [(2, .int (x2 ||| ((1 : Int32) <<< (x3 &&& 31)))), (0, .ref (ad 28)), (1, .int x1), (3, .int x3)]) hx hb d_Ref_know_121 rfl hl (by decide) rfl (fun ls hl => ?_)
            refine lv_iinc (v := (x3 + 1)) (lv' := [(3, .int (x3 + 1)), (2, .int (x2 ||| ((1 : Int32) <<< (x3 &&& 31)))), (0, .ref (ad 28)), (1, .int x1)]) hx hb d_Ref_know_122 hl (k := 3) rfl rfl (by decide) rfl (fun ls hl => ?_)
            refine lv_goto (tgt := 38) hx hb d_Ref_know_125 (by decide) ?_
            exact ih x1 (x2 ||| ((1 : Int32) <<< (x3 &&& 31))) (x3 + 1) mn ms_1 mb _ _ _ h (lv_sub hl [2, 3, 1, 0] rfl) hH
        · have h := h.2 c
          refine lv_aload_n hx hb d_Ref_know_59 rfl (lv_at hl 0 rfl) ?_
          refine q_get (v := .ref (ad 34)) C0 hH 0 rfl hc_8 10 (by decide) k_632 rfl d_Ref_know_60 ?_
          refine lv_aload_n hx hb d_Ref_know_63 rfl (lv_at hl 0 rfl) ?_
          refine q_get (v := .int mn.many) C0 hH 0 rfl hc_8 9 (by decide) k_631 rfl d_Ref_know_64 ?_
          refine lv_iload_n hx hb d_Ref_know_67 rfl (lv_at hl 1 rfl) ?_
          obtain ⟨hi, h⟩ := h
          refine q_ast (ws' := [c_RE ad cA ma (mKnow.mk mn.isKnown mn.many (upd mn.found mn.many.toNatClampNeg x1)) ms mb mt mw mg md].flatten) (f := mn.found) C0 hH 6 rfl hi rfl d_Ref_know_68 (fun H locs hH => ?_)
          refine lv_aload_n hx hb d_Ref_know_69 rfl (lv_at hl 0 rfl) ?_
          refine lv_dup hx hb d_Ref_know_70 rfl ?_
          refine q_get (v := .int mn.many) C0 hH 0 rfl hc_8 9 (by decide) k_631 rfl d_Ref_know_71 ?_
          refine lv_iconst (v := 1) hx hb d_Ref_know_74 (by decide) ?_
          refine lv_iadd hx hb d_Ref_know_75 ?_
          refine q_puti (ws' := [c_RE ad cA ma (mKnow.mk mn.isKnown (mn.many + 1) (upd mn.found mn.many.toNatClampNeg x1)) ms mb mt mw mg md].flatten) C0 hH 0 rfl hc_8 9 (by decide) k_631 rfl rfl (Nat.le_of_ble_eq_true rfl) rfl d_Ref_know_76 (fun H locs hH => ?_)
          refine lv_aload_n hx hb d_Ref_know_79 rfl (lv_at hl 0 rfl) ?_
          refine lv_iload_n hx hb d_Ref_know_80 rfl (lv_at hl 1 rfl) ?_
          refine lv_iload_n hx hb d_Ref_know_81 rfl (lv_at hl 3 rfl) ?_
          refine q_calli (rest := []) (ws' := fun u : mSat × mBack => [c_RE ad cA ma (mKnow.mk mn.isKnown (mn.many + 1) (upd mn.found mn.many.toNatClampNeg x1)) u.1 u.2 mt mw mg md].flatten) C0 hH hA (c_Ref_back l dC dI cA ad x1 x3 ma (mKnow.mk mn.isKnown (mn.many + 1) (upd mn.found mn.many.toNatClampNeg x1)) ms mb mt mw mg md _ _ h) Y_Ref_back k_788 0 rfl hc_8 (q_pg [0] [] [0] 1 1 rfl (by decide) rfl (fun _ => rfl) rfl (by decide) (fun _ => rfl)) ⟨Nat.le_of_ble_eq_true rfl, Nat.le_of_ble_eq_true rfl⟩ rfl rfl (Nat.le_of_ble_eq_true rfl) hl.1 d_Ref_know_82 ⟨Nat.le_refl 0, Nat.le_refl 0⟩ (fun r_2 u_2 H locs h hH => ?_)
          obtain ⟨ms_2, mb_2⟩ := u_2
          try dsimp only at h
          have hH : q_H dC dI (va_A w0 s.heap.size) s.heap H locs ([c_RE ad cA ma (mKnow.mk mn.isKnown (mn.many + 1) (upd mn.found mn.many.toNatClampNeg x1)) ms_2 mb_2 mt mw mg md].flatten) := hH
          refine lv_istore_n (lv' := [(3, .int r_2), (0, .ref (ad 28)), (1, .int x1), (2, .int x2)]) hx hb d_Ref_know_85 rfl hl (by decide) rfl (fun ls hl => ?_)
          refine lv_aload_n hx hb d_Ref_know_86 rfl (lv_at hl 1 rfl) ?_
          refine q_get (v := .int mb_2.backYes) C0 hH 0 rfl hc_8 25 (by decide) k_647 rfl d_Ref_know_87 ?_
          refine lv_istore_n (lv' := [(1, .int mb_2.backYes), (3, .int r_2), (0, .ref (ad 28)), (2, .int x2)]) hx hb d_Ref_know_90 rfl hl (by decide) rfl (fun ls hl => ?_)
          refine lv_aload_n hx hb d_Ref_know_91 rfl (lv_at hl 2 rfl) ?_
          refine q_get (v := .int mb_2.backNo) C0 hH 0 rfl hc_8 26 (by decide) k_648 rfl d_Ref_know_92 ?_
          refine lv_istore_n (lv' := [(2, .int mb_2.backNo), (1, .int mb_2.backYes), (3, .int r_2), (0, .ref (ad 28))]) hx hb d_Ref_know_95 rfl hl (by decide) rfl (fun ls hl => ?_)
          refine lv_goto (tgt := 38) hx hb d_Ref_know_96 (by decide) ?_
          exact ih mb_2.backYes mb_2.backNo r_2 (mKnow.mk mn.isKnown (mn.many + 1) (upd mn.found mn.many.toNatClampNeg x1)) ms_2 mb_2 _ _ _ h (lv_sub hl [3, 1, 0, 2] rfl) hH
set_option maxHeartbeats 4000000 in
set_option maxRecDepth 100000 in
theorem c_Ref_know (l : Launch) (dC : Nat → ClassId) (dI : Nat → Nat → Nat) (cA : ClassId) (ad : Nat → Nat) (ma : mForm) (mn : mKnow) (ms : mSat) (mb : mBack) (mt : mTask) (mw : (Nat → Int32)) (mg : mGo) (md : mCode) (Q : mKnow → mSat → mBack → Prop) (sz : Nat) (h : w_Ref_know ma mn ms mb Q) :
    q_Mv l y_Ref_know b_Ref_know 4 4 101 [.ref (ad 28)] dC dI cA ([c_RE ad cA ma mn ms mb mt mw mg md].flatten) (fun u : mKnow × mSat × mBack => [c_RE ad cA ma u.1 u.2.1 u.2.2 mt mw mg md].flatten) sz (fun u => Q u.1 u.2.1 u.2.2) := by
  refine q_metv (plainFor_of_name (by decide +kernel)) (Nat.le_of_ble_eq_true rfl) (fun {p e s m below meth c ls} C0 hl hH => ?_)
  obtain ⟨hx, hb, -⟩ := id C0
  have hA : ∀ q, s.heap.size ≤ q → va_A ([c_RE ad cA ma mn ms mb mt mw mg md].flatten) s.heap.size q := q_nA
  have hl : lv_has ls 4 [(0, .ref (ad 28))] := hl
  unfold w_Ref_know at h
  refine lv_aload_n hx hb d_Ref_know_0 rfl (lv_at hl 0 rfl) ?_
  refine q_get (v := .int mn.isKnown) C0 hH 0 rfl hc_8 8 (by decide) k_630 rfl d_Ref_know_1 ?_
  refine lv_if_eq (tgt := 8) hx hb d_Ref_know_4 (by decide) (fun c => ?_) (fun c => ?_)
  · have h := h.1 c
    refine lv_aload_n hx hb d_Ref_know_8 rfl (lv_at hl 0 rfl) ?_
    refine lv_iconst (v := 1) hx hb d_Ref_know_9 (by decide) ?_
    refine q_putz (ws' := [c_RE ad cA ma (mKnow.mk 1 mn.many mn.found) ms mb mt mw mg md].flatten) C0 hH 0 rfl hc_8 8 (by decide) k_630 rfl rfl (Or.inr rfl) (Nat.le_of_ble_eq_true rfl) rfl d_Ref_know_10 (fun H locs hH => ?_)
    refine lv_aload_n hx hb d_Ref_know_13 rfl (lv_at hl 0 rfl) ?_
    refine lv_iconst (v := 0) hx hb d_Ref_know_14 (by decide) ?_
    refine q_puti (ws' := [c_RE ad cA ma (mKnow.mk 1 0 mn.found) ms mb mt mw mg md].flatten) C0 hH 0 rfl hc_8 9 (by decide) k_631 rfl rfl (Nat.le_of_ble_eq_true rfl) rfl d_Ref_know_15 (fun H locs hH => ?_)
    refine lv_aload_n hx hb d_Ref_know_18 rfl (lv_at hl 0 rfl) ?_
    refine lv_aload_n hx hb d_Ref_know_19 rfl (lv_at hl 0 rfl) ?_
    refine q_get (v := .int ma.clauses) C0 hH 0 rfl hc_8 1 (by decide) k_623 rfl d_Ref_know_20 ?_
    refine lv_iconst (v := 0) hx hb d_Ref_know_23 (by decide) ?_
    refine lv_iconst (v := 0) hx hb d_Ref_know_24 (by decide) ?_
    refine q_calli (rest := []) (ws' := fun u : mSat => [c_RE ad cA ma (mKnow.mk 1 0 mn.found) u mb mt mw mg md].flatten) C0 hH hA (c_Ref_canBe l dC dI cA ad ma.clauses 0 0 ma (mKnow.mk 1 0 mn.found) ms mb mt mw mg md _ _ h) Y_Ref_canBe k_765 0 rfl hc_8 (q_pg [0] [] [0] 1 1 rfl (by decide) rfl (fun _ => rfl) rfl (by decide) (fun _ => rfl)) ⟨Nat.le_of_ble_eq_true rfl, Nat.le_of_ble_eq_true rfl⟩ rfl rfl (Nat.le_of_ble_eq_true rfl) hl.1 d_Ref_know_25 ⟨Nat.le_refl 0, Nat.le_refl 0⟩ (fun r_1 u_1 H locs h hH => ?_)
    obtain ⟨ms_1, rfl⟩ : ∃ z, z = u_1 := ⟨_, rfl⟩
    try dsimp only at h
    have hH : q_H dC dI (va_A ([c_RE ad cA ma mn ms mb mt mw mg md].flatten) s.heap.size) s.heap H locs ([c_RE ad cA ma (mKnow.mk 1 0 mn.found) ms_1 mb mt mw mg md].flatten) := hH
    refine lv_if_ne (tgt := 32) hx hb d_Ref_know_28 (by decide) (fun c => ?_) (fun c => ?_)
    · have h := h.1 c
      refine lv_iconst (v := 0) hx hb d_Ref_know_32 (by decide) ?_
      refine lv_istore_n (lv' := [(1, .int 0), (0, .ref (ad 28))]) hx hb d_Ref_know_33 rfl hl (by decide) rfl (fun ls hl => ?_)
      refine lv_iconst (v := 0) hx hb d_Ref_know_34 (by decide) ?_
      refine lv_istore_n (lv' := [(2, .int 0), (1, .int 0), (0, .ref (ad 28))]) hx hb d_Ref_know_35 rfl hl (by decide) rfl (fun ls hl => ?_)
      refine lv_iconst (v := 0) hx hb d_Ref_know_36 (by decide) ?_
      refine lv_istore_n (lv' := [(3, .int 0), (2, .int 0), (1, .int 0), (0, .ref (ad 28))]) hx hb d_Ref_know_37 rfl hl (by decide) rfl (fun ls hl => ?_)
      obtain ⟨nn, h⟩ := h
      refine x_Ref_know_L38 C0 hA ma mt mw mg md ?_ nn 0 0 0 (mKnow.mk 1 0 mn.found) ms_1 mb _ _ _ h (lv_sub hl [3, 2, 1, 0] rfl) hH
      · intro mn_2 ms_2 mb_2 H locs ls h hl hH
        try dsimp only at h
        exact q_retv C0 hH (mn_2, ms_2, mb_2) rfl h d_Ref_know_140
    · have h := h.2 c
      exact q_retv C0 hH ((mKnow.mk 1 0 mn.found), ms_1, mb) rfl h d_Ref_know_31
  · have h := h.2 c
    exact q_retv C0 hH (mn, ms, mb) rfl h d_Ref_know_7
