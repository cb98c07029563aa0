/-! the class's calls about models -/
section PCM
variable {fo : tForm} {fr : tRows} {w : Nat} {dr : List Int32} {cs : List (List Int32)}
theorem s_PCIsVar (hw : w ≤ 30) (h : fo.width = nI w) {x : Int32} {Q : Int32 → Prop} (h0 : ¬ (1 ≤ x.toInt ∧ x.toInt ≤ w) → Q 0) (h1 : (1 ≤ x.toInt ∧ x.toInt ≤ w) → Q 1) : w_PC_isVariable x fo Q := by
  unfold w_PC_isVariable
  rw [h, ti_lt, ti_lt, nI_toInt (by omega), show (1 : Int32).toInt = 1 from rfl]
  exact ⟨fun c => h0 (by omega), fun c => ⟨fun c2 => h0 (by omega), fun c2 => h1 ⟨by omega, by omega⟩⟩⟩
theorem s_truth {lr : tRows} {mo : tMods} {se : tSear} {tr : tTrail} {s : Nat} (hB : MB w cs fr lr mo se tr s) {j : Nat} (hj : j < s) {x : Int32} {Q : Int32 → Prop} (hq : Q (rowV (mlw w cs) j x)) : w_Mods_truth (nI j) x mo Q := by
  have s60 : s ≤ 60 := hB.2.2.2.2.1
  have sL : s ≤ (mlw w cs).length := hB.2.2.2.2.2.1
  have hx := List.getElem?_eq_getElem (show j < (mlw w cs).length by omega)
  have hrow := hB.2.2.2.2.2.2.1 j _ hj hx
  rw [rowV, hx] at hq
  rw [w_Mods_truth, hB.2.2.2.1]
  refine ⟨fun c => absurd c (nI_pos (by omega)), fun _ => pk_le s j (fun c => by omega) (fun _ => pk_lt j 60 (fun _ => ⟨vp_in_nI (by omega) (by omega), ?_⟩) (fun c => by omega))⟩
  rw [nI_clamp (by omega), hrow]
  exact hq
theorem s_PC_value (hok : okF w dr cs) (h : isFO fo fr w dr cs) {lr : tRows} {mo : tMods} {se : tSear} {sk : tClash} {sw : Nat → Int32} {tr : tTrail} (hM : MS w cs fr lr mo se tr) {x : Int32} {Q : Int32 → tRows → tMods → tSear → tClash → (Nat → Int32) → tTrail → Prop}
    (hq : ∀ lr mo se sk sw tr, MS w cs fr lr mo se tr → Q (valueV w cs x) lr mo se sk sw tr) : w_PC_value x fo fr lr mo se sk sw tr Q := by
  rw [w_PC_value]
  refine s_PCIsVar hok.1 h.1 (fun c => ⟨fun q => absurd rfl q, fun _ => ?_⟩) (fun c => ⟨fun _ => ?_, fun q => absurd q z01⟩)
  · have := hq lr mo se sk sw tr hM
    rw [valueV, if_neg c] at this
    exact this
  · have hq' : ∀ lr mo se sk sw tr, MS w cs fr lr mo se tr → Q (rowV (mlw w cs) 0 x) lr mo se sk sw tr := fun lr mo se sk sw tr g => by
      have := hq lr mo se sk sw tr g
      rw [valueV, if_pos c] at this
      exact this
    have hr := s_reach (q := 1) (sk := sk) (sw := sw) (Q := fun r_2 lr_2 mo_2 se_2 sk_2 sw_2 tr_2 => ((r_2 = 0 → Q (-9) lr_2 mo_2 se_2 sk_2 sw_2 tr_2) ∧ (¬ r_2 = 0 → w_Mods_truth 0 x mo_2 (fun r_3 => Q r_3 lr_2 mo_2 se_2 sk_2 sw_2 tr_2)))) hok h (by omega) hM (fun lr mo se sk sw tr s hB hs => ⟨fun q => absurd q z01, fun _ => s_truth hB (j := 0) (by omega) (Q := fun r => Q r lr mo se sk sw tr) (hq' lr mo se sk sw tr (ms_of hB))⟩) (fun lr mo se sk sw tr s hB hs e => ⟨fun _ => ?_, fun q => absurd rfl q⟩)
    · exact hr
    · have := hq' lr mo se sk sw tr (ms_of hB)
      rw [rowV, List.getElem?_eq_none (by omega)] at this
      exact this
theorem s_PC_model (hok : okF w dr cs) (h : isFO fo fr w dr cs) {lr : tRows} {mo : tMods} {se : tSear} {sk : tClash} {sw : Nat → Int32} {tr : tTrail} (hM : MS w cs fr lr mo se tr) {i x : Int32} {Q : Int32 → tRows → tMods → tSear → tClash → (Nat → Int32) → tTrail → Prop}
    (hq : ∀ lr mo se sk sw tr, MS w cs fr lr mo se tr → Q (modelV w cs i x) lr mo se sk sw tr) : w_PC_model i x fo fr lr mo se sk sw tr Q := by
  rw [w_PC_model]
  rcases inR_cases i (m := 60) (by omega) with ⟨e, hi⟩ | ⟨j, hj, ei, e⟩
  · have hb : Q (-1) lr mo se sk sw tr := by
      have := hq lr mo se sk sw tr hM
      rw [modelV, e] at this
      exact this
    refine ⟨fun _ => hb, fun c => ⟨fun _ => hb, fun c2 => ?_⟩⟩
    rcases hi with g | g
    · exact absurd g c
    · exact absurd g c2
  · subst ei
    refine ⟨fun c => absurd c (nI_pos (by omega)), fun _ => pk_le 60 j (fun c => by omega) (fun _ => ?_)⟩
    have hq2 : ∀ lr mo se sk sw tr, MS w cs fr lr mo se tr → Q (if 1 ≤ x.toInt ∧ x.toInt ≤ w then rowV (mlw w cs) j x else -1) lr mo se sk sw tr := fun lr mo se sk sw tr g => by
      have := hq lr mo se sk sw tr g
      rw [modelV, e] at this
      exact this
    refine s_PCIsVar hok.1 h.1 (fun c => ⟨fun q => absurd rfl q, fun _ => ?_⟩) (fun c => ⟨fun _ => ?_, fun q => absurd q z01⟩)
    · have := hq2 lr mo se sk sw tr hM
      rw [if_neg c] at this
      exact this
    · have hq' : ∀ lr mo se sk sw tr, MS w cs fr lr mo se tr → Q (rowV (mlw w cs) j x) lr mo se sk sw tr := fun lr mo se sk sw tr g => by
        have := hq2 lr mo se sk sw tr g
        rw [if_pos c] at this
        exact this
      rw [nI_1]
      refine s_reach (q := j + 1) hok h (by omega) hM (fun lr mo se sk sw tr s hB hs => ⟨fun q => absurd q z01, fun _ => s_truth hB (j := j) (by omega) (Q := fun r => Q r lr mo se sk sw tr) (hq' lr mo se sk sw tr (ms_of hB))⟩) (fun lr mo se sk sw tr s hB hs e => ⟨fun _ => ?_, fun q => absurd rfl q⟩)
      have := hq' lr mo se sk sw tr (ms_of hB)
      rw [rowV, List.getElem?_eq_none (by omega)] at this
      exact this
theorem s_PC_models (hok : okF w dr cs) (h : isFO fo fr w dr cs) {lr : tRows} {mo : tMods} {se : tSear} {sk : tClash} {sw : Nat → Int32} {tr : tTrail} (hM : MS w cs fr lr mo se tr) {Q : Int32 → tRows → tMods → tSear → tClash → (Nat → Int32) → tTrail → Prop}
    (hq : ∀ lr mo se sk sw tr, MS w cs fr lr mo se tr → Q (nI (min 60 (mlw w cs).length)) lr mo se sk sw tr) : w_PC_models fo fr lr mo se sk sw tr Q := by
  rw [w_PC_models]
  have key : ∀ lr mo se sk sw tr s, MB w cs fr lr mo se tr s → s = min 60 (mlw w cs).length → Q mo.size lr mo se sk sw tr := fun lr mo se sk sw tr s hB e => by
    rw [hB.2.2.2.1, e]
    exact hq lr mo se sk sw tr (ms_of hB)
  have hr := s_reach (q := 60) (sk := sk) (sw := sw) (Q := fun r_1 lr_1 mo_1 se_1 sk_1 sw_1 tr_1 => Q mo_1.size lr_1 mo_1 se_1 sk_1 sw_1 tr_1) hok h (by omega) hM (fun lr mo se sk sw tr s hB hs => key lr mo se sk sw tr s hB (by have h1 : s ≤ 60 := hB.2.2.2.2.1; have h2 : s ≤ (mlw w cs).length := hB.2.2.2.2.2.1; omega)) (fun lr mo se sk sw tr s hB hs e => key lr mo se sk sw tr s hB (by omega))
  exact hr
theorem s_PC_sat (hok : okF w dr cs) (h : isFO fo fr w dr cs) {lr : tRows} {mo : tMods} {se : tSear} {sk : tClash} {sw : Nat → Int32} {tr : tTrail} (hM : MS w cs fr lr mo se tr) {x : Int32} {Q : Int32 → tRows → tMods → tSear → tClash → (Nat → Int32) → tTrail → Prop}
    (hq : ∀ lr mo se sk sw tr, MS w cs fr lr mo se tr → Q (satV w cs x) lr mo se sk sw tr) : w_PC_sat x fo fr lr mo se sk sw tr Q := by
  have w30 := hok.1
  have z0 : (0 : Int32).toInt = 0 := rfl
  have hL1 : isL w x = true ↔ (x ≠ 0 ∧ -(w : Int) ≤ x.toInt ∧ x.toInt ≤ w) := by unfold isL; exact decide_eq_true_iff
  rw [w_PC_sat]
  refine s_isLit0 hok.1 h.1 (fun c => ⟨fun q => absurd rfl q, fun _ => ?_⟩) (fun c => ⟨fun _ => ?_, fun q => absurd q z01⟩)
  · have := hq lr mo se sk sw tr hM
    rw [satV, if_neg (fun g => c (by
      rcases g with g | g
      · rw [g, z0]; omega
      · exact (hL1.mp g).2))] at this
    exact this
  · have hx : x = 0 ∨ isL w x = true := by
      by_cases e : x = 0
      · exact Or.inl e
      · exact Or.inr (hL1.mpr ⟨e, c⟩)
    refine s_allow hok h hM c (fun hs lr mo se sk sw tr hM2 => ⟨fun q => absurd q z01, fun _ => ?_⟩) (fun hs lr mo se sk sw tr hM2 => ⟨fun _ => ?_, fun q => absurd rfl q⟩)
    · have := hq lr mo se sk sw tr hM2
      rw [satV, if_pos hx, if_pos hs] at this
      exact this
    · have := hq lr mo se sk sw tr hM2
      rw [satV, if_pos hx, if_neg hs] at this
      exact this
theorem s_PC_forced (hok : okF w dr cs) (h : isFO fo fr w dr cs) {lr : tRows} {mo : tMods} {se : tSear} {sk : tClash} {sw : Nat → Int32} {tr : tTrail} (hM : MS w cs fr lr mo se tr) {x : Int32} {Q : Int32 → tRows → tMods → tSear → tClash → (Nat → Int32) → tTrail → Prop}
    (hq : ∀ lr mo se sk sw tr, MS w cs fr lr mo se tr → Q (forcedV w cs x) lr mo se sk sw tr) : w_PC_forced x fo fr lr mo se sk sw tr Q := by
  have w30 := hok.1
  rw [w_PC_forced]
  refine s_PCIsVar hok.1 h.1 (fun c => ⟨fun q => absurd rfl q, fun _ => ?_⟩) (fun c => ⟨fun _ => ?_, fun q => absurd q z01⟩)
  · have := hq lr mo se sk sw tr hM
    rw [forcedV, if_neg c] at this
    exact this
  · have en : (-x).toInt = -x.toInt := ti_neg (by omega)
    have a1 : pY x = b1 (x.toInt.toNat - 1) := if_pos (by omega)
    have a2 : pN x = 0 := if_neg (by omega)
    have a3 : pY (-x) = 0 := by unfold pY; rw [en]; exact if_neg (by omega)
    have a4 : pN (-x) = b1 (x.toInt.toNat - 1) := by unfold pN; rw [en, if_pos (by omega), Int.neg_neg]
    have al := fun {lr : tRows} {mo : tMods} {se : tSear} {sk : tClash} {sw : Nat → Int32} {tr : tTrail} (hM : MS w cs fr lr mo se tr) {Q : Int32 → tRows → tMods → tSear → tClash → (Nat → Int32) → tTrail → Prop} => s_allow (sk := sk) (sw := sw) (Q := Q) (x := -x) hok h hM (by rw [en]; omega)
    rw [a3, a4] at al
    refine s_allow hok h hM (by omega) ?_ ?_
    · rw [a1, a2]
      intro q1 lr mo se sk sw tr hM2
      refine al hM2 (fun q2 lr mo se sk sw tr hM3 => ⟨fun q => absurd rfl q, fun _ => ?_⟩) (fun q2 lr mo se sk sw tr hM3 => ⟨fun _ => ⟨fun q => absurd q z01, fun _ => ?_⟩, fun q => absurd q z01⟩)
      · have := hq lr mo se sk sw tr hM3
        rw [forcedV, if_pos c, if_pos q1, if_pos q2] at this
        exact this
      · have := hq lr mo se sk sw tr hM3
        rw [forcedV, if_pos c, if_pos q1, if_neg q2] at this
        exact this
    · rw [a1, a2]
      intro q1 lr mo se sk sw tr hM2
      refine al hM2 (fun q2 lr mo se sk sw tr hM3 => ⟨fun _ => ⟨fun _ => ?_, fun q => absurd rfl q⟩, fun q => absurd q (by decide)⟩) (fun q2 lr mo se sk sw tr hM3 => ⟨fun q => absurd rfl q, fun _ => ?_⟩)
      · have := hq lr mo se sk sw tr hM3
        rw [forcedV, if_pos c, if_neg q1, if_pos q2] at this
        exact this
      · have := hq lr mo se sk sw tr hM3
        rw [forcedV, if_pos c, if_neg q1, if_neg q2] at this
        exact this
end PCM
