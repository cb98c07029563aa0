/-! the reference: value, model, models -/
noncomputable def rowV (L : List Int32) (j : Nat) (x : Int32) : Int32 := match L[j]? with
  | some z => (z >>> ((x - 1) &&& 31)) &&& 1
  | none => -9
noncomputable def valueV (w : Nat) (cs : List (List Int32)) (x : Int32) : Int32 := if 1 ≤ x.toInt ∧ x.toInt ≤ w then rowV (mlw w cs) 0 x else -1
noncomputable def modelV (w : Nat) (cs : List (List Int32)) (i x : Int32) : Int32 := match inR i 60 with
  | none => -1
  | some j => if 1 ≤ x.toInt ∧ x.toInt ≤ w then rowV (mlw w cs) j x else -1
theorem l_kn {mn : mKnow} {L : List Int32} (h : knOk mn L) {j : Nat} (hj : j < 60) {x : Int32} {Q : Int32 → Prop} (hq : Q (rowV L j x)) : (mn.many ≤ nI j → Q (-9)) ∧ (¬ mn.many ≤ nI j → Q (((mn.found j) >>> ((x - 1) &&& 31)) &&& 1)) := by
  rw [h.2.1, ti_le, nI_toInt (by omega), nI_toInt (by omega)]
  refine ⟨fun c => ?_, fun c => ?_⟩
  · rw [rowV, List.getElem?_eq_none (by omega)] at hq
    exact hq
  · have hl : j < L.length := by omega
    have e := List.getElem?_eq_getElem hl
    rw [rowV, e] at hq
    rw [h.2.2 j _ hj e]
    exact hq
theorem s_Ref_value {ma : mForm} {w : Nat} {dr : List Int32} {cs : List (List Int32)} (hok : okF w dr cs) (h : isMF ma w dr cs) {mn : mKnow} (hk : mn.isKnown = 0 ∨ knOk mn (mlw w cs)) {x : Int32} {ms : mSat} {mb : mBack} {Q : Int32 → mKnow → mSat → mBack → Prop} (hq : ∀ mn ms mb, (mn.isKnown = 0 ∨ knOk mn (mlw w cs)) → Q (valueV w cs x) mn ms mb) : w_Ref_value x ma mn ms mb Q := by
  rw [w_Ref_value]
  refine s_RefIsVar hok.1 h.1 (fun c => ⟨fun q => absurd rfl q, fun _ => ?_⟩) (fun c => ⟨fun _ => ?_, fun q => absurd q z01⟩)
  · have := hq mn ms mb hk
    rw [valueV, if_neg c] at this
    exact this
  · refine s_Ref_know hok h hk (fun mn2 ms2 mb2 hk2 => ?_)
    have hq2 := hq mn2 ms2 mb2 (Or.inr hk2)
    rw [valueV, if_pos c] at hq2
    have hl := l_kn hk2 (show 0 < 60 by omega) (Q := fun r => Q r mn2 ms2 mb2) hq2
    have e : mn2.many ≤ nI 0 ↔ mn2.many = 0 := by
      rw [hk2.2.1, ti_le, nI_toInt (by omega), nI_toInt (by omega), show (0 : Int32) = nI 0 from rfl, nI_eq (by omega) (by omega)]
      omega
    rw [e] at hl
    exact ⟨fun c2 => ⟨vp_in_nI (n := 0) (by omega) (by omega), hl.2 c2⟩, hl.1⟩
theorem s_Ref_model {ma : mForm} {w : Nat} {dr : List Int32} {cs : List (List Int32)} (hok : okF w dr cs) (h : isMF ma w dr cs) {mn : mKnow} (hk : mn.isKnown = 0 ∨ knOk mn (mlw w cs)) {i x : Int32} {ms : mSat} {mb : mBack} {Q : Int32 → mKnow → mSat → mBack → Prop} (hq : ∀ mn ms mb, (mn.isKnown = 0 ∨ knOk mn (mlw w cs)) → Q (modelV w cs i x) mn ms mb) : w_Ref_model i x ma mn ms mb Q := by
  rw [w_Ref_model]
  refine s_inM (m := 60) (by omega) rfl (fun e => ⟨fun _ => ?_, fun q => absurd rfl q⟩) (fun j hj ei e => ⟨fun q => absurd q z01, fun _ => ?_⟩)
  · have := hq mn ms mb hk
    rw [modelV, e] at this
    exact this
  · have hq' : ∀ mn ms mb, (mn.isKnown = 0 ∨ knOk mn (mlw w cs)) → Q (if 1 ≤ x.toInt ∧ x.toInt ≤ w then rowV (mlw w cs) j x else -1) mn ms mb := fun mn ms mb g => by
      have := hq mn ms mb g
      rw [modelV, e] at this
      exact this
    refine s_RefIsVar hok.1 h.1 (fun c => ⟨fun q => absurd rfl q, fun _ => ?_⟩) (fun c => ⟨fun _ => ?_, fun q => absurd q z01⟩)
    · have := hq' mn ms mb hk
      rw [if_neg c] at this
      exact this
    · refine s_Ref_know hok h hk (fun mn2 ms2 mb2 hk2 => ?_)
      have hq2 := hq' mn2 ms2 mb2 (Or.inr hk2)
      rw [if_pos c] at hq2
      have hl := l_kn hk2 hj (Q := fun r => Q r mn2 ms2 mb2) hq2
      subst ei
      refine ⟨hl.1, fun c2 => ⟨vp_in_nI (by omega) (by omega), ?_⟩⟩
      rw [nI_clamp (by omega)]
      exact hl.2 c2
theorem s_Ref_models {ma : mForm} {w : Nat} {dr : List Int32} {cs : List (List Int32)} (hok : okF w dr cs) (h : isMF ma w dr cs) {mn : mKnow} (hk : mn.isKnown = 0 ∨ knOk mn (mlw w cs)) {ms : mSat} {mb : mBack} {Q : Int32 → mKnow → mSat → mBack → Prop} (hq : ∀ mn ms mb, (mn.isKnown = 0 ∨ knOk mn (mlw w cs)) → Q (nI (min 60 (mlw w cs).length)) mn ms mb) : w_Ref_models ma mn ms mb Q := by
  rw [w_Ref_models]
  refine s_Ref_know hok h hk (fun mn2 ms2 mb2 hk2 => ?_)
  have := hq mn2 ms2 mb2 (Or.inr hk2)
  rw [← hk2.2.1] at this
  exact this
