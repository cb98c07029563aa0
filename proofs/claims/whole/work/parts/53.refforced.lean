/-! the reference: forced -/
noncomputable def forcedV (w : Nat) (cs : List (List Int32)) (x : Int32) : Int32 :=
  if 1 ≤ x.toInt ∧ x.toInt ≤ w then
    (@ite Int32 (SATw cs.length (tq cs) (fq cs) (b1 (x.toInt.toNat - 1)) 0) (Classical.propDecidable _)
      (@ite Int32 (SATw cs.length (tq cs) (fq cs) 0 (b1 (x.toInt.toNat - 1))) (Classical.propDecidable _) (-9) 1)
      (@ite Int32 (SATw cs.length (tq cs) (fq cs) 0 (b1 (x.toInt.toNat - 1))) (Classical.propDecidable _) 0 (-9)))
  else -1
theorem s_RefIsVar {ma : mForm} {w : Nat} (hw : w ≤ 30) (h : ma.variables = nI w) {x : Int32} {Q : Int32 → Prop} (h0 : ¬ (1 ≤ x.toInt ∧ x.toInt ≤ w) → Q 0) (h1 : (1 ≤ x.toInt ∧ x.toInt ≤ w) → Q 1) : w_Ref_isVariable x ma Q := by
  unfold w_Ref_isVariable w_Ref_in
  rw [h, ti_lt, ti_lt, nI_toInt (by omega), show (1 : Int32).toInt = 1 from rfl]
  exact ⟨fun c => ⟨Or.inl rfl, h0 (by omega)⟩, fun c => ⟨fun c2 => ⟨Or.inl rfl, h0 (by omega)⟩, fun c2 => ⟨Or.inr rfl, h1 ⟨by omega, by omega⟩⟩⟩⟩
theorem s_Ref_forced {ma : mForm} {w : Nat} {dr : List Int32} {cs : List (List Int32)} (hok : okF w dr cs) (h : isMF ma w dr cs) {x : Int32} {ms : mSat} {Q : Int32 → mSat → Prop} (hq : ∀ ms, Q (forcedV w cs x) ms) : w_Ref_forced x ma ms Q := by
  have w30 := hok.1
  rw [w_Ref_forced, h.2.2.2.1]
  refine s_RefIsVar w30 h.1 (fun c => ⟨fun q => absurd rfl q, fun _ => ?_⟩) (fun c => ⟨fun _ => ?_, fun q => absurd q z01⟩)
  · have := hq ms
    rw [forcedV, if_neg c] at this
    exact this
  · rw [b1_lit (u := x.toInt.toNat - 1) (by omega)]
    have hu : x.toInt.toNat - 1 < 30 := by omega
    refine s_canBeF hok h (Nat.le_refl _) (st_b1l hu) (fun ms1 q1 => ?_) (fun ms1 q1 => ?_)
    · refine s_canBeF hok h (Nat.le_refl _) (st_b1r hu) (fun ms2 q2 => ⟨fun q => absurd rfl q, fun _ => ?_⟩) (fun ms2 q2 => ⟨fun _ => ⟨fun q => absurd q z01, fun _ => ?_⟩, fun q => absurd q z01⟩)
      · have := hq ms2
        rw [forcedV, if_pos c, if_pos q1, if_pos q2] at this
        exact this
      · have := hq ms2
        rw [forcedV, if_pos c, if_pos q1, if_neg q2] at this
        exact this
    · refine s_canBeF hok h (Nat.le_refl _) (st_b1r hu) (fun ms2 q2 => ⟨fun _ => ⟨fun _ => ?_, fun q => absurd rfl q⟩, fun q => absurd q (by decide)⟩) (fun ms2 q2 => ⟨fun q => absurd rfl q, fun _ => ?_⟩)
      · have := hq ms2
        rw [forcedV, if_pos c, if_neg q1, if_pos q2] at this
        exact this
      · have := hq ms2
        rw [forcedV, if_pos c, if_neg q1, if_neg q2] at this
        exact this
