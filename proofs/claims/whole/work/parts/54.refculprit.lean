/-! the reference: culprit -/
theorem s_Ref_culprit {ma : mForm} {w : Nat} {dr : List Int32} {cs : List (List Int32)} (hok : okF w dr cs) (h : isMF ma w dr cs) {ms : mSat} {Q : Int32 → mSat → Prop}
    (hs : SATw cs.length (tq cs) (fq cs) 0 0 → ∀ ms, Q (-9) ms) (hn : ¬ SATw cs.length (tq cs) (fq cs) 0 0 → ∀ k, k < cs.length → SATw k (tq cs) (fq cs) 0 0 → ¬ SATw (k + 1) (tq cs) (fq cs) 0 0 → ∀ ms, Q (nI k) ms) : w_Ref_culprit ma ms Q := by
  have hl := hok.2.2.1
  rw [w_Ref_culprit, h.2.2.2.1]
  refine s_canBeF hok h (Nat.le_refl _) st_00 (fun ms1 q1 => ⟨fun q => absurd q z01, fun _ => hs q1 ms1⟩) (fun ms1 q1 => ⟨fun _ => ⟨cs.length + 1, ?_⟩, fun q => absurd rfl q⟩)
  have key : ∀ nn k (ms : mSat), k < cs.length → SATw k (tq cs) (fq cs) 0 0 → cs.length - k < nn → w_Ref_culprit_L18 ma (fun x1_2 ms_2 => Q (x1_2 - 1) ms_2) nn (nI (k + 1)) ms := by
    intro nn
    induction nn with
    | zero => intro k ms _ _ hm; omega
    | succ nn ih =>
      intro k ms hk hsk hm
      rw [w_Ref_culprit_L18]
      refine s_canBeF hok h (by omega) st_00 (fun ms2 q2 => ⟨fun q => absurd q z01, fun _ => ?_⟩) (fun ms2 q2 => ⟨fun _ => ?_, fun q => absurd rfl q⟩)
      · rw [nI_1]
        have hne : k + 1 ≠ cs.length := fun e => q1 (e ▸ q2)
        exact ih (k + 1) ms2 (by omega) q2 (by omega)
      · show Q (nI (k + 1) - 1) ms2
        rw [nI_pred]
        exact hn q1 k hk hsk q2 ms2
  have h0 : SATw 0 (tq cs) (fq cs) 0 0 := ⟨fun _ => true, fun i hi => absurd hi (Nat.not_lt_zero _), fun _ _ => rfl, fun v hv => by rw [b_0] at hv; cases hv⟩
  have hpos : 0 < cs.length := by
    rcases Nat.eq_zero_or_pos cs.length with e | e
    · rw [e] at q1; exact absurd h0 q1
    · exact e
  exact key (cs.length + 1) 0 ms1 hpos h0 (by omega)
