/-! the reference: sat -/
theorem s_Ref_sat {ma : mForm} {w : Nat} {dr : List Int32} {cs : List (List Int32)} (hok : okF w dr cs) (h : isMF ma w dr cs) {x : Int32} {ms : mSat} {Q : Int32 → mSat → Prop} (hq : ∀ ms, Q (satV w cs x) ms) : w_Ref_sat x ma ms Q := by
  have w30 := hok.1
  have hL : isL w x = false ↔ ¬ (x ≠ 0 ∧ -(w : Int) ≤ x.toInt ∧ x.toInt ≤ w) := by unfold isL; exact decide_eq_false_iff_not
  have hL1 : isL w x = true ↔ (x ≠ 0 ∧ -(w : Int) ≤ x.toInt ∧ x.toInt ≤ w) := by unfold isL; exact decide_eq_true_iff
  have z0 : (0 : Int32).toInt = 0 := rfl
  have rng : (x = 0 ∨ isL w x = true) → -(w : Int) ≤ x.toInt ∧ x.toInt ≤ w := fun q => by
    rcases q with q | q
    · rw [q, z0]; omega
    · exact (hL1.mp q).2
  have c00 : (x = 0 ∨ isL w x = true) → x ≤ 0 → 0 ≤ x → w_Ref_canBe (nI cs.length) 0 0 ma ms (fun r ms => (r = 0 → Q 0 ms) ∧ (¬ r = 0 → Q 1 ms)) := fun hx c1 c2 => by
    rw [ti_le, z0] at c1 c2
    exact l_refsat hok h hq hx (if_neg (by omega)) (if_neg (by omega)) st_00
  have c01 : (x = 0 ∨ isL w x = true) → x ≤ 0 → ¬ 0 ≤ x → w_Ref_canBe (nI cs.length) 0 ((1 : Int32) <<< (((-x) - 1) &&& 31)) ma ms (fun r ms => (r = 0 → Q 0 ms) ∧ (¬ r = 0 → Q 1 ms)) := fun hx c1 c2 => by
    rw [ti_le, z0] at c1 c2
    have hr := rng hx
    rw [b1_litn (u := (-x.toInt).toNat - 1) (by omega) (by omega)]
    exact l_refsat hok h hq hx (if_neg (by omega)) (if_pos (by omega)) (st_b1r (by omega))
  have c10 : (x = 0 ∨ isL w x = true) → ¬ x ≤ 0 → w_Ref_canBe (nI cs.length) ((1 : Int32) <<< ((x - 1) &&& 31)) 0 ma ms (fun r ms => (r = 0 → Q 0 ms) ∧ (¬ r = 0 → Q 1 ms)) := fun hx c1 => by
    rw [ti_le, z0] at c1
    have hr := rng hx
    rw [b1_lit (u := x.toInt.toNat - 1) (by omega)]
    exact l_refsat hok h hq hx (if_pos (by omega)) (if_neg (by omega)) (st_b1l (by omega))
  have no2 : ¬ x ≤ 0 → ¬ 0 ≤ x → False := fun c1 c2 => by
    rw [ti_le, z0] at c1 c2
    omega
  rw [w_Ref_sat, h.2.2.2.1]
  refine ⟨fun c => ?_, fun c => ?_⟩
  · exact ⟨fun c1 => ⟨fun c2 => c00 (Or.inl c) c1 c2, fun c2 => c01 (Or.inl c) c1 c2⟩, fun c1 => ⟨fun _ => c10 (Or.inl c) c1, fun c2 => (no2 c1 c2).elim⟩⟩
  · unfold w_Ref_isLiteral
    have bad : ∀ A : Prop, isL w x = false → (¬ (0 : Int32) = 0 → A) ∧ ((0 : Int32) = 0 → Q (-1) ms) := fun A g => ⟨fun c => absurd rfl c, fun _ => by
      have := hq ms
      rw [satV, if_neg (fun q => by rcases q with q | q; exact c q; rw [g] at q; cases q)] at this
      exact this⟩
    rw [h.1, ti_lt, ti_lt, neg_nI (by omega), nI_toInt (by omega)]
    refine ⟨fun c1 => bad _ (hL.mpr (fun g => by omega)), fun c1 => ⟨fun c2 => bad _ (hL.mpr (fun g => by omega)), fun c2 => ⟨fun c3 => bad _ (hL.mpr (fun g => g.1 c3)), fun c3 => ⟨fun _ => ?_, fun c => absurd c z01⟩⟩⟩⟩
    have hx : x = 0 ∨ isL w x = true := Or.inr (hL1.mpr ⟨c3, by omega, by omega⟩)
    exact ⟨fun c1 => ⟨fun c2 => c00 hx c1 c2, fun c2 => c01 hx c1 c2⟩, fun c1 => ⟨fun _ => c10 hx c1, fun c2 => (no2 c1 c2).elim⟩⟩
