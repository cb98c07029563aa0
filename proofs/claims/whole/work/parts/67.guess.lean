/-! the trail: a new level -/
def raise (tr : tTrail) (lev : Nat) : tTrail := tTrail.mk tr.trues tr.falses tr.length (nI (lev + 1)) tr.order tr.whyTrue tr.whyFalse (upd tr.ahead (lev + 1) (tr.trues ||| tr.falses))
theorem and_b1s {v : Nat} (hv : v < 32) {a : Int32} (h : bt a v = true) : a &&& b1 v = b1 v := by
  refine b_ext (fun i _ => ?_)
  rw [b_and, b_b1 hv]
  by_cases e : i = v
  · subst e; rw [h]; rfl
  · simp [e]
theorem l_supp {x1 x2 o : Int32} {P : Nat → tTrail → Prop} {K : tTrail → Prop} (hK : ∀ k tr, k ≤ 30 → P k tr → (∀ v, k ≤ v → v < 30 → bt o v = false) → K tr) (h0 : ∀ k tr, k < 30 → P k tr → bt o k = false → P (k + 1) tr)
    (h1 : ∀ k tr, k < 30 → P k tr → bt o k = true → ∀ Q : tTrail → Prop, (∀ tr', P (k + 1) tr' → Q tr') → w_Trail_conclude (b1 k) (x1 &&& b1 k) (x2 &&& b1 k) tr Q) : ∀ nn k tr, k ≤ 30 → P k tr → 30 - k < nn → w_Trail_suppose_L57 x1 x2 o K nn (nI k) tr := by
  intro nn
  induction nn with
  | zero => intro k _ _ _ h; omega
  | succ nn ih =>
    intro k tr hk hp hn
    rw [w_Trail_suppose_L57]
    refine ⟨fun c => ?_, fun c => ⟨fun c2 => ?_, fun c2 => ?_⟩⟩
    · rw [ti_le, nI_toInt (by omega)] at c
      have c' : (30 : Int) ≤ k := c
      exact hK k tr hk hp (fun v h1 h2 => by omega)
    · have hk2 : k < 30 := by
        rcases Nat.lt_or_ge k 30 with q | q
        · exact q
        · exact absurd (ti_le.mpr (by rw [nI_toInt (by omega)]; show (30 : Int) ≤ k; omega)) c
      refine hK k tr hk hp (fun v h1 h2 => ?_)
      have e := b_sshr k (by omega) o (i := v - k) (by omega)
      rw [c2, b_0, if_pos (by omega), show k + (v - k) = v by omega] at e
      exact e.symm
    · have hk2 : k < 30 := by
        rcases Nat.lt_or_ge k 30 with q | q
        · exact q
        · exact absurd (ti_le.mpr (by rw [nI_toInt (by omega)]; show (30 : Int) ≤ k; omega)) c
      rw [nI_1]
      have e1 : ((1 : Int32) <<< (nI k &&& 31)) = b1 k := rfl
      rw [e1]
      refine ⟨fun c3 => ih (k + 1) tr (by omega) (h0 k tr hk2 hp ((and_b1z (by omega)).mp c3)) (by omega), fun c3 => ?_⟩
      have hb : bt o k = true := by
        cases hb : bt o k with
        | true => rfl
        | false => exact absurd ((and_b1z (by omega)).mpr hb) c3
      rw [and_b1s (by omega) hb]
      exact h1 k tr hk2 hp hb _ (fun tr' hp' => ih (k + 1) tr' (by omega) hp' (by omega))
section RAISE
variable {n : Nat} {t f : Nat → Int32} {R : Int32 → Int32 → Prop} {fl : Nat} {y no : Int32} {tr : tTrail} {w len lev : Nat} {vr p : Nat → Nat} {dg : Nat → Bool}
theorem tr_raise (h : isTR tr w len lev vr p) (hl : lev < 31) : isTR (raise tr lev) w len (lev + 1) vr (gu p (lev + 1) len) := by
  obtain ⟨g1, g2, g3, g4, g5, g6, g7, g8, g9⟩ := h
  refine ⟨g1, rfl, by omega, g4, g5, g6, g7, fun k h1 h2 => ?_, fun j k h1 h2 h3 => ?_⟩
  · show _ ∧ ∀ v, bt (upd tr.ahead (lev + 1) (tr.trues ||| tr.falses) k) v = true ↔ _
    by_cases e : k = lev + 1
    · subst e
      rw [gu_s, pk_us]
      exact ⟨Nat.le_refl _, fun v => by rw [b_or, Bool.or_eq_true]; exact g7 v⟩
    · rw [gu_n _ _ e, pk_un e]
      exact g8 k h1 (by omega)
  · by_cases e : k = lev + 1
    · subst e
      rw [gu_s]
      by_cases e2 : j = lev + 1
      · subst e2; rw [gu_s]; exact Nat.le_refl _
      · rw [gu_n _ _ e2]; exact (g8 j h1 (by omega)).1
    · rw [gu_n _ _ e, gu_n _ _ (show j ≠ lev + 1 by omega)]
      exact g9 j k h1 h2 (by omega)
theorem fx_nf (h : isTR tr w len lev vr p) {a b : Int32} (hf : rFX tr a b) : rNF tr vr len a b := by
  have g7 := h.2.2.2.2.2.2.1
  rcases hf with ⟨v, ⟨h1, h2⟩ | ⟨h1, h2⟩⟩ | ⟨u, v, _, ⟨h1, h2, h3⟩, _⟩
  · exact ⟨v, Or.inl ⟨h1, fun _ => h2⟩⟩
  · exact ⟨v, Or.inr ⟨h1, fun _ => h2⟩⟩
  · have no : tPos vr len u → False := fun q => by
      rcases (g7 u).mpr q with g | g
      · rw [h2] at g; cases g
      · rw [h3] at g; cases g
    rcases h1 with h1 | h1
    · exact ⟨u, Or.inl ⟨h1, fun q => (no q).elim⟩⟩
    · exact ⟨u, Or.inr ⟨h1, fun q => (no q).elim⟩⟩
/-- a guess -/
theorem ti_guess (h : TI n t f R fl y no tr w len lev vr p dg) (hw : w ≤ 30) (hl : lev < 31) (hf : fl ≤ lev) (hfl : fl ≤ 1) (hx : ∀ a b, R a b → rFX tr a b) {v : Nat} (hv : v < w) (ho : ¬ tPos vr len v) (a b : Int32) : TI n t f R fl y no (push (raise tr lev) len v a b) w (len + 1) (lev + 1) (gu vr len v) (gu p (lev + 1) len) (gu dg len false) := by
  obtain ⟨k1, k2, k3, k4, k5, k6, k7, k8⟩ := h
  have hv2 : v < 32 := by omega
  have tT : ∀ u, bt tr.trues u = true → bt (push (raise tr lev) len v a b).trues u = true := fun u q => by
    rw [push_t _ _ hv2]
    show (bt tr.trues u || _) = true
    rw [q]; rfl
  have tF : ∀ u, bt tr.falses u = true → bt (push (raise tr lev) len v a b).falses u = true := fun u q => by
    rw [push_f _ _ hv2]
    show (bt tr.falses u || _) = true
    rw [q]; rfl
  have g7 := k1.2.2.2.2.2.2.1
  have g8 := k1.2.2.2.2.2.2.2.1
  have g9 := k1.2.2.2.2.2.2.2.2
  refine ⟨tr_push (tr_raise k1 hl) hw hv ho a b, fun i hi hd => ?_, fun i hi hd => ?_, fun k h1 h2 h3 => ?_, fun k h1 h2 => ?_, fun e1 e2 u => ?_, fun k h1 h2 a' b' hr => ?_, fun h1 h2 => ?_⟩
  · have e : i ≠ len := fun e => by rw [e, gu_s] at hd; cases hd
    rw [gu_n _ _ e] at hd
    exact con_ext (k2 i (by omega) hd) (pk_un e) (pk_un e) (gu_n _ _ e) (fun u q => (tPos_gu (by omega)).mpr q) (fun u _ => tT u) (fun u _ => tF u)
  · by_cases e : i = len
    · exact Or.inl ⟨lev + 1, by omega, Nat.le_refl _, by rw [gu_s, e]⟩
    · rw [gu_n _ _ e] at hd
      rcases k3 i (by omega) hd with ⟨k, c1, c2, c3⟩ | ⟨c1, c2, c3, c4, c5⟩
      · exact Or.inl ⟨k, c1, by omega, by rw [gu_n _ _ (by omega)]; exact c3⟩
      · refine Or.inr ⟨c1, by omega, by rw [gu_n _ _ (by omega)]; exact c3, fun h2 => ?_, ?_⟩
        · by_cases e2 : 2 = lev + 1
          · rw [e2, gu_s]; omega
          · rw [gu_n _ _ e2]; exact c4 (by omega)
        · rw [gu_n _ _ e]
          exact c5.elim (fun g => Or.inl ⟨tT _ g.1, g.2⟩) (fun g => Or.inr ⟨tF _ g.1, g.2⟩)
  · by_cases e : k = lev + 1
    · subst e
      rw [gu_s, gu_s]
    · rw [gu_n _ _ e] at h3 ⊢
      by_cases e2 : p k = len
      · rw [e2, gu_s]
      · rw [gu_n _ _ e2]
        exact k4 k h1 (by omega) (by omega)
  · by_cases e : k = lev + 1
    · subst e
      rw [gu_s]; omega
    · rw [gu_n _ _ e]
      have := k5 k h1 (by omega)
      omega
  · obtain ⟨c1, c2, c3⟩ := k6 e1 (by omega) u
    refine ⟨fun q => tT u (c1 q), fun q => tF u (c2 q), fun q q2 => ?_⟩
    by_cases e : 2 = lev + 1
    · rw [e, gu_s]
      refine (tPos_gu (Nat.le_refl _)).mpr ((g7 u).mp ?_)
      exact q.elim (fun g => Or.inl (c1 g)) (fun g => Or.inr (c2 g))
    · rw [gu_n _ _ e]
      exact (tPos_gu (g8 2 (by omega) (by omega)).1).mpr (c3 q (by omega))
  · by_cases e : k = lev + 1
    · subst e
      rw [gu_s]
      exact nf_ext (fx_nf k1 (hx a' b' hr)) (fun u q => (tPos_gu (Nat.le_refl _)).mp q) (fun u _ => tT u) (fun u _ => tF u)
    · rw [gu_n _ _ e]
      exact nf_ext (k7 k h1 (by omega) a' b' hr) (fun u q => (tPos_gu (g8 k h1 (by omega)).1).mp q) (fun u _ => tT u) (fun u _ => tF u)
  · rw [gu_s] at h2
    omega
theorem s_guess (h : TI n t f R fl y no tr w len lev vr p dg) (hw : w ≤ 30) (hl : lev < 31) (hf : fl ≤ lev) (hfl : fl ≤ 1) (hx : ∀ a b, R a b → rFX tr a b) {v : Nat} (hv : v < w) (ho : ¬ tPos vr len v) {Q : tTrail → Prop} (hq : ∀ tr', TI n t f R fl y no tr' w (len + 1) (lev + 1) (gu vr len v) (gu p (lev + 1) len) (gu dg len false) → Q tr') : w_Trail_suppose 0 (b1 v) tr Q := by
  have e : tr.level = nI lev := h.1.2.1
  have hin : vp_in (nI (lev + 1)) 32 := vp_in_nI (by omega) (by omega)
  have hv2 : v < 32 := by omega
  have g7 := h.1.2.2.2.2.2.2.1
  have hT := ti_guess h hw hl hf hfl hx hv ho (0 &&& b1 v) (b1 v &&& b1 v)
  have hlen := tr_len hT.1
  rw [w_Trail_suppose, e, nI_1, nI_clamp (by omega), pk_us]
  refine ⟨fun _ => ⟨hin, hin, 31, ?_⟩, fun c => absurd (ti_lt.mpr (by rw [nI_toInt (by omega)]; show (lev : Int) < 31; omega)) c⟩
  have eo : ((0 : Int32) ||| b1 v) &&& ((tr.trues ||| tr.falses) ^^^ (-1)) = b1 v := by
    refine b_ext (fun i hi => ?_)
    rw [b_and, b_not _ hi, b_or, b_or, b_0, b_b1 hv2]
    by_cases q : i = v
    · subst q
      cases h1 : bt tr.trues i with
      | true => exact (ho ((g7 i).mp (Or.inl h1))).elim
      | false =>
        cases h2 : bt tr.falses i with
        | true => exact (ho ((g7 i).mp (Or.inr h2))).elim
        | false => simp
    · simp [q]
  rw [eo]
  refine l_supp (P := fun k tr' => (k ≤ v ∧ tr' = raise tr lev) ∨ (v < k ∧ tr' = push (raise tr lev) len v (0 &&& b1 v) (b1 v &&& b1 v))) (fun k tr' hk hp hz => ?_) (fun k tr' hk hp hz => ?_) (fun k tr' hk hp hz Q2 hq2 => ?_) 31 0 _ (by omega) (Or.inl ⟨Nat.zero_le _, rfl⟩) (by omega)
  · rcases hp with ⟨h1, _⟩ | ⟨_, h2⟩
    · have := hz v h1 (by omega)
      rw [b_b1 hv2] at this; simp at this
    · rw [h2]; exact hq _ hT
  · rw [b_b1 hv2] at hz
    have hne : k ≠ v := by simpa using hz
    rcases hp with ⟨h1, h2⟩ | ⟨h1, h2⟩
    · exact Or.inl ⟨by omega, h2⟩
    · exact Or.inr ⟨by omega, h2⟩
  · rw [b_b1 hv2] at hz
    have he : k = v := by simpa using hz
    subst he
    rcases hp with ⟨h1, h2⟩ | ⟨h1, h2⟩
    · rw [h2]
      exact s_conclude (tr_raise h.1 hl) (by omega) (hq2 _ (Or.inr ⟨by omega, rfl⟩))
    · omega
end RAISE
