/-! the trail: one more entry; back to a level -/
def gu {α : Type} (f : Nat → α) (k : Nat) (x : α) : Nat → α := fun j => if j = k then x else f j
theorem gu_s {α : Type} (f : Nat → α) (k : Nat) (x : α) : gu f k x k = x := if_pos rfl
theorem gu_n {α : Type} (f : Nat → α) {k j : Nat} (x : α) (h : j ≠ k) : gu f k x j = f j := if_neg h
theorem and_b1z {v : Nat} (hv : v < 32) {a : Int32} : a &&& b1 v = 0 ↔ bt a v = false := by
  rw [and_eq0]
  constructor
  · intro h
    cases hb : bt a v with
    | false => rfl
    | true => exact (h v hb (by rw [b_b1 hv]; simp)).elim
  · intro h i h1 h2
    rw [b_b1 hv, decide_eq_true_eq] at h2
    subst h2
    rw [h] at h1; cases h1
theorem tPos_gu {vr : Nat → Nat} {len k v u : Nat} (h : k ≤ len) : tPos (gu vr len v) k u ↔ tPos vr k u := by
  constructor
  · rintro ⟨i, hi, e⟩
    rw [gu_n _ _ (by omega)] at e
    exact ⟨i, hi, e⟩
  · rintro ⟨i, hi, e⟩
    exact ⟨i, hi, by rw [gu_n _ _ (by omega)]; exact e⟩
theorem tPos_gu1 {vr : Nat → Nat} {len v u : Nat} : tPos (gu vr len v) (len + 1) u ↔ (tPos vr len u ∨ u = v) := by
  constructor
  · rintro ⟨i, hi, e⟩
    by_cases q : i = len
    · subst q
      rw [gu_s] at e
      exact Or.inr e.symm
    · rw [gu_n _ _ q] at e
      exact Or.inl ⟨i, by omega, e⟩
  · rintro (⟨i, hi, e⟩ | e)
    · exact ⟨i, by omega, by rw [gu_n _ _ (by omega)]; exact e⟩
    · exact ⟨len, by omega, by rw [gu_s]; exact e.symm⟩
def push (tr : tTrail) (len v : Nat) (a b : Int32) : tTrail := tTrail.mk (if (a &&& b1 v) = 0 then tr.trues else tr.trues ||| b1 v) (if (a &&& b1 v) = 0 then tr.falses ||| b1 v else tr.falses) (nI (len + 1)) tr.level (upd tr.order len (b1 v)) (upd tr.whyTrue len a) (upd tr.whyFalse len b) tr.ahead
def bk (tr : tTrail) (t q : Nat) : tTrail := tTrail.mk (tr.trues &&& tr.ahead (t + 1)) (tr.falses &&& tr.ahead (t + 1)) (nI q) (nI t) tr.order tr.whyTrue tr.whyFalse tr.ahead
theorem push_t (tr : tTrail) (len : Nat) {v : Nat} (hv : v < 32) (a b : Int32) (u : Nat) : bt (push tr len v a b).trues u = (bt tr.trues u || (decide (u = v) && bt a v)) := by
  show bt (if (a &&& b1 v) = 0 then tr.trues else tr.trues ||| b1 v) u = _
  by_cases c : a &&& b1 v = 0
  · rw [if_pos c, (and_b1z hv).mp c]; simp
  · have e : bt a v = true := by
      cases hb : bt a v with
      | true => rfl
      | false => exact absurd ((and_b1z hv).mpr hb) c
    rw [if_neg c, b_or, b_b1 hv, e]; simp
theorem push_f (tr : tTrail) (len : Nat) {v : Nat} (hv : v < 32) (a b : Int32) (u : Nat) : bt (push tr len v a b).falses u = (bt tr.falses u || (decide (u = v) && !bt a v)) := by
  show bt (if (a &&& b1 v) = 0 then tr.falses ||| b1 v else tr.falses) u = _
  by_cases c : a &&& b1 v = 0
  · rw [if_pos c, b_or, b_b1 hv, (and_b1z hv).mp c]; simp
  · have e : bt a v = true := by
      cases hb : bt a v with
      | true => rfl
      | false => exact absurd ((and_b1z hv).mpr hb) c
    rw [if_neg c, e]; simp
section PUSH
variable {tr : tTrail} {w len lev : Nat} {vr p : Nat → Nat}
theorem s_conclude (h : isTR tr w len lev vr p) (hl : len < 30) {v : Nat} {a b : Int32} {Q : tTrail → Prop} (hq : Q (push tr len v a b)) : w_Trail_conclude (b1 v) a b tr Q := by
  have e : tr.length = nI len := h.1
  have hin : vp_in (nI len) 30 := vp_in_nI hl (by omega)
  rw [w_Trail_conclude, e, nI_1, nI_clamp (by omega)]
  refine ⟨fun _ => ⟨hin, hin, hin, fun c => ?_, fun c => ?_⟩, fun c => absurd (ti_lt.mpr (by rw [nI_toInt (by omega)]; show (len : Int) < 30; omega)) c⟩
  · rw [push, if_pos c, if_pos c] at hq; exact hq
  · rw [push, if_neg c, if_neg c] at hq; exact hq
theorem tr_push (h : isTR tr w len lev vr p) (hw : w ≤ 30) {v : Nat} (hv : v < w) (ho : ¬ tPos vr len v) (a b : Int32) : isTR (push tr len v a b) w (len + 1) lev (gu vr len v) p := by
  obtain ⟨g1, g2, g3, g4, g5, g6, g7, g8, g9⟩ := h
  have hv2 : v < 32 := by omega
  have nb : ¬ (bt tr.trues v = true ∨ bt tr.falses v = true) := fun q => ho ((g7 v).mp q)
  refine ⟨rfl, g2, g3, fun i hi => ?_, fun i j hi hj e => ?_, fun u h1 h2 => ?_, fun u => ?_, fun k h1 h2 => ?_, g9⟩
  · show upd tr.order len (b1 v) i = _ ∧ _
    by_cases e : i = len
    · subst e; rw [pk_us, gu_s]; exact ⟨rfl, hv⟩
    · rw [pk_un e, gu_n _ _ e]; exact g4 i (by omega)
  · by_cases e1 : i = len
    · by_cases e2 : j = len
      · omega
      · subst e1
        rw [gu_s, gu_n _ _ e2] at e
        exact (ho ⟨j, by omega, e.symm⟩).elim
    · by_cases e2 : j = len
      · subst e2
        rw [gu_s, gu_n _ _ e1] at e
        exact (ho ⟨i, by omega, e⟩).elim
      · rw [gu_n _ _ e1, gu_n _ _ e2] at e
        exact g5 i j (by omega) (by omega) e
  · rw [push_t _ _ hv2, Bool.or_eq_true] at h1
    rw [push_f _ _ hv2, Bool.or_eq_true] at h2
    by_cases e : u = v
    · subst e
      rcases h1 with h1 | h1
      · exact nb (Or.inl h1)
      · rcases h2 with h2 | h2
        · exact nb (Or.inr h2)
        · simp at h1 h2
          rw [h1] at h2; cases h2
    · simp [e] at h1 h2
      exact g6 u h1 h2
  · rw [push_t _ _ hv2, push_f _ _ hv2, tPos_gu1, ← g7 u]
    by_cases e : u = v
    · subst e
      cases bt a u <;> simp
    · simp [e]
  · obtain ⟨q1, q2⟩ := g8 k h1 h2
    exact ⟨by omega, fun u => by rw [tPos_gu q1]; exact q2 u⟩
theorem tr_back (h : isTR tr w len lev vr p) {t : Nat} (ht : t < lev) : isTR (bk tr t (p (t + 1))) w (p (t + 1)) t vr p := by
  obtain ⟨g1, g2, g3, g4, g5, g6, g7, g8, g9⟩ := h
  obtain ⟨q1, q2⟩ := g8 (t + 1) (by omega) (by omega)
  refine ⟨rfl, rfl, by omega, fun i hi => g4 i (by omega), fun i j hi hj => g5 i j (by omega) (by omega), fun v h1 h2 => ?_, fun v => ?_, fun k h1 h2 => ⟨g9 k (t + 1) h1 (by omega) (by omega), (g8 k h1 (by omega)).2⟩, fun j k h1 h2 h3 => g9 j k h1 h2 (by omega)⟩
  · have e1 : bt (tr.trues &&& tr.ahead (t + 1)) v = true := h1
    have e2 : bt (tr.falses &&& tr.ahead (t + 1)) v = true := h2
    rw [b_and, Bool.and_eq_true] at e1 e2
    exact g6 v e1.1 e2.1
  · show bt (tr.trues &&& tr.ahead (t + 1)) v = true ∨ bt (tr.falses &&& tr.ahead (t + 1)) v = true ↔ _
    rw [b_and, b_and, Bool.and_eq_true, Bool.and_eq_true, q2 v]
    constructor
    · rintro (h | h)
      · exact h.2
      · exact h.2
    · intro h
      rcases (g7 v).mpr (tPos_le q1 h) with g | g
      · exact Or.inl ⟨g, h⟩
      · exact Or.inr ⟨g, h⟩
theorem s_back (hw : w ≤ 30) (h : isTR tr w len lev vr p) {t : Nat} (ht : t < 31) {Q : tTrail → Prop} (h1 : t < lev → Q (bk tr t (p (t + 1)))) (h2 : lev ≤ t → Q tr) : w_Trail_back (nI t) tr Q := by
  have e : tr.level = nI lev := h.2.1
  have hl : lev ≤ 31 := h.2.2.1
  rw [w_Trail_back, e, nI_1, nI_clamp (by omega)]
  refine ⟨fun c => absurd c (nI_pos (by omega)), fun _ => ⟨fun c => ⟨vp_in_nI (by omega) (by omega), ?_⟩, fun c => h2 ?_⟩⟩
  · rw [nI_ltI (by omega) (by omega)] at c
    refine s_bitCount ?_
    rw [tr_pc hw h (by omega) (by omega)]
    exact h1 c
  · rw [nI_ltI (by omega) (by omega)] at c
    omega
end PUSH
