/-! the search: what a clash teaches -/
section LEARN
variable {n : Nat} {t f : Nat → Int32} {R : Int32 → Int32 → Prop} {fl : Nat} {y no : Int32} {tr : tTrail} {w len lev : Nat} {vr p : Nat → Nat} {dg : Nat → Bool}
def LI (n : Nat) (t f : Nat → Int32) (tr : tTrail) (vr : Nat → Nat) (q k : Nat) (a b : Int32) : Prop := IMP n t f a b ∧ (∀ v, (bt a v = true → bt tr.falses v = true) ∧ (bt b v = true → bt tr.trues v = true)) ∧ (∀ v, (bt a v = true ∨ bt b v = true) → tPos vr k v) ∧ ∃ v, (bt a v = true ∨ bt b v = true) ∧ ¬ tPos vr q v
theorem li_res (h : TI n t f R fl y no tr w len lev vr p dg) (hw : w ≤ 30) {q : Nat} (hq : q < len) (hd : dg q = true) {a b : Int32} (hi : LI n t f tr vr (p lev) (q + 1) a b) (hz : bt a (vr q) = true ∨ bt b (vr q) = true) {u : Nat} (hu : u ≠ vr q) (hu1 : bt a u = true ∨ bt b u = true) (hu2 : ¬ tPos vr (p lev) u) : LI n t f tr vr (p lev) q ((a ||| tr.whyTrue q) &&& (b1 (vr q) ^^^ (-1))) ((b ||| tr.whyFalse q) &&& (b1 (vr q) ^^^ (-1))) := by
  obtain ⟨k1, k2, -⟩ := h
  have g6 := k1.2.2.2.2.2.1
  have hzw := (k1.2.2.2.1 q hq).2
  obtain ⟨i1, i2, i3, -⟩ := hi
  obtain ⟨c1, c2, c3⟩ := k2 q hq hd
  generalize hzz : vr q = z at *
  generalize tr.whyTrue q = wt' at *
  generalize tr.whyFalse q = wf' at *
  have hz32 : z < 32 := by omega
  have ba : ∀ v, bt ((a ||| wt') &&& (b1 z ^^^ (-1))) v = true ↔ (bt a v = true ∨ bt wt' v = true) ∧ v ≠ z := fun v => by
    rw [and_nb1 hz32, b_or, Bool.and_eq_true, Bool.or_eq_true, decide_eq_true_eq]
  have bb : ∀ v, bt ((b ||| wf') &&& (b1 z ^^^ (-1))) v = true ↔ (bt b v = true ∨ bt wf' v = true) ∧ v ≠ z := fun v => by
    rw [and_nb1 hz32, b_or, Bool.and_eq_true, Bool.or_eq_true, decide_eq_true_eq]
  have dis : bt a z = true → bt b z = true → False := fun g1 g2 => g6 z ((i2 z).2 g2) ((i2 z).1 g1)
  refine ⟨fun x hx => ?_, fun v => ⟨fun g => ?_, fun g => ?_⟩, fun v g => ?_, u, ?_, hu2⟩
  · obtain ⟨v1, h1⟩ := i1 x hx
    obtain ⟨v2, h2⟩ := c1 x hx
    by_cases e1 : v1 = z
    · by_cases e2 : v2 = z
      · exfalso
        subst e1
        rw [e2] at h2
        rcases c2 with ⟨d1, d2, d3⟩ | ⟨d1, d2, d3⟩
        · have hx2 : x v1 = true := by
            rcases h2 with ⟨_, s⟩ | ⟨s, _⟩
            · exact s
            · rw [d3] at s; cases s
          rcases h1 with ⟨s1, _⟩ | ⟨_, s2⟩
          · exact g6 _ d1 ((i2 _).1 s1)
          · rw [hx2] at s2; cases s2
        · have hx2 : x v1 = false := by
            rcases h2 with ⟨s, _⟩ | ⟨_, s⟩
            · rw [d3] at s; cases s
            · exact s
          rcases h1 with ⟨_, s2⟩ | ⟨s1, _⟩
          · rw [hx2] at s2; cases s2
          · exact g6 _ ((i2 _).2 s1) d1
      · rcases h2 with ⟨s1, s2⟩ | ⟨s1, s2⟩
        · exact ⟨v2, Or.inl ⟨(ba v2).mpr ⟨Or.inr s1, e2⟩, s2⟩⟩
        · exact ⟨v2, Or.inr ⟨(bb v2).mpr ⟨Or.inr s1, e2⟩, s2⟩⟩
    · rcases h1 with ⟨s1, s2⟩ | ⟨s1, s2⟩
      · exact ⟨v1, Or.inl ⟨(ba v1).mpr ⟨Or.inl s1, e1⟩, s2⟩⟩
      · exact ⟨v1, Or.inr ⟨(bb v1).mpr ⟨Or.inl s1, e1⟩, s2⟩⟩
  · obtain ⟨g1, g2⟩ := (ba v).mp g
    rcases g1 with g1 | g1
    · exact (i2 v).1 g1
    · exact ((c3 v g2).1 g1).1
  · obtain ⟨g1, g2⟩ := (bb v).mp g
    rcases g1 with g1 | g1
    · exact (i2 v).2 g1
    · exact ((c3 v g2).2 g1).1
  · have old : (bt a v = true ∨ bt b v = true) → v ≠ z → tPos vr q v := fun g1 g2 => by
      obtain ⟨i, hi, ei⟩ := i3 v g1
      refine ⟨i, ?_, ei⟩
      have : i ≠ q := fun e => g2 (by rw [← ei, e]; exact hzz)
      omega
    rcases g with g | g
    · obtain ⟨g1, g2⟩ := (ba v).mp g
      rcases g1 with g1 | g1
      · exact old (Or.inl g1) g2
      · exact ((c3 v g2).1 g1).2
    · obtain ⟨g1, g2⟩ := (bb v).mp g
      rcases g1 with g1 | g1
      · exact old (Or.inr g1) g2
      · exact ((c3 v g2).2 g1).2
  · rcases hu1 with g | g
    · exact Or.inl ((ba u).mpr ⟨Or.inl g, hu⟩)
    · exact Or.inr ((bb u).mpr ⟨Or.inl g, hu⟩)
theorem l_learn (h : TI n t f R fl y no tr w len lev vr p dg) (hw : w ≤ 30) (hl : fl < lev) {K : Int32 → Int32 → Prop}
    (hK : ∀ a b u, IMP n t f a b → (∀ v, (bt a v = true → bt tr.falses v = true) ∧ (bt b v = true → bt tr.trues v = true)) → (∀ v, (bt a v = true ∨ bt b v = true) → tPos vr len v) → (bt a u = true ∨ bt b u = true) → ¬ tPos vr (p lev) u → (∀ v, v ≠ u → (bt a v = true ∨ bt b v = true) → tPos vr (p lev) v) → K a b) :
    ∀ nn k a b, k ≤ len → LI n t f tr vr (p lev) k a b → k < nn → w_Sear_learn_L37 (tr.ahead lev) tr K nn a b (nI k - 1) := by
  have hk := h.1
  have hlen := tr_len hk
  have g6 := hk.2.2.2.2.2.1
  have g9 := hk.2.2.2.2.2.2.2.2
  obtain ⟨q1, q2⟩ := hk.2.2.2.2.2.2.2.1 lev (by omega) (Nat.le_refl _)
  have hsm := tr_sm hw hk
  intro nn
  induction nn with
  | zero => intro k _ _ _ _ hn; omega
  | succ nn ih =>
    intro k a b hkl hi hn
    rw [w_Sear_learn_L37]
    cases k with
    | zero =>
      obtain ⟨_, _, i3, v, hv, _⟩ := hi
      obtain ⟨i, hi2, _⟩ := i3 v hv
      omega
    | succ q =>
      rw [nI_pred]
      refine ⟨fun c => absurd c (nI_pos (by omega)), fun _ => ?_⟩
      have hi' := hi
      obtain ⟨i1, i2, i3, v0, hv0, hv1⟩ := hi
      have sab : sm (a ||| b) := fun v hv => by
        rw [b_or]
        cases ha : bt a v with
        | true => have := (i2 v).1 ha; rw [hsm.2 v hv] at this; cases this
        | false =>
          cases hb : bt b v with
          | true => have := (i2 v).2 hb; rw [hsm.1 v hv] at this; cases this
          | false => rfl
      have hob : ∀ v, bt ((a ||| b) &&& (tr.ahead lev ^^^ (-1))) v = true ↔ (bt a v = true ∨ bt b v = true) ∧ ¬ tPos vr (p lev) v := fun v => by
        rw [andn_bit sab, b_or, Bool.and_eq_true, Bool.or_eq_true, ← q2 v]
        simp
      generalize (a ||| b) &&& (tr.ahead lev ^^^ (-1)) = o at *
      have ho : ¬ o = 0 := fun e => by
        have := (hob v0).mpr ⟨hv0, hv1⟩
        rw [e, b_0] at this; cases this
      refine s_several (fun c5 => ⟨fun _ => ?_, fun c => absurd rfl c⟩) (fun c5 => ⟨fun c => absurd c z01, fun _ => ?_⟩)
      · obtain ⟨u, hu, e⟩ := pred_zero ho c5
        have hub : ∀ v, bt o v = true → v = u := fun v hv => by
          rw [e, b_b1 hu] at hv; simpa using hv
        have hu1 := (hob u).mp (by rw [e, b_b1 hu]; simp)
        refine hK a b u i1 i2 (fun v hv => tPos_le hkl (i3 v hv)) hu1.1 hu1.2 (fun v hv hv2 => ?_)
        refine Classical.byContradiction (fun q => hv (hub v ((hob v).mpr ⟨hv2, q⟩)))
      · obtain ⟨u1, u2, hlt, hu1, hu2⟩ := pred_some c5
        have a1 := (hob u1).mp hu1
        have a2 := (hob u2).mp hu2
        obtain ⟨j1, hj1, e1⟩ := i3 u1 a1.1
        obtain ⟨j2, hj2, e2⟩ := i3 u2 a2.1
        have n1 : p lev ≤ j1 := by
          rcases Nat.lt_or_ge j1 (p lev) with g | g
          · exact (a1.2 ⟨j1, g, e1⟩).elim
          · exact g
        have n2 : p lev ≤ j2 := by
          rcases Nat.lt_or_ge j2 (p lev) with g | g
          · exact (a2.2 ⟨j2, g, e2⟩).elim
          · exact g
        have n3 : j1 ≠ j2 := fun g => by rw [g, e2] at e1; omega
        have hin : vp_in (nI q) 30 := vp_in_nI (by omega) (by omega)
        obtain ⟨eo, hzw⟩ := hk.2.2.2.1 q (by omega)
        have hz32 : vr q < 32 := by omega
        rw [nI_clamp (by omega), eo]
        have em : nI q + (-1) = nI q - 1 := by rw [Int32.sub_eq_add_neg]
        rw [em]
        refine ⟨hin, fun c6 => ?_, fun c6 => ⟨hin, hin, ?_⟩⟩
        · have c7 := (and_b1z hz32).mp c6
          rw [b_or, Bool.or_eq_false_iff] at c7
          refine ih q a b (by omega) ⟨i1, i2, fun v hv => ?_, v0, hv0, hv1⟩ (by omega)
          obtain ⟨i, hi2, ei⟩ := i3 v hv
          refine ⟨i, ?_, ei⟩
          have : i ≠ q := fun g => by
            rw [← ei, g, c7.1, c7.2] at hv
            rcases hv with hv | hv <;> cases hv
          omega
        · have c7 : bt (a ||| b) (vr q) = true := by
            cases hb : bt (a ||| b) (vr q) with
            | true => rfl
            | false => exact absurd ((and_b1z hz32).mpr hb) c6
          rw [b_or, Bool.or_eq_true] at c7
          have hd : dg q = true := by
            cases hd : dg q with
            | true => rfl
            | false =>
              exfalso
              rcases h.2.2.1 q (by omega) hd with ⟨k, d1, d2, d3⟩ | ⟨d1, d2, d3, d4, d5⟩
              · have := g9 k lev (by omega) d2 (Nat.le_refl _)
                omega
              · have h2 := d4 (by omega)
                have := g9 2 lev (by omega) (by omega) (Nat.le_refl _)
                omega
          refine ih q _ _ (by omega) ?_ (by omega)
          by_cases e3 : u1 = vr q
          · exact li_res h hw (by omega) hd hi' c7 (u := u2) (fun g => by omega) a2.1 a2.2
          · exact li_res h hw (by omega) hd hi' c7 (u := u1) e3 a1.1 a1.2
end LEARN
