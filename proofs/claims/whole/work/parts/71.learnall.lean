/-! the search: learn -/
section LEARN2
variable {n : Nat} {t f : Nat → Int32} {fl : Nat} {y no : Int32} {tr : tTrail} {w len lev : Nat} {vr p : Nat → Nat} {dg : Nat → Bool} {fr lr : tRows} {m ls : Nat}
theorem s_learn (h : TI n t f (RW fr lr m ls) fl y no tr w len lev vr p dg) (hw : w ≤ 30) (hR : ROK n t f (RW fr lr m ls) w) (hlr : isLR lr ls) (hl : fl < lev) {sk : tClash} (hc : RW fr lr m ls sk.clashTrue sk.clashFalse) (hfal : ∀ v, (bt sk.clashTrue v = true → bt tr.falses v = true) ∧ (bt sk.clashFalse v = true → bt tr.trues v = true)) {Q : tRows → tTrail → Prop}
    (hq : ∀ lr' ls' tr' len' s vr' dg', isLR lr' ls' → ROK n t f (RW fr lr' m ls') w → s < lev → TI n t f (RW fr lr' m ls') fl y no tr' w len' s vr' p dg' → vd dg len < vd dg' len' → Q lr' tr') : w_Sear_learn lr sk tr Q := by
  have hk := h.1
  have hlen := tr_len hk
  have e : tr.level = nI lev := hk.2.1
  have l31 : lev ≤ 31 := hk.2.2.1
  have g6 := hk.2.2.2.2.2.1
  have g7 := hk.2.2.2.2.2.2.1
  have g8 := hk.2.2.2.2.2.2.2.1
  have g9 := hk.2.2.2.2.2.2.2.2
  have hsm := tr_sm hw hk
  obtain ⟨q1, q2⟩ := g8 lev (by omega) (Nat.le_refl _)
  obtain ⟨r1, r2⟩ := g8 1 (by omega) (by omega)
  have q3 := g9 1 lev (by omega) (by omega) (Nat.le_refl _)
  have e1 : (1 : Int32).toNatClampNeg = 1 := rfl
  rw [w_Sear_learn, e, nI_clamp (by omega), e1, hk.1]
  have hinit : LI n t f tr vr (p lev) len sk.clashTrue sk.clashFalse := by
    refine ⟨(hR _ _ hc).2.2, hfal, fun v hv => (g7 v).mp ?_, ?_⟩
    · rcases hv with g | g
      · exact Or.inr ((hfal v).1 g)
      · exact Or.inl ((hfal v).2 g)
    · obtain ⟨v, ⟨d1, d2⟩ | ⟨d1, d2⟩⟩ := h.2.2.2.2.2.2.1 lev (by omega) (Nat.le_refl _) _ _ hc
      · exact ⟨v, Or.inl d1, fun g => g6 v (d2 g) ((hfal v).1 d1)⟩
      · exact ⟨v, Or.inr d1, fun g => g6 v ((hfal v).2 d1) (d2 g)⟩
  refine ⟨vp_in_nI (by omega) (by omega), len + 1, ?_⟩
  refine l_learn h hw hl ?_ (len + 1) len _ _ (Nat.le_refl _) hinit (by omega)
  intro a b u i1 i2 i3 hu hu2 hpos
  refine ⟨vp_in_nI (n := 1) (by omega) (by omega), ?_⟩
  have sa : sm a := fun v hv => by
    cases ha : bt a v with
    | false => rfl
    | true => have := (i2 v).1 ha; rw [hsm.2 v hv] at this; cases this
  have sb : sm b := fun v hv => by
    cases hb : bt b v with
    | false => rfl
    | true => have := (i2 v).2 hb; rw [hsm.1 v hv] at this; cases this
  have ba : ∀ v, bt (a &&& (tr.ahead 1 ^^^ (-1))) v = true ↔ bt a v = true ∧ ¬ tPos vr (p 1) v := fun v => by
    rw [andn_bit sa, Bool.and_eq_true, ← r2 v]; simp
  have bb : ∀ v, bt (b &&& (tr.ahead 1 ^^^ (-1))) v = true ↔ bt b v = true ∧ ¬ tPos vr (p 1) v := fun v => by
    rw [andn_bit sb, Bool.and_eq_true, ← r2 v]; simp
  have sa1 : sm (a &&& (tr.ahead 1 ^^^ (-1))) := sm_andl sa
  have sb1 : sm (b &&& (tr.ahead 1 ^^^ (-1))) := sm_andl sb
  generalize a &&& (tr.ahead 1 ^^^ (-1)) = a1 at *
  generalize b &&& (tr.ahead 1 ^^^ (-1)) = c1 at *
  have dis : ∀ v, bt a v = true → bt b v = true → False := fun v g1 g2 => g6 v ((i2 v).2 g2) ((i2 v).1 g1)
  have himp : IMP n t f a1 c1 := fun x hx => by
    have agr0 := ti_agree h hx (K := p 1) r1 (fun i hi hd => by
      exfalso
      rcases h.2.2.1 i (by omega) hd with ⟨k, d1, d2, d3⟩ | ⟨d1, d2, d3, d4, d5⟩
      · have := g9 1 k (by omega) (by omega) d2
        omega
      · omega) (p 1) (Nat.le_refl _)
    obtain ⟨v, hv⟩ := i1 x hx
    refine ⟨v, ?_⟩
    rcases hv with ⟨s1, s2⟩ | ⟨s1, s2⟩
    · refine Or.inl ⟨(ba v).mpr ⟨s1, fun ⟨i, hi, ei⟩ => ?_⟩, s2⟩
      have := (agr0 i hi).2 (by rw [ei]; exact (i2 v).1 s1)
      rw [ei, s2] at this; cases this
    · refine Or.inr ⟨(bb v).mpr ⟨s1, fun ⟨i, hi, ei⟩ => ?_⟩, s2⟩
      have := (agr0 i hi).1 (by rw [ei]; exact (i2 v).2 s1)
      rw [ei, s2] at this; cases this
  have hu0 : ¬ tPos vr (p 1) u := fun g => hu2 (tPos_le q3 g)
  have huw : u < w := by
    obtain ⟨i, hi, ei⟩ := i3 u hu
    rw [← ei]
    exact (hk.2.2.2.1 i hi).2
  have hu32 : u < 32 := by omega
  have hlit : (bt a1 u = true ∧ bt c1 u = false) ∨ (bt c1 u = true ∧ bt a1 u = false) := by
    rcases hu with g | g
    · refine Or.inl ⟨(ba u).mpr ⟨g, hu0⟩, ?_⟩
      cases hb : bt c1 u with
      | false => rfl
      | true => exact (dis u g ((bb u).mp hb).1).elim
    · refine Or.inr ⟨(bb u).mpr ⟨g, hu0⟩, ?_⟩
      cases hb : bt a1 u with
      | false => rfl
      | true => exact (dis u ((ba u).mp hb).1 g).elim
  have hmask : (a1 ||| c1) &&& (tr.ahead lev ^^^ (-1)) = b1 u := by
    refine b_ext (fun v _ => ?_)
    rw [andn_bit (sm_or sa1 sb1), b_or, b_b1 hu32]
    by_cases ev : v = u
    · subst ev
      have hnl : bt (tr.ahead lev) v = false := by
        cases hb : bt (tr.ahead lev) v with
        | false => rfl
        | true => exact (hu2 ((q2 v).mp hb)).elim
      rw [hnl]
      rcases hlit with ⟨g, _⟩ | ⟨g, _⟩ <;> simp [g]
    · have no : (bt a1 v || bt c1 v) = true → bt (tr.ahead lev) v = true := fun g => by
        rw [Bool.or_eq_true] at g
        refine (q2 v).mpr (hpos v ev ?_)
        rcases g with g | g
        · exact Or.inl ((ba v).mp g).1
        · exact Or.inr ((bb v).mp g).1
      cases hb : (bt a1 v || bt c1 v) with
      | false => simp [ev]
      | true => rw [no hb]; simp [ev]
  rw [hmask]
  refine s_addLR hlr (fun lr' ls' h1 h2 => ?_)
  have hsub : ∀ a' b', RW fr lr' m ls' a' b' → RW fr lr m ls a' b' ∨ (a' = a1 ∧ b' = c1) := fun a' b' g => by
    rcases g with ⟨i, hi, ea, eb⟩ | ⟨i, hi, ea, eb⟩
    · exact Or.inl (Or.inl ⟨i, hi, ea, eb⟩)
    · rcases h2 i hi with ⟨d1, d2⟩ | ⟨d1, d2, d3⟩
      · exact Or.inr ⟨by rw [← ea, d1], by rw [← eb, d2]⟩
      · exact Or.inl (Or.inr ⟨i, d1, by rw [← ea, d2], by rw [← eb, d3]⟩)
  have hR2 : ROK n t f (RW fr lr' m ls') w := fun a' b' g => by
    rcases hsub a' b' g with g | ⟨ea, eb⟩
    · exact hR a' b' g
    · subst ea
      subst eb
      refine ⟨⟨sa1, sb1, fun v g1 g2 => dis v ((ba v).mp g1).1 ((bb v).mp g2).1⟩, fun v hv => ?_, himp⟩
      have : bt a v = true ∨ bt b v = true := by
        rcases hv with g | g
        · exact Or.inl ((ba v).mp g).1
        · exact Or.inr ((bb v).mp g).1
      obtain ⟨i, hi, ei⟩ := i3 v this
      rw [← ei]
      exact (hk.2.2.2.1 i hi).2
  refine s_revise h hw (by omega) huw sa1 sb1 hu2 himp hlit (fun v _ => ⟨fun g => (i2 v).1 ((ba v).mp g).1, fun g => (i2 v).2 ((bb v).mp g).1⟩) (fun v hv g => hpos v hv ?_) hsub (fun tr' len' s vr' dg' hs hT hv => hq lr' ls' tr' len' s vr' dg' h1 hR2 hs hT hv)
  rcases g with g | g
  · exact Or.inl ((ba v).mp g).1
  · exact Or.inr ((bb v).mp g).1
end LEARN2
