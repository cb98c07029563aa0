/-! the search: one pass over rows -/
def vd (dg : Nat → Bool) : Nat → Nat
  | 0 => 0
  | k + 1 => vd dg k + if dg k = true then 2 ^ (29 - k) else 0
theorem vd_cong {d e : Nat → Bool} : ∀ k, (∀ i, i < k → d i = e i) → vd d k = vd e k := by
  intro k
  induction k with
  | zero => intro _; rfl
  | succ k ih => intro h; rw [vd, vd, ih (fun i hi => h i (by omega)), h k (by omega)]
theorem vd_gu (dg : Nat → Bool) (k : Nat) (b : Bool) : vd (gu dg k b) (k + 1) = vd dg k + if b = true then 2 ^ (29 - k) else 0 := by
  rw [vd, gu_s, vd_cong k (fun i hi => gu_n dg b (by omega))]
def ROK (n : Nat) (t f : Nat → Int32) (R : Int32 → Int32 → Prop) (w : Nat) : Prop := ∀ a b, R a b → rOk a b ∧ (∀ v, bt a v = true ∨ bt b v = true → v < w) ∧ IMP n t f a b
theorem opn_bit {a b : Int32} (h : rOk a b) (tr : tTrail) (v : Nat) : bt ((a ||| b) &&& ((tr.trues ||| tr.falses) ^^^ (-1))) v = true ↔ rop tr a b v := by
  rcases Nat.lt_or_ge v 32 with q | q
  · rw [b_and, b_not _ q, b_or, b_or]
    unfold rop
    cases bt a v <;> cases bt b v <;> cases bt tr.trues v <;> cases bt tr.falses v <;> simp
  · constructor
    · intro g; rw [b_big q] at g; cases g
    · rintro ⟨g, _⟩
      rw [h.1 v (by omega), h.2.1 v (by omega)] at g
      rcases g with g | g <;> cases g
section HOLDS
variable {n : Nat} {t f : Nat → Int32} {R : Int32 → Int32 → Prop} {fl : Nat} {y no : Int32} {w lev : Nat} {p : Nat → Nat}
theorem l_pass (hw : w ≤ 30) (hR : ROK n t f R w) {fr : tRows} {m : Nat} (hm : m ≤ fr.room) (hroom : fr.room ≤ 2048) (hrow : ∀ i, i < m → R (fr.wantTrue i) (fr.wantFalse i)) {len0 v0 : Nat} {tr0 : tTrail} {K : tClash → tTrail → Prop} {Q : Int32 → tClash → tTrail → Prop}
    (hQ : ∀ sk tr len vr dg, TI n t f R fl y no tr w len lev vr p dg → len0 ≤ len → v0 ≤ vd dg len → R sk.clashTrue sk.clashFalse → (∀ v, (bt sk.clashTrue v = true → bt tr.falses v = true) ∧ (bt sk.clashFalse v = true → bt tr.trues v = true)) → Q 0 sk tr)
    (hK : ∀ sk tr len vr dg, TI n t f R fl y no tr w len lev vr p dg → len0 ≤ len → v0 ≤ vd dg len → (len = len0 → tr = tr0 ∧ ∀ i, i < m → rFX tr (fr.wantTrue i) (fr.wantFalse i)) → K sk tr) :
    ∀ nn i sk tr len vr dg, i ≤ m → TI n t f R fl y no tr w len lev vr p dg → len0 ≤ len → v0 ≤ vd dg len → (len = len0 → tr = tr0 ∧ ∀ j, j < i → rFX tr (fr.wantTrue j) (fr.wantFalse j)) → m - i < nn → w_Sear_holds_L2 (nI m) fr K Q nn (nI i) sk tr := by
  intro nn
  induction nn with
  | zero => intro i _ _ _ _ _ _ _ _ _ _ h; omega
  | succ nn ih =>
    intro i sk tr len vr dg hi hT hl hv hx hn
    rw [w_Sear_holds_L2]
    refine pk_le m i (fun c => ?_) (fun c => ?_)
    · have e : i = m := by omega
      subst e
      exact hK sk tr len vr dg hT hl hv hx
    · have hin : vp_in (nI i) fr.room := vp_in_nI (by omega) (by omega)
      rw [nI_clamp (by omega), nI_1]
      have hr := hrow i c
      have next : rFX tr (fr.wantTrue i) (fr.wantFalse i) → w_Sear_holds_L2 (nI m) fr K Q nn (nI (i + 1)) sk tr := fun g => by
        refine ih (i + 1) sk tr len vr dg (by omega) hT hl hv (fun e => ⟨(hx e).1, fun j hj => ?_⟩) (by omega)
        by_cases q : j = i
        · subst q; exact g
        · exact (hx e).2 j (by omega)
      generalize fr.wantTrue i = a at *
      generalize fr.wantFalse i = b at *
      obtain ⟨ok, hlt, himp⟩ := hR a b hr
      have hk := hT.1
      have g6 := hk.2.2.2.2.2.1
      have g7 := hk.2.2.2.2.2.2.1
      have g8 := hk.2.2.2.2.2.2.2.1
      have hob := opn_bit ok tr
      refine ⟨hin, hin, fun c1 => next (Or.inl ?_), fun c1 => ⟨fun c2 => ?_, fun c2 => ?_⟩⟩
      · rw [or_eq0] at c1
        by_cases q : a &&& tr.trues = 0
        · have q2 : ¬ b &&& tr.falses = 0 := fun e => c1 ⟨q, e⟩
          obtain ⟨v, h1, h2⟩ := and_ne0.mp q2
          exact ⟨v, Or.inr ⟨h1, h2⟩⟩
        · obtain ⟨v, h1, h2⟩ := and_ne0.mp q
          exact ⟨v, Or.inl ⟨h1, h2⟩⟩
      · rw [or_eq0] at c1
        obtain ⟨c3, c4⟩ := c1
        have nT : ∀ v, bt a v = true → bt tr.trues v = true → False := and_eq0.mp c3
        have nF : ∀ v, bt b v = true → bt tr.falses v = true → False := and_eq0.mp c4
        generalize (a ||| b) &&& ((tr.trues ||| tr.falses) ^^^ (-1)) = o at *
        refine s_several (fun c5 => ⟨fun c => absurd rfl c, fun _ => ?_⟩) (fun c5 => ⟨fun _ => next (Or.inr ?_), fun c => absurd c z01⟩)
        · obtain ⟨v, hv2, e⟩ := pred_zero c2 c5
          subst e
          have hv3 := (hob v).mp (by rw [b_b1 hv2]; simp)
          have only : ∀ u, rop tr a b u → u = v := fun u g => by
            have := (hob u).mpr g
            rw [b_b1 hv2] at this
            simpa using this
          have ho : ¬ tPos vr len v := fun g => by
            rcases (g7 v).mpr g with g | g
            · rw [hv3.2.1] at g; cases g
            · rw [hv3.2.2] at g; cases g
          have hvw := hlt v hv3.1
          have hlp : 1 ≤ lev → p lev < len := fun h1 => by
            rcases Nat.lt_or_ge (p lev) len with q | q
            · exact q
            · have h2 := (g8 lev h1 (Nat.le_refl _)).1
              rcases hT.2.2.2.2.2.2.2 h1 (by omega) a b hr with ⟨u, ⟨d1, d2⟩ | ⟨d1, d2⟩⟩ | ⟨u, u2, d1, d2, d3⟩
              · exact (nT u d1 d2).elim
              · exact (nF u d1 d2).elim
              · exact (d1 ((only u d2).trans (only u2 d3).symm)).elim
          have hlit : (bt a v = true ∧ bt b v = false) ∨ (bt b v = true ∧ bt a v = false) := by
            have d := ok.2.2 v
            cases ha : bt a v with
            | true =>
              cases hb : bt b v with
              | true => exact (d ha hb).elim
              | false => exact Or.inl ⟨rfl, rfl⟩
            | false =>
              cases hb : bt b v with
              | true => exact Or.inr ⟨rfl, rfl⟩
              | false => rcases hv3.1 with g | g
                         · rw [ha] at g; cases g
                         · rw [hb] at g; cases g
          have hoth : ∀ u, u ≠ v → (bt a u = true → bt tr.falses u = true) ∧ (bt b u = true → bt tr.trues u = true) := fun u hu => by
            have nr : ¬ rop tr a b u := fun g => hu (only u g)
            refine ⟨fun g => ?_, fun g => ?_⟩
            · cases hb : bt tr.falses u with
              | true => rfl
              | false =>
                cases hb2 : bt tr.trues u with
                | true => exact (nT u g hb2).elim
                | false => exact (nr ⟨Or.inl g, hb2, hb⟩).elim
            · cases hb : bt tr.trues u with
              | true => rfl
              | false =>
                cases hb2 : bt tr.falses u with
                | true => exact (nF u g hb2).elim
                | false => exact (nr ⟨Or.inr g, hb, hb2⟩).elim
          have hT2 := ti_con hT hw hvw ho himp hlit hoth hlp
          have hl2 := tr_len hT2.1
          refine s_conclude hk (by omega) ?_
          refine ih (i + 1) sk _ (len + 1) _ _ (by omega) hT2 (by omega) ?_ (fun e => by omega) (by omega)
          rw [vd_gu, if_pos rfl]
          exact Nat.le_trans hv (Nat.le_add_right _ _)
        · obtain ⟨u, v, h1, h2, h3⟩ := pred_some c5
          exact ⟨u, v, by omega, (hob u).mp h2, (hob v).mp h3⟩
      · rw [or_eq0] at c1
        obtain ⟨c3, c4⟩ := c1
        have nT : ∀ v, bt a v = true → bt tr.trues v = true → False := and_eq0.mp c3
        have nF : ∀ v, bt b v = true → bt tr.falses v = true → False := and_eq0.mp c4
        have nr : ∀ u, ¬ rop tr a b u := fun u g => by
          have := (hob u).mpr g
          rw [c2, b_0] at this; cases this
        refine hQ _ tr len vr dg hT hl hv hr (fun u => ⟨fun g => ?_, fun g => ?_⟩)
        · cases hb : bt tr.falses u with
          | true => rfl
          | false =>
            cases hb2 : bt tr.trues u with
            | true => exact (nT u g hb2).elim
            | false => exact (nr u ⟨Or.inl g, hb2, hb⟩).elim
        · cases hb : bt tr.trues u with
          | true => rfl
          | false =>
            cases hb2 : bt tr.falses u with
            | true => exact (nF u g hb2).elim
            | false => exact (nr u ⟨Or.inr g, hb, hb2⟩).elim
end HOLDS
