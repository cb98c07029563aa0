/-! the trail: what is asked for -/
theorem vd_mono (d : Nat → Bool) {j : Nat} : ∀ k, j ≤ k → vd d j ≤ vd d k := by
  intro k
  induction k with
  | zero => intro h; rw [show j = 0 by omega]; exact Nat.le_refl _
  | succ k ih =>
    intro h
    by_cases e : j = k + 1
    · rw [e]; exact Nat.le_refl _
    · rw [vd]
      exact Nat.le_trans (ih (by omega)) (Nat.le_add_right _ _)
section ASK
variable {n : Nat} {t f : Nat → Int32} {R : Int32 → Int32 → Prop} {y no : Int32} {tr : tTrail} {w len : Nat} {vr p : Nat → Nat} {dg : Nat → Bool}
theorem s_askAll (h : TI n t f R 1 y no tr w len 0 vr p dg) (hw : w ≤ 30) (hx : ∀ a b, R a b → rFX tr a b) (hy : ∀ v, bt y v = true ∨ bt no v = true → v < w) (hd : ∀ v, bt y v = true → bt no v = true → False) (c1 : y &&& tr.falses = 0) (c2 : no &&& tr.trues = 0) {Q : tTrail → Prop}
    (hq : ∀ tr' len' vr' dg', TI n t f R 1 y no tr' w len' 1 vr' (gu p 1 len) dg' → vd dg len ≤ vd dg' len' → Q tr') : w_Trail_suppose y no tr Q := by
  obtain ⟨k1, k2, k3, k4, k5, k6, k7, k8⟩ := h
  have e : tr.level = nI 0 := k1.2.1
  have hin : vp_in (nI 1) 32 := vp_in_nI (by omega) (by omega)
  have g7 := k1.2.2.2.2.2.2.1
  have nT : ∀ v, bt y v = true → bt tr.falses v = true → False := and_eq0.mp c1
  have nF : ∀ v, bt no v = true → bt tr.trues v = true → False := and_eq0.mp c2
  rw [w_Trail_suppose, e, nI_1, nI_clamp (by omega), pk_us]
  refine ⟨fun _ => ⟨hin, hin, 31, ?_⟩, fun c => absurd (by decide) c⟩
  have hob : ∀ v, v < 30 → (bt ((y ||| no) &&& ((tr.trues ||| tr.falses) ^^^ (-1))) v = true ↔ (bt y v = true ∨ bt no v = true) ∧ bt tr.trues v = false ∧ bt tr.falses v = false) := fun v hv => by
    rw [b_and, b_not _ (by omega), b_or, b_or]
    cases bt y v <;> cases bt no v <;> cases bt tr.trues v <;> cases bt tr.falses v <;> simp
  generalize (y ||| no) &&& ((tr.trues ||| tr.falses) ^^^ (-1)) = o at *
  have hz : ∀ v, v < 30 → bt o v = false → (bt y v = true → bt tr.trues v = true) ∧ (bt no v = true → bt tr.falses v = true) := fun v hv ho => by
    have hno : ¬ ((bt y v = true ∨ bt no v = true) ∧ bt tr.trues v = false ∧ bt tr.falses v = false) := fun q => by
      rw [(hob v hv).mpr q] at ho; cases ho
    refine ⟨fun g => ?_, fun g => ?_⟩
    · cases hb : bt tr.trues v with
      | true => rfl
      | false =>
        cases hb2 : bt tr.falses v with
        | true => exact (nT v g hb2).elim
        | false => exact (hno ⟨Or.inl g, hb, hb2⟩).elim
    · cases hb : bt tr.falses v with
      | true => rfl
      | false =>
        cases hb2 : bt tr.trues v with
        | true => exact (nF v g hb2).elim
        | false => exact (hno ⟨Or.inr g, hb2, hb⟩).elim
  refine l_supp (P := fun k trk => ∃ lenk vrk, isTR trk w lenk 1 vrk (gu p 1 len) ∧ len ≤ lenk ∧ (∀ i, i < len → vrk i = vr i ∧ trk.whyTrue i = tr.whyTrue i ∧ trk.whyFalse i = tr.whyFalse i) ∧ (∀ u, bt tr.trues u = true → bt trk.trues u = true) ∧ (∀ u, bt tr.falses u = true → bt trk.falses u = true) ∧ (∀ i, len ≤ i → i < lenk → vrk i < k ∧ ((bt trk.trues (vrk i) = true ∧ bt y (vrk i) = true) ∨ (bt trk.falses (vrk i) = true ∧ bt no (vrk i) = true))) ∧ (∀ v, v < k → (bt y v = true → bt trk.trues v = true) ∧ (bt no v = true → bt trk.falses v = true)))
    (fun k tr' hk hp hzz => ?_) (fun k tr' hk hp ho => ?_) (fun k tr' hk hp ho Q2 hq2 => ?_) 31 0 _ (by omega) ⟨len, vr, tr_raise k1 (by omega), Nat.le_refl _, fun i _ => ⟨rfl, rfl, rfl⟩, fun u q => q, fun u q => q, fun i h1 h2 => by omega, fun v hv => by omega⟩ (by omega)
  · obtain ⟨lenk, vrk, a1, a2, a3, a4, a5, a6, a7⟩ := hp
    have ask : ∀ v, (bt y v = true → bt tr'.trues v = true) ∧ (bt no v = true → bt tr'.falses v = true) := fun v => by
      rcases Nat.lt_or_ge v k with q | q
      · exact a7 v q
      · rcases Nat.lt_or_ge v 30 with q2 | q2
        · have := hz v q2 (hzz v q q2)
          exact ⟨fun g => a4 v (this.1 g), fun g => a5 v (this.2 g)⟩
        · exact ⟨fun g => by have := hy v (Or.inl g); omega, fun g => by have := hy v (Or.inr g); omega⟩
    have pos : ∀ i, i ≤ len → ∀ u, tPos vrk i u ↔ tPos vr i u := fun i hi u => by
      constructor
      · rintro ⟨j, hj, ej⟩
        exact ⟨j, hj, by rw [← (a3 j (by omega)).1]; exact ej⟩
      · rintro ⟨j, hj, ej⟩
        exact ⟨j, hj, by rw [(a3 j (by omega)).1]; exact ej⟩
    have g7' := a1.2.2.2.2.2.2.1
    have vdl : vd dg len ≤ vd (fun i => decide (i < len) && dg i) lenk := by
      refine Nat.le_trans (Nat.le_of_eq ?_) (vd_mono _ lenk a2)
      refine vd_cong len (fun i hi => ?_)
      show dg i = (decide (i < len) && dg i)
      simp [hi]
    refine hq tr' lenk vrk (fun i => decide (i < len) && dg i) ⟨a1, fun i hi hdg => ?_, fun i hi hdg => ?_, fun j h1 h2 h3 => ?_, fun j h1 h2 => by omega, fun _ _ u => ⟨(ask u).1, (ask u).2, fun _ h2 => by omega⟩, fun j h1 h2 a b hr => ?_, fun h1 h2 a b hr => ?_⟩ vdl
    · have hdg' : (decide (i < len) && dg i) = true := hdg
      rw [Bool.and_eq_true, decide_eq_true_eq] at hdg'
      obtain ⟨b1', b2, b3⟩ := a3 i hdg'.1
      exact con_ext (k2 i hdg'.1 hdg'.2) b2 b3 b1' (fun u q => (pos i (by omega) u).mpr q) (fun u _ => a4 u) (fun u _ => a5 u)
    · have hdg' : (decide (i < len) && dg i) = false := hdg
      rcases Nat.lt_or_ge i len with q | q
      · have hd2 : dg i = false := by simpa [q] using hdg'
        rcases k3 i q hd2 with ⟨j, d1, d2, d3⟩ | ⟨d1, d2, _⟩
        · omega
        · omega
      · exact Or.inr ⟨rfl, Nat.le_refl _, by rw [gu_s]; exact q, fun h2 => by omega, (a6 i q hi).2⟩
    · have ej : j = 1 := by omega
      subst ej
      rw [gu_s]
      show (decide (len < len) && dg len) = false
      simp
    · have ej : j = 1 := by omega
      subst ej
      rw [gu_s]
      have hn := fx_nf k1 (hx a b hr)
      exact nf_ext hn (fun u q => (pos len (Nat.le_refl _) u).mp q) (fun u _ => a4 u) (fun u _ => a5 u)
    · rw [gu_s] at h2
      subst h2
      have back : ∀ u, bt tr.trues u = false → bt tr.falses u = false → bt tr'.trues u = false ∧ bt tr'.falses u = false := fun u h3 h4 => by
        have np : ¬ tPos vrk len u := fun q => by
          rcases (g7 u).mpr ((pos len (Nat.le_refl _) u).mp q) with g | g
          · rw [h3] at g; cases g
          · rw [h4] at g; cases g
        refine ⟨?_, ?_⟩
        · cases hb : bt tr'.trues u with
          | false => rfl
          | true => exact (np ((g7' u).mp (Or.inl hb))).elim
        · cases hb : bt tr'.falses u with
          | false => rfl
          | true => exact (np ((g7' u).mp (Or.inr hb))).elim
      rcases hx a b hr with ⟨v, ⟨q1, q2⟩ | ⟨q1, q2⟩⟩ | ⟨u, v, q1, ⟨q2, q3, q4⟩, ⟨q5, q6, q7⟩⟩
      · exact Or.inl ⟨v, Or.inl ⟨q1, a4 v q2⟩⟩
      · exact Or.inl ⟨v, Or.inr ⟨q1, a5 v q2⟩⟩
      · exact Or.inr ⟨u, v, q1, ⟨q2, back u q3 q4⟩, ⟨q5, back v q6 q7⟩⟩
  · obtain ⟨lenk, vrk, a1, a2, a3, a4, a5, a6, a7⟩ := hp
    refine ⟨lenk, vrk, a1, a2, a3, a4, a5, fun i h1 h2 => ⟨by have := (a6 i h1 h2).1; omega, (a6 i h1 h2).2⟩, fun v hv => ?_⟩
    by_cases q : v = k
    · subst q
      have := hz v hk ho
      exact ⟨fun g => a4 v (this.1 g), fun g => a5 v (this.2 g)⟩
    · exact a7 v (by omega)
  · obtain ⟨lenk, vrk, a1, a2, a3, a4, a5, a6, a7⟩ := hp
    have hop := (hob k hk).mp ho
    have hkw : k < w := hy k hop.1
    have hk2 : k < 32 := by omega
    have hno : ¬ tPos vrk lenk k := by
      rintro ⟨i, hi, ei⟩
      rcases Nat.lt_or_ge i len with q | q
      · have : tPos vr len k := ⟨i, q, by rw [← (a3 i q).1]; exact ei⟩
        rcases (g7 k).mpr this with g | g
        · rw [hop.2.1] at g; cases g
        · rw [hop.2.2] at g; cases g
      · have := (a6 i q hi).1
        omega
    have hT := tr_push a1 hw hkw hno (y &&& b1 k) (no &&& b1 k)
    have hl := tr_len hT
    have eb : bt (y &&& b1 k) k = bt y k := by rw [b_and, b_b1 hk2]; simp
    have tT : ∀ u, bt tr'.trues u = true → bt (push tr' lenk k (y &&& b1 k) (no &&& b1 k)).trues u = true := fun u q => by rw [push_t _ _ hk2, q]; rfl
    have tF : ∀ u, bt tr'.falses u = true → bt (push tr' lenk k (y &&& b1 k) (no &&& b1 k)).falses u = true := fun u q => by rw [push_f _ _ hk2, q]; rfl
    have yk : bt y k = true → bt (push tr' lenk k (y &&& b1 k) (no &&& b1 k)).trues k = true := fun g => by rw [push_t _ _ hk2, eb, g]; simp
    have nk : bt no k = true → bt (push tr' lenk k (y &&& b1 k) (no &&& b1 k)).falses k = true := fun g => by
      have : bt y k = false := by
        cases hb : bt y k with
        | false => rfl
        | true => exact (hd k hb g).elim
      rw [push_f _ _ hk2, eb, this]; simp
    refine s_conclude a1 (by omega) (hq2 _ ⟨lenk + 1, gu vrk lenk k, hT, by omega, fun i hi => ?_, fun u q => tT u (a4 u q), fun u q => tF u (a5 u q), fun i h1 h2 => ?_, fun v hv => ?_⟩)
    · have hne : i ≠ lenk := by omega
      obtain ⟨b1', b2, b3⟩ := a3 i hi
      exact ⟨by rw [gu_n _ _ hne]; exact b1', (pk_un hne).trans b2, (pk_un hne).trans b3⟩
    · by_cases q : i = lenk
      · subst q
        rw [gu_s]
        refine ⟨by omega, ?_⟩
        exact hop.1.elim (fun g => Or.inl ⟨yk g, g⟩) (fun g => Or.inr ⟨nk g, g⟩)
      · rw [gu_n _ _ q]
        obtain ⟨d1, d2⟩ := a6 i h1 (by omega)
        exact ⟨by omega, d2.elim (fun g => Or.inl ⟨tT _ g.1, g.2⟩) (fun g => Or.inr ⟨tF _ g.1, g.2⟩)⟩
    · by_cases q : v = k
      · subst q
        exact ⟨yk, nk⟩
      · have := a7 v (by omega)
        exact ⟨fun g => tT v (this.1 g), fun g => tF v (this.2 g)⟩
end ASK
