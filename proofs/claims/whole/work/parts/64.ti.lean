/-! what holds of the trail in a search -/
def IMP (n : Nat) (t f : Nat → Int32) (a b : Int32) : Prop := ∀ x, MOD n t f x → rowT a b x
def Con (n : Nat) (t f : Nat → Int32) (tr : tTrail) (vr : Nat → Nat) (i : Nat) : Prop := IMP n t f (tr.whyTrue i) (tr.whyFalse i) ∧ ((bt tr.trues (vr i) = true ∧ bt (tr.whyTrue i) (vr i) = true ∧ bt (tr.whyFalse i) (vr i) = false) ∨ (bt tr.falses (vr i) = true ∧ bt (tr.whyFalse i) (vr i) = true ∧ bt (tr.whyTrue i) (vr i) = false)) ∧ ∀ v, v ≠ vr i → (bt (tr.whyTrue i) v = true → bt tr.falses v = true ∧ tPos vr i v) ∧ (bt (tr.whyFalse i) v = true → bt tr.trues v = true ∧ tPos vr i v)
def Gs (fl : Nat) (y no : Int32) (tr : tTrail) (lev : Nat) (vr p : Nat → Nat) (i : Nat) : Prop := (∃ k, fl < k ∧ k ≤ lev ∧ i = p k) ∨ (fl = 1 ∧ 1 ≤ lev ∧ p 1 ≤ i ∧ (2 ≤ lev → i < p 2) ∧ ((bt tr.trues (vr i) = true ∧ bt y (vr i) = true) ∨ (bt tr.falses (vr i) = true ∧ bt no (vr i) = true)))
def rNF (tr : tTrail) (vr : Nat → Nat) (q : Nat) (a b : Int32) : Prop := ∃ v, (bt a v = true ∧ (tPos vr q v → bt tr.trues v = true)) ∨ (bt b v = true ∧ (tPos vr q v → bt tr.falses v = true))
def rop (tr : tTrail) (a b : Int32) (v : Nat) : Prop := (bt a v = true ∨ bt b v = true) ∧ bt tr.trues v = false ∧ bt tr.falses v = false
def rYes (tr : tTrail) (a b : Int32) : Prop := ∃ v, (bt a v = true ∧ bt tr.trues v = true) ∨ (bt b v = true ∧ bt tr.falses v = true)
def rFX (tr : tTrail) (a b : Int32) : Prop := rYes tr a b ∨ ∃ u v, u ≠ v ∧ rop tr a b u ∧ rop tr a b v
def Asked (fl : Nat) (y no : Int32) (tr : tTrail) (lev : Nat) (vr p : Nat → Nat) : Prop := fl = 1 → 1 ≤ lev → ∀ v, (bt y v = true → bt tr.trues v = true) ∧ (bt no v = true → bt tr.falses v = true) ∧ ((bt y v = true ∨ bt no v = true) → 2 ≤ lev → tPos vr (p 2) v)
def TI (n : Nat) (t f : Nat → Int32) (R : Int32 → Int32 → Prop) (fl : Nat) (y no : Int32) (tr : tTrail) (w len lev : Nat) (vr p : Nat → Nat) (dg : Nat → Bool) : Prop :=
  isTR tr w len lev vr p ∧ (∀ i, i < len → dg i = true → Con n t f tr vr i) ∧ (∀ i, i < len → dg i = false → Gs fl y no tr lev vr p i) ∧ (∀ k, 1 ≤ k → k ≤ lev → p k < len → dg (p k) = false) ∧ (∀ k, fl < k → k ≤ lev → p k < len) ∧ Asked fl y no tr lev vr p ∧ (∀ k, 1 ≤ k → k ≤ lev → ∀ a b, R a b → rNF tr vr (p k) a b) ∧ (1 ≤ lev → p lev = len → ∀ a b, R a b → rFX tr a b)
theorem con_ext {n : Nat} {t f : Nat → Int32} {tr tr' : tTrail} {vr vr' : Nat → Nat} {i : Nat} (h : Con n t f tr vr i) (h1 : tr'.whyTrue i = tr.whyTrue i) (h2 : tr'.whyFalse i = tr.whyFalse i) (h3 : vr' i = vr i) (h4 : ∀ u, tPos vr i u → tPos vr' i u) (h5 : ∀ u, tPos vr (i + 1) u → bt tr.trues u = true → bt tr'.trues u = true) (h6 : ∀ u, tPos vr (i + 1) u → bt tr.falses u = true → bt tr'.falses u = true) : Con n t f tr' vr' i := by
  obtain ⟨g1, g2, g3⟩ := h
  have hi : tPos vr (i + 1) (vr i) := ⟨i, by omega, rfl⟩
  unfold Con
  rw [h1, h2, h3]
  refine ⟨g1, ?_, fun v hv => ⟨fun q => ?_, fun q => ?_⟩⟩
  · rcases g2 with ⟨a, b, c⟩ | ⟨a, b, c⟩
    · exact Or.inl ⟨h5 _ hi a, b, c⟩
    · exact Or.inr ⟨h6 _ hi a, b, c⟩
  · obtain ⟨a, b⟩ := (g3 v hv).1 q
    exact ⟨h6 v (tPos_le (by omega) b) a, h4 v b⟩
  · obtain ⟨a, b⟩ := (g3 v hv).2 q
    exact ⟨h5 v (tPos_le (by omega) b) a, h4 v b⟩
theorem nf_ext {tr tr' : tTrail} {vr vr' : Nat → Nat} {q : Nat} {a b : Int32} (h : rNF tr vr q a b) (h4 : ∀ u, tPos vr' q u → tPos vr q u) (h5 : ∀ u, tPos vr q u → bt tr.trues u = true → bt tr'.trues u = true) (h6 : ∀ u, tPos vr q u → bt tr.falses u = true → bt tr'.falses u = true) : rNF tr' vr' q a b := by
  obtain ⟨v, h | h⟩ := h
  · exact ⟨v, Or.inl ⟨h.1, fun g => h5 v (h4 v g) (h.2 (h4 v g))⟩⟩
  · exact ⟨v, Or.inr ⟨h.1, fun g => h6 v (h4 v g) (h.2 (h4 v g))⟩⟩
section TI1
variable {n : Nat} {t f : Nat → Int32} {R : Int32 → Int32 → Prop} {fl : Nat} {y no : Int32} {tr : tTrail} {w len lev : Nat} {vr p : Nat → Nat} {dg : Nat → Bool}
theorem ti_con (h : TI n t f R fl y no tr w len lev vr p dg) (hw : w ≤ 30) {v : Nat} (hv : v < w) (ho : ¬ tPos vr len v) {a b : Int32} (himp : IMP n t f a b) (hlit : (bt a v = true ∧ bt b v = false) ∨ (bt b v = true ∧ bt a v = false)) (hoth : ∀ u, u ≠ v → (bt a u = true → bt tr.falses u = true) ∧ (bt b u = true → bt tr.trues u = true)) (hlt : 1 ≤ lev → p lev < len) : TI n t f R fl y no (push tr len v a b) w (len + 1) lev (gu vr len v) p (gu dg len true) := by
  obtain ⟨k1, k2, k3, k4, k5, k6, k7, k8⟩ := h
  have hv2 : v < 32 := by omega
  have tT : ∀ u, bt tr.trues u = true → bt (push tr len v a b).trues u = true := fun u q => by rw [push_t _ _ hv2, q]; rfl
  have tF : ∀ u, bt tr.falses u = true → bt (push tr len v a b).falses u = true := fun u q => by rw [push_f _ _ hv2, q]; rfl
  have g7 := k1.2.2.2.2.2.2.1
  have g8 := k1.2.2.2.2.2.2.2.1
  have g9 := k1.2.2.2.2.2.2.2.2
  refine ⟨tr_push k1 hw hv ho a b, fun i hi hd => ?_, fun i hi hd => ?_, fun k h1 h2 h3 => ?_, fun k h1 h2 => ?_, fun e1 e2 u => ?_, fun k h1 h2 a' b' hr => ?_, fun h1 h2 => ?_⟩
  · by_cases e : i = len
    · subst e
      have ew : (push tr i v a b).whyTrue i = a := pk_us
      have ew2 : (push tr i v a b).whyFalse i = b := pk_us
      unfold Con
      rw [ew, ew2, gu_s]
      refine ⟨himp, ?_, fun u hu => ⟨fun q => ?_, fun q => ?_⟩⟩
      · rcases hlit with ⟨c1, c2⟩ | ⟨c1, c2⟩
        · exact Or.inl ⟨by rw [push_t _ _ hv2, c1]; simp, c1, c2⟩
        · exact Or.inr ⟨by rw [push_f _ _ hv2, c2]; simp, c1, c2⟩
      · have := (hoth u hu).1 q
        exact ⟨tF u this, (tPos_gu (Nat.le_refl _)).mpr ((g7 u).mp (Or.inr this))⟩
      · have := (hoth u hu).2 q
        exact ⟨tT u this, (tPos_gu (Nat.le_refl _)).mpr ((g7 u).mp (Or.inl this))⟩
    · rw [gu_n _ _ e] at hd
      exact con_ext (k2 i (by omega) hd) (pk_un e) (pk_un e) (gu_n _ _ e) (fun u q => (tPos_gu (by omega)).mpr q) (fun u _ => tT u) (fun u _ => tF u)
  · have e : i ≠ len := fun e => by rw [e, gu_s] at hd; cases hd
    rw [gu_n _ _ e] at hd
    rcases k3 i (by omega) hd with g | ⟨c1, c2, c3, c4, c5⟩
    · exact Or.inl g
    · refine Or.inr ⟨c1, c2, c3, c4, ?_⟩
      rw [gu_n _ _ e]
      exact c5.elim (fun g => Or.inl ⟨tT _ g.1, g.2⟩) (fun g => Or.inr ⟨tF _ g.1, g.2⟩)
  · have h4 := g9 k lev h1 h2 (Nat.le_refl _)
    have h5 := hlt (by omega)
    rw [gu_n _ _ (by omega)]
    exact k4 k h1 h2 (by omega)
  · have := k5 k h1 h2
    omega
  · obtain ⟨c1, c2, c3⟩ := k6 e1 e2 u
    exact ⟨fun q => tT u (c1 q), fun q => tF u (c2 q), fun q q2 => (tPos_gu (g8 2 (by omega) q2).1).mpr (c3 q q2)⟩
  · exact nf_ext (k7 k h1 h2 a' b' hr) (fun u q => (tPos_gu (g8 k h1 h2).1).mp q) (fun u _ => tT u) (fun u _ => tF u)
  · have := hlt h1
    omega
theorem ti_back (h : TI n t f R fl y no tr w len lev vr p dg) {s : Nat} (hs : s < lev) (hp : 1 ≤ s → p s < p (s + 1)) : TI n t f R fl y no (bk tr s (p (s + 1))) w (p (s + 1)) s vr p dg := by
  obtain ⟨k1, k2, k3, k4, k5, k6, k7, k8⟩ := h
  have g8 := k1.2.2.2.2.2.2.2.1
  have g9 := k1.2.2.2.2.2.2.2.2
  obtain ⟨q1, q2⟩ := g8 (s + 1) (by omega) (by omega)
  have tT : ∀ u, tPos vr (p (s + 1)) u → bt tr.trues u = true → bt (bk tr s (p (s + 1))).trues u = true := fun u g1 g2 => by
    show bt (tr.trues &&& tr.ahead (s + 1)) u = true
    rw [b_and, g2, (q2 u).mpr g1]; rfl
  have tF : ∀ u, tPos vr (p (s + 1)) u → bt tr.falses u = true → bt (bk tr s (p (s + 1))).falses u = true := fun u g1 g2 => by
    show bt (tr.falses &&& tr.ahead (s + 1)) u = true
    rw [b_and, g2, (q2 u).mpr g1]; rfl
  have pos : ∀ i, i < p (s + 1) → ∀ u, tPos vr (i + 1) u → tPos vr (p (s + 1)) u := fun i hi u g => tPos_le (by omega) g
  refine ⟨tr_back k1 hs, fun i hi hd => ?_, fun i hi hd => ?_, fun k h1 h2 h3 => k4 k h1 (by omega) (by omega), fun k h1 h2 => ?_, fun e1 e2 u => ?_, fun k h1 h2 a' b' hr => ?_, fun h1 h2 => ?_⟩
  · exact con_ext (k2 i (by omega) hd) rfl rfl rfl (fun u q => q) (fun u g => tT u (pos i hi u g)) (fun u g => tF u (pos i hi u g))
  · have hpi : tPos vr (p (s + 1)) (vr i) := ⟨i, hi, rfl⟩
    rcases k3 i (by omega) hd with ⟨k, c1, c2, c3⟩ | ⟨c1, c2, c3, c4, c5⟩
    · refine Or.inl ⟨k, c1, ?_, c3⟩
      rcases Nat.lt_or_ge s k with q | q
      · have := g9 (s + 1) k (by omega) (by omega) c2
        omega
      · exact q
    · have hs1 : 1 ≤ s := by
        rcases Nat.eq_zero_or_pos s with q | q
        · subst q
          have hi1 : i < p 1 := hi
          omega
        · exact q
      exact Or.inr ⟨c1, hs1, c3, fun h2 => c4 (by omega), c5.elim (fun g => Or.inl ⟨tT _ hpi g.1, g.2⟩) (fun g => Or.inr ⟨tF _ hpi g.1, g.2⟩)⟩
  · have h3 := hp (by omega)
    have h4 := g9 k s (by omega) h2 (by omega)
    omega
  · obtain ⟨c1, c2, c3⟩ := k6 e1 (by omega) u
    have h2 := g9 2 (s + 1) (by omega) (by omega) (by omega)
    exact ⟨fun q => tT u (tPos_le h2 (c3 (Or.inl q) (by omega))) (c1 q), fun q => tF u (tPos_le h2 (c3 (Or.inr q) (by omega))) (c2 q), fun q q2 => c3 q (by omega)⟩
  · have h3 := g9 k (s + 1) h1 (by omega) (by omega)
    exact nf_ext (k7 k h1 (by omega) a' b' hr) (fun u q => q) (fun u g => tT u (tPos_le h3 g)) (fun u g => tF u (tPos_le h3 g))
  · have := hp h1
    omega
/-- a model that agrees with the guesses agrees with all -/
theorem ti_agree (h : TI n t f R fl y no tr w len lev vr p dg) {x : Nat → Bool} (hm : MOD n t f x) {K : Nat} (hK : K ≤ len) (hg : ∀ i, i < K → dg i = false → (bt tr.trues (vr i) = true → x (vr i) = true) ∧ (bt tr.falses (vr i) = true → x (vr i) = false)) : ∀ k, k ≤ K → ∀ i, i < k → (bt tr.trues (vr i) = true → x (vr i) = true) ∧ (bt tr.falses (vr i) = true → x (vr i) = false) := by
  obtain ⟨k1, k2, -⟩ := h
  have g6 := k1.2.2.2.2.2.1
  intro k
  induction k with
  | zero => intro _ i hi; omega
  | succ k ih =>
    intro hk i hi
    by_cases e : i = k
    · cases hd : dg i with
      | false => exact hg i (by omega) hd
      | true =>
        have IH := ih (by omega)
        obtain ⟨c1, c2, c3⟩ := k2 i (by omega) hd
        obtain ⟨v, hv⟩ := c1 x hm
        have key : v = vr i := by
          refine Classical.byContradiction (fun hne => ?_)
          rcases hv with ⟨q1, q2⟩ | ⟨q1, q2⟩
          · obtain ⟨d1, j, d2, d3⟩ := (c3 v hne).1 q1
            have := (IH j (by omega)).2 (by rw [d3]; exact d1)
            rw [d3, q2] at this; cases this
          · obtain ⟨d1, j, d2, d3⟩ := (c3 v hne).2 q1
            have := (IH j (by omega)).1 (by rw [d3]; exact d1)
            rw [d3, q2] at this; cases this
        subst key
        rcases c2 with ⟨d1, d2, d3⟩ | ⟨d1, d2, d3⟩
        · refine ⟨fun _ => ?_, fun q => (g6 _ d1 q).elim⟩
          rcases hv with ⟨_, q2⟩ | ⟨q1, _⟩
          · exact q2
          · rw [d3] at q1; cases q1
        · refine ⟨fun q => (g6 _ q d1).elim, fun _ => ?_⟩
          rcases hv with ⟨q1, _⟩ | ⟨_, q2⟩
          · rw [d3] at q1; cases q1
          · exact q2
    · exact ih (by omega) i (by omega)
end TI1
