/-! a learned row: where it is put -/
def isLR (lr : tRows) (ls : Nat) : Prop := lr.room = 2048 ∧ lr.size = nI ls ∧ ls ≤ 2048 ∧ ∃ o, o < 2048 ∧ lr.oldest = nI o
theorem s_addLR {lr : tRows} {ls : Nat} (h : isLR lr ls) {x y : Int32} {Q : tRows → Prop} (hq : ∀ lr' ls', isLR lr' ls' → (∀ i, i < ls' → (lr'.wantTrue i = x ∧ lr'.wantFalse i = y) ∨ (i < ls ∧ lr'.wantTrue i = lr.wantTrue i ∧ lr'.wantFalse i = lr.wantFalse i)) → Q lr') : w_Rows_add x y lr Q := by
  obtain ⟨h1, h2, h3, o, ho, h4⟩ := h
  have h5 : lr.room < 2 ^ 31 := by omega
  have ino : vp_in (nI o) lr.room := vp_in_nI (by omega) h5
  have cut : ∀ (s : Int32), (∃ o', o' < 2048 ∧ s = nI o') → Q (tRows.mk (upd lr.wantTrue o x) (upd lr.wantFalse o y) (nI ls) s lr.room) := fun s hs => by
    refine hq _ ls ⟨h1, rfl, h3, hs⟩ (fun i hi => ?_)
    show (upd lr.wantTrue o x i = x ∧ upd lr.wantFalse o y i = y) ∨ (i < ls ∧ upd lr.wantTrue o x i = _ ∧ upd lr.wantFalse o y i = _)
    by_cases e : i = o
    · subst e; exact Or.inl ⟨pk_us, pk_us⟩
    · exact Or.inr ⟨hi, pk_un e, pk_un e⟩
  unfold w_Rows_add
  rw [h2, h4, nI_1, nI_1]
  refine pk_le lr.room ls (fun c => ?_) (fun c => ?_)
  · refine pk_le lr.room (o + 1) (fun c2 => pk_le lr.room o (fun c3 => by omega) (fun _ => ⟨ino, ino, ?_⟩)) (fun c2 => pk_le lr.room o (fun c3 => by omega) (fun _ => ⟨ino, ino, ?_⟩))
    · rw [nI_clamp (by omega)]
      exact cut 0 ⟨0, by omega, rfl⟩
    · rw [nI_clamp (by omega)]
      exact cut _ ⟨o + 1, by omega, rfl⟩
  · have ins : vp_in (nI ls) lr.room := vp_in_nI (by omega) h5
    refine pk_le lr.room ls (fun c3 => by omega) (fun _ => ⟨ins, ins, ?_⟩)
    rw [nI_clamp (by omega)]
    refine hq _ (ls + 1) ⟨h1, rfl, by omega, o, ho, rfl⟩ (fun i hi => ?_)
    show (upd lr.wantTrue ls x i = x ∧ upd lr.wantFalse ls y i = y) ∨ (i < ls ∧ upd lr.wantTrue ls x i = _ ∧ upd lr.wantFalse ls y i = _)
    by_cases e : i = ls
    · subst e; exact Or.inl ⟨pk_us, pk_us⟩
    · exact Or.inr ⟨by omega, pk_un e, pk_un e⟩
/-! back to the level where the row leaves no choice -/
theorem vd_top (d : Nat → Bool) {j : Nat} : ∀ k, j ≤ k → k ≤ 30 → vd d k + 2 ^ (30 - k) ≤ vd d j + 2 ^ (30 - j) := by
  intro k
  induction k with
  | zero => intro h _; rw [show j = 0 by omega]; exact Nat.le_refl _
  | succ k ih =>
    intro h hk
    by_cases e : j = k + 1
    · rw [e]; exact Nat.le_refl _
    · have h1 := ih (by omega) (by omega)
      have h2 : 2 ^ (30 - k) = 2 * 2 ^ (29 - k) := by rw [show 30 - k = (29 - k) + 1 by omega, Nat.pow_succ]; omega
      rw [vd, show 30 - (k + 1) = 29 - k by omega]
      by_cases c : d k = true
      · rw [if_pos c]; omega
      · rw [if_neg c]; omega
theorem and_nb1 {z : Nat} (hz : z < 32) (x : Int32) (v : Nat) : bt (x &&& (b1 z ^^^ (-1))) v = (bt x v && decide (v ≠ z)) := by
  rcases Nat.lt_or_ge v 32 with q | q
  · rw [b_and, b_not _ q, b_b1 hz]
    by_cases e : v = z <;> simp [e]
  · rw [b_big q, b_big (x := x) q]; rfl
section REVISE
variable {n : Nat} {t f : Nat → Int32} {R R' : Int32 → Int32 → Prop} {fl : Nat} {y no : Int32} {tr : tTrail} {w len lev : Nat} {vr p : Nat → Nat} {dg : Nat → Bool}
theorem ti_new (h : TI n t f R fl y no tr w len lev vr p dg) {a b : Int32} (hR : ∀ a' b', R' a' b' → R a' b' ∨ (a' = a ∧ b' = b)) (hn : ∀ k, 1 ≤ k → k ≤ lev → rNF tr vr (p k) a b) (hl : 1 ≤ lev → p lev < len) : TI n t f R' fl y no tr w len lev vr p dg := by
  obtain ⟨k1, k2, k3, k4, k5, k6, k7, k8⟩ := h
  refine ⟨k1, k2, k3, k4, k5, k6, fun k h1 h2 a' b' hr => ?_, fun h1 h2 => ?_⟩
  · rcases hR a' b' hr with g | ⟨g1, g2⟩
    · exact k7 k h1 h2 a' b' g
    · rw [g1, g2]; exact hn k h1 h2
  · have := hl h1
    omega
theorem s_revise (h : TI n t f R fl y no tr w len lev vr p dg) (hw : w ≤ 30) (hl : 1 ≤ lev) {u : Nat} (hu : u < w) {a b : Int32} (hsa : sm a) (hsb : sm b) (ho : ¬ tPos vr (p lev) u) (himp : IMP n t f a b) (hlit : (bt a u = true ∧ bt b u = false) ∨ (bt b u = true ∧ bt a u = false)) (hoth : ∀ v, v ≠ u → (bt a v = true → bt tr.falses v = true) ∧ (bt b v = true → bt tr.trues v = true)) (hpos : ∀ v, v ≠ u → (bt a v = true ∨ bt b v = true) → tPos vr (p lev) v)
    (hR : ∀ a' b', R' a' b' → R a' b' ∨ (a' = a ∧ b' = b)) {Q : tTrail → Prop} (hq : ∀ tr' len' s vr' dg', s < lev → TI n t f R' fl y no tr' w len' s vr' p dg' → vd dg len < vd dg' len' → Q tr') : w_Trail_revise (b1 u) a b tr Q := by
  have hk := h.1
  have e : tr.level = nI lev := hk.2.1
  have l31 : lev ≤ 31 := hk.2.2.1
  have g8 := hk.2.2.2.2.2.2.2.1
  have g9 := hk.2.2.2.2.2.2.2.2
  have hlen := tr_len hk
  have hu2 : u < 32 := by omega
  rw [w_Trail_revise]
  have hom : ∀ v, bt ((a ||| b) &&& (b1 u ^^^ (-1))) v = true ↔ (bt a v = true ∨ bt b v = true) ∧ v ≠ u := fun v => by
    rw [and_nb1 hu2, b_or, Bool.and_eq_true, Bool.or_eq_true, decide_eq_true_eq]
  generalize hoe : (a ||| b) &&& (b1 u ^^^ (-1)) = om at *
  have som : sm om := fun v hv => by
    cases hb : bt om v with
    | false => rfl
    | true =>
      have := ((hom v).mp hb).1
      rw [hsa v hv, hsb v hv] at this
      rcases this with g | g <;> cases g
  have fin : ∀ s, s < lev → (1 ≤ s → ∃ v, bt om v = true ∧ ¬ tPos vr (p s) v) → (∀ v, bt om v = true → tPos vr (p (s + 1)) v) → w_Trail_back (nI s) tr (fun tr_2 => w_Trail_conclude (b1 u) a b tr_2 (fun tr_3 => Q tr_3)) := by
    intro s hs h1 h2
    obtain ⟨q1, q2⟩ := g8 (s + 1) (by omega) (by omega)
    have q3 := g9 (s + 1) lev (by omega) (by omega) (Nat.le_refl _)
    have hp : 1 ≤ s → p s < p (s + 1) := fun hs1 => by
      obtain ⟨v, d1, d2⟩ := h1 hs1
      rcases Nat.lt_or_ge (p s) (p (s + 1)) with q | q
      · exact q
      · exact (d2 (tPos_le q (h2 v d1))).elim
    have hT := ti_back h hs hp
    have ho2 : ¬ tPos vr (p (s + 1)) u := fun q => ho (tPos_le q3 q)
    have hT2 := ti_con hT hw hu ho2 himp hlit (fun v hv => ⟨fun g => ?_, fun g => ?_⟩) hp
    · have hl2 := tr_len hT2.1
      refine s_back hw hk (by omega) (fun _ => s_conclude hT.1 (by omega) ?_) (fun q => by omega)
      refine hq _ _ s _ _ hs (ti_new hT2 hR (fun k h3 h4 => ⟨u, ?_⟩) (fun h3 => by have := hp h3; omega)) ?_
      · have q4 := g9 k (s + 1) h3 (by omega) (by omega)
        have nv : ¬ tPos (gu vr (p (s + 1)) u) (p k) u := fun q => ho2 (tPos_le q4 ((tPos_gu q4).mp q))
        rcases hlit with ⟨d, _⟩ | ⟨d, _⟩
        · exact Or.inl ⟨d, fun q => (nv q).elim⟩
        · exact Or.inr ⟨d, fun q => (nv q).elim⟩
      · rw [vd_gu, if_pos rfl]
        by_cases c : p (s + 1) = len
        · rw [c]
          have := Nat.two_pow_pos (29 - len)
          omega
        · have hd := h.2.2.2.1 (s + 1) (by omega) (by omega) (by omega)
          have ht := vd_top dg (j := p (s + 1) + 1) len (by omega) (by omega)
          rw [vd, hd, if_neg (by simp), show 30 - (p (s + 1) + 1) = 29 - p (s + 1) by omega] at ht
          have := Nat.two_pow_pos (30 - len)
          omega
    · show bt (tr.falses &&& tr.ahead (s + 1)) v = true
      rw [b_and, (hoth v hv).1 g, (q2 v).mpr (h2 v ((hom v).mpr ⟨Or.inl g, hv⟩))]; rfl
    · show bt (tr.trues &&& tr.ahead (s + 1)) v = true
      rw [b_and, (hoth v hv).2 g, (q2 v).mpr (h2 v ((hom v).mpr ⟨Or.inr g, hv⟩))]; rfl
  have key : ∀ nn s, s < lev → (1 ≤ s → ∃ v, bt om v = true ∧ ¬ tPos vr (p s) v) → lev - s < nn → w_Trail_revise_L12 (b1 u) a b om tr (fun x5_1 => w_Trail_back x5_1 tr (fun tr_2 => w_Trail_conclude (b1 u) a b tr_2 (fun tr_3 => Q tr_3))) nn (nI s) := by
    intro nn
    induction nn with
    | zero => intro s _ _ hn; omega
    | succ nn ih =>
      intro s hs h1 hn
      rw [w_Trail_revise_L12, e, nI_1]
      refine pk_le lev (s + 1) (fun c => ?_) (fun c => ⟨vp_in_nI (by omega) (by omega), ?_⟩)
      · have es : s + 1 = lev := by omega
        exact fin s hs h1 (fun v hv => by
          rw [es]
          have := (hom v).mp hv
          exact hpos v this.2 this.1)
      · rw [nI_clamp (by omega)]
        obtain ⟨q1, q2⟩ := g8 (s + 1) (by omega) (by omega)
        have hb := fun v => andn_bit (x := om) (y := tr.ahead (s + 1)) som v
        refine ⟨fun c2 => fin s hs h1 (fun v hv => ?_), fun c2 => ih (s + 1) (by omega) (fun _ => ?_) (by omega)⟩
        · have := hb v
          rw [c2, b_0, hv] at this
          refine (q2 v).mp ?_
          cases hc : bt (tr.ahead (s + 1)) v with
          | true => rfl
          | false => rw [hc] at this; cases this
        · obtain ⟨v, hv, hv2⟩ := b_ne0 c2
          rw [hb, Bool.and_eq_true] at hv2
          refine ⟨v, hv2.1, fun q => ?_⟩
          rw [(q2 v).mpr q] at hv2
          exact absurd hv2.2 (by simp)
  exact ⟨lev + 1, key (lev + 1) 0 (by omega) (fun q => by omega) (by omega)⟩
end REVISE
