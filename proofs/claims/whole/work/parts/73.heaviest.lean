/-! the search: the heaviest variable -/
theorem l_clear {K : (Nat → Int32) → Prop} (hK : ∀ sw, (∀ v, v < 30 → sw v = 0) → K sw) : ∀ nn k sw, k ≤ 30 → (∀ v, v < k → sw v = 0) → 30 - k < nn → w_Sear_heaviest_L2 K nn (nI k) sw := by
  intro nn
  induction nn with
  | zero => intro k _ _ _ hn; omega
  | succ nn ih =>
    intro k sw hk hs hn
    rw [w_Sear_heaviest_L2]
    refine pk_le 30 k (fun c => hK sw (fun v hv => hs v (by omega))) (fun c => ⟨vp_in_nI (by omega) (by omega), ?_⟩)
    rw [nI_clamp (by omega), nI_1]
    refine ih (k + 1) _ (by omega) (fun v hv => ?_) (by omega)
    by_cases e : v = k
    · subst e; exact pk_us
    · rw [pk_un e]; exact hs v (by omega)
theorem l_best {sw : Nat → Int32} {K : Int32 → Prop} (hK0 : (∀ u, u < 30 → (sw u).toInt ≤ 0) → K 0) (hK1 : ∀ u, u < 30 → 0 < (sw u).toInt → K (b1 u)) : ∀ nn k x1 x2, k ≤ 30 → ((x1 = 0 ∧ x2 = 0 ∧ ∀ u, u < k → (sw u).toInt ≤ 0) ∨ ∃ u, u < k ∧ x1 = b1 u ∧ x2 = sw u ∧ 0 < (sw u).toInt) → 30 - k < nn → w_Sear_heaviest_L117 sw K nn x1 x2 (nI k) := by
  intro nn
  induction nn with
  | zero => intro k _ _ _ _ hn; omega
  | succ nn ih =>
    intro k x1 x2 hk hs hn
    rw [w_Sear_heaviest_L117]
    refine pk_le 30 k (fun c => ?_) (fun c => ?_)
    · rcases hs with ⟨e1, _, e3⟩ | ⟨u, e1, e2, _, e4⟩
      · rw [e1]; exact hK0 (fun u hu => e3 u (by omega))
      · rw [e2]; exact hK1 u (by omega) e4
    · have hin : vp_in (nI k) 30 := vp_in_nI (by omega) (by omega)
      have e1 : ((1 : Int32) <<< (nI k &&& 31)) = b1 k := rfl
      have z0 : (0 : Int32).toInt = 0 := rfl
      rw [nI_clamp (by omega), nI_1, e1]
      refine ⟨hin, fun c2 => ih (k + 1) x1 x2 (by omega) ?_ (by omega), fun c2 => ⟨hin, ih (k + 1) _ _ (by omega) (Or.inr ⟨k, by omega, rfl, rfl, ?_⟩) (by omega)⟩⟩
      · rw [ti_le] at c2
        rcases hs with ⟨d1, d2, d3⟩ | ⟨u, d1, d2, d3, d4⟩
        · refine Or.inl ⟨d1, d2, fun u hu => ?_⟩
          by_cases e : u = k
          · subst e; rw [d2, z0] at c2; exact c2
          · exact d3 u (by omega)
        · exact Or.inr ⟨u, by omega, d2, d3, d4⟩
      · rw [ti_le] at c2
        rcases hs with ⟨d1, d2, d3⟩ | ⟨u, d1, d2, d3, d4⟩
        · rw [d2, z0] at c2; omega
        · rw [d3] at c2; omega
section HEAVY
variable {fo : tForm} {fr : tRows} {w : Nat} {dr : List Int32} {cs : List (List Int32)} {tr : tTrail} {len lev : Nat} {vr p : Nat → Nat}
theorem rows_of (h : isFO fo fr w dr cs) {i : Nat} (hi : i < cs.length) : fr.wantTrue i = tq cs i ∧ fr.wantFalse i = fq cs i := by
  have e : cs[i]? = some (cs.getD i []) := by
    rw [List.getD_eq_getElem?_getD, List.getElem?_eq_getElem hi]; rfl
  obtain ⟨_, _, h1, h2⟩ := h.2.2.2.2.2 i _ e
  exact ⟨h1, h2⟩
theorem l_heavy (hok : okF w dr cs) (h : isFO fo fr w dr cs) {m : Nat} (hm : m ≤ cs.length) {se : tSear} (hse : se.clauses = nI m) (hT : isTR tr w len lev vr p) {K : (Nat → Int32) → Prop}
    (hK : ∀ sw, (∀ v, v < 30 → 0 ≤ (sw v).toInt ∧ (0 < (sw v).toInt → v < w ∧ ¬ tPos vr len v)) → (∀ j, j < m → ¬ rYes tr (tq cs j) (fq cs j) → ∀ v, rop tr (tq cs j) (fq cs j) v → 0 < (sw v).toInt) → K sw) :
    ∀ nn i sw, i ≤ m → (∀ v, v < 30 → 0 ≤ (sw v).toInt ∧ (sw v).toInt ≤ ((24576 * i : Nat) : Int) ∧ (0 < (sw v).toInt → v < w ∧ ¬ tPos vr len v)) → (∀ j, j < i → ¬ rYes tr (tq cs j) (fq cs j) → ∀ v, rop tr (tq cs j) (fq cs j) v → 0 < (sw v).toInt) → m - i < nn → w_Sear_heaviest_L23 fo fr se tr K nn (nI i) sw := by
  have hl := hok.2.2.1
  have w30 := hok.1
  have g7 := hT.2.2.2.2.2.2.1
  intro nn
  induction nn with
  | zero => intro i _ _ _ _ hn; omega
  | succ nn ih =>
    intro i sw hi hs hp hn
    rw [w_Sear_heaviest_L23, hse]
    refine pk_le m i (fun c => hK sw (fun v hv => ⟨(hs v hv).1, (hs v hv).2.2⟩) (fun j hj => hp j (by omega))) (fun c => ?_)
    have hroom : fr.room = 400 := h.2.2.2.2.1
    have hin : vp_in (nI i) fr.room := vp_in_nI (by omega) (by omega)
    have hic : i < cs.length := by omega
    obtain ⟨er1, er2⟩ := rows_of h hic
    have hrk := mf_ok hok hic
    have hlt := mf_lt hok i hic
    rw [nI_clamp (by omega), nI_1, er1, er2]
    refine ⟨hin, hin, fun c1 => ?_, fun c1 => ?_⟩
    · refine ih (i + 1) sw (by omega) (fun v hv => ?_) (fun j hj hy => ?_) (by omega)
      · obtain ⟨d1, d2, d3⟩ := hs v hv
        exact ⟨d1, by omega, d3⟩
      · by_cases e : j = i
        · subst e
          exfalso
          apply hy
          rw [or_eq0] at c1
          by_cases q : tq cs j &&& tr.trues = 0
          · have q2 : ¬ fq cs j &&& tr.falses = 0 := fun e => c1 ⟨q, e⟩
            obtain ⟨v, h1, h2⟩ := and_ne0.mp q2
            exact ⟨v, Or.inr ⟨h1, h2⟩⟩
          · obtain ⟨v, h1, h2⟩ := and_ne0.mp q
            exact ⟨v, Or.inl ⟨h1, h2⟩⟩
        · exact hp j (by omega) hy
    · have hc : cs[i]? = some (cs.getD i []) := by
        rw [List.getD_eq_getElem?_getD, List.getElem?_eq_getElem hic]; rfl
      have hob := opn_bit hrk tr
      refine s_weigh hok h hc (P := fun v => v < w ∧ ¬ tPos vr len v) (B := 24576 * i) (fun v hv => ((hob v).mp hv).1) (fun v hv => ?_) (by omega) hs (fun sw' e1 e2 => ?_)
      · obtain ⟨d1, d2, d3⟩ := (hob v).mp hv
        refine ⟨?_, fun q => ?_⟩
        · rcases Nat.lt_or_ge v w with q | q
          · exact q
          · have := hlt v q
            rw [this.1, this.2] at d1
            rcases d1 with d1 | d1 <;> cases d1
        · rcases (g7 v).mpr q with g | g
          · rw [d2] at g; cases g
          · rw [d3] at g; cases g
      · refine ih (i + 1) sw' (by omega) (fun v hv => ?_) (fun j hj hy v hv => ?_) (by omega)
        · obtain ⟨d1, d2, d3⟩ := e1 v hv
          have := (hs v hv).1
          exact ⟨by omega, by omega, d3⟩
        · by_cases e : j = i
          · subst e
            exact e2 v ((hob v).mpr hv)
          · have h30 : v < 30 := by
              rcases Nat.lt_or_ge v 30 with q | q
              · exact q
              · have := mf_lt hok j (by omega) v (by omega)
                obtain ⟨d1, _⟩ := hv
                rw [this.1, this.2] at d1
                rcases d1 with d1 | d1 <;> cases d1
            have := hp j (by omega) hy v hv
            have := (e1 v h30).1
            omega
theorem s_heaviest (hok : okF w dr cs) (h : isFO fo fr w dr cs) {m : Nat} (hm : m ≤ cs.length) {se : tSear} (hse : se.clauses = nI m) (hT : isTR tr w len lev vr p) (hx : ∀ j, j < m → rFX tr (tq cs j) (fq cs j)) {sw : Nat → Int32} {Q : Int32 → (Nat → Int32) → Prop}
    (h0 : ∀ sw, (∀ j, j < m → rYes tr (tq cs j) (fq cs j)) → Q 0 sw) (h1 : ∀ sw v, v < w → ¬ tPos vr len v → Q (b1 v) sw) : w_Sear_heaviest fo fr se sw tr Q := by
  have w30 := hok.1
  rw [w_Sear_heaviest]
  refine ⟨31, ?_⟩
  refine l_clear ?_ 31 0 sw (by omega) (fun v hv => by omega) (by omega)
  intro sw1 e1
  refine ⟨m + 1, ?_⟩
  have hz : ∀ v, v < 30 → 0 ≤ (sw1 v).toInt ∧ (sw1 v).toInt ≤ ((24576 * 0 : Nat) : Int) ∧ (0 < (sw1 v).toInt → v < w ∧ ¬ tPos vr len v) := fun v hv => by
    rw [e1 v hv]
    have z0 : (0 : Int32).toInt = 0 := rfl
    rw [z0]
    exact ⟨by omega, by omega, fun q => by omega⟩
  refine l_heavy hok h hm hse hT ?_ (m + 1) 0 sw1 (Nat.zero_le _) hz (fun j hj => by omega) (by omega)
  intro sw2 e2 e3
  refine ⟨31, ?_⟩
  refine l_best ?_ ?_ 31 0 0 0 (by omega) (Or.inl ⟨rfl, rfl, fun u hu => by omega⟩) (by omega)
  · intro e4
    refine h0 sw2 (fun j hj => ?_)
    rcases hx j hj with g | ⟨u, v, _, g1, _⟩
    · exact g
    · refine Classical.byContradiction (fun q => ?_)
      have h30 : u < 30 := by
        rcases Nat.lt_or_ge u 30 with q | q
        · exact q
        · have := mf_lt hok j (by omega) u (by omega)
          obtain ⟨d1, _⟩ := g1
          rw [this.1, this.2] at d1
          rcases d1 with d1 | d1 <;> cases d1
      have := e3 j hj q u g1
      have := e4 u h30
      omega
  · intro u hu hp
    have := (e2 u hu).2 hp
    exact h1 sw2 u this.1 this.2
end HEAVY
