/-! the search: find -/
theorem i64_a (x : Int64) : (1099511627776 ≤ x) ↔ (1099511627776 : Int) ≤ x.toInt := by rw [Int64.le_iff_toInt_le]; rfl
theorem i64_b {x : Int64} {c : Nat} (h : x.toInt = (c : Int)) (hc : c < 1099511627776) : (x + 1).toInt = ((c + 1 : Nat) : Int) := by
  have e : ((2 ^ 64 : Nat) : Int) = 18446744073709551616 := rfl
  rw [Int64.toInt_add, h, show (1 : Int64).toInt = 1 from rfl, Int.bmod_def, e]
  split <;> omega
theorem vd_max (dg : Nat → Bool) {len : Nat} (h : len ≤ 30) : vd dg len ≤ 1073741824 := by
  have h1 := vd_top dg (j := 0) len (Nat.zero_le _) h
  have h2 : vd dg 0 = 0 := rfl
  have h3 : 2 ^ (30 - 0) = 1073741824 := rfl
  have h4 : 0 < 2 ^ (30 - len) := Nat.two_pow_pos _
  omega
section TI2
variable {n : Nat} {t f : Nat → Int32} {R : Int32 → Int32 → Prop} {fl : Nat} {y no : Int32} {tr : tTrail} {w len lev : Nat} {vr p : Nat → Nat} {dg : Nat → Bool}
theorem ti_all0 (h : TI n t f R fl y no tr w len 0 vr p dg) {i : Nat} (hi : i < len) : dg i = true := by
  cases hd : dg i with
  | true => rfl
  | false =>
    exfalso
    rcases h.2.2.1 i hi hd with ⟨k, d1, d2, d3⟩ | ⟨d1, d2, d3, d4, d5⟩
    · omega
    · omega
theorem ti_zero (h : TI n t f R fl y no tr w len 0 vr p dg) (fl' : Nat) (y' no' : Int32) : TI n t f R fl' y' no' tr w len 0 vr p dg := by
  have h0 := h
  obtain ⟨k1, k2, k3, k4, k5, k6, k7, k8⟩ := h
  exact ⟨k1, k2, fun i hi hd => (by rw [ti_all0 h0 hi] at hd; cases hd), fun k h1 h2 => (by omega), fun k h1 h2 => (by omega), fun e1 e2 => (by omega), fun k h1 h2 => (by omega), fun h1 => (by omega)⟩
/-- at level 0, or where what was asked for is supposed: a model that has it agrees with the trail -/
theorem ti_low (h : TI n t f R fl y no tr w len lev vr p dg) (hl : lev = 0 ∨ (fl = 1 ∧ lev = 1)) {x : Nat → Bool} (hm : MOD n t f x) (ha : agr y no x) (v : Nat) : (bt tr.trues v = true → x v = true) ∧ (bt tr.falses v = true → x v = false) := by
  have g7 := h.1.2.2.2.2.2.2.1
  have key := ti_agree h hm (Nat.le_refl len) (fun i hi hd => by
    rcases hl with e | ⟨e1, e2⟩
    · subst e
      rw [ti_all0 h hi] at hd; cases hd
    · have g6 := h.1.2.2.2.2.2.1
      rcases h.2.2.1 i hi hd with ⟨k, d1, d2, d3⟩ | ⟨d1, d2, d3, d4, d5⟩
      · omega
      · rcases d5 with ⟨s1, s2⟩ | ⟨s1, s2⟩
        · exact ⟨fun _ => ha.1 _ s2, fun q => (g6 _ s1 q).elim⟩
        · exact ⟨fun q => (g6 _ q s1).elim, fun _ => ha.2 _ s2⟩) len (Nat.le_refl _)
  refine ⟨fun q => ?_, fun q => ?_⟩
  · obtain ⟨i, hi, e⟩ := (g7 v).mp (Or.inl q)
    subst e
    exact (key i hi).1 q
  · obtain ⟨i, hi, e⟩ := (g7 v).mp (Or.inr q)
    subst e
    exact (key i hi).2 q
end TI2
def SI (w : Nat) (cs : List (List Int32)) (fr lr : tRows) (m : Nat) (se : tSear) (tr : tTrail) : Prop := (¬ se.ended = 0 ∧ ¬ ∃ x, MOD m (tq cs) (fq cs) x) ∨ (se.ended = 0 ∧ se.clauses = nI m ∧ ∃ ls fl y no len lev vr p dg, isLR lr ls ∧ ROK m (tq cs) (fq cs) (RW fr lr m ls) w ∧ TI m (tq cs) (fq cs) (RW fr lr m ls) fl y no tr w len lev vr p dg)
section FIND
variable {fo : tForm} {fr : tRows} {w : Nat} {dr : List Int32} {cs : List (List Int32)} {m : Nat}
theorem l_find (hok : okF w dr cs) (h : isFO fo fr w dr cs) (hm : m ≤ cs.length) {y no : Int32} {fl : Nat} (hfl : (fl = 0 ∧ y = 0 ∧ no = 0) ∨ fl = 1) (hy : ∀ v, bt y v = true ∨ bt no v = true → v < w) (hd : ∀ v, bt y v = true → bt no v = true → False) {K : tRows → tSear → tClash → (Nat → Int32) → tTrail → Prop} {Q : Int32 → tRows → tSear → tClash → (Nat → Int32) → tTrail → Prop}
    (hq0 : ∀ lr se sk sw tr, lr.room = 2048 → SI w cs fr lr m se tr → ¬ SATw m (tq cs) (fq cs) y no → Q (-1) lr se sk sw tr)
    (hq1 : ∀ r lr se sk sw tr, lr.room = 2048 → SI w cs fr lr m se tr → MOD m (tq cs) (fq cs) (fun v => bt r v) → agr y no (fun v => bt r v) → (∀ v, bt r v = true → v < w) → Q r lr se sk sw tr) :
    ∀ nn c (x5 : Int64) lr ls se sk sw tr len lev vr p dg, x5.toInt = ((c : Nat) : Int) → c ≤ 33 * vd dg len + lev → se.ended = 0 → se.clauses = nI m → isLR lr ls → ROK m (tq cs) (fq cs) (RW fr lr m ls) w → TI m (tq cs) (fq cs) (RW fr lr m ls) fl y no tr w len lev vr p dg → (∀ k, fl < k → k ≤ lev → k ≤ fl + p k + 1) → 35433480232 ≤ nn + (33 * vd dg len + lev) → w_Sear_find_L26 y no (nI fl) fo fr K Q nn x5 lr se sk sw tr := by
  have w30 := hok.1
  have c400 := hok.2.2.1
  have hroom : fr.room = 400 := h.2.2.2.2.1
  have fl1 : fl ≤ 1 := by omega
  intro nn
  induction nn with
  | zero =>
    intro c x5 lr ls se sk sw tr len lev vr p dg _ _ _ _ _ _ hT _ hn
    have h1 := tr_len hT.1
    have h2 := vd_max dg (len := len) (by omega)
    have h3 : lev ≤ 31 := hT.1.2.2.1
    omega
  | succ nn ih =>
    intro c x5 lr ls se sk sw tr len lev vr p dg hx hc hen hcl hlr hR hT hlp hn
    have h1 := tr_len hT.1
    have h2 := vd_max dg (len := len) (by omega)
    have h3 : lev ≤ 31 := hT.1.2.2.1
    have hx1 := i64_b hx (by omega)
    have rm : lr.room = 2048 := hlr.1
    rw [w_Sear_find_L26]
    refine ⟨fun q => ?_, fun _ => ⟨fun q => absurd hen q, fun _ => ?_⟩⟩
    · rw [lg_cmp_ge, i64_a, hx] at q
      omega
    · refine s_propagate w30 hR (by omega) (by omega) (by have := hlr.2.2.1; omega) (by omega) hcl hlr.2.1 hT (fun sk1 tr1 len1 vr1 dg1 hT1 hv1 hcr hcf => ⟨fun q => absurd rfl q, fun _ => ?_⟩) (fun sk1 tr1 len1 vr1 dg1 hT1 hv1 hx2 => ⟨fun _ => ?_, fun q => absurd q z01⟩)
      · have el : tr1.level = nI lev := hT1.1.2.1
        have noM : ∀ x, MOD m (tq cs) (fq cs) x → agr y no x → (lev = 0 ∨ (fl = 1 ∧ lev = 1)) → False := fun x hxm ha hl => by
          have low := ti_low hT1 hl hxm ha
          obtain ⟨v, ⟨s1, s2⟩ | ⟨s1, s2⟩⟩ := (hR _ _ hcr).2.2 x hxm
          · have := (low v).2 ((hcf v).1 s1)
            rw [s2] at this; cases this
          · have := (low v).1 ((hcf v).2 s1)
            rw [s2] at this; cases this
        rw [el]
        refine pk_lt fl lev (fun c1 => ?_) (fun c1 => (pk_eq lev 0 (fun c2 => ?_) (fun c2 => ?_)).symm)
        · refine s_learn hT1 w30 hR hlr c1 hcr hcf (fun lr' ls' tr' len' s vr' dg' hlr' hR' hs hT' hv' => ?_)
          refine ih (c + 1) _ lr' ls' se sk1 sw tr' len' s vr' p dg' hx1 (by omega) hen hcl hlr' hR' hT' (fun k g1 g2 => hlp k g1 (by omega)) (by omega)
        · refine hq0 lr _ sk1 sw tr1 rm (Or.inl ⟨fun q => absurd q z01, fun ⟨x, hxm⟩ => ?_⟩) (fun ⟨x, hxm, ha⟩ => noM x hxm ha (Or.inl c2))
          have low := ti_low (ti_zero (c2 ▸ hT1) 0 0 0) (Or.inl rfl) hxm ⟨fun v q => (by rw [b_0] at q; cases q), fun v q => (by rw [b_0] at q; cases q)⟩
          obtain ⟨v, ⟨s1, s2⟩ | ⟨s1, s2⟩⟩ := (hR _ _ hcr).2.2 x hxm
          · have := (low v).2 ((hcf v).1 s1)
            rw [s2] at this; cases this
          · have := (low v).1 ((hcf v).2 s1)
            rw [s2] at this; cases this
        · refine hq0 lr _ sk1 sw tr1 rm (Or.inr ⟨rfl, hcl, ls, fl, y, no, len1, lev, vr1, p, dg1, hlr, hR, hT1⟩) (fun ⟨x, hxm, ha⟩ => noM x hxm ha (Or.inr ⟨by omega, by omega⟩))
      · have el : tr1.level = nI lev := hT1.1.2.1
        have g6 := hT1.1.2.2.2.2.2.1
        have g7 := hT1.1.2.2.2.2.2.2.1
        have l1 := tr_len hT1.1
        have si : SI w cs fr lr m se tr1 := Or.inr ⟨hen, hcl, ls, fl, y, no, len1, lev, vr1, p, dg1, hlr, hR, hT1⟩
        refine ⟨fun c1 => ?_, fun c1 => ⟨fun c2 => ?_, fun c2 => ?_⟩⟩
        · obtain ⟨v, s1, s2⟩ := and_ne0.mp c1
          refine hq0 lr se sk1 sw tr1 rm si (fun ⟨x, hxm, ha⟩ => ?_)
          rcases Nat.eq_zero_or_pos lev with q | q
          · have := (ti_low hT1 (Or.inl q) hxm ha v).2 s2
            rw [ha.1 v s1] at this; cases this
          · rcases hfl with ⟨_, e, _⟩ | e
            · rw [e, b_0] at s1; cases s1
            · exact g6 v ((hT1.2.2.2.2.2.1 e q v).1 s1) s2
        · rw [el]
          refine pk_le fl lev (fun c3 => ?_) (fun c3 => ?_)
          · refine s_heaviest hok h hm hcl hT1.1 (fun j hj => ?_) (fun sw' hyes => ⟨fun q => absurd rfl q, fun _ => ?_⟩) (fun sw' v hv ho => ⟨fun _ => ?_, fun q => absurd q (b1_ne0 (by omega))⟩)
            · obtain ⟨e1, e2⟩ := rows_of h (show j < cs.length by omega)
              rw [← e1, ← e2]
              exact hx2 _ _ (Or.inl ⟨j, hj, rfl, rfl⟩)
            · refine hq1 _ lr se sk1 sw' tr1 rm si (fun j hj => ?_) ⟨fun v q => ?_, fun v q => ?_⟩ (fun v q => ?_)
              · obtain ⟨v, ⟨s1, s2⟩ | ⟨s1, s2⟩⟩ := hyes j hj
                · exact ⟨v, Or.inl ⟨s1, s2⟩⟩
                · refine ⟨v, Or.inr ⟨s1, ?_⟩⟩
                  show bt tr1.trues v = false
                  cases hb : bt tr1.trues v with
                  | false => rfl
                  | true => exact (g6 v hb s2).elim
              · rcases hfl with ⟨_, e, _⟩ | e
                · rw [e, b_0] at q; cases q
                · exact (hT1.2.2.2.2.2.1 e (by omega) v).1 q
              · rcases hfl with ⟨_, _, e⟩ | e
                · rw [e, b_0] at q; cases q
                · have := (hT1.2.2.2.2.2.1 e (by omega) v).2.1 q
                  show bt tr1.trues v = false
                  cases hb : bt tr1.trues v with
                  | false => rfl
                  | true => exact (g6 v hb this).elim
              · obtain ⟨i, hi, e⟩ := (g7 v).mp (Or.inl q)
                rw [← e]
                exact (hT1.1.2.2.2.1 i hi).2
            · have hl1 := tr_len (tr_push hT1.1 w30 hv ho 0 0)
              have hlev : lev = fl ∨ (fl < lev ∧ p lev < len1 ∧ lev ≤ fl + p lev + 1) := by
                rcases Nat.lt_or_ge fl lev with q | q
                · exact Or.inr ⟨q, hT1.2.2.2.2.1 lev q (Nat.le_refl _), hlp lev q (Nat.le_refl _)⟩
                · exact Or.inl (by omega)
              refine s_guess hT1 w30 (by omega) c3 fl1 hx2 hv ho (fun tr' hT' => ?_)
              have ev : vd (gu dg1 len1 false) (len1 + 1) = vd dg1 len1 := by
                rw [vd_gu, if_neg (by simp), Nat.add_zero]
              refine ih (c + 1) _ lr ls se sk1 sw' tr' (len1 + 1) (lev + 1) _ _ _ hx1 (by rw [ev]; omega) hen hcl hlr hR hT' (fun k g1 g2 => ?_) (by rw [ev]; omega)
              by_cases q : k = lev + 1
              · subst q
                rw [gu_s]; omega
              · rw [gu_n _ _ q]
                exact hlp k g1 (by omega)
          · have e1 : fl = 1 := by omega
            have e0 : lev = 0 := by omega
            subst e1
            subst e0
            refine s_askAll hT1 w30 hx2 hy hd c1 c2 (fun tr' len' vr' dg' hT' hv' => ?_)
            refine ih (c + 1) _ lr ls se sk1 sw tr' len' 1 vr' _ dg' hx1 (by omega) hen hcl hlr hR hT' (fun k g1 g2 => by omega) (by omega)
        · obtain ⟨v, s1, s2⟩ := and_ne0.mp c2
          refine hq0 lr se sk1 sw tr1 rm si (fun ⟨x, hxm, ha⟩ => ?_)
          rcases Nat.eq_zero_or_pos lev with q | q
          · have := (ti_low hT1 (Or.inl q) hxm ha v).1 s2
            rw [ha.2 v s1] at this; cases this
          · rcases hfl with ⟨_, _, e⟩ | e
            · rw [e, b_0] at s1; cases s1
            · exact g6 v s2 ((hT1.2.2.2.2.2.1 e q v).2.1 s1)
end FIND
