/-! the class's models: least and greater -/
theorem agr_low {k : Nat} {z no r : Int32} (hk : k < 32) (h : pre k z no) (ha : agr z no (fun v => bt r v)) : lowm r k = z := by
  refine b_ext (fun v _ => ?_)
  rw [b_lowm r hk]
  by_cases c : v < k
  · cases hb : bt z v with
    | true =>
      have : bt r v = true := ha.1 v hb
      rw [this]; simp [c]
    | false =>
      have : bt r v = false := ha.2 v (by rw [h.2, hb]; simp [c])
      rw [this]; simp
  · rw [h.1 v (by omega)]; simp [c]
theorem pre_dn (y : Int32) {k : Nat} (hk : k < 30) : pre (k + 1) (lowm y k) (((y ^^^ (-1)) &&& (b1 k - 1)) ||| b1 k) := by
  refine ⟨fun v hv => ?_, fun v => ?_⟩
  · rw [b_lowm y (by omega)]
    have : ¬ v < k := by omega
    simp [this]
  · rw [b_or, b_lowm y (by omega), b_b1 (by omega), b_lown y (by omega)]
    by_cases q : v < k
    · have h1 : v < k + 1 := by omega
      have h2 : ¬ v = k := by omega
      simp [q, h1, h2]
    · by_cases q2 : v = k
      · simp [q2]
      · have h1 : ¬ v < k + 1 := by omega
        simp [q, q2, h1]
theorem pre_w {k w : Nat} {z no : Int32} (hk : k ≤ w) (h : pre k z no) : ∀ v, bt z v = true ∨ bt no v = true → v < w := fun v hv => by
  rcases Nat.lt_or_ge v k with q | q
  · omega
  · exfalso
    rcases hv with g | g
    · rw [h.1 v q] at g; cases g
    · rw [h.2] at g
      have : ¬ v < k := by omega
      simp [this] at g
theorem head_app {A B : List Int32} (h : ∃ x, x ∈ A) : (A ++ B)[0]? = A[0]? := by
  obtain ⟨x, hx⟩ := h
  refine List.getElem?_append_left ?_
  exact List.length_pos_of_mem hx
section LEAST
variable {fo : tForm} {fr : tRows} {w : Nat} {dr : List Int32} {cs : List (List Int32)}
theorem l_least (hok : okF w dr cs) (h : isFO fo fr w dr cs) {H : Option Int32} {K : Int32 → tRows → tSear → tClash → (Nat → Int32) → tTrail → Prop} (hK : ∀ g lr se sk sw tr, lr.room = 2048 → SI w cs fr lr cs.length se tr → MOD cs.length (tq cs) (fq cs) (fun v => bt g v) → H = some g → K g lr se sk sw tr) :
    ∀ nn j b lr se sk sw tr, j ≤ w → lr.room = 2048 → SI w cs fr lr cs.length se tr → MOD cs.length (tq cs) (fq cs) (fun v => bt b v) → (∀ v, bt b v = true → v < w) → H = (ml cs.length (tq cs) (fq cs) (w - j) j (lowm b j))[0]? → w - j < nn → w_Mods_least_L5 fo fr K nn b (nI j) lr se sk sw tr := by
  have w30 := hok.1
  intro nn
  induction nn with
  | zero => intro j _ _ _ _ _ _ _ _ _ _ _ _ hn; omega
  | succ nn ih =>
    intro j b lr se sk sw tr hj hro hS hm hb hH hn
    rw [w_Mods_least_L5, h.1]
    refine pk_le w j (fun c => ?_) (fun c => ?_)
    · have e : j = w := by omega
      subst e
      rw [Nat.sub_self, ml, lowm_id (by omega) (fun v hv => by
        cases q : bt b v with
        | false => rfl
        | true => have := hb v q; omega), if_pos hm] at hH
      exact hK b lr se sk sw tr hro hS hm hH
    · have hr : w - j = (w - (j + 1)) + 1 := by omega
      rw [hr, ml] at hH
      have e1 : ((1 : Int32) <<< (nI j &&& 31)) = b1 j := rfl
      rw [nI_1, e1]
      refine ⟨fun c1 => ?_, fun c1 => ?_⟩
      · have hbj := (and_b1z (by omega)).mp c1
        have el : lowm b (j + 1) = lowm b j := by
          refine b_ext (fun v _ => ?_)
          rw [b_lowm b (by omega), b_lowm b (by omega)]
          by_cases q : v = j
          · subst q; rw [hbj]; simp
          · have : v < j + 1 ↔ v < j := by omega
            simp [this]
        have hin := ml_self w30 hb hm (show j + 1 ≤ w by omega)
        rw [el] at hin
        refine ih (j + 1) b lr se sk sw tr (by omega) hro hS hm hb ?_ (by omega)
        rw [hH, head_app ⟨b, hin⟩, el]
      · have hbj : bt b j = true := by
          cases q : bt b j with
          | true => rfl
          | false => exact absurd ((and_b1z (by omega)).mpr q) c1
        have hp := pre_dn b (show j < 30 by omega)
        have hst := pre_st (by omega) hp
        have hs := ml_sat w30 (mf_lt hok) (show (j + 1) + (w - (j + 1)) = w by omega) hp.1 hp.2
        refine s_find hok h (Nat.le_refl _) hro hS (pre_w (show j + 1 ≤ w by omega) hp) hst.2.2 (fun lr' se' sk' sw' tr' g1 g2 g3 => ⟨fun q => absurd rfl q, fun _ => ?_⟩) (fun r lr' se' sk' sw' tr' g1 g2 g3 g4 g5 => ⟨fun _ => ?_, fun q => absurd q (r_ne w30 g5)⟩)
        · have e0 : ml cs.length (tq cs) (fq cs) (w - (j + 1)) (j + 1) (lowm b j) = [] := List.eq_nil_iff_forall_not_mem.mpr (fun x hx => g3 (hs.mpr ⟨x, hx⟩))
          have el : lowm b (j + 1) = lowm b j ||| b1 j := by
            refine b_ext (fun v _ => ?_)
            rw [b_or, b_lowm b (by omega), b_lowm b (by omega), b_b1 (by omega)]
            by_cases q : v = j
            · subst q; rw [hbj]; simp
            · have : v < j + 1 ↔ v < j := by omega
              simp [this, q]
          refine ih (j + 1) b lr' se' sk' sw' tr' (by omega) g1 g2 hm hb ?_ (by omega)
          rw [hH, e0, List.nil_append, el]
        · have el := agr_low (by omega) hp g4
          have hin := ml_self w30 g5 g3 (show j + 1 ≤ w by omega)
          rw [el] at hin
          refine ih (j + 1) r lr' se' sk' sw' tr' (by omega) g1 g2 g3 g5 ?_ (by omega)
          rw [hH, head_app ⟨r, hin⟩, el]
theorem s_greater (hok : okF w dr cs) (h : isFO fo fr w dr cs) {lr : tRows} {se : tSear} {sk : tClash} {sw : Nat → Int32} {tr : tTrail} (hro : lr.room = 2048) (hS : SI w cs fr lr cs.length se tr) {y : Int32} {Q : Int32 → tRows → tSear → tClash → (Nat → Int32) → tTrail → Prop}
    (hq0 : rst cs.length (tq cs) (fq cs) w y w = [] → ∀ lr se sk sw tr, lr.room = 2048 → SI w cs fr lr cs.length se tr → Q (-1) lr se sk sw tr)
    (hq1 : ∀ r k lr se sk sw tr, lr.room = 2048 → SI w cs fr lr cs.length se tr → k < w → bt y k = false → lowm r (k + 1) = lowm y k ||| b1 k → MOD cs.length (tq cs) (fq cs) (fun v => bt r v) → (∀ v, bt r v = true → v < w) → rst cs.length (tq cs) (fq cs) w y w = ml cs.length (tq cs) (fq cs) (w - (k + 1)) (k + 1) (lowm r (k + 1)) ++ rst cs.length (tq cs) (fq cs) w y k → Q r lr se sk sw tr) : w_Mods_greater y fo fr lr se sk sw tr Q := by
  have w30 := hok.1
  have key : ∀ nn k lr se sk sw tr, k ≤ w → lr.room = 2048 → SI w cs fr lr cs.length se tr → rst cs.length (tq cs) (fq cs) w y w = rst cs.length (tq cs) (fq cs) w y k → k < nn → w_Mods_greater_L10 y fo fr (fun lr_1 se_1 sk_1 sw_1 tr_1 => Q (-1) lr_1 se_1 sk_1 sw_1 tr_1) Q nn (nI k - 1) lr se sk sw tr := by
    intro nn
    induction nn with
    | zero => intro k _ _ _ _ _ _ _ _ _ hn; omega
    | succ nn ih =>
      intro k lr se sk sw tr hk hro hS hr hn
      rw [w_Mods_greater_L10]
      cases k with
      | zero => exact ⟨fun _ => hq0 hr lr se sk sw tr hro hS, fun c => absurd (by decide) c⟩
      | succ k =>
        rw [nI_pred]
        refine ⟨fun c => absurd c (nI_pos (by omega)), fun _ => ?_⟩
        rw [rst] at hr
        have em : nI k + (-1) = nI k - 1 := by rw [Int32.sub_eq_add_neg]
        have e1 : ((1 : Int32) <<< (nI k &&& 31)) = b1 k := rfl
        rw [em, e1]
        refine ⟨fun c => ?_, fun c => ?_⟩
        · have hb : bt y k = true := by
            cases q : bt y k with
            | true => rfl
            | false => exact absurd ((and_b1z (by omega)).mpr q) c
          rw [if_pos hb, List.nil_append] at hr
          exact ih k lr se sk sw tr (by omega) hro hS hr (by omega)
        · have hb := (and_b1z (by omega)).mp c
          rw [if_neg (by rw [hb]; simp)] at hr
          have hp := pre_up y (show k < 30 by omega)
          have hst := pre_st (by omega) hp
          have hs := ml_sat w30 (mf_lt hok) (show (k + 1) + (w - (k + 1)) = w by omega) hp.1 hp.2
          refine s_find hok h (Nat.le_refl _) hro hS (pre_w (show k + 1 ≤ w by omega) hp) hst.2.2 (fun lr' se' sk' sw' tr' g1 g2 g3 => ⟨fun _ => ?_, fun q => absurd rfl q⟩) (fun r lr' se' sk' sw' tr' g1 g2 g3 g4 g5 => ⟨fun q => absurd q (r_ne w30 g5), fun _ => ?_⟩)
          · have e0 : ml cs.length (tq cs) (fq cs) (w - (k + 1)) (k + 1) (lowm y k ||| b1 k) = [] := List.eq_nil_iff_forall_not_mem.mpr (fun x hx => g3 (hs.mpr ⟨x, hx⟩))
            rw [e0, List.nil_append] at hr
            exact ih k lr' se' sk' sw' tr' (by omega) g1 g2 hr (by omega)
          · have el := agr_low (by omega) hp g4
            exact hq1 r k lr' se' sk' sw' tr' g1 g2 (by omega) hb el g3 g5 (by rw [el]; exact hr)
  rw [w_Mods_greater, h.1]
  exact ⟨w + 1, key (w + 1) w lr se sk sw tr (Nat.le_refl _) hro hS rfl (by omega)⟩
end LEAST
