/-! the reference: know -/
noncomputable def mlw (w : Nat) (cs : List (List Int32)) : List Int32 := ml cs.length (tq cs) (fq cs) w 0 0
def knOk (mn : mKnow) (L : List Int32) : Prop := mn.isKnown = 1 ∧ mn.many = nI (min 60 L.length) ∧ ∀ i x, i < 60 → L[i]? = some x → mn.found i = x
theorem pre_f {k : Nat} {y no : Int32} (hk : k < 30) (h : pre k y no) : pre (k + 1) y (no ||| b1 k) := by
  refine ⟨fun v hv => h.1 v (by omega), fun v => ?_⟩
  rw [b_or, h.2, b_b1 (by omega)]
  by_cases q : v < k
  · have h1 : v < k + 1 := by omega
    have h2 : ¬ v = k := by omega
    simp [q, h1, h2]
  · by_cases q2 : v = k
    · subst q2; rw [h.1 v (Nat.le_refl _)]; simp
    · have h1 : ¬ v < k + 1 := by omega
      simp [q, q2, h1]
theorem pre_t {k : Nat} {y no : Int32} (hk : k < 30) (h : pre k y no) : pre (k + 1) (y ||| b1 k) no := by
  refine ⟨fun v hv => ?_, fun v => ?_⟩
  · rw [b_or, h.1 v (by omega), b_b1 (by omega)]
    have h2 : ¬ v = k := by omega
    simp [h2]
  · rw [h.2, b_or, b_b1 (by omega)]
    by_cases q : v < k
    · have h1 : v < k + 1 := by omega
      have h2 : ¬ v = k := by omega
      simp [q, h1, h2]
    · by_cases q2 : v = k
      · simp [q2]
      · have h1 : ¬ v < k + 1 := by omega
        simp [q, h1]
theorem lowm_id {k : Nat} {y : Int32} (hk : k < 32) (h : ∀ v, k ≤ v → bt y v = false) : lowm y k = y := by
  refine b_ext (fun i _ => ?_)
  rw [b_lowm y hk]
  by_cases q : i < k
  · simp [q]
  · rw [h i (by omega)]; simp
theorem l_know {ma : mForm} {w : Nat} {dr : List Int32} {cs : List (List Int32)} (hok : okF w dr cs) (h : isMF ma w dr cs) {K : mKnow → mSat → mBack → Prop} (hq : ∀ mn ms mb, knOk mn (mlw w cs) → K mn ms mb) :
    ∀ nn i y no (fl : List Int32) (mn : mKnow) (ms : mSat) (mb : mBack), i ≤ w → pre i y no → (∃ x, x ∈ ml cs.length (tq cs) (fq cs) (w - i) i y) → mlw w cs = fl ++ (ml cs.length (tq cs) (fq cs) (w - i) i y ++ rst cs.length (tq cs) (fq cs) w y i) → fl.length ≤ 60 → mn.isKnown = 1 → mn.many = nI fl.length → (∀ j x, fl[j]? = some x → mn.found j = x) → 31 * (60 - fl.length) + (w - i) < nn → w_Ref_know_L38 ma K nn y no (nI i) mn ms mb := by
  have w30 := hok.1
  intro nn
  induction nn with
  | zero => intro i _ _ _ _ _ _ _ _ _ _ _ _ _ _ hm; omega
  | succ nn ih =>
    intro i y no fl mn ms mb hi hp hne hL hf hk hmn hfd hm
    rw [w_Ref_know_L38]
    refine ⟨fun c => absurd c (nI_pos (by omega)), fun _ => ?_⟩
    rw [hmn, h.1, ti_le, nI_toInt (by omega), h.2.2.2.1]
    have e60 : (60 : Int32).toInt = 60 := rfl
    rw [e60]
    have h3 : fl.length ≤ (mlw w cs).length := by rw [hL, List.length_append]; omega
    refine ⟨fun c => ?_, fun c => ⟨fun c2 => ?_, fun c2 => ?_⟩⟩
    · have e : fl.length = 60 := by omega
      refine hq mn ms mb ⟨hk, by rw [hmn]; congr 1; omega, fun j x hj hx => hfd j x ?_⟩
      rw [hL, List.getElem?_append_left (by omega)] at hx
      exact hx
    · have hne2 : i ≠ w := fun e => c2 (by rw [e])
      have hr : w - i = (w - (i + 1)) + 1 := by omega
      have hpf := pre_f (by omega) hp
      have hpt := pre_t (show i < 30 by omega) hp
      have hst := pre_st (by omega) hpf
      have hs := ml_sat w30 (mf_lt hok) (show (i + 1) + (w - (i + 1)) = w by omega) hpf.1 hpf.2
      rw [hr, ml] at hne hL
      have hbi : bt y i = false := hp.1 i (Nat.le_refl _)
      refine s_canBeF hok h (Nat.le_refl _) hst (fun ms2 q2 => ⟨fun c => absurd c z01, fun _ => ?_⟩) (fun ms2 q2 => ⟨fun _ => ?_, fun c => absurd rfl c⟩)
      · rw [nI_1]
        refine ih (i + 1) y _ fl mn ms2 mb (by omega) hpf (hs.mp q2) ?_ hf hk hmn hfd (by omega)
        rw [hL, rst, if_neg (by rw [hbi]; simp), lowm_id (by omega) hp.1, List.append_assoc]
      · rw [nI_1]
        have e0 : ml cs.length (tq cs) (fq cs) (w - (i + 1)) (i + 1) y = [] := List.eq_nil_iff_forall_not_mem.mpr (fun x hx => q2 (hs.mpr ⟨x, hx⟩))
        rw [e0, List.nil_append] at hne hL
        refine ih (i + 1) (y ||| b1 i) no fl mn ms2 mb (by omega) hpt hne ?_ hf hk hmn hfd (by omega)
        rw [hL, rst, if_pos (by rw [b_or, b_b1 (by omega)]; simp), List.nil_append]
        congr 2
        refine rst_cong i (by omega) (fun v hv => ?_)
        rw [b_or, b_b1 (by omega)]
        have h2 : ¬ v = i := by omega
        simp [h2]
    · have e : i = w := nI_inj (by omega) (by omega) c2
      subst e
      have hin : vp_in (nI fl.length) 60 := vp_in_nI (by omega) (by omega)
      refine ⟨hin, ?_⟩
      rw [nI_clamp (by omega), nI_1]
      rw [Nat.sub_self, ml] at hne hL
      have hM : MOD cs.length (tq cs) (fq cs) (fun v => bt y v) := by
        refine Classical.byContradiction (fun q => ?_)
        rw [if_neg q] at hne
        obtain ⟨x, hx⟩ := hne
        cases hx
      rw [if_pos hM, ← List.append_assoc] at hL
      have hlen : (fl ++ [y]).length = fl.length + 1 := by rw [List.length_append]; rfl
      have hfd2 : ∀ j x, (fl ++ [y])[j]? = some x → upd mn.found fl.length y j = x := by
        intro j x hx
        by_cases q : j = fl.length
        · subst q
          rw [List.getElem?_append_right (Nat.le_refl _), Nat.sub_self] at hx
          cases hx
          exact pk_us
        · have hj : j < fl.length := by
            have := (List.getElem?_eq_some_iff.mp hx).1
            omega
          rw [List.getElem?_append_left hj] at hx
          rw [pk_un q]
          exact hfd j x hx
      refine s_Ref_back hok h (fun h0 ms2 mb2 => ?_) (fun k z no2 ms2 hk2 hp2 hne3 hL3 => ?_)
      · cases nn with
        | zero => omega
        | succ nn =>
          rw [w_Ref_know_L38]
          refine ⟨fun _ => hq _ _ _ ?_, fun c => absurd (by decide) c⟩
          rw [h0, List.append_nil] at hL
          refine ⟨hk, ?_, fun j x hj hx => hfd2 j x (hL ▸ hx)⟩
          show nI (fl.length + 1) = _
          rw [hL, hlen]
          congr 1; omega
      · refine ih (k + 1) z no2 (fl ++ [y]) _ ms2 _ (by omega) hp2 hne3 (by rw [hL, hL3]) (by omega) hk ?_ hfd2 (by omega)
        show nI (fl.length + 1) = _
        rw [hlen]
theorem s_Ref_know {ma : mForm} {w : Nat} {dr : List Int32} {cs : List (List Int32)} (hok : okF w dr cs) (h : isMF ma w dr cs) {mn : mKnow} (hk : mn.isKnown = 0 ∨ knOk mn (mlw w cs)) {ms : mSat} {mb : mBack} {Q : mKnow → mSat → mBack → Prop} (hq : ∀ mn ms mb, knOk mn (mlw w cs) → Q mn ms mb) : w_Ref_know ma mn ms mb Q := by
  have w30 := hok.1
  rw [w_Ref_know]
  refine ⟨fun c => ?_, fun c => hq mn ms mb (hk.resolve_left c)⟩
  have hp : pre 0 0 0 := ⟨fun v _ => b_0 v, fun v => by rw [b_0]; simp⟩
  have hs := ml_sat w30 (mf_lt hok) (show 0 + w = w by omega) hp.1 hp.2
  rw [h.2.2.2.1]
  refine s_canBeF hok h (Nat.le_refl _) st_00 (fun ms2 q2 => ⟨fun _ => ?_, fun c => absurd c z01⟩) (fun ms2 q2 => ⟨fun c => absurd rfl c, fun _ => ?_⟩)
  · refine ⟨31 * 60 + w + 1, ?_⟩
    refine l_know hok h hq _ 0 0 0 [] _ ms2 mb (Nat.zero_le _) hp (hs.mp q2) ?_ (Nat.zero_le _) rfl rfl (fun j x hx => by cases hx) (by show 31 * (60 - 0) + (w - 0) < _; omega)
    rw [rst, List.append_nil, List.nil_append]; rfl
  · have e0 : mlw w cs = [] := List.eq_nil_iff_forall_not_mem.mpr (fun x hx => q2 (hs.mpr ⟨x, hx⟩))
    refine hq _ _ _ ⟨rfl, ?_, fun j x _ hx => ?_⟩
    · rw [e0]; rfl
    · rw [e0] at hx; cases hx
