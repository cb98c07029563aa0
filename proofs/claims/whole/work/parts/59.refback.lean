/-! the reference: back -/
theorem bit_at (y : Int32) {k : Nat} (hk : k < 32) : (y >>> (nI k &&& 31)) &&& 1 = if bt y k = true then 1 else 0 := by
  refine b_ext (fun i hi => ?_)
  have e1 : ∀ b : Bool, bt (if b = true then (1 : Int32) else 0) i = (b && decide (i = 0)) := fun b => by
    cases b with
    | true => rw [if_pos rfl, b_1]; simp
    | false => rw [if_neg (by simp), b_0]; simp
  rw [b_and, b_sshr k hk y hi, b_1, e1]
  by_cases e : i = 0
  · subst e
    rw [if_pos (show k + 0 < 32 by omega), Nat.add_zero]
  · simp [e]
theorem b_below {k : Nat} (hk : k < 32) (i : Nat) : bt (b1 k - 1) i = decide (i < k) := by
  rw [b_pred (l := k) (by rw [b_b1 hk]; simp) (fun i hi => by rw [b_b1 hk]; simp; omega), b_b1 hk]
  by_cases q : i < k
  · simp [q]
  · by_cases q2 : i = k
    · subst q2; simp
    · simp [q, q2]
def lowm (y : Int32) (k : Nat) : Int32 := y &&& (b1 k - 1)
theorem b_lowm (y : Int32) {k : Nat} (hk : k < 32) (i : Nat) : bt (lowm y k) i = (decide (i < k) && bt y i) := by
  rw [lowm, b_and, b_below hk]
  cases bt y i <;> simp
theorem b_lown (y : Int32) {k : Nat} (hk : k < 32) (i : Nat) : bt ((y ^^^ (-1)) &&& (b1 k - 1)) i = (decide (i < k) && !bt y i) := by
  rw [b_and, b_below hk]
  by_cases q : i < k
  · rw [b_not _ (by omega)]; simp [q]
  · simp [q]
noncomputable def rst (n : Nat) (t f : Nat → Int32) (w : Nat) (y : Int32) : Nat → List Int32
  | 0 => []
  | k + 1 => (if bt y k = true then [] else ml n t f (w - (k + 1)) (k + 1) (lowm y k ||| b1 k)) ++ rst n t f w y k
theorem rst_cong {n w : Nat} {t f : Nat → Int32} {y z : Int32} : ∀ k, k ≤ 30 → (∀ v, v < k → bt y v = bt z v) → rst n t f w y k = rst n t f w z k := by
  intro k
  induction k with
  | zero => intro _ _; rfl
  | succ k ih =>
    intro hk h
    have e : lowm y k = lowm z k := by
      refine b_ext (fun i _ => ?_)
      rw [b_lowm y (by omega), b_lowm z (by omega)]
      by_cases q : i < k
      · rw [h i (by omega)]
      · simp [q]
    rw [rst, rst, ih (by omega) (fun v hv => h v (by omega)), h k (by omega), e]
theorem mf_lt {w : Nat} {dr : List Int32} {cs : List (List Int32)} (hok : okF w dr cs) : ∀ j, j < cs.length → ∀ v, w ≤ v → bt (tq cs j) v = false ∧ bt (fq cs j) v = false := by
  intro j hj v hv
  have e : cs.getD j [] = cs[j] := by
    rw [List.getD_eq_getElem?_getD, List.getElem?_eq_getElem hj]; rfl
  have hL := hok.2.2.2 _ (List.getElem_mem hj)
  unfold tq fq
  rw [e]
  constructor
  · cases hb : bt (mT cs[j]) v with
    | false => rfl
    | true => have := m_lt hok.1 hL (Or.inl hb); omega
  · cases hb : bt (mF cs[j]) v with
    | false => rfl
    | true => have := m_lt hok.1 hL (Or.inr hb); omega
/-- a prefix: y below k, no its complement there -/
def pre (k : Nat) (y no : Int32) : Prop := (∀ v, k ≤ v → bt y v = false) ∧ (∀ v, bt no v = (decide (v < k) && !bt y v))
theorem pre_st {k : Nat} {y no : Int32} (hk : k ≤ 30) (h : pre k y no) : stOk y no := by
  refine ⟨fun v hv => h.1 v (by omega), fun v hv => ?_, fun v h1 h2 => ?_⟩
  · rw [h.2]
    have : ¬ v < k := by omega
    simp [this]
  · rw [h.2, h1] at h2
    simp at h2
theorem pre_up (y : Int32) {k : Nat} (hk : k < 30) : pre (k + 1) (lowm y k ||| b1 k) ((y ^^^ (-1)) &&& (b1 k - 1)) := by
  refine ⟨fun v hv => ?_, fun v => ?_⟩
  · rw [b_or, b_lowm y (by omega), b_b1 (by omega)]
    have h1 : ¬ v < k := by omega
    have h2 : ¬ v = k := by omega
    simp [h1, h2]
  · rw [b_or, b_lowm y (by omega), b_b1 (by omega), b_lown y (by omega)]
    by_cases q : v < k
    · have h1 : v < k + 1 := by omega
      have h2 : ¬ v = k := by omega
      simp [q, h1, h2]
    · by_cases q2 : v = k
      · simp [q2]
      · have h1 : ¬ v < k + 1 := by omega
        simp [q, h1]
theorem s_Ref_back {ma : mForm} {w : Nat} {dr : List Int32} {cs : List (List Int32)} (hok : okF w dr cs) (h : isMF ma w dr cs) {y : Int32} {ms : mSat} {mb : mBack} {Q : Int32 → mSat → mBack → Prop}
    (h0 : rst cs.length (tq cs) (fq cs) w y w = [] → ∀ ms mb, Q (-1) ms mb)
    (h1 : ∀ k z no ms, k < w → pre (k + 1) z no → (∃ x, x ∈ ml cs.length (tq cs) (fq cs) (w - (k + 1)) (k + 1) z) → rst cs.length (tq cs) (fq cs) w y w = ml cs.length (tq cs) (fq cs) (w - (k + 1)) (k + 1) z ++ rst cs.length (tq cs) (fq cs) w z (k + 1) → Q (nI (k + 1)) ms (mBack.mk z no)) : w_Ref_back y (nI w) ma ms mb Q := by
  have w30 := hok.1
  have key : ∀ nn k (ms : mSat) (mb : mBack), k ≤ w → rst cs.length (tq cs) (fq cs) w y w = rst cs.length (tq cs) (fq cs) w y k → k < nn → w_Ref_back_L4 y ma (fun ms_1 mb_1 => Q (-1) ms_1 mb_1) Q nn (nI k - 1) ms mb := by
    intro nn
    induction nn with
    | zero => intro k _ _ _ _ hm; omega
    | succ nn ih =>
      intro k ms mb hk hr hm
      rw [w_Ref_back_L4]
      cases k with
      | zero => exact ⟨fun _ => h0 hr ms mb, fun c => absurd (by decide) c⟩
      | succ k =>
        rw [nI_pred]
        refine ⟨fun c => absurd c (nI_pos (by omega)), fun _ => ?_⟩
        rw [rst] at hr
        have em : nI k + (-1) = nI k - 1 := by rw [Int32.sub_eq_add_neg]
        rw [bit_at y (show k < 32 by omega), em]
        by_cases hb : bt y k = true
        · rw [if_pos hb]
          rw [if_pos hb, List.nil_append] at hr
          refine ⟨fun _ => ⟨fun _ => ih k _ _ (by omega) hr (by omega), fun c => absurd rfl c⟩, fun c => absurd c z01⟩
        · rw [if_neg hb]
          rw [if_neg hb] at hr
          refine ⟨fun c => absurd rfl c, fun _ => ⟨fun c => absurd c z01, fun _ => ?_⟩⟩
          have hp := pre_up y (show k < 30 by omega)
          have hst := pre_st (by omega) hp
          have hs := ml_sat w30 (mf_lt hok) (show (k + 1) + (w - (k + 1)) = w by omega) hp.1 hp.2
          rw [h.2.2.2.1]
          refine s_canBeF hok h (Nat.le_refl _) hst (fun ms2 q2 => ⟨fun c => absurd c z01, fun _ => ?_⟩) (fun ms2 q2 => ⟨fun _ => ?_, fun c => absurd rfl c⟩)
          · rw [nI_1]
            refine h1 k (lowm y k ||| b1 k) _ ms2 (by omega) hp (hs.mp q2) ?_
            rw [hr, rst]
            congr 1
            rw [if_pos (by rw [b_or, b_b1 (by omega)]; simp), List.nil_append]
            refine rst_cong k (by omega) (fun v hv => ?_)
            rw [b_or, b_lowm y (by omega), b_b1 (by omega)]
            have h2 : ¬ v = k := by omega
            simp [hv, h2]
          · refine ih k _ _ (by omega) ?_ (by omega)
            rw [hr]
            have e0 : ml cs.length (tq cs) (fq cs) (w - (k + 1)) (k + 1) (lowm y k ||| b1 k) = [] := List.eq_nil_iff_forall_not_mem.mpr (fun x hx => q2 (hs.mpr ⟨x, hx⟩))
            rw [e0, List.nil_append]
  rw [w_Ref_back]
  exact ⟨w + 1, key (w + 1) w ms mb (Nat.le_refl _) rfl (by omega)⟩
