/-! plans: the reference's table, the first plan, the answers -/
section PLANS
variable {ta : tTask} {mt : mTask} {f n bg gl : Nat} {aq ad tk : Nat → Nat}
theorem m_ix {k s : Nat} : (64 * (nI (k + 1) - 1)) + nI s = nI (64 * k + s) := by
  rw [nI_pred, show (64 : Int32) = nI 64 from rfl, pk_mul, nI_add]
theorem m_ix2 {k s : Nat} : (64 * nI k) + nI s = nI (64 * k + s) := by
  rw [show (64 : Int32) = nI 64 from rfl, pk_mul, nI_add]
theorem l_mC66 (hk : tkOk f n bg gl aq ad tk) (hT : isMT mt f n bg gl aq ad tk) {mw : Nat → Int32} {k s : Nat} {x1 x2 : Int32} (hk5 : k < 5) (hs : s < 2 ^ f) (hw : wOk f n gl aq ad tk mw k) {K : Int32 → Prop} (hK : K (nI (wy n gl aq ad tk k s + sg (wa n gl aq ad tk k s) n))) :
    ∀ nn a, a ≤ n → n - a + 1 < nn → w_Ref_counts_L66 x1 x2 (nI (k + 1)) (nI s) mt mw K nn (nI (sg (wa n gl aq ad tk k s) a)) (nI a) := by
  have hn := hk.2.1
  have hf := p_f hk.1
  intro nn
  induction nn with
  | zero => intro a _ h; omega
  | succ nn ih =>
    intro a ha hm
    rw [w_Ref_counts_L66, hT.2.1]
    refine pk_lt n a (fun c => by omega) (fun c => ?_)
    by_cases e : a = n
    · subst e
      refine s_afterN hT ⟨fun _ => ?_, fun c => absurd (nI_pos' (by omega)) c⟩
      rw [m_ix]
      refine ⟨vp_in_nI (by omega) (by omega), ?_⟩
      rw [nI_clamp (by omega), hw s hs, nI_add, nI_1]
      obtain ⟨m, rfl⟩ : ∃ m, nn = m + 1 := ⟨nn - 1, by omega⟩
      rw [w_Ref_counts_L66, hT.2.1]
      refine pk_lt a (a + 1) (fun _ => ?_) (fun c => by omega)
      rw [Nat.add_comm]; exact hK
    · have ha2 : a < n := by omega
      refine s_afterM hk hT ha2 hs ?_
      have h := ih (a + 1) (by omega) (by omega)
      rw [sg] at h
      unfold wa at h
      cases ho : aft aq ad tk a s with
      | none =>
        rw [ho] at h
        refine ⟨fun c => absurd c (by decide), fun _ => ?_⟩
        rw [nI_1, show (0 : Int32) = nI 0 from rfl, nI_add]
        exact h
      | some s' =>
        rw [ho] at h
        have hl := aft_lt hk ha2 hs ho
        refine ⟨fun _ => ?_, fun c => absurd (nI_pos' (by omega)) c⟩
        show vp_in ((64 * (nI (k + 1) - 1)) + nI s') 384 ∧ _
        rw [show oI (some s') = nI s' from rfl, m_ix]
        refine ⟨vp_in_nI (by omega) (by omega), ?_⟩
        rw [nI_clamp (by omega), hw s' hl, nI_add, nI_1]
        exact h
theorem l_mC54 (hk : tkOk f n bg gl aq ad tk) (hT : isMT mt f n bg gl aq ad tk) {k : Nat} {x1 : Int32} (hk5 : k < 5) {K : (Nat → Int32) → Prop} {w0 : Nat → Int32}
    (hK : ∀ mw : Nat → Int32, (∀ j, j ≤ k → wOk f n gl aq ad tk w0 j → wOk f n gl aq ad tk mw j) → wOk f n gl aq ad tk mw (k + 1) → K mw) :
    ∀ nn s, s ≤ 2 ^ f → 2 ^ f - s < nn → ∀ mw : Nat → Int32, (∀ j, j ≤ k → wOk f n gl aq ad tk w0 j → wOk f n gl aq ad tk mw j) → wOk f n gl aq ad tk mw k → (∀ q, q < s → mw (64 * (k + 1) + q) = nI (wy n gl aq ad tk (k + 1) q)) →
      w_Ref_counts_L54 x1 (nI (2 ^ f)) (nI (k + 1)) mt K nn (nI s) mw := by
  have hf := p_f hk.1
  have hn := hk.2.1
  intro nn
  induction nn with
  | zero => intro s _ h; omega
  | succ nn ih =>
    intro s hs hm mw h2 h3 h4
    rw [w_Ref_counts_L54]
    refine pk_le (2 ^ f) s (fun c => hK mw h2 (fun q hq => h4 q (by omega))) (fun c => ?_)
    have hb1 := wy_le n gl aq ad tk k s
    have hb2 := sg_le (wa_le n gl aq ad tk k s) n
    have hb3 : n * 60 ≤ 300 := by omega
    refine ⟨n + 2, l_mC66 hk hT hk5 c h3 ?_ (n + 2) 0 (by omega) (by omega)⟩
    have hstep : ∀ v, v = wy n gl aq ad tk (k + 1) s → w_Ref_counts_L54 x1 (nI (2 ^ f)) (nI (k + 1)) mt K nn (nI s + 1) (upd mw (64 * (k + 1) + s) (nI v)) := by
      intro v hv
      subst hv
      have up : ∀ i, i ≠ 64 * (k + 1) + s → upd mw (64 * (k + 1) + s) (nI (wy n gl aq ad tk (k + 1) s)) i = mw i := fun i hi => pk_un hi
      rw [nI_1]
      refine ih (s + 1) (by omega) (by omega) _ (fun j hj hw q hq => ?_) (fun q hq => ?_) (fun q hq => ?_)
      · exact (up _ (by omega)).trans (h2 j hj hw q hq)
      · exact (up _ (by omega)).trans (h3 q hq)
      · by_cases e2 : q = s
        · subst e2; exact pk_us
        · exact (up _ (by omega)).trans (h4 q (by omega))
    rw [m_ix2, nI_clamp (by omega)]
    refine pk_le _ 60 (fun c2 => ⟨vp_in_nI (by omega) (by omega), hstep _ ?_⟩) (fun c2 => ⟨vp_in_nI (by omega) (by omega), hstep 60 ?_⟩) (hx := rfl) (hy := rfl)
    · rw [wy_s]; omega
    · rw [wy_s]; omega
theorem l_mC46 (hk : tkOk f n bg gl aq ad tk) (hT : isMT mt f n bg gl aq ad tk) {t : Nat} (ht : t ≤ 5) {K : (Nat → Int32) → Prop} (hK : ∀ mw : Nat → Int32, (∀ j, j ≤ t → wOk f n gl aq ad tk mw j) → K mw) :
    ∀ nn k, 1 ≤ k → k ≤ t + 1 → t + 1 - k < nn → ∀ mw : Nat → Int32, (∀ j, j < k → wOk f n gl aq ad tk mw j) → w_Ref_counts_L46 (nI t) (nI (2 ^ f)) mt K nn (nI k) mw := by
  intro nn
  induction nn with
  | zero => intro k _ _ h; omega
  | succ nn ih =>
    intro k hk1 hk6 hm mw h2
    rw [w_Ref_counts_L46]
    refine pk_lt t k (fun c => hK mw (fun j hj => h2 j (by omega))) (fun c => ?_)
    obtain ⟨k, rfl⟩ : ∃ k', k = k' + 1 := ⟨k - 1, by omega⟩
    refine ⟨2 ^ f + 1, l_mC54 hk hT (by omega) (w0 := mw) (fun mw' e2 e3 => ?_) (2 ^ f + 1) 0 (Nat.zero_le _) (Nat.lt_succ_self _) mw (fun _ _ h => h) (h2 k (by omega)) (fun q hq => by omega)⟩
    rw [nI_1]
    refine ih (k + 1 + 1) (by omega) (by omega) (by omega) mw' (fun j hj => ?_)
    by_cases e : j = k + 1
    · subst e; exact e3
    · exact e2 j (by omega) (h2 j (by omega))
theorem l_mC9 (hk : tkOk f n bg gl aq ad tk) (hT : isMT mt f n bg gl aq ad tk) {x1 : Int32} {K : (Nat → Int32) → Prop} (hK : ∀ mw : Nat → Int32, wOk f n gl aq ad tk mw 0 → K mw) :
    ∀ nn s, s ≤ 2 ^ f → 2 ^ f - s < nn → ∀ mw : Nat → Int32, (∀ q, q < s → mw q = nI (wy n gl aq ad tk 0 q)) → w_Ref_counts_L9 x1 (nI (2 ^ f)) mt K nn (nI s) mw := by
  have hf := p_f hk.1
  have hgl := hk.2.2.2.1
  intro nn
  induction nn with
  | zero => intro s _ h; omega
  | succ nn ih =>
    intro s hs hm mw h2
    have hc : s < 2 ^ f → ((nI s &&& nI gl = nI gl) ↔ gl &&& s = gl) := by
      intro c
      rw [fa_and, Nat.and_comm]
      have := Nat.and_lt_two_pow (n := f) s hgl
      exact nI_eq (by rw [Nat.and_comm]; omega) (by omega)
    rw [w_Ref_counts_L9, hT.2.2.2.1]
    refine pk_le (2 ^ f) s (fun c => hK mw (fun q hq => by rw [show 64 * 0 + q = q by omega]; exact h2 q (by omega))) (fun c => ⟨fun c3 => ⟨vp_in_nI (by omega) (by omega), ?_⟩, fun c3 => ⟨vp_in_nI (by omega) (by omega), ?_⟩⟩)
    all_goals
      rw [hc c] at c3
      rw [nI_clamp (by omega), nI_1]
      refine ih (s + 1) (by omega) (by omega) _ (fun q hq => ?_)
      by_cases e : q = s
      · subst e
        refine pk_us.trans ?_
        unfold wy
        first | rw [if_pos c3]; rfl | rw [if_neg c3]; rfl
      · exact (pk_un e).trans (h2 q (by omega))
theorem s_plansOf (hk : tkOk f n bg gl aq ad tk) (hT : isMT mt f n bg gl aq ad tk) {t : Nat} (ht : t ≤ 5) {mw : Nat → Int32} {Q : Int32 → (Nat → Int32) → Prop} (hq : ∀ mw', (∀ j, j ≤ t → wOk f n gl aq ad tk mw' j) → Q (nI (wy n gl aq ad tk t bg)) mw') : w_Ref_plansOf (nI t) mt mw Q := by
  have hf := p_f hk.1
  have hbg := hk.2.2.1
  unfold w_Ref_plansOf w_Ref_counts
  rw [hT.1, hT.2.2.1, p_shl hk.1]
  refine ⟨2 ^ f + 1, l_mC9 hk hT (fun mw1 e2 => ?_) (2 ^ f + 1) 0 (Nat.zero_le _) (Nat.lt_succ_self _) mw (fun q hq => by omega)⟩
  refine ⟨t + 2, l_mC46 hk hT ht (fun mw2 e4 => ?_) (t + 2) 1 (by omega) (by omega) (by omega) mw1 (fun j hj => by rw [show j = 0 by omega]; exact e2)⟩
  show vp_in ((64 * nI t) + nI bg) 384 ∧ Q (mw2 ((64 * nI t) + nI bg).toNatClampNeg) mw2
  rw [m_ix2, nI_clamp (by omega)]
  refine ⟨vp_in_nI (by omega) (by omega), ?_⟩
  rw [e4 t (Nat.le_refl t) bg hbg]
  exact hq mw2 e4
/-- the first of so many -/
def fst (p : Nat → Bool) : Nat → Nat
  | 0 => 0
  | n + 1 => if fst p n < n then fst p n else if p n then n else n + 1
theorem fst_le (p : Nat → Bool) : ∀ n, fst p n ≤ n
  | 0 => Nat.le_refl 0
  | n + 1 => by have := fst_le p n; rw [fst]; split <;> (try split) <;> omega
theorem fst_no (p : Nat → Bool) : ∀ n k, k < fst p n → p k = false
  | 0, k, h => by rw [fst] at h; omega
  | n + 1, k, h => by
    have ih := fst_no p n
    have hle := fst_le p n
    rw [fst] at h
    split at h
    · exact ih k h
    · split at h
      · exact ih k (by omega)
      · rename_i h1 h2
        by_cases e : k = n
        · subst e; simpa using h2
        · exact ih k (by omega)
theorem fst_yes (p : Nat → Bool) : ∀ n, fst p n < n → p (fst p n) = true
  | 0, h => by omega
  | n + 1, h => by
    have ih := fst_yes p n
    rw [fst] at h ⊢
    split
    · rename_i h1; exact ih h1
    · rename_i h1
      rw [if_neg h1] at h
      split
      · rename_i h2; exact h2
      · rename_i h2; rw [if_neg h2] at h; omega
theorem fst_eq {p : Nat → Bool} {n k : Nat} (hk : k < n) (h1 : p k = true) (h2 : ∀ j, j < k → p j = false) : fst p n = k := by
  have h3 := fst_no p n
  have h4 := fst_yes p n
  have h5 := fst_le p n
  rcases Nat.lt_trichotomy (fst p n) k with q | q | q
  · have := h4 (by omega); rw [h2 _ q] at this; cases this
  · exact q
  · have := h3 k q; rw [h1] at this; cases this
theorem fst_n {p : Nat → Bool} {n : Nat} (h : ∀ j, j < n → p j = false) : fst p n = n := by
  have h4 := fst_yes p n
  have h5 := fst_le p n
  rcases Nat.lt_or_ge (fst p n) n with q | q
  · have := h4 q; rw [h _ q] at this; cases this
  · omega
/-- the first plan's action with k + 1 steps left -/
def cp (n gl : Nat) (aq ad tk : Nat → Nat) (k s a : Nat) : Bool := decide (0 < wa n gl aq ad tk k s a)
def cf (n gl : Nat) (aq ad tk : Nat → Nat) (k s : Nat) : Nat := fst (cp n gl aq ad tk k s) n
def cV (n gl : Nat) (aq ad tk : Nat → Nat) (k s : Nat) : Int32 := if cf n gl aq ad tk k s < n then nI (cf n gl aq ad tk k s) else -7
def nx (n gl : Nat) (aq ad tk : Nat → Nat) (k s : Nat) : Nat := if cf n gl aq ad tk k s < n then (aft aq ad tk (cf n gl aq ad tk k s) s).getD s else s
def sq (n bg gl : Nat) (aq ad tk : Nat → Nat) (t : Nat) : Nat → Nat
  | 0 => bg
  | i + 1 => nx n gl aq ad tk (t - 1 - i) (sq n bg gl aq ad tk t i)
theorem cp_pos {k s a : Nat} (h : cp n gl aq ad tk k s a = true) : 0 < wa n gl aq ad tk k s a := of_decide_eq_true h
theorem wa_some {k s a : Nat} (h : 0 < wa n gl aq ad tk k s a) : ∃ s', aft aq ad tk a s = some s' ∧ 0 < wy n gl aq ad tk k s' := by
  unfold wa at h
  split at h
  · rename_i s' e; exact ⟨s', e, h⟩
  · omega
theorem nx_lt (hk : tkOk f n bg gl aq ad tk) {k s : Nat} (hs : s < 2 ^ f) : nx n gl aq ad tk k s < 2 ^ f := by
  unfold nx
  split
  · rename_i h
    cases ho : aft aq ad tk (cf n gl aq ad tk k s) s with
    | none => exact hs
    | some s' => exact aft_lt hk h hs ho
  · exact hs
theorem sq_lt (hk : tkOk f n bg gl aq ad tk) {t : Nat} : ∀ i, sq n bg gl aq ad tk t i < 2 ^ f
  | 0 => hk.2.2.1
  | i + 1 => nx_lt hk (sq_lt hk i)
theorem sg_0 {g : Nat → Nat} : ∀ {n}, (∀ a, a < n → g a = 0) → sg g n = 0
  | 0, _ => rfl
  | n + 1, h => by rw [sg, sg_0 (fun a ha => h a (by omega)), h n (by omega)]
theorem nx_pos {k s : Nat} (h : 0 < wy n gl aq ad tk (k + 1) s) : 0 < wy n gl aq ad tk k (nx n gl aq ad tk k s) := by
  unfold nx
  split
  · rename_i hc
    have hy := fst_yes _ n hc
    have hy2 : 0 < wa n gl aq ad tk k s (cf n gl aq ad tk k s) := cp_pos hy
    obtain ⟨s', e, hp⟩ := wa_some hy2
    rw [e]; exact hp
  · rename_i hc
    have hz : ∀ a, a < n → wa n gl aq ad tk k s a = 0 := by
      intro a ha
      have hle : cf n gl aq ad tk k s ≤ n := fst_le _ n
      have h3 : cp n gl aq ad tk k s a = false := fst_no _ n a (by show a < cf n gl aq ad tk k s; omega)
      unfold cp at h3
      simpa using h3
    rw [wy_s, sg_0 hz] at h
    omega
theorem l_choice (hk : tkOk f n bg gl aq ad tk) (hT : isTA ta f n bg gl aq ad tk) {k s : Nat} (hk5 : k < 5) (hs : s < 2 ^ f) {K : tWays → Prop} {Q : Int32 → tWays → Prop} (hK : cf n gl aq ad tk k s = n → ∀ tw, wKn tw f n gl aq ad tk → K tw) (hQ : ∀ a, a < n → cf n gl aq ad tk k s = a → ∀ tw, wKn tw f n gl aq ad tk → Q (nI a) tw) :
    ∀ nn a, a ≤ n → n - a < nn → (∀ j, j < a → cp n gl aq ad tk k s j = false) → ∀ tw, wKn tw f n gl aq ad tk → w_Task_choice_L2 (nI (k + 1)) (nI s) ta K Q nn (nI a) tw := by
  have hn := hk.2.1
  intro nn
  induction nn with
  | zero => intro a _ h; omega
  | succ nn ih =>
    intro a ha hm hj tw hw
    rw [w_Task_choice_L2, hT.2.1]
    refine pk_le n a (fun c => hK (fst_n (fun j hj2 => hj j (by omega))) tw hw) (fun c => s_after hk hT c hs ?_)
    rw [nI_pred]
    have key : ∀ tw2, wKn tw2 f n gl aq ad tk → (nI (wa n gl aq ad tk k s a) ≤ 0 → w_Task_choice_L2 (nI (k + 1)) (nI s) ta K Q nn (nI a + 1) tw2) ∧ (¬ nI (wa n gl aq ad tk k s a) ≤ 0 → Q (nI a) tw2) := by
      intro tw2 h2
      have hb := wa_le n gl aq ad tk k s a
      refine pk_le (wa n gl aq ad tk k s a) 0 (fun c2 => ?_) (fun c2 => hQ a c (fst_eq c (by unfold cp; simpa using c2) hj) tw2 h2)
      rw [nI_1]
      refine ih (a + 1) (by omega) (by omega) (fun j hj2 => ?_) tw2 h2
      by_cases e : j = a
      · subst e; unfold cp; simpa using c2
      · exact hj j (by omega)
    have hwa : wa n gl aq ad tk k s a = match aft aq ad tk a s with
        | some s' => wy n gl aq ad tk k s'
        | none => 0 := rfl
    cases ho : aft aq ad tk a s with
    | none =>
      rw [ho] at hwa
      rw [hwa] at key
      exact s_waysNeg hk hT hw (by omega) key
    | some s' =>
      rw [ho] at hwa
      rw [hwa] at key
      exact s_ways hk hT hw (by omega) (aft_lt hk c hs ho) key
theorem s_choice (hk : tkOk f n bg gl aq ad tk) (hT : isTA ta f n bg gl aq ad tk) {k s : Nat} (hk5 : k < 5) (hs : s < 2 ^ f) {tw : tWays} (hw : wKn tw f n gl aq ad tk) {Q : Int32 → tWays → Prop} (hq : ∀ tw', wKn tw' f n gl aq ad tk → Q (cV n gl aq ad tk k s) tw') : w_Task_choice (nI (k + 1)) (nI s) ta tw Q := by
  unfold w_Task_choice
  refine ⟨n + 1, l_choice hk hT hk5 hs (fun e tw' h => ?_) (fun a ha e tw' h => ?_) (n + 1) 0 (by omega) (by omega) (fun j hj => by omega) tw hw⟩
  · have := hq tw' h
    unfold cV at this
    rwa [if_neg (by omega)] at this
  · have := hq tw' h
    unfold cV at this
    rwa [if_pos (by omega), e] at this
theorem l_ahead (hk : tkOk f n bg gl aq ad tk) (hT : isTA ta f n bg gl aq ad tk) {t i : Nat} (ht : t ≤ 5) (hi : i ≤ t) {K : Int32 → tWays → Prop} (hK : ∀ tw, wKn tw f n gl aq ad tk → K (nI (sq n bg gl aq ad tk t i)) tw) :
    ∀ nn j, j ≤ i → i - j < nn → ∀ tw, wKn tw f n gl aq ad tk → w_Task_stateAhead_L8 (nI t) (nI i) ta K nn (nI (sq n bg gl aq ad tk t j)) (nI j) tw := by
  have hn := hk.2.1
  intro nn
  induction nn with
  | zero => intro j _ h; omega
  | succ nn ih =>
    intro j hj hm tw hw
    rw [w_Task_stateAhead_L8]
    refine pk_le i j (fun c => by rw [show j = i by omega]; exact hK tw hw) (fun c => pk_le t j (fun c2 => by omega) (fun c2 => ?_))
    rw [pk_sub (by omega), show t - j = (t - 1 - j) + 1 by omega]
    have hs := sq_lt (n := n) (gl := gl) hk (t := t) j
    refine s_choice hk hT (by omega) hs hw (fun tw' h => ?_)
    have hih := ih (j + 1) (by omega) (by omega) tw' h
    rw [sq] at hih
    unfold nx at hih
    unfold cV
    rw [nI_1]
    by_cases hc : cf n gl aq ad tk (t - 1 - j) (sq n bg gl aq ad tk t j) < n
    · rw [if_pos hc] at hih
      rw [if_pos hc]
      have hne : ¬ nI (cf n gl aq ad tk (t - 1 - j) (sq n bg gl aq ad tk t j)) = -7 := fun e => by
        have := nI_pos (n := cf n gl aq ad tk (t - 1 - j) (sq n bg gl aq ad tk t j)) (by omega)
        rw [e] at this
        exact this (by decide)
      refine ⟨fun c3 => absurd c3 hne, fun _ => s_after hk hT hc hs ?_⟩
      have hy := fst_yes _ n hc
      have hy2 : 0 < wa n gl aq ad tk (t - 1 - j) (sq n bg gl aq ad tk t j) (cf n gl aq ad tk (t - 1 - j) (sq n bg gl aq ad tk t j)) := cp_pos hy
      obtain ⟨s', e, -⟩ := wa_some hy2
      rw [e] at hih ⊢
      exact hih
    · rw [if_neg hc] at hih
      rw [if_neg hc]
      exact ⟨fun _ => hih, fun c3 => absurd rfl c3⟩
theorem s_ahead (hk : tkOk f n bg gl aq ad tk) (hT : isTA ta f n bg gl aq ad tk) {t i : Nat} (ht : t ≤ 5) (hi : i ≤ t) {tw : tWays} (hw : wKn tw f n gl aq ad tk) {Q : Int32 → tWays → Prop} (hq : ∀ tw', wKn tw' f n gl aq ad tk → Q (nI (sq n bg gl aq ad tk t i)) tw') : w_Task_stateAhead (nI t) (nI i) ta tw Q := by
  unfold w_Task_stateAhead
  rw [hT.2.2.1]
  exact ⟨i + 1, l_ahead hk hT ht hi hq (i + 1) 0 (by omega) (by omega) tw hw⟩
/-- the reference's action: as many as there are actions: nothing -/
theorem l_goes28 (hk : tkOk f n bg gl aq ad tk) (hT : isMT mt f n bg gl aq ad tk) {t i : Nat} {x2 : Int32} (ht : t ≤ 5) (hi : i < t) {s : Nat} (hs : s < 2 ^ f) {mw : Nat → Int32} (hw : wOk f n gl aq ad tk mw (t - 1 - i)) (hp : 0 < wy n gl aq ad tk (t - i) s) {K : Int32 → Prop} (hK : K (nI (cf n gl aq ad tk (t - 1 - i) s))) :
    ∀ nn a, a ≤ n → n - a < nn → (∀ j, j < a → cp n gl aq ad tk (t - 1 - i) s j = false) → w_Ref_goes_L28 (nI t) x2 (nI s) (nI i) mt mw K nn (nI a) := by
  have hn := hk.2.1
  have hf := p_f hk.1
  have hix : ∀ r : Nat, (64 * ((nI t - 1) - nI i)) + nI r = nI (64 * (t - 1 - i) + r) := fun r => by
    rw [show nI t - 1 = nI (t - 1) from pk_sub (a := t) (b := 1) (by omega), pk_sub (by omega), m_ix2]
  have he : t - i = (t - 1 - i) + 1 := by omega
  rw [he] at hp
  generalize t - 1 - i = k at *
  intro nn
  induction nn with
  | zero => intro a _ h; omega
  | succ nn ih =>
    intro a ha hm hj
    rw [w_Ref_goes_L28]
    by_cases e : a = n
    · subst e
      have hcf : cf a gl aq ad tk k s = a := fst_n hj
      refine s_afterN hT ⟨fun c => absurd c (nI_pos (by omega)), fun _ => s_afterN hT ?_⟩
      rw [hix, nI_clamp (by omega), hw s hs]
      refine ⟨vp_in_nI (by omega) (by omega), ?_⟩
      have hz : sg (wa a gl aq ad tk k s) a = 0 := sg_0 (fun j hj2 => by have := hj j hj2; unfold cp at this; simpa using this)
      rw [wy_s, hz] at hp
      have hb := wy_le a gl aq ad tk k s
      refine ⟨fun _ => by rw [hcf] at hK; exact hK, fun c => absurd c (nI_ne0 (by omega) (by omega))⟩
    · have ha2 : a < n := by omega
      refine s_afterM hk hT ha2 hs ?_
      have hnext : ¬ 0 < wa n gl aq ad tk k s a → w_Ref_goes_L28 (nI t) x2 (nI s) (nI i) mt mw K nn (nI a + 1) := fun hz => by
        rw [nI_1]
        refine ih (a + 1) (by omega) (by omega) (fun j hj2 => ?_)
        by_cases e2 : j = a
        · subst e2; unfold cp; simpa using hz
        · exact hj j (by omega)
      have hwa : wa n gl aq ad tk k s a = match aft aq ad tk a s with
          | some s' => wy n gl aq ad tk k s'
          | none => 0 := rfl
      cases ho : aft aq ad tk a s with
      | none =>
        rw [ho] at hwa
        have hz : wa n gl aq ad tk k s a = 0 := hwa
        exact ⟨fun _ => hnext (by omega), fun c => absurd (by decide) c⟩
      | some s' =>
        rw [ho] at hwa
        have hz : wa n gl aq ad tk k s a = wy n gl aq ad tk k s' := hwa
        have hl := aft_lt hk ha2 hs ho
        refine ⟨fun c => absurd c (nI_pos (by omega)), fun _ => s_afterM hk hT ha2 hs ?_⟩
        rw [ho]
        show vp_in ((64 * ((nI t - 1) - nI i)) + nI s') 384 ∧ _
        rw [show oI (some s') = nI s' from rfl, hix, nI_clamp (by omega), hw s' hl]
        refine ⟨vp_in_nI (by omega) (by omega), ?_⟩
        have hb := wy_le n gl aq ad tk k s'
        have hcv : 0 < wa n gl aq ad tk k s a → K (nI a) := fun h0 => by
          have : cf n gl aq ad tk k s = a := fst_eq ha2 (by unfold cp; simpa using h0) hj
          rw [this] at hK; exact hK
        exact pk_eq _ 0 (fun c => hnext (by omega)) (fun c => hcv (by omega)) (hx := rfl) (hy := rfl) |>.symm
theorem l_goes19 (hk : tkOk f n bg gl aq ad tk) (hT : isMT mt f n bg gl aq ad tk) {t i : Nat} (ht : t ≤ 5) (hi : i ≤ t) {mw : Nat → Int32} (hw : ∀ j, j ≤ t → wOk f n gl aq ad tk mw j) {K : mGo → Prop}
    (hK : ∀ mg : mGo, mg.stood = nI (sq n bg gl aq ad tk t i) → (0 < i → mg.did = nI (cf n gl aq ad tk (t - i) (sq n bg gl aq ad tk t (i - 1)))) → K mg) :
    ∀ nn j, j ≤ i → i - j < nn → 0 < wy n gl aq ad tk (t - j) (sq n bg gl aq ad tk t j) → ∀ mg : mGo, mg.stood = nI (sq n bg gl aq ad tk t j) → (0 < j → mg.did = nI (cf n gl aq ad tk (t - j) (sq n bg gl aq ad tk t (j - 1)))) → w_Ref_goes_L19 (nI t) (nI i) mt mw K nn (nI (sq n bg gl aq ad tk t j)) (nI j) mg := by
  have hn := hk.2.1
  have hf := p_f hk.1
  intro nn
  induction nn with
  | zero => intro j _ h; omega
  | succ nn ih =>
    intro j hj hm hp mg h1 h2
    rw [w_Ref_goes_L19]
    refine pk_le i j (fun c => ?_) (fun c => ?_)
    · have e : j = i := by omega
      subst e
      exact hK mg h1 h2
    · have hs := sq_lt (n := n) (gl := gl) hk (t := t) j
      refine ⟨n + 1, l_goes28 hk hT ht (by omega) hs (hw _ (by omega)) hp ?_ (n + 1) 0 (by omega) (by omega) (fun _ h => by omega)⟩
      have hp2 : 0 < wy n gl aq ad tk (t - (j + 1)) (sq n bg gl aq ad tk t (j + 1)) := by
        rw [sq]
        have := nx_pos (n := n) (gl := gl) (aq := aq) (ad := ad) (tk := tk) (k := t - 1 - j) (s := sq n bg gl aq ad tk t j) (by rw [show t - 1 - j + 1 = t - j by omega]; exact hp)
        rw [show t - (j + 1) = t - 1 - j by omega]; exact this
      have hstep : ∀ r : Int32, r = nI (sq n bg gl aq ad tk t (j + 1)) → w_Ref_goes_L19 (nI t) (nI i) mt mw K nn r (nI j + 1) (mGo.mk (nI (cf n gl aq ad tk (t - 1 - j) (sq n bg gl aq ad tk t j))) r) := by
        intro r hr
        subst hr
        rw [nI_1]
        exact ih (j + 1) (by omega) (by omega) hp2 _ rfl (fun _ => by rw [show t - (j + 1) = t - 1 - j by omega]; rfl)
      have hle : cf n gl aq ad tk (t - 1 - j) (sq n bg gl aq ad tk t j) ≤ n := fst_le _ n
      by_cases hc : cf n gl aq ad tk (t - 1 - j) (sq n bg gl aq ad tk t j) < n
      · refine s_afterM hk hT hc hs (hstep _ ?_)
        have hy := fst_yes _ n hc
        have hy2 : 0 < wa n gl aq ad tk (t - 1 - j) (sq n bg gl aq ad tk t j) (cf n gl aq ad tk (t - 1 - j) (sq n bg gl aq ad tk t j)) := cp_pos hy
        obtain ⟨s', e, -⟩ := wa_some hy2
        rw [sq]; unfold nx; rw [if_pos hc, e]; rfl
      · have e : cf n gl aq ad tk (t - 1 - j) (sq n bg gl aq ad tk t j) = n := by omega
        have hst := hstep (nI (sq n bg gl aq ad tk t j)) (by rw [sq]; unfold nx; rw [if_neg hc])
        rw [e] at hst ⊢
        exact s_afterN hT hst
theorem s_goes (hk : tkOk f n bg gl aq ad tk) (hT : isMT mt f n bg gl aq ad tk) {t i : Nat} (ht : t ≤ 5) (hi : i ≤ t) {mw : Nat → Int32} (hw : ∀ j, j ≤ t → wOk f n gl aq ad tk mw j) (hp : 0 < wy n gl aq ad tk t bg) {mg : mGo} {Q : mGo → Prop}
    (hq : ∀ mg : mGo, mg.stood = nI (sq n bg gl aq ad tk t i) → (0 < i → mg.did = nI (cf n gl aq ad tk (t - i) (sq n bg gl aq ad tk t (i - 1)))) → Q mg) : w_Ref_goes (nI t) (nI i) mt mw mg Q := by
  unfold w_Ref_goes
  rw [hT.2.2.1]
  exact ⟨i + 1, l_goes19 hk hT ht hi hw hq (i + 1) 0 (by omega) (by omega) hp _ rfl (fun h => by omega)⟩
end PLANS
