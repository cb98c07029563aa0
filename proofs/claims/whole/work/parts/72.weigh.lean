/-! the search: weights of one clause -/
theorem cnt_cover {g : Nat → Nat} {N : Nat} : ∀ k (p : Nat → Bool), (∀ v, v < N → p v = true → ∃ j, j < k ∧ g j = v) → cnt p N ≤ k := by
  intro k
  induction k with
  | zero =>
    intro p h
    refine Nat.le_of_eq (cnt_none N (fun v hv => ?_))
    cases hb : p v with
    | false => rfl
    | true =>
      obtain ⟨j, hj, _⟩ := h v hv hb
      omega
  | succ k ih =>
    intro p h
    have h1 := ih (fun v => p v && decide (v ≠ g k)) (fun v hv hp => by
      rw [Bool.and_eq_true, decide_eq_true_eq] at hp
      obtain ⟨j, hj, e⟩ := h v hv hp.1
      refine ⟨j, ?_, e⟩
      have : j ≠ k := fun q => hp.2 (by rw [← e, q])
      omega)
    by_cases c : g k < N ∧ p (g k) = true
    · have h2 := cnt_one (p := fun v => p v && decide (v ≠ g k)) (q := p) (u := g k) (by simp) c.2 N (fun i hi hn => by simp [hn]) c.1
      omega
    · have h2 : cnt p N = cnt (fun v => p v && decide (v ≠ g k)) N := cnt_cong (fun i hi => by
        by_cases e : i = g k
        · have : p i = false := by
            cases hb : p i with
            | false => rfl
            | true => exact (c ⟨by omega, by rw [← e]; exact hb⟩).elim
          rw [this]; rfl
        · simp [e])
      omega
section WEIGH
variable {fo : tForm} {fr : tRows} {w : Nat} {dr : List Int32} {cs : List (List Int32)}
theorem s_fLit (hok : okF w dr cs) (h : isFO fo fr w dr cs) {i : Nat} {c : List Int32} (hc : cs[i]? = some c) {k : Nat} {x : Int32} (hx : c[k]? = some x) {Q : Int32 → Prop} (hq : Q x) : w_Form_literalOf (nI i) (nI k) fo fr Q := by
  obtain ⟨g1, g2, g3, g4, g5, g6⟩ := h
  have hl := hok.2.2.1
  have hi := (List.getElem?_eq_some_iff.mp hc).1
  have hk := (List.getElem?_eq_some_iff.mp hx).1
  obtain ⟨a1, a2, -, -⟩ := g6 i _ hc
  have h6 := (hok.2.2.2 _ (List.mem_of_getElem? hc)).1
  unfold w_Form_literalOf
  rw [g4]
  refine ⟨fun c => absurd c (nI_pos (by omega)), fun _ => pk_le cs.length i (fun c => by omega) (fun _ => pk_le 400 i (fun c => by omega) (fun _ => ⟨fun c => absurd c (nI_pos (by omega)), fun _ => ⟨vp_in_nI (by omega) (by omega), ?_⟩⟩))⟩
  rw [nI_clamp (by omega), a1]
  refine pk_lt k c.length (fun _ => ?_) (fun c => by omega)
  have eix : (nI i * 6) + nI k = nI (6 * i + k) := by rw [show (6 : Int32) = nI 6 from rfl, pk_mul, nI_add, Nat.mul_comm]
  rw [eix, nI_clamp (by omega)]
  refine ⟨vp_in_nI (by omega) (by omega), ?_⟩
  rw [a2 k _ hx]
  exact hq
theorem lit_of_bit {c : List Int32} (hw : w ≤ 30) (h : okL w c) {v : Nat} (hv : bt (mT c) v = true ∨ bt (mF c) v = true) : ∃ (j : Nat) (x : Int32), c[j]? = some x ∧ x.toInt.natAbs = v + 1 := by
  rcases hv with hv | hv
  · obtain ⟨j, x, h1, h2⟩ := (m_lits hw h v).1.mp hv
    exact ⟨j, x, h1, by omega⟩
  · obtain ⟨j, x, h1, h2⟩ := (m_lits hw h v).2.mp hv
    exact ⟨j, x, h1, by omega⟩
theorem l_weigh (hok : okF w dr cs) (h : isFO fo fr w dr cs) {i : Nat} {c : List Int32} (hc : cs[i]? = some c) {o : Int32} {W : Nat} (hW : 1 ≤ W ∧ W ≤ 4096) {P : Nat → Prop} (hP : ∀ v, bt o v = true → P v) {B : Nat} (hB : B + 24576 < 2147483648) {sw0 : Nat → Int32} (h0 : ∀ v, v < 30 → 0 ≤ (sw0 v).toInt) {K : (Nat → Int32) → Prop}
    (hK : ∀ sw, (∀ v, v < 30 → (sw0 v).toInt ≤ (sw v).toInt ∧ (sw v).toInt ≤ ((B + 24576 : Nat) : Int) ∧ (0 < (sw v).toInt → P v)) → (∀ (j : Nat) (x : Int32), c[j]? = some x → bt o (x.toInt.natAbs - 1) = true → 0 < (sw (x.toInt.natAbs - 1)).toInt) → K sw) :
    ∀ nn k sw, k ≤ c.length → (∀ v, v < 30 → (sw0 v).toInt ≤ (sw v).toInt ∧ (sw v).toInt ≤ ((B + 4096 * k : Nat) : Int) ∧ (0 < (sw v).toInt → P v)) → (∀ (j : Nat) (x : Int32), j < k → c[j]? = some x → bt o (x.toInt.natAbs - 1) = true → 0 < (sw (x.toInt.natAbs - 1)).toInt) → c.length - k < nn → w_Sear_weigh_L15 (nI i) o (nI W) fo fr K nn (nI k) sw := by
  have hl := hok.2.2.1
  have w30 := hok.1
  have hi := (List.getElem?_eq_some_iff.mp hc).1
  have hL := hok.2.2.2 _ (List.mem_of_getElem? hc)
  obtain ⟨a1, a2, -, -⟩ := h.2.2.2.2.2 i _ hc
  intro nn
  induction nn with
  | zero => intro k _ _ _ _ hn; omega
  | succ nn ih =>
    intro k sw hk hs hp hn
    rw [w_Sear_weigh_L15, nI_clamp (by omega), a1]
    have h6 := hL.1
    refine ⟨vp_in_nI (by omega) (by omega), pk_le c.length k (fun d => ?_) (fun d => ?_)⟩
    · refine hK sw (fun v hv => ?_) (fun j x hx hb => hp j x (by have := (List.getElem?_eq_some_iff.mp hx).1; omega) hx hb)
      obtain ⟨b1', b2, b3⟩ := hs v hv
      exact ⟨b1', by omega, b3⟩
    · have hx := List.getElem?_eq_getElem d
      have hv := hL.2.1 _ (List.mem_of_getElem? hx)
      generalize c[k] = x at *
      have z0 : x.toInt ≠ 0 := fun e => hv.1 (ti_eq.mpr e)
      obtain ⟨v, ev⟩ : ∃ v, x.toInt.natAbs = v + 1 := ⟨x.toInt.natAbs - 1, by omega⟩
      have hv30 : v < 30 := by omega
      refine s_fLit hok h hc hx (s_abs (by omega) ?_)
      rw [ev, nI_pred, bit_at o (by omega), nI_1]
      have step : ∀ sw', (∀ u, u < 30 → (sw0 u).toInt ≤ (sw' u).toInt ∧ (sw' u).toInt ≤ ((B + 4096 * (k + 1) : Nat) : Int) ∧ (0 < (sw' u).toInt → P u)) → (∀ u, u < 30 → (sw u).toInt ≤ (sw' u).toInt) → (bt o v = true → 0 < (sw' v).toInt) → w_Sear_weigh_L15 (nI i) o (nI W) fo fr K nn (nI (k + 1)) sw' := fun sw' e1 e2 e3 => by
        refine ih (k + 1) sw' (by omega) e1 (fun j z hj hz hb => ?_) (by omega)
        by_cases q : j = k
        · subst q
          rw [hx] at hz; cases hz
          rw [ev] at hb ⊢
          exact e3 hb
        · have hz2 := hL.2.1 _ (List.mem_of_getElem? hz)
          have := hp j z (by omega) hz hb
          have := e2 (z.toInt.natAbs - 1) (by omega)
          omega
      refine ⟨fun c1 => ?_, fun c1 => ⟨vp_in_nI hv30 (by omega), vp_in_nI hv30 (by omega), ?_⟩⟩
      · have hb : ¬ bt o v = true := fun q => by rw [if_pos q] at c1; exact absurd c1.symm (by decide)
        refine step sw (fun u hu => ?_) (fun u hu => Int.le_refl _) (fun q => (hb q).elim)
        obtain ⟨b1', b2, b3⟩ := hs u hu
        exact ⟨b1', by omega, b3⟩
      · have hb : bt o v = true := by
          cases q : bt o v with
          | true => rfl
          | false => rw [q] at c1; exact absurd rfl c1
        rw [nI_clamp (by omega)]
        obtain ⟨b1', b2, b3⟩ := hs v hv30
        have hz := h0 v hv30
        have hWi : (nI W).toInt = (W : Int) := nI_toInt (by omega)
        have es : (sw v + nI W).toInt = (sw v).toInt + W := by rw [ti_add (by rw [hWi]; omega) (by rw [hWi]; omega), hWi]
        refine step _ (fun u hu => ?_) (fun u hu => ?_) (fun _ => ?_)
        · by_cases q : u = v
          · subst q
            rw [pk_us, es]
            exact ⟨by omega, by omega, fun _ => hP u hb⟩
          · rw [pk_un q]
            obtain ⟨d1, d2, d3⟩ := hs u hu
            exact ⟨d1, by omega, d3⟩
        · by_cases q : u = v
          · subst q
            rw [pk_us, es]; omega
          · rw [pk_un q]; exact Int.le_refl _
        · rw [pk_us, es]; omega
theorem s_weigh (hok : okF w dr cs) (h : isFO fo fr w dr cs) {i : Nat} {c : List Int32} (hc : cs[i]? = some c) {o : Int32} (ho : ∀ v, bt o v = true → bt (mT c) v = true ∨ bt (mF c) v = true) {P : Nat → Prop} (hP : ∀ v, bt o v = true → P v) {B : Nat} (hB : B + 24576 < 2147483648) {sw0 : Nat → Int32} (h0 : ∀ v, v < 30 → 0 ≤ (sw0 v).toInt ∧ (sw0 v).toInt ≤ (B : Int) ∧ (0 < (sw0 v).toInt → P v)) {Q : (Nat → Int32) → Prop}
    (hq : ∀ sw, (∀ v, v < 30 → (sw0 v).toInt ≤ (sw v).toInt ∧ (sw v).toInt ≤ ((B + 24576 : Nat) : Int) ∧ (0 < (sw v).toInt → P v)) → (∀ v, bt o v = true → 0 < (sw v).toInt) → Q sw) : w_Sear_weigh (nI i) o fo fr sw0 Q := by
  have w30 := hok.1
  have hL := hok.2.2.2 _ (List.mem_of_getElem? hc)
  rw [w_Sear_weigh]
  refine s_bitCount ?_
  have hpc : pc o ≤ 6 := by
    refine Nat.le_trans (cnt_cover (g := fun j => (c.getD j 0).toInt.natAbs - 1) c.length (bt o) (fun v _ hv => ?_)) hL.1
    obtain ⟨j, x, h1, h2⟩ := lit_of_bit w30 hL (ho v hv)
    refine ⟨j, (List.getElem?_eq_some_iff.mp h1).1, ?_⟩
    show (c.getD j 0).toInt.natAbs - 1 = v
    rw [List.getD_eq_getElem?_getD, h1]
    show x.toInt.natAbs - 1 = v
    omega
  have hW : ∃ W : Nat, 1 ≤ W ∧ W ≤ 4096 ∧ ((1 : Int32) <<< ((2 * (6 - nI (pc o))) &&& 31)) = nI W := by
    generalize pc o = k at hpc
    have hk : k = 0 ∨ k = 1 ∨ k = 2 ∨ k = 3 ∨ k = 4 ∨ k = 5 ∨ k = 6 := by omega
    rcases hk with rfl | rfl | rfl | rfl | rfl | rfl | rfl
    · exact ⟨4096, by omega, by omega, by decide +kernel⟩
    · exact ⟨1024, by omega, by omega, by decide +kernel⟩
    · exact ⟨256, by omega, by omega, by decide +kernel⟩
    · exact ⟨64, by omega, by omega, by decide +kernel⟩
    · exact ⟨16, by omega, by omega, by decide +kernel⟩
    · exact ⟨4, by omega, by omega, by decide +kernel⟩
    · exact ⟨1, by omega, by omega, by decide +kernel⟩
  obtain ⟨W, W1, W2, eW⟩ := hW
  rw [eW]
  refine ⟨c.length + 1, ?_⟩
  refine l_weigh hok h hc ⟨W1, W2⟩ hP hB (fun v hv => (h0 v hv).1) ?_ (c.length + 1) 0 sw0 (Nat.zero_le _) (fun v hv => ⟨Int.le_refl _, ?_, (h0 v hv).2.2⟩) (fun j x hj => by omega) (by omega)
  · intro sw e1 e2
    refine hq sw e1 (fun v hv => ?_)
    obtain ⟨j, x, h1, h2⟩ := lit_of_bit w30 hL (ho v hv)
    have := e2 j x h1 (by rw [h2]; exact hv)
    rw [h2] at this
    exact this
  · have := (h0 v hv).2.1
    omega
end WEIGH
