/-! a draft becomes a clause; at; count -/
section CLAUSE
variable {fo : tForm} {fr : tRows} {mo : tMods} {ma : mForm} {mn : mKnow} {w : Nat} {dr : List Int32} {cs : List (List Int32)}
theorem l_add23 (hok : okF w dr cs) {n : Nat} (hn : n < 400) {f0 : tForm} {K : Int32 → Int32 → tForm → Prop}
    (hK : ∀ fo : tForm, fo.width = f0.width → fo.draftSize = f0.draftSize → fo.draft = f0.draft → fo.sizes = f0.sizes → (∀ k x, dr[k]? = some x → fo.literals (6 * n + k) = x) → (∀ j, j < 6 * n → fo.literals j = f0.literals j) → K (mT dr) (mF dr) fo)
    (h2 : f0.draftSize = nI dr.length) (h3 : ∀ k x, dr[k]? = some x → f0.draft k = x) :
    ∀ nn k, k ≤ dr.length → dr.length - k < nn → ∀ fo : tForm, fo.width = f0.width → fo.draftSize = f0.draftSize → fo.draft = f0.draft → fo.sizes = f0.sizes → (∀ j x, j < k → dr[j]? = some x → fo.literals (6 * n + j) = x) → (∀ j, j < 6 * n → fo.literals j = f0.literals j) →
      w_Form_addDraft_L23 (nI n) K nn (mT (dr.take k)) (mF (dr.take k)) (nI k) fo := by
  have h6 := hok.2.1.1
  intro nn
  induction nn with
  | zero => intro k _ h; omega
  | succ nn ih =>
    intro k hk hm fo e1 e2 e3 e4 e5 e6
    rw [w_Form_addDraft_L23, e2, h2]
    refine pk_le dr.length k (fun c => ?_) (fun c => ⟨vp_in_nI (by omega) (by omega), ?_⟩)
    · rw [List.take_of_length_le c]
      exact hK fo e1 e2 e3 e4 (fun j x hx => e5 j x (by have := (List.getElem?_eq_some_iff.mp hx).1; omega) hx) e6
    · have hy := List.getElem?_eq_getElem c
      rw [nI_clamp (by omega), e3, h3 k _ hy]
      have eix : (nI n * 6) + nI k = nI (6 * n + k) := by rw [show (6 : Int32) = nI 6 from rfl, pk_mul, nI_add, Nat.mul_comm]
      rw [eix, nI_1, nI_clamp (by omega)]
      refine ⟨vp_in_nI (by omega) (by omega), ?_⟩
      have up : ∀ j x, j < k + 1 → dr[j]? = some x → upd fo.literals (6 * n + k) dr[k] (6 * n + j) = x := fun j x hj hx => by
        by_cases e : j = k
        · subst e; rw [pk_us]; rw [hy] at hx; cases hx; rfl
        · rw [pk_un (by omega)]; exact e5 j x (by omega) hx
      have lo : ∀ j, j < 6 * n → upd fo.literals (6 * n + k) dr[k] j = f0.literals j := fun j hj => by rw [pk_un (by omega)]; exact e6 j hj
      have eT := mT_snoc (dr.take k) dr[k]
      have eF := mF_snoc (dr.take k) dr[k]
      rw [← take_snoc hy] at eT eF
      refine ⟨fun c2 => ?_, fun c2 => ?_⟩
      · rw [if_pos c2] at eT eF
        rw [← eT, ← eF]
        exact ih (k + 1) (by omega) (by omega) _ e1 h2.symm rfl e4 up lo
      · rw [if_neg c2] at eT eF
        rw [← eT, ← eF]
        exact ih (k + 1) (by omega) (by omega) _ e1 h2.symm rfl e4 up lo
theorem s_add1 {n : Nat} (hn : n < fr.room) (hr : fr.room < 2 ^ 31) (h1 : fr.size = nI n) {x y : Int32} {Q : tRows → Prop} (hq : Q (tRows.mk (upd fr.wantTrue n x) (upd fr.wantFalse n y) (nI (n + 1)) fr.oldest fr.room)) : w_Rows_add x y fr Q := by
  unfold w_Rows_add
  rw [h1]
  refine pk_le fr.room n (fun c => by omega) (fun _ => pk_le fr.room n (fun c => by omega) (fun _ => ⟨vp_in_nI hn hr, vp_in_nI hn hr, ?_⟩))
  rw [nI_1, nI_clamp (by omega)]
  exact hq
theorem s_PC_clause (hok : okF w dr cs) (h : isFO fo fr w dr cs) {Q : Int32 → tForm → tRows → tMods → Prop} (hf : cs.length = 400 → Q (-3) fo fr mo) (hg : cs.length < 400 → ∀ fo' fr' mo', isFO fo' fr' w [] (cs ++ [dr]) → mo'.begun = 0 → Q (nI (cs.length + 1)) fo' fr' mo') : w_PC_clause fo fr mo Q := by
  obtain ⟨g1, g2, g3, g4, g5, g6⟩ := h
  have hn := hok.2.2.1
  unfold w_PC_clause w_Form_addDraft w_Mods_forget
  rw [g4]
  refine pk_lt cs.length 400 (fun c => pk_lt cs.length 400 (fun _ => ?_) (fun c2 => by omega)) (fun c => hf (by omega))
  refine ⟨dr.length + 1, l_add23 hok c (f0 := fo) (fun fo1 e1 e2 e3 e4 e5 e6 => ⟨vp_in_nI c (by omega), ?_⟩) g2 g3 (dr.length + 1) 0 (by omega) (by omega) fo rfl rfl rfl rfl (fun j x hj _ => by omega) (fun j _ => rfl)⟩
  refine s_add1 (n := cs.length) (by rw [g5]; exact c) (by rw [g5]; omega) g4 ?_
  rw [nI_clamp (by omega)]
  refine hg c _ _ _ ⟨e1.trans g1, rfl, fun k x hx => by simp at hx, ?_, g5, fun i ci hi => ?_⟩ rfl
  · show nI (cs.length + 1) = _
    rw [List.length_append]; rfl
  · show upd fo1.sizes cs.length fo1.draftSize i = _ ∧ (∀ k x, ci[k]? = some x → fo1.literals (6 * i + k) = x) ∧ upd fr.wantTrue cs.length (mT dr) i = _ ∧ upd fr.wantFalse cs.length (mF dr) i = _
    by_cases e : i < cs.length
    · rw [List.getElem?_append_left e] at hi
      obtain ⟨a1, a2, a3, a4⟩ := g6 i ci hi
      have hl6 := (hok.2.2.2 ci (List.mem_of_getElem? hi)).1
      rw [pk_un (by omega), pk_un (by omega), pk_un (by omega), e4]
      refine ⟨a1, fun k x hx => ?_, a3, a4⟩
      have := (List.getElem?_eq_some_iff.mp hx).1
      rw [e6 _ (by omega)]
      exact a2 k x hx
    · have hl := (List.getElem?_eq_some_iff.mp hi).1
      rw [List.length_append, List.length_singleton] at hl
      have : i = cs.length := by omega
      subst this
      simp at hi
      subst hi
      rw [pk_us, pk_us, pk_us, e2]
      exact ⟨g2, e5, rfl, rfl⟩
theorem s_PC_at (hok : okF w dr cs) (h : isFO fo fr w dr cs) {x y : Int32} {Q : Int32 → Prop} (hb : (inR x cs.length = none ∨ y.toInt < 0) → Q (-1)) (hn : ∀ i c, inR x cs.length = some i → cs[i]? = some c → ¬ y.toInt < 0 → inR y c.length = none → Q (-9)) (hg : ∀ i c k z, inR x cs.length = some i → cs[i]? = some c → ¬ y.toInt < 0 → inR y c.length = some k → c[k]? = some z → Q z) : w_PC_at x y fo fr Q := by
  obtain ⟨g1, g2, g3, g4, g5, g6⟩ := h
  have hl := hok.2.2.1
  unfold w_PC_at
  rw [g4]
  rcases inR_cases x (m := cs.length) (by omega) with ⟨e, h⟩ | ⟨i, hi, e, h⟩
  · refine ⟨fun _ => hb (Or.inl e), fun c => ⟨fun _ => hb (Or.inl e), fun c2 => ?_⟩⟩
    rcases h with h | h
    · exact absurd h c
    · exact absurd h c2
  · subst e
    refine ⟨fun c => absurd c (nI_pos (by omega)), fun _ => pk_le cs.length i (fun c => by omega) (fun _ => ⟨fun c => ?_, fun c => hb (Or.inr ?_)⟩)⟩
    · have hy : ¬ y.toInt < 0 := by have : (0 : Int) ≤ y.toInt := ti_le.mp c; omega
      have hci := List.getElem?_eq_getElem hi
      obtain ⟨a1, a2, -, -⟩ := g6 i _ hci
      have h6 := (hok.2.2.2 _ (List.mem_of_getElem? hci)).1
      have hn' := hn i _ h hci hy
      have hg' := fun k z => hg i cs[i] k z h
      generalize cs[i] = ci at *
      unfold w_Form_literalOf
      rw [g4]
      refine ⟨fun c => absurd c (nI_pos (by omega)), fun _ => pk_le cs.length i (fun c => by omega) (fun _ => pk_le 400 i (fun c => by omega) (fun _ => ⟨fun c => absurd (ti_lt.mp c) hy, fun _ => ⟨vp_in_nI (by omega) (by omega), ?_⟩⟩))⟩
      rw [nI_clamp (by omega), a1]
      rcases inR_cases y (m := ci.length) (by omega) with ⟨ey, hz2⟩ | ⟨k, hk2, ey, hz2⟩
      · refine ⟨fun c => ?_, fun _ => hn' ey⟩
        rcases hz2 with g | g
        · exact absurd (ti_lt.mp g) hy
        · rw [ti_le] at g; rw [ti_lt] at c; omega
      · subst ey
        refine pk_lt k ci.length (fun _ => ?_) (fun c => by omega)
        have eix : (nI i * 6) + nI k = nI (6 * i + k) := by rw [show (6 : Int32) = nI 6 from rfl, pk_mul, nI_add, Nat.mul_comm]
        rw [eix, nI_clamp (by omega)]
        refine ⟨vp_in_nI (by omega) (by omega), ?_⟩
        have hx := List.getElem?_eq_getElem hk2
        rw [a2 k _ hx]
        exact hg' k _ hci hy hz2 hx
    · have : ¬ (0 : Int) ≤ y.toInt := fun q => c (ti_le.mpr q)
      omega
theorem s_Ref_at (hok : okF w dr cs) (h : isMF ma w dr cs) {x y : Int32} {Q : Int32 → Prop} (hb : (inR x cs.length = none ∨ y.toInt < 0) → Q (-1)) (hn : ∀ i c, inR x cs.length = some i → cs[i]? = some c → ¬ y.toInt < 0 → inR y c.length = none → Q (-9)) (hg : ∀ i c k z, inR x cs.length = some i → cs[i]? = some c → ¬ y.toInt < 0 → inR y c.length = some k → c[k]? = some z → Q z) : w_Ref_at x y ma Q := by
  obtain ⟨g1, g2, g3, g4, g6⟩ := h
  have hl := hok.2.2.1
  unfold w_Ref_at
  rw [g4]
  refine s_inM (m := cs.length) (by omega) (by rw [ti_sub (by rw [nI_toInt (by omega)]; show -2147483648 ≤ (cs.length : Int) - 1; omega) (by rw [nI_toInt (by omega)]; show (cs.length : Int) - 1 < _; omega), nI_toInt (by omega)]; rfl) (fun e => ⟨fun _ => hb (Or.inl e), fun c => absurd rfl c⟩) (fun i hi e h => ⟨fun c => absurd c z01, fun _ => ⟨fun c => ?_, fun c => hb (Or.inr ?_)⟩⟩)
  · subst e
    have hy : ¬ y.toInt < 0 := by have : (0 : Int) ≤ y.toInt := ti_le.mp c; omega
    have hci := List.getElem?_eq_getElem hi
    obtain ⟨a1, a2, -, -⟩ := g6 i _ hci
    have h6 := (hok.2.2.2 _ (List.mem_of_getElem? hci)).1
    have hn' := hn i _ h hci hy
    have hg' := fun k z => hg i cs[i] k z h
    generalize cs[i] = ci at *
    refine ⟨vp_in_nI (by omega) (by omega), ?_⟩
    rw [nI_clamp (by omega), a1]
    rcases inR_cases y (m := ci.length) (by omega) with ⟨ey, hz2⟩ | ⟨k, hk2, ey, hz2⟩
    · refine ⟨fun _ => hn' ey, fun c => ?_⟩
      rcases hz2 with g | g
      · exact absurd (ti_lt.mp g) hy
      · exact absurd g c
    · subst ey
      refine pk_le ci.length k (fun c => by omega) (fun _ => ?_)
      have eix : (6 * nI i) + nI k = nI (6 * i + k) := by rw [show (6 : Int32) = nI 6 from rfl, pk_mul, nI_add]
      rw [eix, nI_clamp (by omega)]
      refine ⟨vp_in_nI (by omega) (by omega), ?_⟩
      have hx := List.getElem?_eq_getElem hk2
      rw [a2 k _ hx]
      exact hg' k _ hci hy hz2 hx
  · have : ¬ (0 : Int) ≤ y.toInt := fun q => c (ti_le.mpr q)
    omega
end CLAUSE
