/-! the reference's clause; count -/
section CLAUSE2
variable {fo : tForm} {fr : tRows} {ma : mForm} {mn : mKnow} {w : Nat} {dr : List Int32} {cs : List (List Int32)}
theorem or_0 (x : Int32) : x ||| 0 = x := b_ext (fun i _ => by rw [b_or, b_0, Bool.or_false])
theorem l_mCl35 (hok : okF w dr cs) {n : Nat} (hn : n < 400) {f0 : mForm} {K : mForm → Prop} (h1 : f0.clauses = nI n) (h2 : f0.drafted = nI dr.length) (h3 : ∀ k x, dr[k]? = some x → f0.draft k = x)
    (hK : ∀ ma : mForm, ma.variables = f0.variables → ma.clauses = f0.clauses → ma.drafted = f0.drafted → ma.draft = f0.draft → ma.sizes = f0.sizes → (∀ k x, dr[k]? = some x → ma.literals (6 * n + k) = x) → (∀ j, j < 6 * n → ma.literals j = f0.literals j) → ma.told n = mT dr → ma.toldNot n = mF dr → (∀ j, j ≠ n → ma.told j = f0.told j ∧ ma.toldNot j = f0.toldNot j) → K ma) :
    ∀ nn k, k ≤ dr.length → dr.length - k < nn → ∀ ma : mForm, ma.variables = f0.variables → ma.clauses = f0.clauses → ma.drafted = f0.drafted → ma.draft = f0.draft → ma.sizes = f0.sizes → (∀ j x, j < k → dr[j]? = some x → ma.literals (6 * n + j) = x) → (∀ j, j < 6 * n → ma.literals j = f0.literals j) → ma.told n = mT (dr.take k) → ma.toldNot n = mF (dr.take k) → (∀ j, j ≠ n → ma.told j = f0.told j ∧ ma.toldNot j = f0.toldNot j) →
      w_Ref_clause_L35 K nn (nI k) ma := by
  have h6 := hok.2.1.1
  intro nn
  induction nn with
  | zero => intro k _ h; omega
  | succ nn ih =>
    intro k hk hm ma e0 e1 e2 e3 e4 e5 e6 e7 e8 e9
    rw [w_Ref_clause_L35, e2, h2, e1, h1]
    have hin : vp_in (nI n) 400 := vp_in_nI (by omega) (by omega)
    refine pk_le dr.length k (fun c => ?_) (fun c => ⟨vp_in_nI (by omega) (by omega), ?_⟩)
    · rw [List.take_of_length_le c] at e7 e8
      exact hK ma e0 e1 e2 e3 e4 (fun j x hx => e5 j x (by have := (List.getElem?_eq_some_iff.mp hx).1; omega) hx) e6 e7 e8 e9
    · have hy := List.getElem?_eq_getElem c
      have hv := hok.2.1.2.1 _ (List.mem_of_getElem? hy)
      have eix : (6 * nI n) + nI k = nI (6 * n + k) := by rw [show (6 : Int32) = nI 6 from rfl, pk_mul, nI_add]
      rw [eix, nI_1, nI_clamp (by omega), nI_clamp (by omega), nI_clamp (by omega), e3, h3 k _ hy, e7, e8]
      refine ⟨vp_in_nI (by omega) (by omega), hin, ?_⟩
      have up : ∀ j x, j < k + 1 → dr[j]? = some x → upd ma.literals (6 * n + k) dr[k] (6 * n + j) = x := fun j x hj hx => by
        by_cases e : j = k
        · subst e; rw [pk_us]; rw [hy] at hx; cases hx; rfl
        · rw [pk_un (by omega)]; exact e5 j x (by omega) hx
      have lo : ∀ j, j < 6 * n → upd ma.literals (6 * n + k) dr[k] j = f0.literals j := fun j hj => by rw [pk_un (by omega)]; exact e6 j hj
      have eT := mT_snoc (dr.take k) dr[k]
      have eF := mF_snoc (dr.take k) dr[k]
      rw [← take_snoc hy] at eT eF
      generalize dr[k] = x at *
      have hre : ∀ T F : Int32, T = mT (dr.take (k + 1)) → F = mF (dr.take (k + 1)) → w_Ref_clause_L35 K nn (nI (k + 1)) (mForm.mk ma.variables (nI n) (upd ma.literals (6 * n + k) x) ma.sizes (upd ma.told n T) (upd ma.toldNot n F) (nI dr.length) f0.draft) := by
        intro T F hT hF
        refine ih (k + 1) (by omega) (by omega) _ e0 h1.symm h2.symm rfl e4 up lo ?_ ?_ (fun j hj => ⟨?_, ?_⟩)
        · exact pk_us.trans hT
        · exact pk_us.trans hF
        · exact (pk_un hj).trans (e9 j hj).1
        · exact (pk_un hj).trans (e9 j hj).2
      have z0 : x.toInt ≠ 0 := fun e => hv.1 (ti_eq.mpr e)
      refine ⟨fun c2 => ⟨hin, hin, fun c3 => ?_, fun c3 => ⟨hin, ?_⟩⟩, fun c2 => ⟨hin, hin, fun c3 => ⟨hin, ?_⟩, fun c3 => ?_⟩⟩
      · have a : x.toInt ≤ 0 := ti_le.mp c2
        have b : (0 : Int) ≤ x.toInt := ti_le.mp c3
        omega
      · rw [if_pos c2] at eT eF
        exact hre _ _ (by rw [or_0, eT]) (by rw [eF])
      · rw [if_neg c2] at eT eF
        exact hre _ _ (by rw [eT]) (by rw [or_0, eF])
      · exfalso
        have a : ¬ x.toInt ≤ 0 := fun q => c2 (ti_le.mpr q)
        have b : ¬ (0 : Int) ≤ x.toInt := fun q => c3 (ti_le.mpr q)
        omega
theorem s_Ref_clause (hok : okF w dr cs) (h : isMF ma w dr cs) {Q : Int32 → mForm → mKnow → Prop} (hf : cs.length = 400 → Q (-3) ma mn) (hg : cs.length < 400 → ∀ ma' mn', isMF ma' w [] (cs ++ [dr]) → mn'.isKnown = 0 → Q (nI (cs.length + 1)) ma' mn') : w_Ref_clause ma mn Q := by
  obtain ⟨g1, g2, g3, g4, g6⟩ := h
  have hn := hok.2.2.1
  unfold w_Ref_clause
  rw [g4]
  refine (pk_eq cs.length 400 (fun c => hf c) (fun c => ⟨vp_in_nI (by omega) (by omega), vp_in_nI (by omega) (by omega), ?_⟩) (hx := rfl) (hy := rfl)).symm
  rw [nI_clamp (by omega)]
  refine ⟨dr.length + 1, l_mCl35 hok (n := cs.length) (by omega) (f0 := mForm.mk ma.variables (nI cs.length) ma.literals ma.sizes (upd ma.told cs.length 0) (upd ma.toldNot cs.length 0) ma.drafted ma.draft) rfl g2 g3 (fun m1 e0 e1 e2 e3 e4 e5 e6 e7 e8 e9 => ?_) (dr.length + 1) 0 (by omega) (by omega) _ rfl rfl rfl rfl rfl (fun j x hj _ => by omega) (fun j _ => rfl) pk_us pk_us (fun j _ => ⟨rfl, rfl⟩)⟩
  have e1' : m1.clauses = nI cs.length := e1
  rw [e1', nI_1, nI_clamp (by omega)]
  refine ⟨vp_in_nI (by omega) (by omega), hg (by omega) _ _ ⟨e0.trans g1, rfl, fun k x hx => by simp at hx, ?_, fun i ci hi => ?_⟩ rfl⟩
  · show nI (cs.length + 1) = _
    rw [List.length_append]; rfl
  · show upd m1.sizes cs.length m1.drafted i = _ ∧ (∀ k x, ci[k]? = some x → m1.literals (6 * i + k) = x) ∧ m1.told i = _ ∧ m1.toldNot i = _
    by_cases e : i < cs.length
    · rw [List.getElem?_append_left e] at hi
      obtain ⟨a1, a2, a3, a4⟩ := g6 i ci hi
      have hl6 := (hok.2.2.2 ci (List.mem_of_getElem? hi)).1
      obtain ⟨b1', b2'⟩ := e9 i (by omega)
      have c1 : upd ma.told cs.length 0 i = ma.told i := pk_un (by omega)
      have c2 : upd ma.toldNot cs.length 0 i = ma.toldNot i := pk_un (by omega)
      rw [pk_un (by omega), e4]
      refine ⟨a1, fun k x hx => ?_, (b1'.trans c1).trans a3, (b2'.trans c2).trans a4⟩
      have := (List.getElem?_eq_some_iff.mp hx).1
      rw [e6 _ (by omega)]
      exact a2 k x hx
    · have hl := (List.getElem?_eq_some_iff.mp hi).1
      rw [List.length_append, List.length_singleton] at hl
      have : i = cs.length := by omega
      subst this
      simp at hi
      subst hi
      rw [pk_us, e2]
      exact ⟨g2, e5, e7, e8⟩
def countV (w n d f a bg gl : Nat) (x : Int32) : Int32 := if x = 0 then nI w else if x = 1 then nI n else if x = 2 then nI d else if x = 3 then nI f else if x = 4 then nI a else if x = 5 then nI bg else if x = 6 then nI gl else -1
theorem count_no {w n d f a bg gl : Nat} {x : Int32} (h : x.toInt < 0 ∨ 6 < x.toInt) : countV w n d f a bg gl x = -1 := by
  have e : ∀ k : Nat, k ≤ 6 → ¬ x = nI k := fun k hk e => by rw [e, nI_toInt (by omega)] at h; omega
  unfold countV
  exact (if_neg (e 0 (by omega))).trans ((if_neg (e 1 (by omega))).trans ((if_neg (e 2 (by omega))).trans ((if_neg (e 3 (by omega))).trans ((if_neg (e 4 (by omega))).trans ((if_neg (e 5 (by omega))).trans (if_neg (e 6 (by omega))))))))
theorem s_PC_count {ta : tTask} {f n bg gl : Nat} {aq ad tk : Nat → Nat} (h : isFO fo fr w dr cs) (hT : isTA ta f n bg gl aq ad tk) {x : Int32} {Q : Int32 → Prop} (hq : Q (countV w cs.length dr.length f n bg gl x)) : w_PC_count x fo fr ta Q := by
  unfold w_PC_count
  rw [h.1, h.2.1, h.2.2.2.1, hT.1, hT.2.1, hT.2.2.1, hT.2.2.2.1]
  refine ⟨fun c => by rw [count_no c] at hq; exact hq, fun c => ?_, fun c => ?_, fun c => ?_, fun c => ?_, fun c => ?_, fun c => ?_, fun c => ?_⟩ <;> subst c <;> exact hq
theorem s_Ref_count {mt : mTask} {f n bg gl : Nat} {aq ad tk : Nat → Nat} (h : isMF ma w dr cs) (hT : isMT mt f n bg gl aq ad tk) {x : Int32} {Q : Int32 → Prop} (hq : Q (countV w cs.length dr.length f n bg gl x)) : w_Ref_count x ma mt Q := by
  unfold w_Ref_count
  rw [h.1, h.2.1, h.2.2.2.1, hT.1, hT.2.1, hT.2.2.1, hT.2.2.2.1]
  refine ⟨fun c => by rw [count_no c] at hq; exact hq, fun c => ?_, fun c => ?_, fun c => ?_, fun c => ?_, fun c => ?_, fun c => ?_, fun c => ?_⟩ <;> subst c <;> exact hq
end CLAUSE2
