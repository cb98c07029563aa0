/-! the rows of the clauses, on both sides the same -/
def tq (cs : List (List Int32)) (i : Nat) : Int32 := mT (cs.getD i [])
def fq (cs : List (List Int32)) (i : Nat) : Int32 := mF (cs.getD i [])
theorem satw_congr {n : Nat} {t f t2 f2 : Nat → Int32} {y no : Int32} (h : ∀ i, i < n → t i = t2 i ∧ f i = f2 i) : SATw n t f y no ↔ SATw n t2 f2 y no := by
  constructor
  · rintro ⟨a, hm, ha⟩
    exact ⟨a, fun i hi => by rw [← (h i hi).1, ← (h i hi).2]; exact hm i hi, ha⟩
  · rintro ⟨a, hm, ha⟩
    exact ⟨a, fun i hi => by rw [(h i hi).1, (h i hi).2]; exact hm i hi, ha⟩
theorem mf_rows {ma : mForm} {w : Nat} {dr : List Int32} {cs : List (List Int32)} (h : isMF ma w dr cs) {i : Nat} (hi : i < cs.length) : ma.told i = tq cs i ∧ ma.toldNot i = fq cs i := by
  have e : cs[i]? = some (cs.getD i []) := by
    rw [List.getD_eq_getElem?_getD, List.getElem?_eq_getElem hi]; rfl
  obtain ⟨_, _, h1, h2⟩ := h.2.2.2.2 i _ e
  exact ⟨h1, h2⟩
theorem mf_ok {w : Nat} {dr : List Int32} {cs : List (List Int32)} (hok : okF w dr cs) {i : Nat} (hi : i < cs.length) : rOk (tq cs i) (fq cs i) := by
  have e : cs.getD i [] = cs[i] := by
    rw [List.getD_eq_getElem?_getD, List.getElem?_eq_getElem hi]; rfl
  unfold tq fq
  rw [e]
  exact m_ok hok.1 (hok.2.2.2 _ (List.getElem_mem hi))
theorem s_canBeF {ma : mForm} {w : Nat} {dr : List Int32} {cs : List (List Int32)} (hok : okF w dr cs) (h : isMF ma w dr cs) {k : Nat} (hk : k ≤ cs.length) {y0 no0 : Int32} {ms : mSat} {Q : Int32 → mSat → Prop} (hst : stOk y0 no0)
    (h1 : ∀ ms, SATw k (tq cs) (fq cs) y0 no0 → Q 1 ms) (h0 : ∀ ms, ¬ SATw k (tq cs) (fq cs) y0 no0 → Q 0 ms) : w_Ref_canBe (nI k) y0 no0 ma ms Q := by
  have hl := hok.2.2.1
  have e : SATw k ma.told ma.toldNot y0 no0 ↔ SATw k (tq cs) (fq cs) y0 no0 := satw_congr (fun i hi => mf_rows h (by omega))
  refine s_canBe (by omega) (fun i hi => ?_) hst (fun ms q => h1 ms (e.mp q)) (fun ms q => h0 ms (fun q2 => q (e.mpr q2)))
  rw [(mf_rows h (by omega)).1, (mf_rows h (by omega)).2]
  exact mf_ok hok (by omega)
theorem st_00 : stOk 0 0 := ⟨sm_0, sm_0, fun v h => by rw [b_0] at h; cases h⟩
theorem st_b1l {u : Nat} (hu : u < 30) : stOk (b1 u) 0 := ⟨sm_b1 hu, sm_0, fun v _ h => by rw [b_0] at h; cases h⟩
theorem st_b1r {u : Nat} (hu : u < 30) : stOk 0 (b1 u) := ⟨sm_0, sm_b1 hu, fun v h => by rw [b_0] at h; cases h⟩
