/-! the rows of the clauses, on both sides the same -/
def tq (cs : List (List Int32)) (i : Nat) : Int32 := mT (cs.getD i [])
def fq (cs : List (List Int32)) (i : Nat) : Int32 := mF (cs.getD i [])
theorem satw_congr {n : Nat} {t f t2 f2 : Nat → Int32} {y no : Int32} (h : ∀ i, i < n → t i = t2 i ∧ f i = f2 i) : SATw n t f y no ↔ SATw n t2 f2 y no := by
  constructor
  · rintro ⟨a, hm, ha⟩
    exact ⟨a, fun i hi => by rw [← (h i hi).1, ← (h i hi).2]; exact hm i hi, ha⟩
  · rintro ⟨a, hm, ha⟩
    exact ⟨a, fun i hi => by rw [(h i hi).1, (h i hi).2]; exact hm i hi, ha⟩
theorem mf_rows {ma : mForm} {w : Nat} {dr : List Int32} {cs : List (List Int32)} (h : isMF ma w dr cs) {i : Nat} (hi : i < cs.length) : ma.told i = tq cs i ∧ ma.toldNot i = fq cs i := by
  have e : cs[i]? = some (cs.getD i []) := by
    rw [List.getD_eq_getElem?_getD, List.getElem?_eq_getElem hi]; rfl
  obtain ⟨_, _, h1, h2⟩ := h.2.2.2.2 i _ e
  exact ⟨h1, h2⟩
