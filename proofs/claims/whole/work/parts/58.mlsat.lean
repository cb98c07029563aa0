/-! the list is empty exactly when nothing satisfies -/
theorem ml_sat {n w : Nat} {t f : Nat → Int32} (hw : w ≤ 30) (hr : ∀ j, j < n → ∀ v, w ≤ v → bt (t j) v = false ∧ bt (f j) v = false) {r i : Nat} (hi : i + r = w) {y no : Int32} (hy : ∀ v, i ≤ v → bt y v = false) (hno : ∀ v, bt no v = (decide (v < i) && !bt y v)) :
    SATw n t f y no ↔ ∃ x, x ∈ ml n t f r i y := by
  have sy : sm y := fun v hv => hy v (by omega)
  constructor
  · rintro ⟨a, hm, ha⟩
    have hx := b_mkb a w hw
    refine ⟨mkb a w, ml_in r i y _ (by omega) (sm_mkb a hw) sy (fun j hj => ?_) (fun v hv => ?_) hy⟩
    · obtain ⟨v, hv⟩ := hm j hj
      refine ⟨v, ?_⟩
      have hlt : v < w := by
        rcases Nat.lt_or_ge v w with q | q
        · exact q
        · have h2 := hr j hj v q
          rw [h2.1, h2.2] at hv
          rcases hv with hv | hv <;> cases hv.1
      have e : bt (mkb a w) v = a v := by rw [hx]; simp [hlt]
      rw [← e] at hv
      exact hv
    · rw [hx]
      rcases hv with hv | hv
      · have hlt : v < w := by omega
        cases hb : bt y v with
        | true => simp [hlt, ha.1 v hb]
        | false => simp [hlt, ha.2 v (by rw [hno, hb]; simp [hv])]
      · have hlt : ¬ v < w := by omega
        rw [hy v (by omega)]; simp [hlt]
  · rintro ⟨x, hx⟩
    obtain ⟨h1, h2⟩ := ml_mem r i y x (by omega) hx
    refine ⟨_, h1, fun v hv => ?_, fun v hv => ?_⟩
    · have hlt : v < i := by
        rcases Nat.lt_or_ge v i with q | q
        · exact q
        · rw [hy v q] at hv; cases hv
      show bt x v = true
      rw [h2 v (Or.inl hlt), hv]
    · rw [hno, Bool.and_eq_true] at hv
      have hlt : v < i := by simpa using hv.1
      show bt x v = false
      rw [h2 v (Or.inl hlt)]
      simpa using hv.2
