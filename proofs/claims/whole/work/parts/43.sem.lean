/-! what a model is -/
def rowT (t f : Int32) (a : Nat → Bool) : Prop := ∃ v, (bt t v = true ∧ a v = true) ∨ (bt f v = true ∧ a v = false)
def MOD (n : Nat) (t f : Nat → Int32) (a : Nat → Bool) : Prop := ∀ i, i < n → rowT (t i) (f i) a
def agr (y no : Int32) (a : Nat → Bool) : Prop := (∀ v, bt y v = true → a v = true) ∧ (∀ v, bt no v = true → a v = false)
def SATw (n : Nat) (t f : Nat → Int32) (y no : Int32) : Prop := ∃ a, MOD n t f a ∧ agr y no a
/-- a row: 30 bits each, no variable both ways -/
def rOk (t f : Int32) : Prop := sm t ∧ sm f ∧ ∀ v, bt t v = true → bt f v = true → False
theorem b1_lit {x : Int32} {u : Nat} (h : x.toInt = (u : Int) + 1) : (1 : Int32) <<< ((x - 1) &&& 31) = b1 u := by
  have e : x = nI (u + 1) := of_ti (by omega)
  unfold b1
  rw [e, nI_pred]
theorem b1_litn {x : Int32} {u : Nat} (h : x.toInt = -((u : Int) + 1)) (hu : u < 30) : (1 : Int32) <<< ((-x - 1) &&& 31) = b1 u := by
  have e : -x = nI (u + 1) := of_ti (by rw [ti_neg (by omega)]; omega)
  unfold b1
  rw [e, nI_pred]
theorem m_bits {w : Nat} {c : List Int32} (hw : w ≤ 30) (h : ∀ x ∈ c, x ≠ 0 ∧ -(w : Int) ≤ x.toInt ∧ x.toInt ≤ w) : ∀ k, k ≤ c.length → ∀ v : Nat, (bt (mT (c.take k)) v = true ↔ ∃ (j : Nat) (x : Int32), j < k ∧ c[j]? = some x ∧ x.toInt = (v : Int) + 1) ∧ (bt (mF (c.take k)) v = true ↔ ∃ (j : Nat) (x : Int32), j < k ∧ c[j]? = some x ∧ x.toInt = -((v : Int) + 1)) := by
  intro k
  induction k with
  | zero =>
    intro _ v
    have e : c.take 0 = [] := rfl
    rw [e]
    have e1 : mT [] = 0 := rfl
    have e2 : mF [] = 0 := rfl
    rw [e1, e2, b_0]
    refine ⟨⟨fun q => (by cases q), ?_⟩, ⟨fun q => (by cases q), ?_⟩⟩ <;>
    · rintro ⟨j, x, hj, -⟩
      omega
  | succ k ih =>
    intro hk v
    have hx := List.getElem?_eq_getElem (show k < c.length by omega)
    have hv := h _ (List.mem_of_getElem? hx)
    obtain ⟨iT, iF⟩ := ih (by omega) v
    rw [take_snoc hx, mT_snoc, mF_snoc]
    generalize c[k] = y at *
    have z0 : y.toInt ≠ 0 := fun e => hv.1 (ti_eq.mpr e)
    have old : ∀ P : Int32 → Prop, (∃ (j : Nat) (x : Int32), j < k + 1 ∧ c[j]? = some x ∧ P x) ↔ ((∃ (j : Nat) (x : Int32), j < k ∧ c[j]? = some x ∧ P x) ∨ P y) := by
      intro P
      constructor
      · rintro ⟨j, x, hj, hc, hp⟩
        by_cases e : j = k
        · subst e; rw [hx] at hc; cases hc; exact Or.inr hp
        · exact Or.inl ⟨j, x, by omega, hc, hp⟩
      · rintro (⟨j, x, hj, hc, hp⟩ | hp)
        · exact ⟨j, x, by omega, hc, hp⟩
        · exact ⟨k, y, by omega, hx, hp⟩
    rw [old (fun x => x.toInt = (v : Int) + 1), old (fun x => x.toInt = -((v : Int) + 1))]
    by_cases hy : y ≤ 0
    · have hy2 : y.toInt ≤ 0 := ti_le.mp hy
      rw [if_pos hy, if_pos hy]
      obtain ⟨u, hu⟩ : ∃ u : Nat, y.toInt = -((u : Int) + 1) := ⟨(-y.toInt - 1).toNat, by omega⟩
      rw [b1_litn hu (by omega), b_or, Bool.or_eq_true, iT, iF, b_b1 (by omega)]
      refine ⟨⟨Or.inl, fun q => q.elim id (fun e => by omega)⟩, ⟨fun q => q.elim Or.inl (fun e => Or.inr ?_), fun q => q.elim Or.inl (fun e => Or.inr ?_)⟩⟩
      · have e2 : v = u := by simpa using e
        rw [hu, e2]
      · have e2 : v = u := by rw [hu] at e; omega
        simpa using e2
    · have hy2 : ¬ y.toInt ≤ 0 := fun q => hy (ti_le.mpr q)
      rw [if_neg hy, if_neg hy]
      obtain ⟨u, hu⟩ : ∃ u : Nat, y.toInt = (u : Int) + 1 := ⟨(y.toInt - 1).toNat, by omega⟩
      rw [b1_lit hu, b_or, Bool.or_eq_true, iT, iF, b_b1 (by omega)]
      refine ⟨⟨fun q => q.elim Or.inl (fun e => Or.inr ?_), fun q => q.elim Or.inl (fun e => Or.inr ?_)⟩, ⟨Or.inl, fun q => q.elim id (fun e => by omega)⟩⟩
      · have e2 : v = u := by simpa using e
        rw [hu, e2]
      · have e2 : v = u := by rw [hu] at e; omega
        simpa using e2
/-- the bits of a clause's masks are its literals -/
theorem m_lits {w : Nat} {c : List Int32} (hw : w ≤ 30) (h : okL w c) (v : Nat) : (bt (mT c) v = true ↔ ∃ (j : Nat) (x : Int32), c[j]? = some x ∧ x.toInt = (v : Int) + 1) ∧ (bt (mF c) v = true ↔ ∃ (j : Nat) (x : Int32), c[j]? = some x ∧ x.toInt = -((v : Int) + 1)) := by
  have hb := m_bits hw h.2.1 c.length (Nat.le_refl _) v
  rw [List.take_length] at hb
  refine ⟨hb.1.trans ⟨fun ⟨j, x, _, h1, h2⟩ => ⟨j, x, h1, h2⟩, fun ⟨j, x, h1, h2⟩ => ⟨j, x, (List.getElem?_eq_some_iff.mp h1).1, h1, h2⟩⟩, hb.2.trans ⟨fun ⟨j, x, _, h1, h2⟩ => ⟨j, x, h1, h2⟩, fun ⟨j, x, h1, h2⟩ => ⟨j, x, (List.getElem?_eq_some_iff.mp h1).1, h1, h2⟩⟩⟩
theorem m_lt {w : Nat} {c : List Int32} (hw : w ≤ 30) (h : okL w c) {v : Nat} (hv : bt (mT c) v = true ∨ bt (mF c) v = true) : v < w := by
  rcases hv with hv | hv
  · obtain ⟨j, x, h1, h2⟩ := (m_lits hw h v).1.mp hv
    have := (h.2.1 x (List.mem_of_getElem? h1)).2
    omega
  · obtain ⟨j, x, h1, h2⟩ := (m_lits hw h v).2.mp hv
    have := (h.2.1 x (List.mem_of_getElem? h1)).2
    omega
theorem m_ok {w : Nat} {c : List Int32} (hw : w ≤ 30) (h : okL w c) : rOk (mT c) (mF c) := by
  refine ⟨fun i hi => ?_, fun i hi => ?_, fun v h1 h2 => ?_⟩
  · cases hb : bt (mT c) i with
    | false => rfl
    | true => have := m_lt hw h (Or.inl hb); omega
  · cases hb : bt (mF c) i with
    | false => rfl
    | true => have := m_lt hw h (Or.inr hb); omega
  · obtain ⟨j, x, a1, a2⟩ := (m_lits hw h v).1.mp h1
    obtain ⟨k, y, c1, c2⟩ := (m_lits hw h v).2.mp h2
    have hp := List.pairwise_iff_getElem.mp h.2.2
    obtain ⟨hj, ej⟩ := List.getElem?_eq_some_iff.mp a1
    obtain ⟨hk, ek⟩ := List.getElem?_eq_some_iff.mp c1
    rcases Nat.lt_trichotomy j k with q | q | q
    · have := hp j k hj hk q
      rw [ej, ek] at this; omega
    · subst q
      rw [a1] at c1; cases c1; omega
    · have := hp k j hk hj q
      rw [ej, ek] at this; omega
