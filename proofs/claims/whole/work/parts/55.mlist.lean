/-! the list of the models, in their order -/
noncomputable def ml (n : Nat) (t f : Nat → Int32) : Nat → Nat → Int32 → List Int32
  | 0, _, y => @ite (List Int32) (MOD n t f (fun v => bt y v)) (Classical.propDecidable _) [y] []
  | r + 1, i, y => ml n t f r (i + 1) y ++ ml n t f r (i + 1) (y ||| b1 i)
theorem ml_mem {n : Nat} {t f : Nat → Int32} : ∀ r i (y x : Int32), i + r ≤ 30 → x ∈ ml n t f r i y → MOD n t f (fun v => bt x v) ∧ ∀ v, v < i ∨ i + r ≤ v → bt x v = bt y v := by
  intro r
  induction r with
  | zero =>
    intro i y x _ h
    rw [ml] at h
    by_cases c : MOD n t f (fun v => bt y v)
    · rw [if_pos c] at h
      have e : x = y := by simpa using h
      subst e
      exact ⟨c, fun _ _ => rfl⟩
    · rw [if_neg c] at h
      cases h
  | succ r ih =>
    intro i y x hi h
    rw [ml, List.mem_append] at h
    rcases h with h | h
    · obtain ⟨h1, h2⟩ := ih (i + 1) y x (by omega) h
      exact ⟨h1, fun v hv => h2 v (by omega)⟩
    · obtain ⟨h1, h2⟩ := ih (i + 1) (y ||| b1 i) x (by omega) h
      refine ⟨h1, fun v hv => ?_⟩
      rw [h2 v (by omega), b_or, b_b1 (by omega)]
      have : ¬ v = i := by omega
      simp [this]
