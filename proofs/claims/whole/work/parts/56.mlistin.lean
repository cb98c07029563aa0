/-! every model stands in the list -/
theorem ml_in {n : Nat} {t f : Nat → Int32} : ∀ r i (y x : Int32), i + r ≤ 30 → sm x → sm y → MOD n t f (fun v => bt x v) → (∀ v, v < i ∨ i + r ≤ v → bt x v = bt y v) → (∀ v, i ≤ v → bt y v = false) → x ∈ ml n t f r i y := by
  intro r
  induction r with
  | zero =>
    intro i y x hi hx hy hm he _
    have e : x = y := b_ext (fun v _ => he v (by omega))
    subst e
    rw [ml, if_pos hm]
    exact List.mem_singleton.mpr rfl
  | succ r ih =>
    intro i y x hi hx hy hm he hz
    rw [ml, List.mem_append]
    cases hb : bt x i with
    | false =>
      left
      refine ih (i + 1) y x (by omega) hx hy hm (fun v hv => ?_) (fun v hv => hz v (by omega))
      by_cases e : v = i
      · subst e; rw [hb, hz v (Nat.le_refl _)]
      · exact he v (by omega)
    | true =>
      right
      refine ih (i + 1) (y ||| b1 i) x (by omega) hx (sm_or hy (sm_b1 (by omega))) hm (fun v hv => ?_) (fun v hv => ?_)
      · rw [b_or, b_b1 (by omega)]
        by_cases e : v = i
        · subst e; rw [hb]; simp
        · rw [he v (by omega)]; simp [e]
      · rw [b_or, b_b1 (by omega), hz v (by omega)]
        have : ¬ v = i := by omega
        simp [this]
