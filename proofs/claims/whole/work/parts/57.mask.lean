/-! a mask for any choice of bits -/
def mkb (a : Nat → Bool) : Nat → Int32
  | 0 => 0
  | k + 1 => if a k = true then mkb a k ||| b1 k else mkb a k
theorem b_mkb (a : Nat → Bool) : ∀ k, k ≤ 30 → ∀ v, bt (mkb a k) v = (decide (v < k) && a v) := by
  intro k
  induction k with
  | zero => intro _ v; rw [mkb, b_0]; simp
  | succ k ih =>
    intro hk v
    have h := ih (by omega) v
    rw [mkb]
    by_cases c : a k = true
    · rw [if_pos c, b_or, b_b1 (by omega), h]
      by_cases e : v = k
      · subst e; simp [c]
      · have e2 : (v < k + 1) ↔ v < k := by omega
        simp [e, e2]
    · rw [if_neg c, h]
      by_cases e : v = k
      · subst e
        have : a v = false := by simpa using c
        simp [this]
      · have e2 : (v < k + 1) ↔ v < k := by omega
        simp [e2]
theorem sm_mkb (a : Nat → Bool) {k : Nat} (hk : k ≤ 30) : sm (mkb a k) := fun v hv => by
  rw [b_mkb a k hk]
  have : ¬ v < k := by omega
  simp [this]
