/-! the list of models: what stands behind one -/
section MLR
variable {n w : Nat} {t f : Nat → Int32}
theorem ml_self (hw : w ≤ 30) {x : Int32} (hb : ∀ v, bt x v = true → v < w) (hm : MOD n t f (fun v => bt x v)) {k : Nat} (hk : k ≤ w) : x ∈ ml n t f (w - k) k (lowm x k) := by
  have hz : ∀ v, w ≤ v → bt x v = false := fun v hv => by
    cases q : bt x v with
    | false => rfl
    | true => have := hb v q; omega
  have hl := fun v => b_lowm x (k := k) (by omega) v
  refine ml_in (w - k) k _ x (by omega) (fun v hv => hz v (by omega)) (fun v hv => ?_) hm (fun v hv => ?_) (fun v hv => ?_)
  · rw [hl]
    have : ¬ v < k := by omega
    simp [this]
  · rw [hl]
    rcases hv with hv | hv
    · simp [hv]
    · rw [hz v (by omega)]; simp
  · rw [hl]
    have : ¬ v < k := by omega
    simp [this]
theorem ml_rst (hw : w ≤ 30) : ∀ r i (y : Int32), i + r = w → (∀ v, i ≤ v → bt y v = false) → ∀ (j : Nat) (x : Int32), (ml n t f r i y)[j]? = some x → rst n t f w x (i + r) = (ml n t f r i y).drop (j + 1) ++ rst n t f w x i := by
  intro r
  induction r with
  | zero =>
    intro i y hi hy j x hx
    rw [ml] at hx ⊢
    by_cases c : MOD n t f (fun v => bt y v)
    · rw [if_pos c] at hx ⊢
      cases j with
      | zero => rfl
      | succ j => cases hx
    · rw [if_neg c] at hx
      cases hx
  | succ r ih =>
    intro i y hi hy j x hx
    have hi30 : i < 30 := by omega
    rw [ml] at hx ⊢
    rw [show i + (r + 1) = (i + 1) + r by omega]
    have hr : w - (i + 1) = r := by omega
    rcases Nat.lt_or_ge j (ml n t f r (i + 1) y).length with q | q
    · rw [List.getElem?_append_left q] at hx
      have h1 := (ml_mem r (i + 1) y x (by omega) (List.mem_of_getElem? hx)).2
      have hbi : bt x i = false := by rw [h1 i (by omega)]; exact hy i (Nat.le_refl _)
      have el : lowm x i = y := by
        refine b_ext (fun v _ => ?_)
        rw [b_lowm x (by omega)]
        by_cases c : v < i
        · rw [h1 v (by omega)]; simp [c]
        · rw [hy v (by omega)]; simp [c]
      rw [ih (i + 1) y (by omega) (fun v hv => hy v (by omega)) j x hx, rst, if_neg (by rw [hbi]; simp), hr, el, List.drop_append_of_le_length (by omega), List.append_assoc]
    · rw [List.getElem?_append_right q] at hx
      have h1 := (ml_mem r (i + 1) (y ||| b1 i) x (by omega) (List.mem_of_getElem? hx)).2
      have hbi : bt x i = true := by rw [h1 i (by omega), b_or, b_b1 (by omega)]; simp
      have hd : List.drop (j + 1) (ml n t f r (i + 1) y ++ ml n t f r (i + 1) (y ||| b1 i)) = List.drop (j - (ml n t f r (i + 1) y).length + 1) (ml n t f r (i + 1) (y ||| b1 i)) := by
        rw [List.drop_append, List.drop_eq_nil_of_le (by omega), List.nil_append]
        congr 1
        omega
      rw [ih (i + 1) (y ||| b1 i) (by omega) (fun v hv => by rw [b_or, hy v (by omega), b_b1 (by omega)]; simp; omega) _ x hx, rst, if_pos hbi, List.nil_append, hd]
end MLR
