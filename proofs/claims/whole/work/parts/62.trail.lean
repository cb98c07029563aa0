/-! the trail: how many variables stand on it -/
def tPos (vr : Nat → Nat) (k v : Nat) : Prop := ∃ i, i < k ∧ vr i = v
theorem tPos_le {vr : Nat → Nat} {j k v : Nat} (h : j ≤ k) (p : tPos vr j v) : tPos vr k v := by
  obtain ⟨i, hi, e⟩ := p
  exact ⟨i, by omega, e⟩
theorem cnt_one {p q : Nat → Bool} {u : Nat} (h1 : p u = false) (h2 : q u = true) : ∀ n, (∀ i, i < n → i ≠ u → q i = p i) → u < n → cnt q n = cnt p n + 1 := by
  intro n
  induction n with
  | zero => intro _ h; omega
  | succ n ih =>
    intro h hu
    rw [cnt_s, cnt_s]
    by_cases e : n = u
    · subst e
      rw [cnt_cong (fun i hi => h i (by omega) (by omega)), h1, h2]
      simp
    · rw [ih (fun i hi hn => h i (by omega) hn) (by omega), h n (by omega) e]
      omega
theorem cnt_none {p : Nat → Bool} : ∀ n, (∀ i, i < n → p i = false) → cnt p n = 0 := by
  intro n
  induction n with
  | zero => intro _; rfl
  | succ n ih =>
    intro h
    rw [cnt_s, ih (fun i hi => h i (by omega)), h n (by omega)]
    rfl
theorem cnt_img {vr : Nat → Nat} {N : Nat} : ∀ k (p : Nat → Bool), (∀ i, i < k → vr i < N) → (∀ i j, i < k → j < k → vr i = vr j → i = j) → (∀ v, p v = true ↔ tPos vr k v) → cnt p N = k := by
  intro k
  induction k with
  | zero =>
    intro p _ _ h
    refine cnt_none N (fun i _ => ?_)
    cases hb : p i with
    | false => rfl
    | true =>
      obtain ⟨j, hj, _⟩ := (h i).mp hb
      omega
  | succ k ih =>
    intro p hv hj h
    have hq : ∀ v, (p v && decide (v ≠ vr k)) = true ↔ tPos vr k v := by
      intro v
      rw [Bool.and_eq_true, decide_eq_true_eq, h v]
      constructor
      · rintro ⟨⟨i, hi, e⟩, hne⟩
        refine ⟨i, ?_, e⟩
        have : i ≠ k := fun q => hne (by rw [← e, q])
        omega
      · rintro ⟨i, hi, e⟩
        refine ⟨⟨i, by omega, e⟩, fun q => ?_⟩
        have := hj i k (by omega) (by omega) (by rw [e, q])
        omega
    have h1 := ih (fun v => p v && decide (v ≠ vr k)) (fun i hi => hv i (by omega)) (fun i j hi hj2 => hj i j (by omega) (by omega)) hq
    have h2 := cnt_one (p := fun v => p v && decide (v ≠ vr k)) (q := p) (u := vr k) (by simp) ((h _).mpr ⟨k, by omega, rfl⟩) N (fun i hi hn => by simp [hn]) (hv k (by omega))
    rw [h2, h1]
/-- the trail: len entries, the variables vr, levels that begin at p -/
def isTR (tr : tTrail) (w len lev : Nat) (vr p : Nat → Nat) : Prop :=
  tr.length = nI len ∧ tr.level = nI lev ∧ lev ≤ 31 ∧ (∀ i, i < len → tr.order i = b1 (vr i) ∧ vr i < w) ∧ (∀ i j, i < len → j < len → vr i = vr j → i = j) ∧ (∀ v, bt tr.trues v = true → bt tr.falses v = true → False) ∧ (∀ v, (bt tr.trues v = true ∨ bt tr.falses v = true) ↔ tPos vr len v) ∧ (∀ k, 1 ≤ k → k ≤ lev → p k ≤ len ∧ ∀ v, bt (tr.ahead k) v = true ↔ tPos vr (p k) v) ∧ (∀ j k, 1 ≤ j → j ≤ k → k ≤ lev → p j ≤ p k)
section TRAIL
variable {tr : tTrail} {w len lev : Nat} {vr p : Nat → Nat}
theorem tr_len (h : isTR tr w len lev vr p) : len ≤ w := by
  obtain ⟨_, _, _, h1, h2, _, h3, _⟩ := h
  have e := cnt_img (N := w) len (fun v => bt tr.trues v || bt tr.falses v) (fun i hi => (h1 i hi).2) h2 (fun v => by rw [Bool.or_eq_true]; exact h3 v)
  have := cnt_le (fun v => bt tr.trues v || bt tr.falses v) w
  omega
theorem tr_pc (hw : w ≤ 30) (h : isTR tr w len lev vr p) {k : Nat} (h1 : 1 ≤ k) (h2 : k ≤ lev) : pc (tr.ahead k) = p k := by
  obtain ⟨_, _, _, g1, g2, _, _, g3, _⟩ := h
  have g := g3 k h1 h2
  exact cnt_img (N := 32) (p k) (bt (tr.ahead k)) (fun i hi => by have := (g1 i (by omega)).2; omega) (fun i j hi hj => g2 i j (by omega) (by omega)) g.2
theorem tr_sm (hw : w ≤ 30) (h : isTR tr w len lev vr p) : sm tr.trues ∧ sm tr.falses := by
  obtain ⟨_, _, _, h1, _, _, h3, _⟩ := h
  have key : ∀ v, 30 ≤ v → ¬ (bt tr.trues v = true ∨ bt tr.falses v = true) := fun v hv q => by
    obtain ⟨i, hi, e⟩ := (h3 v).mp q
    have := (h1 i hi).2
    omega
  refine ⟨fun v hv => ?_, fun v hv => ?_⟩
  · cases hb : bt tr.trues v with
    | false => rfl
    | true => exact (key v hv (Or.inl hb)).elim
  · cases hb : bt tr.falses v with
    | false => rfl
    | true => exact (key v hv (Or.inr hb)).elim
end TRAIL
