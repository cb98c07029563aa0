/-! the reference: canBe -/
def sY (m : mSat) (j : Nat) : Int32 := m.keptTrue j ||| m.triedFalse j
def sN (m : mSat) (j : Nat) : Int32 := m.keptFalse j ||| m.triedTrue j
def wt (o : Nat) : Nat := 2 ^ (o + 1) - 1
def stk (m : mSat) : Nat → Nat
  | 0 => 0
  | d + 1 => stk m d + wt (opn (sY m d) (sN m d))
theorem stk_congr {a b : mSat} : ∀ d, (∀ j, j < d → sY a j = sY b j ∧ sN a j = sN b j) → stk a d = stk b d := by
  intro d
  induction d with
  | zero => intro _; rfl
  | succ d ih =>
    intro h
    show stk a d + wt (opn (sY a d) (sN a d)) = stk b d + wt (opn (sY b d) (sN b d))
    rw [ih (fun j hj => h j (by omega)), (h d (by omega)).1, (h d (by omega)).2]
theorem wt_pos (o : Nat) : 1 ≤ wt o := by
  have : 2 ≤ 2 ^ (o + 1) := by rw [Nat.pow_succ]; have := Nat.one_le_two_pow (n := o); omega
  unfold wt; omega
theorem wt_mono {a b : Nat} (h : a ≤ b) : wt a ≤ wt b := by
  have : 2 ^ (a + 1) ≤ 2 ^ (b + 1) := Nat.pow_le_pow_right (by omega) (by omega)
  unfold wt; omega
theorem wt_two {a b c : Nat} (h : a < c) (h2 : b < c) : wt a + wt b < wt c := by
  have h3 : wt a ≤ wt (c - 1) := wt_mono (by omega)
  have h4 : wt b ≤ wt (c - 1) := wt_mono (by omega)
  have h5 : wt c = 2 * wt (c - 1) + 1 := by
    obtain ⟨k, rfl⟩ : ∃ k, c = k + 1 := ⟨c - 1, by omega⟩
    show 2 ^ (k + 1 + 1) - 1 = 2 * (2 ^ (k + 1) - 1) + 1
    have := Nat.one_le_two_pow (n := k + 1)
    rw [Nat.pow_succ (n := 2) (m := k + 1)]
    omega
  omega
def subb (y0 no0 y no : Int32) : Prop := (∀ v, bt y0 v = true → bt y v = true) ∧ ∀ v, bt no0 v = true → bt no v = true
def cbInv (n : Nat) (t f : Nat → Int32) (y0 no0 : Int32) (d : Nat) (m : mSat) : Prop :=
  stOk m.isTrue m.isFalse ∧ d + opn m.isTrue m.isFalse ≤ 30 ∧ subb y0 no0 m.isTrue m.isFalse ∧
  (∀ j, j < d → stOk (sY m j) (sN m j) ∧ j + opn (sY m j) (sN m j) ≤ 30 ∧ subb y0 no0 (sY m j) (sN m j)) ∧
  ∀ z, MOD n t f z → agr y0 no0 z → agr m.isTrue m.isFalse z ∨ ∃ j, j < d ∧ agr (sY m j) (sN m j) z
theorem sK_eq {a b : mSat} (h : sameK a b) (j : Nat) : sY a j = sY b j ∧ sN a j = sN b j := by
  obtain ⟨h1, h2, h3, h4⟩ := h
  unfold sY sN
  rw [h1, h2, h3, h4]
  exact ⟨rfl, rfl⟩
theorem l_goes {n : Nat} {t f : Nat → Int32} {y0 no0 : Int32} {d : Nat} {m ms : mSat} (hi : cbInv n t f y0 no0 d m) (hg : goesOn n t f m ms) :
    cbInv n t f y0 no0 d ms ∧ wt (opn ms.isTrue ms.isFalse) + stk ms d ≤ wt (opn m.isTrue m.isFalse) + stk m d := by
  have ho := opn_mono hg.2.1 hg.2.2.1
  have hk := sK_eq hg.2.2.2.2
  refine ⟨⟨hg.1, ?_, ⟨fun v h => hg.2.1 v (hi.2.2.1.1 v h), fun v h => hg.2.2.1 v (hi.2.2.1.2 v h)⟩, fun j hj => ?_, fun z hm ha => ?_⟩, ?_⟩
  · have := hi.2.1; omega
  · rw [(hk j).1, (hk j).2]; exact hi.2.2.2.1 j hj
  · rcases hi.2.2.2.2 z hm ha with h | ⟨j, hj, h⟩
    · exact Or.inl (hg.2.2.2.1 z hm h)
    · exact Or.inr ⟨j, hj, by rw [(hk j).1, (hk j).2]; exact h⟩
  · have := wt_mono ho
    rw [stk_congr d (fun j _ => hk j)]
    omega
theorem l_pop {n : Nat} {t f : Nat → Int32} {y0 no0 : Int32} {d : Nat} {m ms : mSat} (hi : cbInv n t f y0 no0 (d + 1) m) (hk : sameK ms m)
    (hno : ∀ z, MOD n t f z → agr m.isTrue m.isFalse z → False) (s : Int32) :
    cbInv n t f y0 no0 d (mSat.mk (sY ms d) (sN ms d) ms.keptTrue ms.keptFalse ms.triedTrue ms.triedFalse s) ∧ wt (opn (sY ms d) (sN ms d)) + stk (mSat.mk (sY ms d) (sN ms d) ms.keptTrue ms.keptFalse ms.triedTrue ms.triedFalse s) d < wt (opn m.isTrue m.isFalse) + stk m (d + 1) := by
  have hk' := sK_eq hk
  have hs : ∀ j, sY (mSat.mk (sY ms d) (sN ms d) ms.keptTrue ms.keptFalse ms.triedTrue ms.triedFalse s) j = sY m j ∧ sN (mSat.mk (sY ms d) (sN ms d) ms.keptTrue ms.keptFalse ms.triedTrue ms.triedFalse s) j = sN m j := fun j => hk' j
  obtain ⟨a1, a2, a3⟩ := hi.2.2.2.1 d (by omega)
  refine ⟨⟨?_, ?_, ?_, fun j hj => ?_, fun z hm ha => ?_⟩, ?_⟩
  · show stOk (sY ms d) (sN ms d)
    rw [(hk' d).1, (hk' d).2]; exact a1
  · show d + opn (sY ms d) (sN ms d) ≤ 30
    rw [(hk' d).1, (hk' d).2]; exact a2
  · show subb y0 no0 (sY ms d) (sN ms d)
    rw [(hk' d).1, (hk' d).2]; exact a3
  · rw [(hs j).1, (hs j).2]; exact hi.2.2.2.1 j (by omega)
  · rcases hi.2.2.2.2 z hm ha with h | ⟨j, hj, h⟩
    · exact (hno z hm h).elim
    · by_cases e : j = d
      · subst e
        left
        show agr (sY ms j) (sN ms j) z
        rw [(hk' j).1, (hk' j).2]; exact h
      · exact Or.inr ⟨j, by omega, by rw [(hs j).1, (hs j).2]; exact h⟩
  · have := wt_pos (opn m.isTrue m.isFalse)
    rw [stk_congr d (fun j _ => hs j), (hk' d).1, (hk' d).2]
    show wt (opn (sY m d) (sN m d)) + stk m d < wt (opn m.isTrue m.isFalse) + (stk m d + wt (opn (sY m d) (sN m d)))
    omega
