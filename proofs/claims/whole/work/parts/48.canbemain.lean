/-! the reference: canBe, a branch and the loop -/
theorem l_push {n : Nat} {t f : Nat → Int32} {y0 no0 : Int32} {d : Nat} {m : mSat} (hi : cbInv n t f y0 no0 d m) {a b : Int32} {l : Nat} (hl : l < 30)
    (hab : (a = b1 l ∧ b = 0) ∨ (a = 0 ∧ b = b1 l)) (h1 : bt m.isTrue l = false) (h2 : bt m.isFalse l = false) (s : Int32) :
    cbInv n t f y0 no0 (d + 1) (mSat.mk (m.isTrue ||| a) (m.isFalse ||| b) (upd m.keptTrue d m.isTrue) (upd m.keptFalse d m.isFalse) (upd m.triedTrue d a) (upd m.triedFalse d b) s) ∧
    wt (opn (m.isTrue ||| a) (m.isFalse ||| b)) + stk (mSat.mk (m.isTrue ||| a) (m.isFalse ||| b) (upd m.keptTrue d m.isTrue) (upd m.keptFalse d m.isFalse) (upd m.triedTrue d a) (upd m.triedFalse d b) s) (d + 1) < wt (opn m.isTrue m.isFalse) + stk m d := by
  have key : ∀ {p q : Int32}, ((p = b1 l ∧ q = 0) ∨ (p = 0 ∧ q = b1 l)) → stOk (m.isTrue ||| p) (m.isFalse ||| q) ∧ opn (m.isTrue ||| p) (m.isFalse ||| q) < opn m.isTrue m.isFalse ∧ subb y0 no0 (m.isTrue ||| p) (m.isFalse ||| q) := by
    intro p q hpq
    have bp : ∀ v, bt p v = true → v = l := fun v hv => by
      rcases hpq with ⟨e, _⟩ | ⟨e, _⟩
      · rw [e, b_b1 (by omega)] at hv; simpa using hv
      · rw [e, b_0] at hv; cases hv
    have bq : ∀ v, bt q v = true → v = l := fun v hv => by
      rcases hpq with ⟨_, e⟩ | ⟨_, e⟩
      · rw [e, b_0] at hv; cases hv
      · rw [e, b_b1 (by omega)] at hv; simpa using hv
    have npq : ¬ (bt p l = true ∧ bt q l = true) := fun h => by
      rcases hpq with ⟨_, e⟩ | ⟨e, _⟩
      · have := h.2; rw [e, b_0] at this; cases this
      · have := h.1; rw [e, b_0] at this; cases this
    have upT : ∀ v, bt m.isTrue v = true → bt (m.isTrue ||| p) v = true := fun v hv => by rw [b_or, hv]; rfl
    have upF : ∀ v, bt m.isFalse v = true → bt (m.isFalse ||| q) v = true := fun v hv => by rw [b_or, hv]; rfl
    have smp : sm p := by
      rcases hpq with ⟨e, _⟩ | ⟨e, _⟩
      · rw [e]; exact sm_b1 hl
      · rw [e]; exact sm_0
    have smq : sm q := by
      rcases hpq with ⟨_, e⟩ | ⟨_, e⟩
      · rw [e]; exact sm_0
      · rw [e]; exact sm_b1 hl
    refine ⟨⟨sm_or hi.1.1 smp, sm_or hi.1.2.1 smq, fun v g1 g2 => ?_⟩, opn_lt upT upF hl h1 h2 ?_, fun v h => upT v (hi.2.2.1.1 v h), fun v h => upF v (hi.2.2.1.2 v h)⟩
    · rw [b_or, Bool.or_eq_true] at g1 g2
      rcases g1 with g1 | g1 <;> rcases g2 with g2 | g2
      · exact hi.1.2.2 v g1 g2
      · have := bq v g2; subst this; rw [h1] at g1; cases g1
      · have := bp v g1; subst this; rw [h2] at g2; cases g2
      · have := bp v g1; subst this; exact npq ⟨g1, g2⟩
    · rcases hpq with ⟨e, _⟩ | ⟨_, e⟩
      · left; rw [b_or, e, b_b1 (by omega)]; simp
      · right; rw [b_or, e, b_b1 (by omega)]; simp
  obtain ⟨k1, k2, k3⟩ := key hab
  have hba : (b = b1 l ∧ a = 0) ∨ (b = 0 ∧ a = b1 l) := by
    rcases hab with ⟨p, q⟩ | ⟨p, q⟩
    · exact Or.inr ⟨q, p⟩
    · exact Or.inl ⟨q, p⟩
  obtain ⟨j1, j2, j3⟩ := key hba
  have hd := hi.2.1
  have eY : sY (mSat.mk (m.isTrue ||| a) (m.isFalse ||| b) (upd m.keptTrue d m.isTrue) (upd m.keptFalse d m.isFalse) (upd m.triedTrue d a) (upd m.triedFalse d b) s) d = m.isTrue ||| b := by
    show upd m.keptTrue d m.isTrue d ||| upd m.triedFalse d b d = _
    rw [pk_us, pk_us]
  have eN : sN (mSat.mk (m.isTrue ||| a) (m.isFalse ||| b) (upd m.keptTrue d m.isTrue) (upd m.keptFalse d m.isFalse) (upd m.triedTrue d a) (upd m.triedFalse d b) s) d = m.isFalse ||| a := by
    show upd m.keptFalse d m.isFalse d ||| upd m.triedTrue d a d = _
    rw [pk_us, pk_us]
  have eo : ∀ j, j ≠ d → sY (mSat.mk (m.isTrue ||| a) (m.isFalse ||| b) (upd m.keptTrue d m.isTrue) (upd m.keptFalse d m.isFalse) (upd m.triedTrue d a) (upd m.triedFalse d b) s) j = sY m j ∧ sN (mSat.mk (m.isTrue ||| a) (m.isFalse ||| b) (upd m.keptTrue d m.isTrue) (upd m.keptFalse d m.isFalse) (upd m.triedTrue d a) (upd m.triedFalse d b) s) j = sN m j := by
    intro j hj
    constructor
    · show upd m.keptTrue d m.isTrue j ||| upd m.triedFalse d b j = m.keptTrue j ||| m.triedFalse j
      rw [pk_un hj, pk_un hj]
    · show upd m.keptFalse d m.isFalse j ||| upd m.triedTrue d a j = m.keptFalse j ||| m.triedTrue j
      rw [pk_un hj, pk_un hj]
  refine ⟨⟨k1, ?_, k3, fun j hj => ?_, fun z hm ha => ?_⟩, ?_⟩
  · show d + 1 + opn (m.isTrue ||| a) (m.isFalse ||| b) ≤ 30
    omega
  · by_cases e : j = d
    · subst e
      rw [eY, eN]
      exact ⟨j1, by omega, j3⟩
    · rw [(eo j e).1, (eo j e).2]; exact hi.2.2.2.1 j (by omega)
  · rcases hi.2.2.2.2 z hm ha with h | ⟨j, hj, h⟩
    · have splitz : agr (m.isTrue ||| a) (m.isFalse ||| b) z ∨ agr (m.isTrue ||| b) (m.isFalse ||| a) z := by
        have mk1 : ∀ {p q : Int32}, (∀ v, bt p v = true → z v = true) → (∀ v, bt q v = true → z v = false) → agr (m.isTrue ||| p) (m.isFalse ||| q) z := by
          intro p q hp hq
          refine ⟨fun v hv => ?_, fun v hv => ?_⟩
          · rw [b_or, Bool.or_eq_true] at hv
            rcases hv with hv | hv
            · exact h.1 v hv
            · exact hp v hv
          · rw [b_or, Bool.or_eq_true] at hv
            rcases hv with hv | hv
            · exact h.2 v hv
            · exact hq v hv
        have z0 : ∀ {c : Bool} v, bt (0 : Int32) v = true → z v = c := fun v hv => by rw [b_0] at hv; cases hv
        have z1 : ∀ {c : Bool}, z l = c → ∀ v, bt (b1 l) v = true → z v = c := fun hz v hv => by
          rw [b_b1 (by omega)] at hv
          have : v = l := by simpa using hv
          rw [this]; exact hz
        cases hz : z l with
        | true =>
          rcases hab with ⟨e1, e2⟩ | ⟨e1, e2⟩
          · left; rw [e1, e2]; exact mk1 (z1 hz) z0
          · right; rw [e1, e2]; exact mk1 (z1 hz) z0
        | false =>
          rcases hab with ⟨e1, e2⟩ | ⟨e1, e2⟩
          · right; rw [e1, e2]; exact mk1 z0 (z1 hz)
          · left; rw [e1, e2]; exact mk1 z0 (z1 hz)
      rcases splitz with h' | h'
      · exact Or.inl h'
      · exact Or.inr ⟨d, by omega, by rw [eY, eN]; exact h'⟩
    · exact Or.inr ⟨j, by omega, by rw [(eo j (by omega)).1, (eo j (by omega)).2]; exact h⟩
  · have e := stk_congr d (fun j hj => eo j (by omega))
    show wt (opn (m.isTrue ||| a) (m.isFalse ||| b)) + (stk _ d + wt (opn (sY _ d) (sN _ d))) < _
    rw [eY, eN, e]
    have := wt_two k2 j2
    omega
