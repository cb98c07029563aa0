/-! the reference: follows, all passes -/
theorem goesOn.rfl' {n : Nat} {t f : Nat → Int32} {a : mSat} (h : stOk a.isTrue a.isFalse) : goesOn n t f a a :=
  ⟨h, fun _ h => h, fun _ h => h, fun _ _ ha => ha, rfl, rfl, rfl, rfl⟩
section FOLALL
variable {ma : mForm} {n : Nat}
theorem l_fol2 (hn : n ≤ 400) (hr : ∀ i, i < n → rOk (ma.told i) (ma.toldNot i)) {m0 : mSat} {K : mSat → Prop} {Q : Int32 → mSat → Prop}
    (h0 : (∀ z, MOD n ma.told ma.toldNot z → agr m0.isTrue m0.isFalse z → False) → ∀ ms, sameK ms m0 → Q 0 ms)
    (h1 : ∀ ms x3, goesOn n ma.told ma.toldNot m0 ms → shOk n ma.told ma.toldNot x3 ms → K ms) :
    ∀ nn (m : mSat), goesOn n ma.told ma.toldNot m0 m → opn m.isTrue m.isFalse + 1 < nn → w_Ref_follows_L2 (nI n) ma K Q nn 1 m := by
  intro nn
  induction nn with
  | zero => intro m _ h; omega
  | succ nn ih =>
    intro m hg hm
    rw [w_Ref_follows_L2]
    refine ⟨fun c => absurd c (by decide), fun _ => ⟨n + 1, ?_⟩⟩
    have hg' : goesOn n ma.told ma.toldNot m0 (mSat.mk m.isTrue m.isFalse m.keptTrue m.keptFalse m.triedTrue m.triedFalse (-1)) := hg
    have hs' : goesOn n ma.told ma.toldNot (mSat.mk m.isTrue m.isFalse m.keptTrue m.keptFalse m.triedTrue m.triedFalse (-1)) (mSat.mk m.isTrue m.isFalse m.keptTrue m.keptFalse m.triedTrue m.triedFalse (-1)) := goesOn.rfl' hg.1
    refine l_fol19 hn hr (m0 := mSat.mk m.isTrue m.isFalse m.keptTrue m.keptFalse m.triedTrue m.triedFalse (-1)) ?_ ?_ ?_ (n + 1) 0 (Nat.zero_le _) (by omega) 0 99 _ hs' (Or.inr ⟨rfl, Or.inl ⟨rfl, rfl, fun j hj => absurd hj (Nat.not_lt_zero _)⟩⟩)
    · intro hno ms hk
      refine h0 (fun z hz ha => hno z hz (hg.2.2.2.1 z hz ha)) ms ?_
      have k2 := hg.2.2.2.2
      exact ⟨hk.1.trans k2.1, hk.2.1.trans k2.2.1, hk.2.2.1.trans k2.2.2.1, hk.2.2.2.trans k2.2.2.2⟩
    · intro ms hgo hlt
      have hlt' : opn ms.isTrue ms.isFalse < opn m.isTrue m.isFalse := hlt
      exact ih ms (goesOn.trans hg' hgo) (by omega)
    · intro ms x3 hgo hsh
      have hk := h1 ms x3 (goesOn.trans hg' hgo) hsh
      obtain ⟨k, rfl⟩ : ∃ k, nn = k + 1 := ⟨nn - 1, by omega⟩
      rw [w_Ref_follows_L2]
      exact ⟨fun _ => hk, fun c => absurd rfl c⟩
theorem s_follows (hn : n ≤ 400) (hr : ∀ i, i < n → rOk (ma.told i) (ma.toldNot i)) {m0 : mSat} {Q : Int32 → mSat → Prop} (hst : stOk m0.isTrue m0.isFalse)
    (h0 : (∀ z, MOD n ma.told ma.toldNot z → agr m0.isTrue m0.isFalse z → False) → ∀ ms, sameK ms m0 → Q 0 ms)
    (h1 : ∀ ms x3, goesOn n ma.told ma.toldNot m0 ms → shOk n ma.told ma.toldNot x3 ms → Q 1 ms) : w_Ref_follows (nI n) ma m0 Q := by
  rw [w_Ref_follows]
  exact ⟨opn m0.isTrue m0.isFalse + 2, l_fol2 hn hr h0 h1 _ m0 (goesOn.rfl' hst) (by omega)⟩
end FOLALL
