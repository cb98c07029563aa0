/-! the search: all conclusions -/
def RW (fr lr : tRows) (m ls : Nat) (a b : Int32) : Prop := (∃ i, i < m ∧ fr.wantTrue i = a ∧ fr.wantFalse i = b) ∨ (∃ i, i < ls ∧ lr.wantTrue i = a ∧ lr.wantFalse i = b)
section PROP
variable {n : Nat} {t f : Nat → Int32} {fl : Nat} {y no : Int32} {w lev : Nat} {p : Nat → Nat} {fr lr : tRows} {m ls : Nat}
theorem s_propagate (hw : w ≤ 30) (hR : ROK n t f (RW fr lr m ls) w) (hm : m ≤ fr.room) (hfr : fr.room ≤ 2048) (hls : ls ≤ lr.room) (hlr : lr.room ≤ 2048) {se : tSear} (hse : se.clauses = nI m) (hlz : lr.size = nI ls) {tr : tTrail} {len : Nat} {vr : Nat → Nat} {dg : Nat → Bool} (hT : TI n t f (RW fr lr m ls) fl y no tr w len lev vr p dg) {sk : tClash} {Q : Int32 → tClash → tTrail → Prop}
    (hQ0 : ∀ sk tr' len' vr' dg', TI n t f (RW fr lr m ls) fl y no tr' w len' lev vr' p dg' → vd dg len ≤ vd dg' len' → RW fr lr m ls sk.clashTrue sk.clashFalse → (∀ v, (bt sk.clashTrue v = true → bt tr'.falses v = true) ∧ (bt sk.clashFalse v = true → bt tr'.trues v = true)) → Q 0 sk tr')
    (hQ1 : ∀ sk tr' len' vr' dg', TI n t f (RW fr lr m ls) fl y no tr' w len' lev vr' p dg' → vd dg len ≤ vd dg' len' → (∀ a b, RW fr lr m ls a b → rFX tr' a b) → Q 1 sk tr') : w_Sear_propagate fr lr se sk tr Q := by
  have key : ∀ nn r x1 sk tr' len' vr' dg', TI n t f (RW fr lr m ls) fl y no tr' w len' lev vr' p dg' → vd dg len ≤ vd dg' len' → r ≤ 31 → ((r = 0 ∧ x1 = -1) ∨ ∃ b, x1 = nI b ∧ b ≤ len' ∧ r ≤ b + 1 ∧ 1 ≤ r ∧ (b = len' → ∀ a b, RW fr lr m ls a b → rFX tr' a b)) → 32 - r < nn → w_Sear_propagate_L4 fr lr se (fun sk_1 tr_1 => Q 1 sk_1 tr_1) Q nn x1 (nI r) sk tr' := by
    intro nn
    induction nn with
    | zero => intro r _ _ _ _ _ _ _ _ _ _ h; omega
    | succ nn ih =>
      intro r x1 sk tr' len' vr' dg' hT' hv hr hx hn
      have hl := tr_len hT'.1
      rw [w_Sear_propagate_L4, hT'.1.1, hse]
      refine ⟨fun c => ?_, fun c => ⟨fun c2 => ?_, fun c2 => ?_⟩⟩
      · rw [ti_lt, nI_toInt (by omega)] at c
        have c' : (30 : Int) < r := c
        rcases hx with ⟨e, _⟩ | ⟨b, e, h1, h2, h3, h4⟩
        · omega
        · exact hQ1 sk tr' len' vr' dg' hT' hv (h4 (by omega))
      · rcases hx with ⟨_, e⟩ | ⟨b, e, h1, h2, h3, h4⟩
        · rw [e, ti_eq, nI_toInt (by omega)] at c2
          have c' : (len' : Int) = -1 := c2
          omega
        · rw [e] at c2
          have := nI_inj (by omega) (by omega) c2
          exact hQ1 sk tr' len' vr' dg' hT' hv (h4 this.symm)
      · have c' : r ≤ 30 := by
          rcases Nat.lt_or_ge 30 r with q | q
          · exact absurd (ti_lt.mpr (by rw [nI_toInt (by omega)]; show (30 : Int) < r; omega)) c
          · exact q
        have clash : ∀ sk tr2 len2 vr2 dg2, TI n t f (RW fr lr m ls) fl y no tr2 w len2 lev vr2 p dg2 → vd dg' len' ≤ vd dg2 len2 → RW fr lr m ls sk.clashTrue sk.clashFalse → (∀ v, (bt sk.clashTrue v = true → bt tr2.falses v = true) ∧ (bt sk.clashFalse v = true → bt tr2.trues v = true)) → Q 0 sk tr2 := fun sk tr2 len2 vr2 dg2 h1 h2 h3 h4 => hQ0 sk tr2 len2 vr2 dg2 h1 (Nat.le_trans hv h2) h3 h4
        refine ⟨m + 1, l_pass hw hR hm hfr (fun i hi => Or.inl ⟨i, hi, rfl, rfl⟩) (len0 := len') (v0 := vd dg' len') (tr0 := tr') (fun sk tr2 len2 vr2 dg2 h1 h2 h3 h4 h5 => ⟨fun _ => clash sk tr2 len2 vr2 dg2 h1 h3 h4 h5, fun q => absurd rfl q⟩) (fun sk tr2 len2 vr2 dg2 h1 h2 h3 h4 => ⟨fun q => absurd q z01, fun _ => ?_⟩) (m + 1) 0 sk tr' len' vr' dg' (Nat.zero_le _) hT' (Nat.le_refl _) (Nat.le_refl _) (fun _ => ⟨rfl, fun j hj => by omega⟩) (by omega)⟩
        rw [hlz]
        refine ⟨ls + 1, l_pass hw hR hls hlr (fun i hi => Or.inr ⟨i, hi, rfl, rfl⟩) (len0 := len2) (v0 := vd dg2 len2) (tr0 := tr2) (fun sk tr3 len3 vr3 dg3 g1 g2 g3 g4 g5 => ⟨fun q => absurd rfl q, fun _ => clash sk tr3 len3 vr3 dg3 g1 (Nat.le_trans h3 g3) g4 g5⟩) (fun sk tr3 len3 vr3 dg3 g1 g2 g3 g4 => ⟨fun _ => ?_, fun q => absurd q z01⟩) (ls + 1) 0 sk tr2 len2 vr2 dg2 (Nat.zero_le _) h1 (Nat.le_refl _) (Nat.le_refl _) (fun _ => ⟨rfl, fun j hj => by omega⟩) (by omega)⟩
        rw [nI_1]
        have hl3 := tr_len g1.1
        refine ih (r + 1) (nI len') sk tr3 len3 vr3 dg3 g1 (by omega) (by omega) (Or.inr ⟨len', rfl, by omega, ?_, by omega, fun e a b hab => ?_⟩) (by omega)
        · rcases hx with ⟨e, _⟩ | ⟨b, e, d1, d2, d3, d4⟩
          · omega
          · have : b ≠ len' := fun q => c2 (by rw [e, q])
            omega
        · obtain ⟨e3, F3⟩ := g4 (by omega)
          obtain ⟨e2, F2⟩ := h4 (by omega)
          rcases hab with ⟨i, hi, rfl, rfl⟩ | ⟨i, hi, rfl, rfl⟩
          · rw [e3]; exact F2 i hi
          · exact F3 i hi
  rw [w_Sear_propagate]
  exact ⟨33, key 33 0 (-1) sk tr len vr dg hT (Nat.le_refl _) (by omega) (Or.inl ⟨rfl, rfl⟩) (by omega)⟩
end PROP
