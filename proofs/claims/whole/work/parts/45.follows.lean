/-! the reference: what follows of rows with one literal left -/
def stOk (y no : Int32) : Prop := sm y ∧ sm no ∧ ∀ v, bt y v = true → bt no v = true → False
def rowDone (t f y no : Int32) : Prop := (∃ v, bt t v = true ∧ bt y v = true) ∨ ∃ v, bt f v = true ∧ bt no v = true
def rowOpen (t f y no : Int32) : Prop := ¬ rowDone t f y no ∧ ∃ u, u < 30 ∧ ((bt t u = true ∧ bt no u = false) ∨ (bt f u = true ∧ bt y u = false))
def sameK (a b : mSat) : Prop := a.keptTrue = b.keptTrue ∧ a.keptFalse = b.keptFalse ∧ a.triedTrue = b.triedTrue ∧ a.triedFalse = b.triedFalse
def goesOn (n : Nat) (t f : Nat → Int32) (a b : mSat) : Prop := stOk b.isTrue b.isFalse ∧ (∀ v, bt a.isTrue v = true → bt b.isTrue v = true) ∧ (∀ v, bt a.isFalse v = true → bt b.isFalse v = true) ∧ (∀ z, MOD n t f z → agr a.isTrue a.isFalse z → agr b.isTrue b.isFalse z) ∧ sameK b a
theorem goesOn.trans {n : Nat} {t f : Nat → Int32} {a b c : mSat} (h1 : goesOn n t f a b) (h2 : goesOn n t f b c) : goesOn n t f a c :=
  ⟨h2.1, fun v h => h2.2.1 v (h1.2.1 v h), fun v h => h2.2.2.1 v (h1.2.2.1 v h), fun z hm ha => h2.2.2.2.1 z hm (h1.2.2.2.1 z hm ha), h2.2.2.2.2.1.trans h1.2.2.2.2.1, h2.2.2.2.2.2.1.trans h1.2.2.2.2.2.1, h2.2.2.2.2.2.2.1.trans h1.2.2.2.2.2.2.1, h2.2.2.2.2.2.2.2.trans h1.2.2.2.2.2.2.2⟩
theorem andn_bit {x y : Int32} (hx : sm x) (v : Nat) : bt (x &&& (y ^^^ (-1))) v = (bt x v && !bt y v) := by
  rcases Nat.lt_or_ge v 32 with h | h
  · rw [b_and, b_not _ h]
  · rw [b_big h, hx v (by omega)]; rfl
def shOk (i : Nat) (t f : Nat → Int32) (x3 : Int32) (ms : mSat) : Prop := (ms.shortest1 = -1 ∧ x3 = 99 ∧ ∀ j, j < i → rowDone (t j) (f j) ms.isTrue ms.isFalse) ∨ ∃ j, j < i ∧ ms.shortest1 = nI j ∧ rowOpen (t j) (f j) ms.isTrue ms.isFalse
section FOLLOWS
variable {ma : mForm} {n : Nat}
theorem l_fol19 (hn : n ≤ 400) (hr : ∀ i, i < n → rOk (ma.told i) (ma.toldNot i)) {m0 : mSat} {K : Int32 → mSat → Prop} {Q : Int32 → mSat → Prop}
    (h0 : (∀ z, MOD n ma.told ma.toldNot z → agr m0.isTrue m0.isFalse z → False) → ∀ ms, sameK ms m0 → Q 0 ms)
    (hK1 : ∀ ms, goesOn n ma.told ma.toldNot m0 ms → opn ms.isTrue ms.isFalse < opn m0.isTrue m0.isFalse → K 1 ms)
    (hK0 : ∀ ms x3, goesOn n ma.told ma.toldNot m0 ms → shOk n ma.told ma.toldNot x3 ms → K 0 ms) :
    ∀ nn i, i ≤ n → n - i < nn → ∀ (x2 x3 : Int32) (ms : mSat), goesOn n ma.told ma.toldNot m0 ms → ((x2 = 1 ∧ opn ms.isTrue ms.isFalse < opn m0.isTrue m0.isFalse) ∨ (x2 = 0 ∧ shOk i ma.told ma.toldNot x3 ms)) → w_Ref_follows_L19 (nI n) ma K Q nn x2 x3 (nI i) ms := by
  intro nn
  induction nn with
  | zero => intro i _ h; omega
  | succ nn ih =>
    intro i hi hm x2 x3 ms hg hx
    rw [w_Ref_follows_L19]
    refine pk_le n i (fun c => ?_) (fun c => ⟨vp_in_nI (by omega) (by omega), ?_⟩)
    · rcases hx with ⟨e, ho⟩ | ⟨e, hs⟩
      · subst e; exact hK1 ms hg ho
      · subst e; exact hK0 ms x3 hg (by rw [show n = i by omega]; exact hs)
    · rw [nI_clamp (by omega), nI_1]
      obtain ⟨sT, sF, dj⟩ := hr i c
      have keep : rowDone (ma.told i) (ma.toldNot i) ms.isTrue ms.isFalse → w_Ref_follows_L19 (nI n) ma K Q nn x2 x3 (nI (i + 1)) ms := by
        intro hd
        refine ih (i + 1) (by omega) (by omega) x2 x3 ms hg ?_
        rcases hx with h | ⟨e, hs⟩
        · exact Or.inl h
        · refine Or.inr ⟨e, ?_⟩
          rcases hs with ⟨a1, a2, a3⟩ | ⟨j, a1, a2⟩
          · exact Or.inl ⟨a1, a2, fun j hj => by
              by_cases e : j = i
              · subst e; exact hd
              · exact a3 j (by omega)⟩
          · exact Or.inr ⟨j, by omega, a2⟩
      have hin : vp_in (nI i) 400 := vp_in_nI (by omega) (by omega)
      refine ⟨fun c1 => keep (Or.inl (and_ne0.mp c1)), fun c1 => ⟨hin, fun c2 => keep (Or.inr (and_ne0.mp c2)), fun c2 => ⟨hin, hin, ?_⟩⟩⟩
      have nd : ¬ rowDone (ma.told i) (ma.toldNot i) ms.isTrue ms.isFalse := fun q => by
        rcases q with q | q
        · exact and_ne0.mpr q c1
        · exact and_ne0.mpr q c2
      refine s_ones (s_ones ?_)
      have byes := fun v => andn_bit (x := ma.told i) (y := ms.isFalse) sT v
      have bno := fun v => andn_bit (x := ma.toldNot i) (y := ms.isTrue) sF v
      generalize ma.told i &&& (ms.isFalse ^^^ (-1)) = yes at *
      generalize ma.toldNot i &&& (ms.isTrue ^^^ (-1)) = nos at *
      have p1 := pc_le yes
      have p2 := pc_le nos
      rw [nI_add]
      have rowA : ∀ z, MOD n ma.told ma.toldNot z → agr m0.isTrue m0.isFalse z → ∃ v, (bt yes v = true ∧ z v = true) ∨ (bt nos v = true ∧ z v = false) := by
        intro z hm2 ha
        have ha2 := hg.2.2.2.1 z hm2 ha
        obtain ⟨v, hv⟩ := hm2 i c
        refine ⟨v, ?_⟩
        rw [byes, bno]
        rcases hv with ⟨h1, h2⟩ | ⟨h1, h2⟩
        · left
          refine ⟨?_, h2⟩
          cases hb : bt ms.isFalse v with
          | true => rw [ha2.2 v hb] at h2; cases h2
          | false => rw [h1]; rfl
        · right
          refine ⟨?_, h2⟩
          cases hb : bt ms.isTrue v with
          | true => rw [ha2.1 v hb] at h2; cases h2
          | false => rw [h1]; rfl
      refine (pk_eq (pc yes + pc nos) 0 (fun c3 => ?_) (fun c3 => (pk_eq (pc yes + pc nos) 1 (fun c4 => ?_) (fun c4 => ?_) (hx := rfl) (hy := rfl)).symm) (hx := rfl) (hy := rfl)).symm
      · refine h0 (fun z hm2 ha => ?_) ms hg.2.2.2.2
        obtain ⟨v, hv⟩ := rowA z hm2 ha
        rw [pc_eq0 (x := yes) (by omega), pc_eq0 (x := nos) (by omega), b_0] at hv
        rcases hv with hv | hv <;> cases hv.1
      · have hu : ∃ u, u < 30 ∧ bt ms.isTrue u = false ∧ bt ms.isFalse u = false ∧ ((bt yes u = true ∧ nos = 0 ∧ yes = b1 u) ∨ (bt nos u = true ∧ yes = 0 ∧ nos = b1 u)) := by
          rcases (show (pc yes = 1 ∧ pc nos = 0) ∨ (pc yes = 0 ∧ pc nos = 1) by omega) with ⟨q1, q2⟩ | ⟨q1, q2⟩
          · obtain ⟨u, hu, e⟩ := pc_eq1 q1
            have hb : bt yes u = true := by rw [e, b_b1 hu]; simp
            have hb2 := hb
            rw [byes, Bool.and_eq_true] at hb2
            refine ⟨u, sm_lt sT hb2.1, ?_, by simpa using hb2.2, Or.inl ⟨hb, pc_eq0 q2, e⟩⟩
            cases hq : bt ms.isTrue u with
            | false => rfl
            | true => exact (nd (Or.inl ⟨u, hb2.1, hq⟩)).elim
          · obtain ⟨u, hu, e⟩ := pc_eq1 q2
            have hb : bt nos u = true := by rw [e, b_b1 hu]; simp
            have hb2 := hb
            rw [bno, Bool.and_eq_true] at hb2
            refine ⟨u, sm_lt sF hb2.1, by simpa using hb2.2, ?_, Or.inr ⟨hb, pc_eq0 q1, e⟩⟩
            cases hq : bt ms.isFalse u with
            | false => rfl
            | true => exact (nd (Or.inr ⟨u, hb2.1, hq⟩)).elim
        obtain ⟨u, hu30, u1, u2, hcase⟩ := hu
        have hT : ∀ v, bt (ms.isTrue ||| yes) v = (bt ms.isTrue v || bt yes v) := fun v => b_or _ _ v
        have hF : ∀ v, bt (ms.isFalse ||| nos) v = (bt ms.isFalse v || bt nos v) := fun v => b_or _ _ v
        have hy1 : ∀ v, bt yes v = true → v = u := fun v hv => by
          rcases hcase with ⟨_, _, e⟩ | ⟨_, e, _⟩
          · rw [e, b_b1 (by omega)] at hv; simpa using hv
          · rw [e, b_0] at hv; cases hv
        have hn1 : ∀ v, bt nos v = true → v = u := fun v hv => by
          rcases hcase with ⟨_, e, _⟩ | ⟨_, _, e⟩
          · rw [e, b_0] at hv; cases hv
          · rw [e, b_b1 (by omega)] at hv; simpa using hv
        have hboth : ¬ (bt yes u = true ∧ bt nos u = true) := fun q => by
          rcases hcase with ⟨_, e, _⟩ | ⟨_, e, _⟩
          · have := q.2; rw [e, b_0] at this; cases this
          · have := q.1; rw [e, b_0] at this; cases this
        have hgo : goesOn n ma.told ma.toldNot m0 (mSat.mk (ms.isTrue ||| yes) (ms.isFalse ||| nos) ms.keptTrue ms.keptFalse ms.triedTrue ms.triedFalse ms.shortest1) := by
          refine ⟨⟨fun v hv => ?_, fun v hv => ?_, fun v g1 g2 => ?_⟩, fun v hv => ?_, fun v hv => ?_, fun z hm2 ha => ⟨fun v hv => ?_, fun v hv => ?_⟩, hg.2.2.2.2⟩
          · show bt (ms.isTrue ||| yes) v = false
            rw [hT, hg.1.1 v hv, byes, sT v hv]; rfl
          · show bt (ms.isFalse ||| nos) v = false
            rw [hF, hg.1.2.1 v hv, bno, sF v hv]; rfl
          · have g1' : bt (ms.isTrue ||| yes) v = true := g1
            have g2' : bt (ms.isFalse ||| nos) v = true := g2
            rw [hT, Bool.or_eq_true] at g1'
            rw [hF, Bool.or_eq_true] at g2'
            rcases g1' with g1' | g1' <;> rcases g2' with g2' | g2'
            · exact hg.1.2.2 v g1' g2'
            · have := hn1 v g2'; subst this; rw [u1] at g1'; cases g1'
            · have := hy1 v g1'; subst this; rw [u2] at g2'; cases g2'
            · have := hy1 v g1'; subst this; exact hboth ⟨g1', g2'⟩
          · show bt (ms.isTrue ||| yes) v = true
            rw [hT, hg.2.1 v hv]; rfl
          · show bt (ms.isFalse ||| nos) v = true
            rw [hF, hg.2.2.1 v hv]; rfl
          · have hv' : bt (ms.isTrue ||| yes) v = true := hv
            rw [hT, Bool.or_eq_true] at hv'
            rcases hv' with hv' | hv'
            · exact (hg.2.2.2.1 z hm2 ha).1 v hv'
            · obtain ⟨x, hx2⟩ := rowA z hm2 ha
              have e := hy1 v hv'
              subst e
              rcases hx2 with ⟨q1, q2⟩ | ⟨q1, q2⟩
              · rw [hy1 x q1] at q2; exact q2
              · rw [hn1 x q1] at q1; exact (hboth ⟨hv', q1⟩).elim
          · have hv' : bt (ms.isFalse ||| nos) v = true := hv
            rw [hF, Bool.or_eq_true] at hv'
            rcases hv' with hv' | hv'
            · exact (hg.2.2.2.1 z hm2 ha).2 v hv'
            · obtain ⟨x, hx2⟩ := rowA z hm2 ha
              have e := hn1 v hv'
              subst e
              rcases hx2 with ⟨q1, q2⟩ | ⟨q1, q2⟩
              · rw [hy1 x q1] at q1; exact (hboth ⟨q1, hv'⟩).elim
              · rw [hn1 x q1] at q2; exact q2
        refine ih (i + 1) (by omega) (by omega) 1 x3 _ hgo (Or.inl ⟨rfl, ?_⟩)
        refine Nat.lt_of_lt_of_le (opn_lt (y := ms.isTrue) (no := ms.isFalse) (fun v hv => by show bt (ms.isTrue ||| yes) v = true; rw [hT, hv]; rfl) (fun v hv => by show bt (ms.isFalse ||| nos) v = true; rw [hF, hv]; rfl) hu30 u1 u2 ?_) (opn_mono hg.2.1 hg.2.2.1)
        rcases hcase with ⟨q, _, _⟩ | ⟨q, _, _⟩
        · left; show bt (ms.isTrue ||| yes) u = true; rw [hT, q]; simp
        · right; show bt (ms.isFalse ||| nos) u = true; rw [hF, q]; simp
      · have hop : rowOpen (ma.told i) (ma.toldNot i) ms.isTrue ms.isFalse := by
          refine ⟨nd, ?_⟩
          by_cases e : yes = 0
          · have : ¬ nos = 0 := fun e2 => by rw [e, e2, pc_0] at c3; omega
            obtain ⟨u, _, hb⟩ := b_ne0 this
            rw [bno, Bool.and_eq_true] at hb
            exact ⟨u, sm_lt sF hb.1, Or.inr ⟨hb.1, by simpa using hb.2⟩⟩
          · obtain ⟨u, _, hb⟩ := b_ne0 e
            rw [byes, Bool.and_eq_true] at hb
            exact ⟨u, sm_lt sT hb.1, Or.inl ⟨hb.1, by simpa using hb.2⟩⟩
        refine ⟨fun c5 => ?_, fun c5 => ?_⟩
        · refine ih (i + 1) (by omega) (by omega) x2 x3 ms hg ?_
          rcases hx with h | ⟨e, hs⟩
          · exact Or.inl h
          · refine Or.inr ⟨e, ?_⟩
            rcases hs with ⟨a1, a2, a3⟩ | ⟨j, a1, a2⟩
            · rw [a2, ti_le, nI_toInt (by omega)] at c5
              have : (99 : Int) ≤ ((pc yes + pc nos : Nat) : Int) := c5
              omega
            · exact Or.inr ⟨j, by omega, a2⟩
        · refine ih (i + 1) (by omega) (by omega) x2 _ _ hg ?_
          rcases hx with h | ⟨e, hs⟩
          · exact Or.inl h
          · exact Or.inr ⟨e, Or.inr ⟨i, by omega, rfl, hop⟩⟩
end FOLLOWS
