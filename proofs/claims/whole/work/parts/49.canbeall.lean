/-! the reference: canBe, the loop and the answer -/
section CANBE
variable {ma : mForm} {n : Nat}
theorem l_canBe (hn : n ≤ 400) (hr : ∀ i, i < n → rOk (ma.told i) (ma.toldNot i)) {y0 no0 : Int32} {Q : Int32 → mSat → Prop}
    (h1 : ∀ ms, SATw n ma.told ma.toldNot y0 no0 → Q 1 ms) (h0 : ∀ ms, ¬ SATw n ma.told ma.toldNot y0 no0 → Q 0 ms) :
    ∀ nn d (m : mSat), cbInv n ma.told ma.toldNot y0 no0 d m → wt (opn m.isTrue m.isFalse) + stk m d < nn → w_Ref_canBe_L13 (nI n) ma Q nn (nI d) m := by
  intro nn
  induction nn with
  | zero => intro d m _ h; omega
  | succ nn ih =>
    intro d m hi hm
    have hd := hi.2.1
    rw [w_Ref_canBe_L13]
    refine s_follows hn hr hi.1 (fun hno ms hk => ?_) (fun ms x3 hg hs => ?_)
    · refine ⟨fun _ => ⟨fun _ => ?_, fun c => absurd rfl c⟩, fun c => absurd rfl c⟩
      cases d with
      | zero =>
        refine ⟨fun c => absurd rfl c, fun _ => h0 ms ?_⟩
        rintro ⟨z, hz, ha⟩
        rcases hi.2.2.2.2 z hz ha with h | ⟨j, hj, _⟩
        · exact hno z hz h
        · omega
      | succ k =>
        refine ⟨fun _ => ?_, fun c => absurd (nI_inj (a := k + 1) (b := 0) (by omega) (by omega) c) (by omega)⟩
        have hin : vp_in (nI k) 32 := vp_in_nI (by omega) (by omega)
        rw [pk_m1]
        refine ⟨hin, hin, hin, hin, ?_⟩
        rw [nI_clamp (by omega)]
        obtain ⟨q1, q2⟩ := l_pop hi hk hno ms.shortest1
        exact ih k _ q1 (Nat.lt_of_lt_of_le q2 (by omega))
    · obtain ⟨hi2, hw⟩ := l_goes hi hg
      refine ⟨fun c => absurd c (by decide), fun _ => ⟨fun c5 => ⟨fun c => absurd c (by decide), fun _ => ?_⟩, fun c5 => ?_⟩⟩
      · rcases hs with ⟨e, _, _⟩ | ⟨j, hj, e, nd, u, hu, hop⟩
        · rw [e] at c5; exact absurd c5 (by decide)
        · obtain ⟨sT, sF, dj⟩ := hr j hj
          have hd2 := hi2.2.1
          have nb : ∀ v, bt (ma.told j) v = true → bt ms.isTrue v = false := fun v hv => by
            cases hb : bt ms.isTrue v with
            | false => rfl
            | true => exact (nd (Or.inl ⟨v, hv, hb⟩)).elim
          have nb2 : ∀ v, bt (ma.toldNot j) v = true → bt ms.isFalse v = false := fun v hv => by
            cases hb : bt ms.isFalse v with
            | false => rfl
            | true => exact (nd (Or.inr ⟨v, hv, hb⟩)).elim
          have hopn : 0 < opn ms.isTrue ms.isFalse := by
            have hu2 : bt ms.isTrue u = false ∧ bt ms.isFalse u = false := by
              rcases hop with ⟨p, q⟩ | ⟨p, q⟩
              · exact ⟨nb u p, q⟩
              · exact ⟨q, nb2 u p⟩
            exact Nat.lt_of_le_of_lt (Nat.zero_le _) (opn_lt (y2 := ms.isTrue ||| b1 u) (no2 := ms.isFalse) (fun v hv => by rw [b_or, hv]; rfl) (fun v hv => hv) hu hu2.1 hu2.2 (Or.inl (by rw [b_or, b_b1 (by omega)]; simp)))
          have hin : vp_in (nI d) 32 := vp_in_nI (by omega) (by omega)
          have hin4 : vp_in (nI j) 400 := vp_in_nI (by omega) (by omega)
          have cj : (nI j).toNatClampNeg = j := nI_clamp (by omega)
          have cd : (nI d).toNatClampNeg = d := nI_clamp (by omega)
          have byes := fun v => andn_bit (x := ma.told j) (y := ms.isFalse) sT v
          have bno := fun v => andn_bit (x := ma.toldNot j) (y := ms.isTrue) sF v
          rw [e, cj, cd, nI_1]
          generalize ma.told j &&& (ms.isFalse ^^^ (-1)) = yes at *
          generalize ma.toldNot j &&& (ms.isTrue ^^^ (-1)) = nos at *
          refine ⟨hin4, hin4, hin, hin, hin, fun c6 => ⟨hin, hin, hin, ?_⟩, fun c6 => ⟨hin, hin, hin, ?_⟩⟩
          · obtain ⟨l, hl, hb, hz⟩ := low_bit c6
            have hb2 := hb
            rw [byes, Bool.and_eq_true] at hb2
            have hl3 : l < 30 := sm_lt sT hb2.1
            rw [low_alone hl hb hz, pk_us, pk_us]
            obtain ⟨q1, q2⟩ := l_push hi2 (a := b1 l) (b := 0) hl3 (Or.inl ⟨rfl, rfl⟩) (nb l hb2.1) (by simpa using hb2.2) (nI j)
            exact ih (d + 1) _ q1 (Nat.lt_of_lt_of_le q2 (by omega))
          · have hne : ¬ nos = 0 := fun e2 => by
              rcases hop with ⟨p, q⟩ | ⟨p, q⟩
              · have h := byes u
                rw [c6, b_0, p, q] at h; cases h
              · have h := bno u
                rw [e2, b_0, p, q] at h; cases h
            obtain ⟨l, hl, hb, hz⟩ := low_bit hne
            have hb2 := hb
            rw [bno, Bool.and_eq_true] at hb2
            have hl3 : l < 30 := sm_lt sF hb2.1
            have e0 : yes &&& -yes = 0 := by rw [c6]; rfl
            rw [low_alone hl hb hz, e0, pk_us, pk_us]
            obtain ⟨q1, q2⟩ := l_push hi2 (a := 0) (b := b1 l) hl3 (Or.inr ⟨rfl, rfl⟩) (by simpa using hb2.2) (nb2 l hb2.1) (nI j)
            exact ih (d + 1) _ q1 (Nat.lt_of_lt_of_le q2 (by omega))
      · rcases hs with ⟨_, _, hall⟩ | ⟨j, hj, e, _⟩
        · refine h1 ms ⟨fun v => bt ms.isTrue v, fun i hi3 => ?_, fun v hv => hi2.2.2.1.1 v hv, fun v hv => ?_⟩
          · rcases hall i hi3 with ⟨v, p, q⟩ | ⟨v, p, q⟩
            · exact ⟨v, Or.inl ⟨p, q⟩⟩
            · refine ⟨v, Or.inr ⟨p, ?_⟩⟩
              cases hb : bt ms.isTrue v with
              | false => exact hb
              | true => exact (hi2.1.2.2 v hb q).elim
          · have hv2 := hi2.2.2.1.2 v hv
            cases hb : bt ms.isTrue v with
            | false => exact hb
            | true => exact (hi2.1.2.2 v hb hv2).elim
        · exfalso
          apply c5
          rw [e, ti_le, nI_toInt (by omega)]
          show (0 : Int) ≤ (j : Int)
          omega
theorem s_canBe (hn : n ≤ 400) (hr : ∀ i, i < n → rOk (ma.told i) (ma.toldNot i)) {y0 no0 : Int32} {ms : mSat} {Q : Int32 → mSat → Prop} (hst : stOk y0 no0)
    (h1 : ∀ ms, SATw n ma.told ma.toldNot y0 no0 → Q 1 ms) (h0 : ∀ ms, ¬ SATw n ma.told ma.toldNot y0 no0 → Q 0 ms) : w_Ref_canBe (nI n) y0 no0 ma ms Q := by
  rw [w_Ref_canBe]
  refine ⟨_, l_canBe hn hr h1 h0 _ 0 _ ⟨hst, ?_, ⟨fun v h => h, fun v h => h⟩, fun j hj => absurd hj (Nat.not_lt_zero _), fun z _ ha => Or.inl ha⟩ (Nat.lt_succ_self _)⟩
  have := opn_le y0 no0
  show 0 + opn y0 no0 ≤ 30
  omega
end CANBE
