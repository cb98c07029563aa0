/-! the class: culprit -/
theorem half_nI {a : Nat} (h : a < 2 ^ 30) : nI a >>> ((1 : Int32) &&& 31) = nI (a / 2) := by
  have e := fun i hi => b_sshr 1 (by omega) (nI a) (i := i) hi
  refine b_ext (fun i hi => ?_)
  have e1 : ((1 : Int32) &&& 31) = (nI 1 &&& 31) := rfl
  rw [e1, e i hi, b_nI (by omega), b_nI (by omega), b_nI (by omega)]
  have e2 : (a / 2).testBit i = a.testBit (i + 1) := by rw [Nat.testBit_succ]
  rw [e2, Nat.add_comm i 1]
  by_cases c : 1 + i < 32
  · rw [if_pos c]
  · rw [if_neg c]
    have e3 : i = 31 := by omega
    subst e3
    rw [Nat.testBit_lt_two_pow (Nat.lt_of_lt_of_le h (Nat.pow_le_pow_right (by omega) (by omega))), Nat.testBit_lt_two_pow (Nat.lt_of_lt_of_le h (Nat.pow_le_pow_right (by omega) (by omega)))]
section CULPRIT
variable {fo : tForm} {fr : tRows} {w : Nat} {dr : List Int32} {cs : List (List Int32)}
theorem satw0 {t f : Nat → Int32} : SATw 0 t f 0 0 := ⟨fun _ => true, fun i hi => absurd hi (Nat.not_lt_zero _), fun _ _ => rfl, fun v hv => by rw [b_0] at hv; cases hv⟩
theorem l_first (hok : okF w dr cs) (h : isFO fo fr w dr cs) {K : Int32 → tRows → tSear → tClash → (Nat → Int32) → tTrail → Prop} (hK : ∀ k lr se sk sw tr, lr.room = 2048 → k < cs.length → SATw k (tq cs) (fq cs) 0 0 → ¬ SATw (k + 1) (tq cs) (fq cs) 0 0 → K (nI k) lr se sk sw tr) :
    ∀ nn lo hi r lr se sk sw tr, lr.room = 2048 → lo ≤ hi → hi < cs.length → SATw lo (tq cs) (fq cs) 0 0 → ¬ SATw (hi + 1) (tq cs) (fq cs) 0 0 → (hi - lo) + r ≤ 399 → (hi - lo) < nn → w_Mods_firstWithout_L17 fo fr K nn (nI lo) (nI hi) (nI r) lr se sk sw tr := by
  have w30 := hok.1
  have c400 := hok.2.2.1
  intro nn
  induction nn with
  | zero => intro lo hi r _ _ _ _ _ _ _ _ _ _ _ hn; omega
  | succ nn ih =>
    intro lo hi r lr se sk sw tr hro h1 h2 h3 h4 h5 hn
    rw [w_Mods_firstWithout_L17]
    refine pk_le 400 r (fun c => by omega) (fun _ => pk_le hi lo (fun c => ?_) (fun c => ?_))
    · have e : lo = hi := by omega
      subst e
      exact hK lo lr se sk sw tr hro h2 h3 h4
    · obtain ⟨mid, hmid⟩ : ∃ mid, mid = (lo + hi) / 2 := ⟨_, rfl⟩
      have em : (nI lo + nI hi) >>> ((1 : Int32) &&& 31) = nI mid := by rw [nI_add, half_nI (by omega), hmid]
      rw [em, nI_1, nI_1]
      refine s_sbegin hok h (show mid + 1 ≤ cs.length by omega) hro (fun lr1 se1 tr1 g1 g2 => ?_)
      have n0 : ∀ v, ¬ bt (0 : Int32) v = true := fun v q => by rw [b_0] at q; cases q
      refine s_find hok h (show mid + 1 ≤ cs.length by omega) g1 g2 (fun v q => (q.elim (n0 v) (n0 v)).elim) (fun v q => (n0 v q).elim) (fun lr2 se2 sk2 sw2 tr2 k1 k2 k3 => ⟨fun q => absurd rfl q, fun _ => ?_⟩) (fun z lr2 se2 sk2 sw2 tr2 k1 k2 k3 k4 k5 => ⟨fun _ => ?_, fun q => absurd q (r_ne w30 k5)⟩)
      · exact ih lo mid (r + 1) lr2 se2 sk2 sw2 tr2 k1 (by omega) (by omega) h3 k3 (by omega) (by omega)
      · exact ih (mid + 1) hi (r + 1) lr2 se2 sk2 sw2 tr2 k1 (by omega) h2 ⟨_, k3, k4⟩ h4 (by omega) (by omega)
theorem s_PC_culprit (hok : okF w dr cs) (h : isFO fo fr w dr cs) {lr : tRows} {mo : tMods} {se : tSear} {sk : tClash} {sw : Nat → Int32} {tr : tTrail} (hM : MS w cs fr lr mo se tr) {Q : Int32 → tRows → tMods → tSear → tClash → (Nat → Int32) → tTrail → Prop}
    (hs : SATw cs.length (tq cs) (fq cs) 0 0 → ∀ lr mo se sk sw tr, MS w cs fr lr mo se tr → Q (-9) lr mo se sk sw tr) (hn : ¬ SATw cs.length (tq cs) (fq cs) 0 0 → ∀ k, k < cs.length → SATw k (tq cs) (fq cs) 0 0 → ¬ SATw (k + 1) (tq cs) (fq cs) 0 0 → ∀ lr mo se sk sw tr, MS w cs fr lr mo se tr → Q (nI k) lr mo se sk sw tr) : w_PC_culprit fo fr lr mo se sk sw tr Q := by
  have w30 := hok.1
  have c400 := hok.2.2.1
  have z0 : (0 : Int32).toInt = 0 := rfl
  rw [w_PC_culprit]
  refine s_allow hok h hM (by rw [z0]; omega) (fun q1 lr mo se sk sw tr hM2 => ⟨fun q => absurd q z01, fun _ => hs q1 lr mo se sk sw tr hM2⟩) (fun q1 lr mo se sk sw tr hM2 => ⟨fun _ => ?_, fun q => absurd rfl q⟩)
  have q2 : ¬ SATw cs.length (tq cs) (fq cs) 0 0 := q1
  have noM : ¬ ∃ x, MOD cs.length (tq cs) (fq cs) x := fun ⟨x, hx⟩ => q2 ⟨x, hx, fun v hv => (by rw [b_0] at hv; cases hv), fun v hv => (by rw [b_0] at hv; cases hv)⟩
  have hpos : 0 < cs.length := by
    rcases Nat.eq_zero_or_pos cs.length with e | e
    · rw [e] at q2; exact absurd satw0 q2
    · exact e
  obtain ⟨l, hl⟩ : ∃ l, cs.length = l + 1 := ⟨cs.length - 1, by omega⟩
  rw [w_Mods_firstWithout, h.2.2.2.1]
  refine ⟨cs.length + 1, ?_⟩
  have el : nI cs.length - 1 = nI l := by rw [hl, nI_pred]
  rw [el]
  refine l_first hok h ?_ (cs.length + 1) 0 l 0 lr se sk sw tr hM2.1 (Nat.zero_le _) (by omega) satw0 (by rw [← hl]; exact q2) (by omega) (by omega)
  intro k lr3 se3 sk3 sw3 tr3 g1 g2 g3 g4
  unfold w_Sear_end
  refine hn q2 k g2 g3 g4 _ _ _ _ _ _ ⟨g1, ?_⟩
  rcases hM2.2 with e | ⟨s, hB⟩
  · exact Or.inl e
  · exact Or.inr ⟨s, mb_si hB g1 (Or.inl ⟨fun q => absurd q z01, noM⟩)⟩
end CULPRIT
