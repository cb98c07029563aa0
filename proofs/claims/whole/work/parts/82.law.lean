/-! the law: all calls, one after the other -/
def LV (fo : tForm) (fr lr : tRows) (mo : tMods) (se : tSear) (tr : tTrail) (ta : tTask) (tw : tWays) (co : tCode) (ct : tTold) (ma : mForm) (mn : mKnow) (mt : mTask) : Prop := ∃ (w : Nat) (dr : List Int32) (cs : List (List Int32)) (f n bg gl : Nat) (aq ad tk : Nat → Nat), okF w dr cs ∧ isFO fo fr w dr cs ∧ isMF ma w dr cs ∧ MS w cs fr lr mo se tr ∧ (mn.isKnown = 0 ∨ knOk mn (mlw w cs)) ∧ tkOk f n bg gl aq ad tk ∧ isTA ta f n bg gl aq ad tk ∧ isMT mt f n bg gl aq ad tk ∧ wKn tw f n gl aq ad tk ∧ cKn co ct f n bg gl aq ad tk
theorem nos {α : Type} {o : Option α} {A : α} (h1 : o = none) (h2 : o = some A) : False := by
  rw [h1] at h2; cases h2
theorem sms {α : Type} {o : Option α} {A B : α} (h1 : o = some A) (h2 : o = some B) : A = B := by
  rw [h1] at h2; cases h2; rfl
theorem eqv {P : Prop} {r : Int32} (h : P) : (r = r → P) ∧ (¬ r = r → False) := ⟨fun _ => h, fun c => absurd rfl c⟩
theorem okF_nil {m : Nat} (h : m ≤ 30) : okF m [] [] := ⟨h, ⟨by simp, fun x hx => (by cases hx), List.Pairwise.nil⟩, by simp, fun c hc => (by cases hc)⟩
theorem okL_nil (m : Nat) : okL m [] := ⟨by simp, fun x hx => (by cases hx), List.Pairwise.nil⟩
set_option maxHeartbeats 4000000 in
theorem l_law {L : Nat} (hL : L ≤ 2048) {xs : Nat → Int32} : ∀ nn a fo fr lr mo se sk sw tr ta tw co ct ma mn ms mb mt mw mg md, LV fo fr lr mo se tr ta tw co ct ma mn mt → a ≤ L + 3 → (L + 4) - a < nn → w_law_L18 L xs nn (nI a) fo fr lr mo se sk sw tr ta tw co ct ma mn ms mb mt mw mg md := by
  intro nn
  induction nn with
  | zero => intro a fo fr lr mo se sk sw tr ta tw co ct ma mn ms mb mt mw mg md _ _ h; omega
  | succ nn ih =>
    intro a fo fr lr mo se sk sw tr ta tw co ct ma mn ms mb mt mw mg md hV ha hn
    obtain ⟨w, dr, cs, f, n, bg, gl, aq, ad, tk, hok, hF, hM, hS, hK, hk, hT, hU, hW, hC⟩ := hV
    rw [w_law_L18]
    refine ⟨fun _ => trivial, fun c => ?_⟩
    have eL : (nI L - 4).toInt = (L : Int) - 4 := by
      have h4 : (4 : Int32).toInt = 4 := rfl
      rw [ti_sub (by rw [nI_toInt (by omega), h4]; omega) (by rw [nI_toInt (by omega), h4]; omega), nI_toInt (by omega), h4]
    have ha4 : a + 4 ≤ L := by
      rw [ti_lt, eL, nI_toInt (by omega)] at c
      omega
    have e1 : nI a + 1 = nI (a + 1) := nI_add a 1
    have e2 : nI a + 2 = nI (a + 2) := nI_add a 2
    have e3 : nI a + 3 = nI (a + 3) := nI_add a 3
    have e4 : nI a + 4 = nI (a + 4) := nI_add a 4
    have v0 : vp_in (nI a) L := vp_in_nI (by omega) (by omega)
    have v1 : vp_in (nI (a + 1)) L := vp_in_nI (by omega) (by omega)
    have v2 : vp_in (nI (a + 2)) L := vp_in_nI (by omega) (by omega)
    have v3 : vp_in (nI (a + 3)) L := vp_in_nI (by omega) (by omega)
    rw [e1, e2, e3, e4]
    have next : ∀ {fo fr lr mo se sk sw tr ta tw co ct ma mn ms mb mt mw mg md}, LV fo fr lr mo se tr ta tw co ct ma mn mt → w_law_L18 L xs nn (nI (a + 4)) fo fr lr mo se sk sw tr ta tw co ct ma mn ms mb mt mw mg md := fun h => ih (a + 4) _ _ _ _ _ _ _ _ _ _ _ _ _ _ _ _ _ _ _ _ h (by omega) (by omega)
    have same : LV fo fr lr mo se tr ta tw co ct ma mn mt := ⟨w, dr, cs, f, n, bg, gl, aq, ad, tk, hok, hF, hM, hS, hK, hk, hT, hU, hW, hC⟩
    have hMS : lr.room = 2048 := hS.1
    generalize xs (nI (a + 1)).toNatClampNeg = x
    generalize xs (nI (a + 2)).toNatClampNeg = y
    generalize xs (nI (a + 3)).toNatClampNeg = z
    refine ⟨v0, fun _ => next same, fun _ => ⟨v1, ?_⟩, fun _ => ⟨v1, ?_⟩, fun _ => ?_, fun _ => ?_, fun _ => ⟨v1, v2, ?_⟩, fun _ => ⟨v1, ?_⟩, fun _ => ⟨v1, ?_⟩, fun _ => ⟨v1, v2, ?_⟩, fun _ => ?_, fun _ => ⟨v1, ?_⟩, fun _ => ?_, fun _ => ⟨v1, ?_⟩, fun _ => ⟨v1, v2, v3, ?_⟩, fun _ => ⟨v1, v2, ?_⟩, fun _ => ⟨v1, ?_⟩, fun _ => ⟨v1, v2, ?_⟩, fun _ => ⟨v1, v2, ?_⟩, fun _ => ?_, fun _ => ⟨v1, ?_⟩, fun _ => ⟨v1, v2, ?_⟩, fun _ => ⟨v1, v2, v3, ?_⟩, fun _ => ⟨v1, ?_⟩⟩
    · skip
      refine s_PC_variables hok hF (fun e => ⟨v1, ?_⟩) (fun m e hne => ⟨v1, ?_⟩) (fun m hm e hcs fo' mo' hF' hb' => ⟨v1, ?_⟩)
      · exact s_Ref_variables hok hM (fun _ => eqv (next same)) (fun m e' _ => (nos e e').elim) (fun m _ e' _ => (nos e e').elim)
      · exact s_Ref_variables hok hM (fun e' => (nos e' e).elim) (fun m _ _ => eqv (next same)) (fun m _ _ hcs => absurd hcs hne)
      · refine s_Ref_variables hok hM (fun e' => (nos e' e).elim) (fun m' _ hne => absurd hcs hne) (fun m' hm' e' _ ma' mn' hM' hk' => eqv (next ?_))
        have em := sms e e'
        subst em
        exact ⟨m, [], [], f, n, bg, gl, aq, ad, tk, okF_nil hm, hF', hM', ⟨hMS, Or.inl hb'⟩, Or.inl hk', hk, hT, hU, hW, hC⟩
    · skip
      refine s_PC_literal hok hF (fun e => ⟨v1, ?_⟩) (fun c1 c2 c3 => ⟨v1, ?_⟩) (fun c1 c2 c3 fo' hF' => ⟨v1, ?_⟩)
      · refine s_Ref_literal hok hM (fun _ => eqv (next same)) (fun d1 d2 _ => ?_) (fun d1 d2 _ _ _ => ?_)
        · rcases e with e | e
          · rw [d1] at e; cases e
          · rw [d2] at e; cases e
        · rcases e with e | e
          · rw [d1] at e; cases e
          · rw [d2] at e; cases e
      · refine s_Ref_literal hok hM (fun e => ?_) (fun _ _ _ => eqv (next same)) (fun _ _ d3 _ _ => by omega)
        rcases e with e | e
        · rw [c1] at e; cases e
        · rw [c2] at e; cases e
      · refine s_Ref_literal hok hM (fun e => ?_) (fun _ _ d3 => by omega) (fun _ _ _ ma' hM' => eqv (next ?_))
        · rcases e with e | e
          · rw [c1] at e; cases e
          · rw [c2] at e; cases e
        · exact ⟨w, dr ++ [x], cs, f, n, bg, gl, aq, ad, tk, ⟨hok.1, okL_snoc hok.2.1 c3 c1 c2, hok.2.2⟩, hF', hM', hS, hK, hk, hT, hU, hW, hC⟩
    · skip
      refine s_PC_clause hok hF (fun c1 => ?_) (fun c1 fo' fr' mo' hF' hb' => ?_)
      · exact s_Ref_clause hok hM (fun _ => eqv (next same)) (fun c2 _ _ _ _ => by omega)
      · refine s_Ref_clause hok hM (fun c2 => by omega) (fun _ ma' mn' hM' hk' => eqv (next ?_))
        refine ⟨w, [], cs ++ [dr], f, n, bg, gl, aq, ad, tk, ⟨hok.1, okL_nil w, by rw [List.length_append]; simp; omega, fun c2 hc2 => ?_⟩, hF', hM', ⟨hMS, Or.inl hb'⟩, Or.inl hk', hk, hT, hU, hW, hC⟩
        rcases List.mem_append.mp hc2 with g | g
        · exact hok.2.2.2 c2 g
        · rw [List.mem_singleton.mp g]; exact hok.2.1
    · skip
      refine s_PC_drop hok hF (fun c1 => ?_) (fun c1 fr' mo' hF' hb' => ?_)
      · exact s_Ref_drop hok hM (fun _ => eqv (next same)) (fun c2 _ _ _ _ => absurd c1 c2)
      · refine s_Ref_drop hok hM (fun c2 => absurd c2 c1) (fun _ ma' mn' hM' hk' => eqv (next ?_))
        exact ⟨w, dr, cs.dropLast, f, n, bg, gl, aq, ad, tk, ⟨hok.1, hok.2.1, by rw [List.length_dropLast]; have := hok.2.2.1; omega, fun c2 hc2 => hok.2.2.2 c2 ((List.dropLast_sublist cs).subset hc2)⟩, hF', hM', ⟨hMS, Or.inl hb'⟩, Or.inl hk', hk, hT, hU, hW, hC⟩
    · skip
      refine s_PC_at hok hF (fun e => ⟨v1, v2, ?_⟩) (fun i c1 d1 d2 d3 d4 => ⟨v1, v2, ?_⟩) (fun i c1 k u d1 d2 d3 d4 d5 => ⟨v1, v2, ?_⟩)
      · refine s_Ref_at hok hM (fun _ => eqv (next same)) (fun i c1 d1 d2 d3 d4 => ?_) (fun i c1 k u d1 d2 d3 d4 d5 => ?_)
        · exact (e.elim (fun e => nos e d1) (fun e => d3 e)).elim
        · exact (e.elim (fun e => nos e d1) (fun e => d3 e)).elim
      · refine s_Ref_at hok hM (fun e => (e.elim (fun e => nos e d1) (fun e => d3 e)).elim) (fun _ _ _ _ _ _ => eqv (next same)) (fun i' c1' k' u' g1 g2 g3 g4 g5 => ?_)
        have q1 := sms d1 g1
        subst q1
        have q2 := sms d2 g2
        subst q2
        exact (nos d4 g4).elim
      · refine s_Ref_at hok hM (fun e => (e.elim (fun e => nos e d1) (fun e => d3 e)).elim) (fun i' c1' g1 g2 g3 g4 => ?_) (fun i' c1' k' u' g1 g2 g3 g4 g5 => ?_)
        · have q1 := sms d1 g1
          subst q1
          have q2 := sms d2 g2
          subst q2
          exact (nos g4 d4).elim
        · have q1 := sms d1 g1
          subst q1
          have q2 := sms d2 g2
          subst q2
          have q3 := sms d4 g4
          subst q3
          have q4 := sms d5 g5
          subst q4
          exact eqv (next same)
    · skip
      refine s_PC_sat hok hF hS (fun lr mo se sk sw tr hS' => ⟨v1, s_Ref_sat hok hM (fun ms => eqv (next ?_))⟩)
      exact ⟨w, dr, cs, f, n, bg, gl, aq, ad, tk, hok, hF, hM, hS', hK, hk, hT, hU, hW, hC⟩
    · skip
      refine s_PC_value hok hF hS (fun lr mo se sk sw tr hS' => ⟨v1, s_Ref_value hok hM hK (fun mn ms mb hK' => eqv (next ?_))⟩)
      exact ⟨w, dr, cs, f, n, bg, gl, aq, ad, tk, hok, hF, hM, hS', hK', hk, hT, hU, hW, hC⟩
    · skip
      refine s_PC_model hok hF hS (fun lr mo se sk sw tr hS' => ⟨v1, v2, s_Ref_model hok hM hK (fun mn ms mb hK' => eqv (next ?_))⟩)
      exact ⟨w, dr, cs, f, n, bg, gl, aq, ad, tk, hok, hF, hM, hS', hK', hk, hT, hU, hW, hC⟩
    · skip
      refine s_PC_models hok hF hS (fun lr mo se sk sw tr hS' => s_Ref_models hok hM hK (fun mn ms mb hK' => eqv (next ?_)))
      exact ⟨w, dr, cs, f, n, bg, gl, aq, ad, tk, hok, hF, hM, hS', hK', hk, hT, hU, hW, hC⟩
    · skip
      refine s_PC_forced hok hF hS (fun lr mo se sk sw tr hS' => ⟨v1, s_Ref_forced hok hM (fun ms => eqv (next ?_))⟩)
      exact ⟨w, dr, cs, f, n, bg, gl, aq, ad, tk, hok, hF, hM, hS', hK, hk, hT, hU, hW, hC⟩
    · skip
      refine s_PC_culprit hok hF hS (fun q1 lr mo se sk sw tr hS' => ?_) (fun q1 k hk1 hk2 hk3 lr mo se sk sw tr hS' => ?_)
      · refine s_Ref_culprit hok hM (fun _ ms => eqv (next ?_)) (fun q2 => absurd q1 q2)
        exact ⟨w, dr, cs, f, n, bg, gl, aq, ad, tk, hok, hF, hM, hS', hK, hk, hT, hU, hW, hC⟩
      · refine s_Ref_culprit hok hM (fun q2 => absurd q2 q1) (fun _ k' hk1' hk2' hk3' ms => ?_)
        have ek : k = k' := by
          have mono : ∀ i j, i ≤ j → SATw j (tq cs) (fq cs) 0 0 → SATw i (tq cs) (fq cs) 0 0 := fun i j hij ⟨v, hv, hv2⟩ => ⟨v, fun l hl => hv l (by omega), hv2⟩
          rcases Nat.lt_trichotomy k k' with q | q | q
          · exact absurd (mono (k + 1) k' (by omega) hk2') hk3
          · exact q
          · exact absurd (mono (k' + 1) k (by omega) hk2) hk3'
        subst ek
        exact eqv (next ⟨w, dr, cs, f, n, bg, gl, aq, ad, tk, hok, hF, hM, hS', hK, hk, hT, hU, hW, hC⟩)
    · skip
      refine s_PC_facts (fun e => ⟨v1, ?_⟩) (fun m hm ex e ta' tw' ct' a1 a2 a3 hT' hw' hc' => ⟨v1, ?_⟩)
      · exact s_Ref_facts (fun _ => eqv (next same)) (fun m _ _ e' _ _ _ _ _ => (nos e e').elim)
      · refine s_Ref_facts (fun e' => (nos e' e).elim) (fun m' hm' ex' e' mt' b1' b2' b3' hU' => ?_)
        have em := sms e e'
        subst em
        rw [hT.1, hU.1]
        refine eqv (next ⟨w, dr, cs, m, 0, 0, 0, a1, a2, a3, hok, hF, hM, hS, hK, ⟨hm, by omega, Nat.two_pow_pos m, Nat.two_pow_pos m, fun i hi => by omega⟩, hT', ⟨hU'.1, hU'.2.1, hU'.2.2.1, hU'.2.2.2.1, fun i hi => by omega⟩, ⟨Or.inl hw', fun q => absurd hw' q⟩, ⟨hC.1, fun q => absurd hc' q⟩⟩)
    · skip
      refine s_PC_action hk hT (fun e => ⟨v1, v2, v3, ?_⟩) (fun hx hy hz hn5 => ⟨v1, v2, v3, ?_⟩) (fun A B C hA hB hCC ea eb ec hn5 ta' tw' ct' hT' hw' hc' => ⟨v1, v2, v3, ?_⟩)
      · refine s_Ref_action hk hU (fun _ => eqv (next same)) (fun ⟨A, ea⟩ ⟨B, eb⟩ ⟨C, ec⟩ _ => ?_) (fun A B C _ _ _ ea eb ec _ _ _ => ?_)
        · exact (e.elim (fun e => nos e ea) (fun e => e.elim (fun e => nos e eb) (fun e => nos e ec))).elim
        · exact (e.elim (fun e => nos e ea) (fun e => e.elim (fun e => nos e eb) (fun e => nos e ec))).elim
      · obtain ⟨A, ea⟩ := hx
        obtain ⟨B, eb⟩ := hy
        obtain ⟨C, ec⟩ := hz
        exact s_Ref_action hk hU (fun e => (e.elim (fun e => nos e ea) (fun e => e.elim (fun e => nos e eb) (fun e => nos e ec))).elim) (fun _ _ _ _ => eqv (next same)) (fun _ _ _ _ _ _ _ _ _ hn6 _ _ => by omega)
      · refine s_Ref_action hk hU (fun e => (e.elim (fun e => nos e ea) (fun e => e.elim (fun e => nos e eb) (fun e => nos e ec))).elim) (fun _ _ _ hn6 => by omega) (fun A' B' C' _ _ _ ea' eb' ec' _ mt' hU' => ?_)
        have q1 := sms ea ea'
        subst q1
        have q2 := sms eb eb'
        subst q2
        have q3 := sms ec ec'
        subst q3
        exact eqv (next ⟨w, dr, cs, f, n + 1, bg, gl, _, _, _, hok, hF, hM, hS, hK, tk_up hk hn5 hA hB hCC, hT', hU', ⟨Or.inl hw', fun q => absurd hw' q⟩, ⟨hC.1, fun q => absurd hc' q⟩⟩)
    · skip
      refine s_PC_set hk hT hW (fun e => ⟨v1, v2, ?_⟩) (fun B hB ea eb ta' tw' ct' hT' hw' hc' => ⟨v1, v2, ?_⟩) (fun B hB ea eb ta' tw' ct' hT' hw' hc' => ⟨v1, v2, ?_⟩)
      · refine s_Ref_set hk hU (fun _ => eqv (next same)) (fun B _ ea eb _ _ => (e.elim (fun e => nos e ea) (fun e => nos e eb)).elim) (fun B _ ea eb _ _ => (e.elim (fun e => nos e ea) (fun e => nos e eb)).elim)
      · refine s_Ref_set hk hU (fun e => (e.elim (fun e => nos e ea) (fun e => nos e eb)).elim) (fun B' _ ea' eb' mt' hU' => ?_) (fun B' _ ea' eb' _ _ => absurd (sms ea ea') (by omega))
        have q := sms eb eb'
        subst q
        exact eqv (next ⟨w, dr, cs, f, n, B, gl, aq, ad, tk, hok, hF, hM, hS, hK, ⟨hk.1, hk.2.1, hB, hk.2.2.2.1, hk.2.2.2.2⟩, hT', hU', hw', ⟨hC.1, fun q => absurd hc' q⟩⟩)
      · refine s_Ref_set hk hU (fun e => (e.elim (fun e => nos e ea) (fun e => nos e eb)).elim) (fun B' _ ea' eb' _ _ => absurd (sms ea ea') (by omega)) (fun B' _ ea' eb' mt' hU' => ?_)
        have q := sms eb eb'
        subst q
        exact eqv (next ⟨w, dr, cs, f, n, bg, B, aq, ad, tk, hok, hF, hM, hS, hK, ⟨hk.1, hk.2.1, hk.2.2.1, hB, hk.2.2.2.2⟩, hT', hU', ⟨Or.inl hw', fun q => absurd hw' q⟩, ⟨hC.1, fun q => absurd hc' q⟩⟩)
    · skip
      refine s_PC_plan hk hT hW (fun tw' hW' => ⟨v1, s_Ref_plan hk hU (fun mw' => eqv (next ?_))⟩)
      exact ⟨w, dr, cs, f, n, bg, gl, aq, ad, tk, hok, hF, hM, hS, hK, hk, hT, hU, hW', hC⟩
    · skip
      refine s_PC_step hk hT hW (fun tw' hW' => ⟨v1, v2, s_Ref_step hk hU (fun mw' mg' => eqv (next ?_))⟩)
      exact ⟨w, dr, cs, f, n, bg, gl, aq, ad, tk, hok, hF, hM, hS, hK, hk, hT, hU, hW', hC⟩
    · skip
      refine s_PC_state hk hT hW (fun tw' hW' => ⟨v1, v2, s_Ref_state hk hU (fun mw' mg' => eqv (next ?_))⟩)
      exact ⟨w, dr, cs, f, n, bg, gl, aq, ad, tk, hok, hF, hM, hS, hK, hk, hT, hU, hW', hC⟩
    · skip
      refine s_PC_shortest hk hT hW (fun tw' hW' => s_Ref_shortest hk hU (fun mw' => eqv (next ?_)))
      exact ⟨w, dr, cs, f, n, bg, gl, aq, ad, tk, hok, hF, hM, hS, hK, hk, hT, hU, hW', hC⟩
    · skip
      refine s_PC_plans hk hT hW (fun tw' hW' => ⟨v1, s_Ref_plans hk hU (fun mw' => eqv (next ?_))⟩)
      exact ⟨w, dr, cs, f, n, bg, gl, aq, ad, tk, hok, hF, hM, hS, hK, hk, hT, hU, hW', hC⟩
    · skip
      refine s_PC_code hk hT hC (fun co' ct' hC' => ⟨v1, v2, s_Ref_code hk hU (fun md' => eqv (next ?_))⟩)
      exact ⟨w, dr, cs, f, n, bg, gl, aq, ad, tk, hok, hF, hM, hS, hK, hk, hT, hU, hW, hC'⟩
    · skip
      refine s_PC_coded hk hT hC (fun co' ct' hC' => ⟨v1, v2, v3, s_Ref_coded hk hU (fun md' => eqv (next ?_))⟩)
      exact ⟨w, dr, cs, f, n, bg, gl, aq, ad, tk, hok, hF, hM, hS, hK, hk, hT, hU, hW, hC'⟩
    · skip
      exact s_PC_count hF hT ⟨v1, s_Ref_count hM hU (eqv (next same))⟩
theorem law_is : law_pure := by
  intro L xs hL
  refine ⟨L + 5, ?_⟩
  refine l_law hL (L + 5) 0 _ _ _ _ _ _ _ _ _ _ _ _ _ _ _ _ _ _ _ _ ⟨0, [], [], 0, 0, 0, 0, fun _ => 0, fun _ => 0, fun _ => 0, okF_nil (by omega), ?_, ?_, ⟨rfl, Or.inl rfl⟩, Or.inl rfl, ⟨by omega, by omega, Nat.two_pow_pos 0, Nat.two_pow_pos 0, fun i hi => by omega⟩, ⟨rfl, rfl, rfl, rfl, fun i hi => by omega⟩, ⟨rfl, rfl, rfl, rfl, fun i hi => by omega⟩, ⟨Or.inl rfl, fun q => absurd rfl q⟩, ⟨rfl, fun q => absurd rfl q⟩⟩ (by omega) (by omega)
  · exact ⟨rfl, rfl, fun k x hx => (by cases hx), rfl, rfl, fun i c hc => (by cases hc)⟩
  · exact ⟨rfl, rfl, fun k x hx => (by cases hx), rfl, fun i c hc => (by cases hc)⟩
