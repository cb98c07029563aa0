/-! the calls that the class answers out of the code -/
theorem flat_at {cs : List (List Int32)} : ∀ {i : Nat} {ci : List Int32}, cs[i]? = some ci → lits (cs.take (i + 1)) = lits (cs.take i) + ci.length ∧ ∀ k x, ci[k]? = some x → cs.flatten[lits (cs.take i) + k]? = some x := by
  induction cs with
  | nil => intro i ci h; simp at h
  | cons c cs ih =>
    intro i ci h
    cases i with
    | zero =>
      simp at h
      subst h
      refine ⟨by simp [lits], fun k x hk => ?_⟩
      rw [show lits (List.take 0 (c :: cs)) + k = k by simp [lits], List.flatten_cons]
      have hl := (List.getElem?_eq_some_iff.mp hk).1
      rw [List.getElem?_append_left hl]; exact hk
    | succ i =>
      rw [List.getElem?_cons_succ] at h
      obtain ⟨h1, h2⟩ := ih h
      have e : ∀ m, lits (List.take (m + 1) (c :: cs)) = c.length + lits (List.take m cs) := fun m => by rw [List.take_succ_cons]; unfold lits; rw [List.flatten_cons, List.length_append]
      refine ⟨by rw [e, e, h1]; omega, fun k x hk => ?_⟩
      rw [e, List.flatten_cons, Nat.add_assoc, List.getElem?_append_right (by omega), Nat.add_sub_cancel_left]
      exact h2 k x hk
def codeV (f n bg gl : Nat) (aq ad tk : Nat → Nat) (x y : Int32) : Int32 := match inR x 6 with
  | none => -1
  | some t => match inR y 3 with
    | none => -1
    | some w => if w = 0 then nI ((t + 1) * f + t * n) else if w = 1 then nI (codeOf t f n bg gl aq ad tk).length else nI (lits (codeOf t f n bg gl aq ad tk))
def codedV (f n bg gl : Nat) (aq ad tk : Nat → Nat) (x y z : Int32) : Int32 := match inR x 6 with
  | none => -1
  | some t => if z.toInt < 0 then -1 else match inR y (codeOf t f n bg gl aq ad tk).length with
    | none => -1
    | some i => match inR z ((codeOf t f n bg gl aq ad tk).getD i []).length with
      | none => -9
      | some k => ((codeOf t f n bg gl aq ad tk).getD i []).getD k 0
section CODE2
variable {ta : tTask} {co : tCode} {ct : tTold} {f n bg gl t : Nat} {aq ad tk : Nat → Nat}
def cKn (co : tCode) (ct : tTold) (f n bg gl : Nat) (aq ad tk : Nat → Nat) : Prop := co.starts 0 = 0 ∧ (¬ ct.told = 0 → ∃ t, t ≤ 5 ∧ ct.steps = nI t ∧ isCO co (codeOf t f n bg gl aq ad tk) [])
theorem s_step (hk : tkOk f n bg gl aq ad tk) (hT : isTA ta f n bg gl aq ad tk) (hs : ct.steps = nI t) {i : Nat} {cs0 : List (List Int32)} (c1 : (cs0 ++ gStep t f n aq ad tk i).length ≤ 422) (c2 : lits (cs0 ++ gStep t f n aq ad tk i) ≤ 982) (hco : isCO co cs0 []) {Q : tCode → Prop} (hQ : ∀ co, isCO co (cs0 ++ gStep t f n aq ad tk i) [] → Q co) :
    w_Code_tellAsked (nI i) ta co ct (fun co_1 => w_Code_tellChanged (nI i) ta co_1 ct (fun co_2 => w_Code_tellKept (nI i) ta co_2 ct (fun co_3 => w_Code_tellPairs (nI i) ta co_3 ct Q))) := by
  unfold gStep at c1 c2 hQ
  rw [← List.append_assoc, ← List.append_assoc, ← List.append_assoc] at c1 c2
  have q1 := cap_l ⟨c1, c2⟩
  have q2 := cap_l q1
  have q3 := cap_l q2
  refine s_asked hk hT hs q3.1 q3.2 hco (fun co1 h1 => s_changed hk hT hs q2.1 q2.2 h1 (fun co2 h2 => s_kept hk hT hs q1.1 q1.2 h2 (fun co3 h3 => s_pairs hk hT hs c1 c2 h3 (fun co4 h4 => hQ co4 ?_))))
  rw [← List.append_assoc, ← List.append_assoc, ← List.append_assoc]; exact h4
theorem s_told (hk : tkOk f n bg gl aq ad tk) (hT : isTA ta f n bg gl aq ad tk) (ht : t ≤ 5) (hs : ct.steps = nI t) (h0 : co.starts 0 = 0) {Q : tCode → Prop} (hQ : ∀ co, isCO co (codeOf t f n bg gl aq ad tk) [] → Q co) :
    w_Code_tellEnds ta (tCode.mk co.literals co.starts 0 0) ct (fun co_1 => (∃ nn_2, w_Code_tell_L42 (nI t) ta ct (fun co_2 => Q co_2) nn_2 0 co_1)) := by
  have hc := code_len (t := t) hk ht
  unfold codeOf at hc hQ
  rw [← List.append_assoc] at hc
  have q1 := cap_l hc
  unfold w_Code_tellEnds
  have hco : isCO (tCode.mk co.literals co.starts 0 0) (cat (gEndA f bg) 0) [] := ⟨rfl, rfl, fun j x h => by simp [cat] at h, fun i hi => by
    have : i = 0 := by simpa [cat] using hi
    subst this; exact h0⟩
  refine ⟨f + 1, l_ends2 hk hT (fun co1 h1 => ?_) (f + 1) 0 (by omega) (by omega) _ hco⟩
  refine ⟨f + 1, l_ends59 hk hT hs q1.1 q1.2 (fun co2 h2 => ?_) (f + 1) 0 (by omega) (by omega) co1 (by rw [show cat (gEndB t f gl) 0 = [] from rfl, List.append_nil]; exact h1)⟩
  have key : ∀ nn i, i ≤ t → t - i < nn → ∀ co, isCO co ((cat (gEndA f bg) f ++ cat (gEndB t f gl) f) ++ cat (gStep t f n aq ad tk) i) [] → w_Code_tell_L42 (nI t) ta ct (fun co_2 => Q co_2) nn (nI i) co := by
    intro nn
    induction nn with
    | zero => intro i _ h; omega
    | succ nn ih =>
      intro i hi hm co hco
      rw [w_Code_tell_L42]
      refine pk_le t i (fun c => hQ co (by rw [show i = t by omega] at hco; rw [← List.append_assoc]; exact hco)) (fun c => ?_)
      obtain ⟨g1, g2⟩ := cap_j (g := gStep t f n aq ad tk) c hc.1 hc.2
      refine s_step hk hT hs g1 g2 hco (fun co3 h3 => ?_)
      rw [nI_1]
      refine ih (i + 1) (by omega) (by omega) co3 ?_
      rw [cat_s, ← List.append_assoc]; exact h3
  exact ⟨t + 1, key (t + 1) 0 (by omega) (by omega) co2 (by rw [show cat (gStep t f n aq ad tk) 0 = [] from rfl, List.append_nil]; exact h2)⟩
theorem s_tell (hk : tkOk f n bg gl aq ad tk) (hT : isTA ta f n bg gl aq ad tk) (ht : t ≤ 5) (hc : cKn co ct f n bg gl aq ad tk) {Q : tCode → tTold → Prop} (hQ : ∀ co' ct', isCO co' (codeOf t f n bg gl aq ad tk) [] → cKn co' ct' f n bg gl aq ad tk → Q co' ct') : w_Code_tell (nI t) ta co ct Q := by
  unfold w_Code_tell
  have new : ∀ co', isCO co' (codeOf t f n bg gl aq ad tk) [] → Q co' (tTold.mk (nI t) 1) := fun co' h => hQ co' _ h ⟨by have := h.2.2.2 0 (Nat.zero_le _); rw [List.take_zero] at this; exact this, fun _ => ⟨t, ht, rfl, h⟩⟩
  refine ⟨fun _ => s_told (ct := tTold.mk (nI t) 1) hk hT ht rfl hc.1 new, fun c => ⟨fun _ => s_told (ct := tTold.mk (nI t) 1) hk hT ht rfl hc.1 new, fun c2 => ?_⟩⟩
  obtain ⟨t', ht', e, h⟩ := hc.2 c
  rw [e] at c2
  have := nI_inj (by omega) (by omega) c2
  subst this
  exact hQ co ct h hc
theorem s_PC_code (hk : tkOk f n bg gl aq ad tk) (hT : isTA ta f n bg gl aq ad tk) (hc : cKn co ct f n bg gl aq ad tk) {x y : Int32} {Q : Int32 → tCode → tTold → Prop} (hq : ∀ co' ct', cKn co' ct' f n bg gl aq ad tk → Q (codeV f n bg gl aq ad tk x y) co' ct') : w_PC_code x y ta co ct Q := by
  unfold w_PC_code
  unfold codeV at hq
  refine s_isLen (fun e => ?_) (fun t ht ex e => ?_)
  · rw [e] at hq
    exact ⟨fun _ => hq co ct hc, fun c => absurd rfl c⟩
  · rw [e] at hq
    refine ⟨fun c => absurd c z01, fun _ => ?_⟩
    subst ex
    rcases inR_cases y (m := 3) (by omega) with ⟨ey, h⟩ | ⟨w, hw, ey, h⟩
    · dsimp only at hq
      rw [ey] at hq
      refine ⟨fun _ => hq co ct hc, fun c => ⟨fun c2 => ?_, fun _ => hq co ct hc⟩⟩
      rcases h with h | h
      · exact absurd h c
      · rw [ti_le] at h; rw [ti_le] at c2
        have g1 : (3 : Int) ≤ y.toInt := h
        have g2 : y.toInt ≤ 2 := c2
        omega
    · dsimp only at hq
      rw [h] at hq
      dsimp only at hq
      subst ey
      refine ⟨fun c => absurd c (nI_pos (by omega)), fun _ => pk_le w 2 (fun _ => (pk_eq w 0 (fun c => ?_) (fun c => ?_) (hx := rfl) (hy := rfl)).symm) (fun c => by omega)⟩
      · rw [hT.1, hT.2.1, nI_1, pk_mul, pk_mul, nI_add]
        have := hq co ct hc
        rwa [if_pos c] at this
      · refine s_tell hk hT ht hc (fun co' ct' h1 h2 => (pk_eq w 1 (fun c3 => ?_) (fun c3 => ?_) (hx := rfl) (hy := rfl)).symm)
        · have := hq co' ct' h2
          rw [if_neg c, if_pos c3] at this
          rw [h1.1]; exact this
        · have := hq co' ct' h2
          rw [if_neg c, if_neg c3] at this
          rw [h1.2.1]; exact this
theorem s_literalOf {cs : List (List Int32)} (h : isCO co cs []) (c1 : cs.length ≤ 422) (c2 : lits cs ≤ 982) {i : Nat} {ci : List Int32} (hi : cs[i]? = some ci) {z : Int32} {Q : Int32 → Prop} (hz : ¬ z.toInt < 0) (h0 : inR z ci.length = none → Q (-9)) (h1 : ∀ k x, inR z ci.length = some k → ci[k]? = some x → Q x) : w_Code_literalOf (nI i) z co Q := by
  have hl := (List.getElem?_eq_some_iff.mp hi).1
  obtain ⟨f1, f2⟩ := flat_at hi
  have hm : lits (cs.take (i + 1)) ≤ lits cs := by
    have := lits_app (cs.take (i + 1)) (cs.drop (i + 1))
    rw [List.take_append_drop] at this; omega
  unfold w_Code_literalOf
  rw [h.1]
  refine ⟨fun c => absurd c (nI_pos (by omega)), fun _ => pk_le cs.length i (fun c => by omega) (fun _ => ⟨fun c => absurd (ti_lt.mp c) hz, fun _ => ?_⟩)⟩
  rw [nI_1, nI_clamp (by omega), nI_clamp (by omega), h.2.2.2 (i + 1) (by omega), h.2.2.2 i (by omega), pk_sub (by omega), f1, Nat.add_sub_cancel_left]
  refine ⟨vp_in_nI (by omega) (by omega), vp_in_nI (by omega) (by omega), ?_⟩
  rcases inR_cases z (m := ci.length) (by omega) with ⟨ez, hz2⟩ | ⟨k, hk, ez, hz2⟩
  · refine ⟨fun c => ?_, fun _ => h0 ez⟩
    rcases hz2 with g | g
    · exact absurd (ti_lt.mp g) hz
    · rw [ti_le] at g; rw [ti_lt] at c; omega
  · subst ez
    refine pk_lt k ci.length (fun _ => ⟨vp_in_nI (by omega) (by omega), ?_⟩) (fun c => by omega)
    rw [nI_add, nI_clamp (by omega)]
    refine ⟨vp_in_nI (by omega) (by omega), ?_⟩
    have hx := List.getElem?_eq_getElem hk
    rw [h.2.2.1 _ _ (by rw [List.append_nil]; exact f2 k _ hx)]
    exact h1 k _ hz2 hx
theorem s_PC_coded (hk : tkOk f n bg gl aq ad tk) (hT : isTA ta f n bg gl aq ad tk) (hc : cKn co ct f n bg gl aq ad tk) {x y z : Int32} {Q : Int32 → tCode → tTold → Prop} (hq : ∀ co' ct', cKn co' ct' f n bg gl aq ad tk → Q (codedV f n bg gl aq ad tk x y z) co' ct') : w_PC_coded x y z ta co ct Q := by
  unfold w_PC_coded
  unfold codedV at hq
  refine s_isLen (fun e => ?_) (fun t ht ex e => ?_)
  · rw [e] at hq
    exact ⟨fun _ => hq co ct hc, fun c => absurd rfl c⟩
  · rw [e] at hq
    dsimp only at hq
    refine ⟨fun c => absurd c z01, fun _ => ?_⟩
    subst ex
    have hcl := code_len (t := t) hk ht
    by_cases hz : z.toInt < 0
    · simp only [if_pos hz] at hq
      refine ⟨fun _ => hq co ct hc, fun c => ⟨fun c2 => ?_, fun _ => hq co ct hc⟩⟩
      have g2 : 0 ≤ z.toInt := ti_le.mp c2
      omega
    · simp only [if_neg hz] at hq
      rcases inR_cases y (m := (codeOf t f n bg gl aq ad tk).length) (by omega) with ⟨ey, h⟩ | ⟨i, hi, ey, h⟩
      · rw [ey] at hq
        dsimp only at hq
        refine ⟨fun _ => hq co ct hc, fun c => ⟨fun c2 => ?_, fun _ => hq co ct hc⟩⟩
        refine s_tell hk hT ht hc (fun co' ct' h1 h2 => ⟨fun c3 => ?_, fun _ => hq co' ct' h2⟩)
        rcases h with h | h
        · exact absurd h c
        · rw [h1.1] at c3; rw [ti_le] at h; rw [ti_lt] at c3; omega
      · rw [h] at hq
        dsimp only at hq
        subst ey
        refine ⟨fun c => absurd c (nI_pos (by omega)), fun _ => ⟨fun _ => ?_, fun c => absurd ((ti_le (a := 0) (b := z)).mpr (show (0 : Int) ≤ z.toInt by omega)) c⟩⟩
        refine s_tell hk hT ht hc (fun co' ct' h1 h2 => ?_)
        rw [h1.1]
        have hx := List.getElem?_eq_getElem hi
        have hg : (codeOf t f n bg gl aq ad tk).getD i [] = (codeOf t f n bg gl aq ad tk)[i] := by rw [List.getD_eq_getElem?_getD, hx]; rfl
        have hQ := hq co' ct' h2
        rw [hg] at hQ
        refine pk_lt i (codeOf t f n bg gl aq ad tk).length (fun _ => s_literalOf h1 hcl.1 hcl.2 hx hz (fun e3 => ?_) (fun k w e3 e4 => ?_)) (fun c => by omega)
        · rw [e3] at hQ; exact hQ
        · rw [e3] at hQ
          dsimp only at hQ
          rw [List.getD_eq_getElem?_getD, e4] at hQ
          exact hQ
end CODE2
