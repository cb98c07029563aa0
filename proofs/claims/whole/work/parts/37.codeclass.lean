/-! the class tells the code -/
def isCO (co : tCode) (cs : List (List Int32)) (cur : List Int32) : Prop := co.clauseCount = nI cs.length ∧ co.literalCount = nI (lits cs + cur.length) ∧ (∀ j x, (cs.flatten ++ cur)[j]? = some x → co.literals j = x) ∧ (∀ i, i ≤ cs.length → co.starts i = nI (lits (cs.take i)))
theorem s_put {co : tCode} {cs : List (List Int32)} {cur : List Int32} {x : Int32} {Q : tCode → Prop} (h : isCO co cs cur) (hc : lits cs + cur.length + 1 ≤ 982) (hq : ∀ co', isCO co' cs (cur ++ [x]) → Q co') : w_Code_put x co Q := by
  obtain ⟨h1, h2, h3, h4⟩ := h
  unfold w_Code_put
  rw [h2]
  refine pk_le 982 _ (fun c => by omega) (fun c => ⟨vp_in_nI (by omega) (by omega), hq _ ⟨h1, ?_, ?_, h4⟩⟩) (hx := rfl) (hy := rfl)
  · show nI _ + 1 = _
    rw [nI_1, List.length_append]; rfl
  · intro j y hy
    show upd co.literals (nI (lits cs + cur.length)).toNatClampNeg x j = y
    rw [nI_clamp (by omega)]
    rw [← List.append_assoc] at hy
    have hl : (cs.flatten ++ cur).length = lits cs + cur.length := by rw [List.length_append]; rfl
    by_cases e : j < lits cs + cur.length
    · rw [pk_un (by omega)]
      rw [List.getElem?_append_left (by omega)] at hy
      exact h3 j y hy
    · rw [List.getElem?_append_right (by omega), hl] at hy
      have hj : j = lits cs + cur.length := by
        have := (List.getElem?_eq_some_iff.mp hy).1
        simp at this; omega
      subst hj
      rw [pk_us]
      simpa using hy
theorem s_close {co : tCode} {cs : List (List Int32)} {cur : List Int32} {Q : tCode → Prop} (h : isCO co cs cur) (hc : cs.length + 1 ≤ 422) (hq : ∀ co', isCO co' (cs ++ [cur]) [] → Q co') : w_Code_close co Q := by
  obtain ⟨h1, h2, h3, h4⟩ := h
  unfold w_Code_close
  rw [h1]
  refine pk_le 422 _ (fun c => by omega) (fun c => ⟨?_, hq _ ⟨?_, ?_, ?_, ?_⟩⟩) (hx := rfl) (hy := rfl)
  · rw [nI_1]; exact vp_in_nI (by omega) (by omega)
  · show nI _ + 1 = _
    rw [nI_1, List.length_append]; rfl
  · show co.literalCount = _
    rw [h2, lits_app]; unfold lits; simp
  · intro j y hy
    refine h3 j y ?_
    rw [List.flatten_append] at hy
    simpa using hy
  · intro i hi
    show upd co.starts (nI cs.length + 1).toNatClampNeg co.literalCount i = _
    rw [nI_1, nI_clamp (by omega)]
    rw [List.length_append] at hi
    by_cases e : i = cs.length + 1
    · subst e
      rw [pk_us, h2, List.take_of_length_le (by rw [List.length_append]; exact Nat.le_refl _), lits_app]; unfold lits; simp
    · rw [pk_un e, List.take_append_of_le_length (by simp at hi; omega)]
      exact h4 i (by simp at hi; omega)
theorem cap_j {cs0 : List (List Int32)} {g : Nat → List (List Int32)} {j n : Nat} (h : j < n) (c1 : (cs0 ++ cat g n).length ≤ 422) (c2 : lits (cs0 ++ cat g n) ≤ 982) : ((cs0 ++ cat g j) ++ g j).length ≤ 422 ∧ lits ((cs0 ++ cat g j) ++ g j) ≤ 982 := by
  have h1 := cat_mono g (show j + 1 ≤ n from h)
  have h2 := catl_mono g (show j + 1 ≤ n from h)
  rw [cat_s, List.length_append] at h1
  rw [cat_s, lits_app] at h2
  rw [List.length_append] at c1
  rw [lits_app] at c2
  rw [List.length_append, List.length_append, lits_app, lits_app]
  omega
theorem cap_l {a b : List (List Int32)} (h : (a ++ b).length ≤ 422 ∧ lits (a ++ b) ≤ 982) : a.length ≤ 422 ∧ lits a ≤ 982 := by
  rw [List.length_append, lits_app] at h; omega
section CODE
variable {ta : tTask} {ct : tTold} {f n bg gl t : Nat} {aq ad tk : Nat → Nat}
theorem s_fact {x i : Nat} {Q : Int32 → Prop} (hT : isTA ta f n bg gl aq ad tk) (hq : Q (fL f x i)) : w_Code_fact (nI x) (nI i) ta Q := by
  unfold w_Code_fact
  rw [hT.1, show (1 : Int32) = nI 1 from rfl, pk_mul, nI_add, nI_add]
  exact hq
theorem s_done {a i : Nat} {Q : Int32 → Prop} (hT : isTA ta f n bg gl aq ad tk) (hs : ct.steps = nI t) (hq : Q (dL t f n a i)) : w_Code_done (nI a) (nI i) ta ct Q := by
  unfold w_Code_done
  rw [hT.1, hT.2.1, hs, nI_1, show (1 : Int32) = nI 1 from rfl, pk_mul, pk_mul, nI_add, nI_add, nI_add]
  exact hq
theorem s_has {X x : Nat} {Q : Int32 → Prop} (hX : X < 2 ^ 31) (hx : x < 31) (h0 : X.testBit x = false → Q 0) (h1 : X.testBit x = true → Q 1) : w_Code_has (nI X) (nI x) Q := by
  unfold w_Code_has
  rw [has_v hX hx]
  cases hb : X.testBit x with
  | false => exact ⟨fun _ => h0 hb, fun c => absurd rfl c⟩
  | true => exact ⟨fun c => absurd c z01, fun _ => h1 hb⟩
theorem l_ends2 (hk : tkOk f n bg gl aq ad tk) (hT : isTA ta f n bg gl aq ad tk) {K : tCode → Prop} (hK : ∀ co, isCO co (cat (gEndA f bg) f) [] → K co) :
    ∀ nn j, j ≤ f → f - j < nn → ∀ co, isCO co (cat (gEndA f bg) j) [] → w_Code_tellEnds_L2 ta K nn (nI j) co := by
  have hf := hk.1
  have hp := p_f hf
  have hbg := hk.2.2.1
  obtain ⟨e1, e2, -, -⟩ := ends_len (t := 0) hk
  intro nn
  induction nn with
  | zero => intro j _ h; omega
  | succ nn ih =>
    intro j hj hm co hco
    rw [w_Code_tellEnds_L2, hT.1, hT.2.2.1]
    refine pk_le f j (fun c => hK co (by rw [show j = f by omega] at hco; exact hco)) (fun c => ?_)
    have h1 := cat_mono (gEndA f bg) (show j ≤ f from hj)
    have h2 := catl_mono (gEndA f bg) (show j ≤ f from hj)
    have fin : ∀ x : Int32, gEndA f bg j = [[x]] → w_Code_put x co (fun co_3 => w_Code_close co_3 (fun co_4 => w_Code_tellEnds_L2 ta K nn (nI j + 1) co_4)) := by
      intro x hx
      refine s_put hco (by simp; omega) (fun co2 h => s_close h (by omega) (fun co3 h3 => ?_))
      rw [nI_1]
      exact ih (j + 1) (by omega) (by omega) co3 (by rw [cat_s, hx]; exact h3)
    refine s_has (by omega) (by omega) (fun hb => ⟨fun _ => s_fact (i := 0) hT (fin _ ?_), fun c => absurd rfl c⟩) (fun hb => ⟨fun c => absurd c z01, fun _ => s_fact (i := 0) hT (fin _ ?_)⟩)
    · unfold gEndA; rw [hb]; rfl
    · unfold gEndA; rw [hb]; rfl
theorem l_ends59 (hk : tkOk f n bg gl aq ad tk) (hT : isTA ta f n bg gl aq ad tk) (hs : ct.steps = nI t) {cs0 : List (List Int32)} (c1 : (cs0 ++ cat (gEndB t f gl) f).length ≤ 422) (c2 : lits (cs0 ++ cat (gEndB t f gl) f) ≤ 982) {K : tCode → Prop} (hK : ∀ co, isCO co (cs0 ++ cat (gEndB t f gl) f) [] → K co) :
    ∀ nn j, j ≤ f → f - j < nn → ∀ co, isCO co (cs0 ++ cat (gEndB t f gl) j) [] → w_Code_tellEnds_L59 ta ct K nn (nI j) co := by
  have hf := hk.1
  have hp := p_f hf
  have hgl := hk.2.2.2.1
  intro nn
  induction nn with
  | zero => intro j _ h; omega
  | succ nn ih =>
    intro j hj hm co hco
    rw [w_Code_tellEnds_L59, hT.1, hT.2.2.2.1]
    refine pk_le f j (fun c => hK co (by rw [show j = f by omega] at hco; exact hco)) (fun c => ?_)
    obtain ⟨h1, h2⟩ := cap_j (g := gEndB t f gl) c c1 c2
    refine s_has (by omega) (by omega) (fun hb => ⟨fun _ => ?_, fun c => absurd rfl c⟩) (fun hb => ⟨fun c => absurd c z01, fun _ => ?_⟩)
    · rw [nI_1]
      refine ih (j + 1) (by omega) (by omega) co ?_
      have e : gEndB t f gl j = [] := by unfold gEndB; rw [hb]; rfl
      rw [cat_s, e, List.append_nil]; exact hco
    · have e : gEndB t f gl j = [[fL f j t]] := by unfold gEndB; rw [hb]; rfl
      rw [e] at h1 h2
      rw [lits_app] at h2
      rw [List.length_append] at h1
      have e0 : lits [[fL f j t]] = 1 := rfl
      rw [hs]
      refine s_fact hT (s_put hco (by simp; omega) (fun co2 h => s_close h (by simpa using h1) (fun co3 h3 => ?_)))
      rw [nI_1]
      refine ih (j + 1) (by omega) (by omega) co3 ?_
      rw [cat_s, e, ← List.append_assoc]; exact h3
theorem l_ask15 (hk : tkOk f n bg gl aq ad tk) (hT : isTA ta f n bg gl aq ad tk) (hs : ct.steps = nI t) {i a : Nat} (ha : a < n) {cs0 : List (List Int32)} (c1 : (cs0 ++ cat (gAsk t f n aq i a) f).length ≤ 422) (c2 : lits (cs0 ++ cat (gAsk t f n aq i a) f) ≤ 982) {K : tCode → Prop} (hK : ∀ co, isCO co (cs0 ++ cat (gAsk t f n aq i a) f) [] → K co) :
    ∀ nn j, j ≤ f → f - j < nn → ∀ co, isCO co (cs0 ++ cat (gAsk t f n aq i a) j) [] → w_Code_tellAsked_L15 (nI i) (nI a) ta ct K nn (nI j) co := by
  have hf := hk.1
  have hn := hk.2.1
  have hp := p_f hf
  have hx := (hk.2.2.2.2 a ha).1
  have hxt := (hT.2.2.2.2 a ha).1
  intro nn
  induction nn with
  | zero => intro j _ h; omega
  | succ nn ih =>
    intro j hj hm co hco
    rw [w_Code_tellAsked_L15, hT.1]
    refine pk_le f j (fun c => hK co (by rw [show j = f by omega] at hco; exact hco)) (fun c => ⟨vp_in_nI (by omega) (by omega), ?_⟩)
    rw [nI_clamp (by omega), hxt]
    obtain ⟨h1, h2⟩ := cap_j (g := gAsk t f n aq i a) c c1 c2
    refine s_has (by omega) (by omega) (fun hb => ⟨fun _ => ?_, fun c => absurd rfl c⟩) (fun hb => ⟨fun c => absurd c z01, fun _ => ?_⟩)
    · rw [nI_1]
      refine ih (j + 1) (by omega) (by omega) co ?_
      have e : gAsk t f n aq i a j = [] := by unfold gAsk; rw [hb]; rfl
      rw [cat_s, e, List.append_nil]; exact hco
    · have e : gAsk t f n aq i a j = [[-dL t f n a i, fL f j i]] := by unfold gAsk; rw [hb]; rfl
      rw [e] at h1 h2
      rw [lits_app] at h2
      rw [List.length_append] at h1
      have e0 : lits [[-dL t f n a i, fL f j i]] = 2 := rfl
      refine s_done hT hs (s_put hco (by simp; omega) (fun co2 h => s_fact hT (s_put h (by simp; omega) (fun co3 h3 => s_close h3 (by simpa using h1) (fun co4 h4 => ?_)))))
      rw [nI_1]
      refine ih (j + 1) (by omega) (by omega) co4 ?_
      rw [cat_s, e, ← List.append_assoc]; exact h4
theorem s_asked (hk : tkOk f n bg gl aq ad tk) (hT : isTA ta f n bg gl aq ad tk) (hs : ct.steps = nI t) {i : Nat} {cs0 : List (List Int32)} (c1 : (cs0 ++ cat (fun a => cat (gAsk t f n aq i a) f) n).length ≤ 422) (c2 : lits (cs0 ++ cat (fun a => cat (gAsk t f n aq i a) f) n) ≤ 982) {co : tCode} (hco : isCO co cs0 []) {Q : tCode → Prop} (hQ : ∀ co, isCO co (cs0 ++ cat (fun a => cat (gAsk t f n aq i a) f) n) [] → Q co) : w_Code_tellAsked (nI i) ta co ct Q := by
  have hn := hk.2.1
  unfold w_Code_tellAsked
  have key : ∀ nn a, a ≤ n → n - a < nn → ∀ co, isCO co (cs0 ++ cat (fun a => cat (gAsk t f n aq i a) f) a) [] → w_Code_tellAsked_L2 (nI i) ta ct (fun co_1 => Q co_1) nn (nI a) co := by
    intro nn
    induction nn with
    | zero => intro a _ h; omega
    | succ nn ih =>
      intro a ha hm co hco
      rw [w_Code_tellAsked_L2, hT.2.1]
      refine pk_le n a (fun c => hQ co (by rw [show a = n by omega] at hco; exact hco)) (fun c => ?_)
      obtain ⟨h1, h2⟩ := cap_j (g := fun a => cat (gAsk t f n aq i a) f) c c1 c2
      refine ⟨f + 1, l_ask15 hk hT hs c h1 h2 (fun co2 h => ?_) (f + 1) 0 (by omega) (by omega) co (by rw [show cat (gAsk t f n aq i a) 0 = [] from rfl, List.append_nil]; exact hco)⟩
      rw [nI_1]
      refine ih (a + 1) (by omega) (by omega) co2 ?_
      rw [cat_s, ← List.append_assoc]; exact h
  exact ⟨n + 1, key (n + 1) 0 (by omega) (by omega) co (by rw [show cat (fun a => cat (gAsk t f n aq i a) f) 0 = [] from rfl, List.append_nil]; exact hco)⟩
theorem l_chg15 (hk : tkOk f n bg gl aq ad tk) (hT : isTA ta f n bg gl aq ad tk) (hs : ct.steps = nI t) {i a : Nat} (ha : a < n) {cs0 : List (List Int32)} (c1 : (cs0 ++ cat (gChg t f n ad tk i a) f).length ≤ 422) (c2 : lits (cs0 ++ cat (gChg t f n ad tk i a) f) ≤ 982) {K : tCode → Prop} (hK : ∀ co, isCO co (cs0 ++ cat (gChg t f n ad tk i a) f) [] → K co) :
    ∀ nn j, j ≤ f → f - j < nn → ∀ co, isCO co (cs0 ++ cat (gChg t f n ad tk i a) j) [] → w_Code_tellChanged_L15 (nI i) (nI a) ta ct K nn (nI j) co := by
  have hf := hk.1
  have hn := hk.2.1
  have hp := p_f hf
  have hx := (hk.2.2.2.2 a ha).2.1
  have hy := (hk.2.2.2.2 a ha).2.2.1
  have hxt := (hT.2.2.2.2 a ha).2.1
  have hyt := (hT.2.2.2.2 a ha).2.2
  intro nn
  induction nn with
  | zero => intro j _ h; omega
  | succ nn ih =>
    intro j hj hm co hco
    rw [w_Code_tellChanged_L15, hT.1]
    refine pk_le f j (fun c => hK co (by rw [show j = f by omega] at hco; exact hco)) (fun c => ⟨vp_in_nI (by omega) (by omega), ?_⟩)
    rw [nI_clamp (by omega), hxt, hyt]
    obtain ⟨h1, h2⟩ := cap_j (g := gChg t f n ad tk i a) c c1 c2
    rw [lits_app] at h2
    rw [List.length_append] at h1
    have fin : ∀ x : Int32, gChg t f n ad tk i a j = [[-dL t f n a i, x]] → ∀ co2, isCO co2 (cs0 ++ cat (gChg t f n ad tk i a) j) ([] ++ [-dL t f n a i]) → w_Code_put x co2 (fun co_5 => w_Code_close co_5 (fun co_6 => w_Code_tellChanged_L15 (nI i) (nI a) ta ct K nn (nI j + 1) co_6)) := by
      intro x e co2 h
      rw [e] at h1 h2
      have e0 : lits [[-dL t f n a i, x]] = 2 := rfl
      refine s_put h (by simp; omega) (fun co3 h3 => s_close h3 (by simpa using h1) (fun co4 h4 => ?_))
      rw [nI_1]
      refine ih (j + 1) (by omega) (by omega) co4 ?_
      rw [cat_s, e, ← List.append_assoc]; exact h4
    have pre : ∀ x : Int32, gChg t f n ad tk i a j = [[-dL t f n a i, x]] → lits (cs0 ++ cat (gChg t f n ad tk i a) j) + ([] : List Int32).length + 1 ≤ 982 := by
      intro x e
      rw [e] at h2
      have e0 : lits [[-dL t f n a i, x]] = 2 := rfl
      simp; omega
    refine s_has (by omega) (by omega) (fun hb => ⟨fun c => absurd rfl c, fun _ => ⟨vp_in_nI (by omega) (by omega), ?_⟩⟩) (fun hb => ⟨fun _ => ?_, fun c => absurd c z01⟩)
    · refine s_has (by omega) (by omega) (fun hb2 => ⟨fun _ => ?_, fun c => absurd rfl c⟩) (fun hb2 => ⟨fun c => absurd c z01, fun _ => ?_⟩)
      · rw [nI_1]
        refine ih (j + 1) (by omega) (by omega) co ?_
        have e : gChg t f n ad tk i a j = [] := by unfold gChg; rw [hb, hb2]; rfl
        rw [cat_s, e, List.append_nil]; exact hco
      · have e : gChg t f n ad tk i a j = [[-dL t f n a i, -fL f j (i + 1)]] := by unfold gChg; rw [hb, hb2]; rfl
        refine s_done hT hs (s_put hco (pre _ e) (fun co2 h => ⟨fun _ => ?_, fun c => absurd rfl c⟩))
        rw [nI_1]
        exact s_fact hT (fin _ e co2 h)
    · have e : gChg t f n ad tk i a j = [[-dL t f n a i, fL f j (i + 1)]] := by unfold gChg; rw [hb]; rfl
      refine s_done hT hs (s_put hco (pre _ e) (fun co2 h => ⟨fun c => absurd c z01, fun _ => ?_⟩))
      rw [nI_1]
      exact s_fact hT (fin _ e co2 h)
theorem s_changed (hk : tkOk f n bg gl aq ad tk) (hT : isTA ta f n bg gl aq ad tk) (hs : ct.steps = nI t) {i : Nat} {cs0 : List (List Int32)} (c1 : (cs0 ++ cat (fun a => cat (gChg t f n ad tk i a) f) n).length ≤ 422) (c2 : lits (cs0 ++ cat (fun a => cat (gChg t f n ad tk i a) f) n) ≤ 982) {co : tCode} (hco : isCO co cs0 []) {Q : tCode → Prop} (hQ : ∀ co, isCO co (cs0 ++ cat (fun a => cat (gChg t f n ad tk i a) f) n) [] → Q co) : w_Code_tellChanged (nI i) ta co ct Q := by
  have hn := hk.2.1
  unfold w_Code_tellChanged
  have key : ∀ nn a, a ≤ n → n - a < nn → ∀ co, isCO co (cs0 ++ cat (fun a => cat (gChg t f n ad tk i a) f) a) [] → w_Code_tellChanged_L2 (nI i) ta ct (fun co_1 => Q co_1) nn (nI a) co := by
    intro nn
    induction nn with
    | zero => intro a _ h; omega
    | succ nn ih =>
      intro a ha hm co hco
      rw [w_Code_tellChanged_L2, hT.2.1]
      refine pk_le n a (fun c => hQ co (by rw [show a = n by omega] at hco; exact hco)) (fun c => ?_)
      obtain ⟨h1, h2⟩ := cap_j (g := fun a => cat (gChg t f n ad tk i a) f) c c1 c2
      refine ⟨f + 1, l_chg15 hk hT hs c h1 h2 (fun co2 h => ?_) (f + 1) 0 (by omega) (by omega) co (by rw [show cat (gChg t f n ad tk i a) 0 = [] from rfl, List.append_nil]; exact hco)⟩
      rw [nI_1]
      refine ih (a + 1) (by omega) (by omega) co2 ?_
      rw [cat_s, ← List.append_assoc]; exact h
  exact ⟨n + 1, key (n + 1) 0 (by omega) (by omega) co (by rw [show cat (fun a => cat (gChg t f n ad tk i a) f) 0 = [] from rfl, List.append_nil]; exact hco)⟩
theorem s_with (hk : tkOk f n bg gl aq ad tk) (hT : isTA ta f n bg gl aq ad tk) (hs : ct.steps = nI t) {i x : Nat} (hx : x < f) {sa : Nat → Int32} {st : Nat → Nat} (hst : ∀ a, a < n → sa a = nI (st a) ∧ st a < 2 ^ f) {cs : List (List Int32)} {cur : List Int32} (hc : lits cs + cur.length + (cat (gWith t f n st i x) n).length ≤ 982) {co : tCode} (hco : isCO co cs cur) {Q : tCode → Prop} (hQ : ∀ co, isCO co cs (cur ++ cat (gWith t f n st i x) n) → Q co) : w_Code_putActionsWith sa (nI x) (nI i) ta co ct Q := by
  have hn := hk.2.1
  have hf := hk.1
  have hp := p_f hf
  unfold w_Code_putActionsWith
  have key : ∀ nn a, a ≤ n → n - a < nn → ∀ co, isCO co cs (cur ++ cat (gWith t f n st i x) a) → w_Code_putActionsWith_L3 (nI x) (nI i) sa ta ct (fun co_1 => Q co_1) nn (nI a) co := by
    intro nn
    induction nn with
    | zero => intro a _ h; omega
    | succ nn ih =>
      intro a ha hm co hco
      rw [w_Code_putActionsWith_L3, hT.2.1]
      refine pk_le n a (fun c => hQ co (by rw [show a = n by omega] at hco; exact hco)) (fun c => pk_le 5 a (fun c2 => by omega) (fun _ => ⟨vp_in_nI (by omega) (by omega), ?_⟩))
      rw [nI_clamp (by omega), (hst a c).1]
      have hl := (hst a c).2
      have hmo := cat_mono (gWith t f n st i x) (show a + 1 ≤ n from c)
      rw [cat_s, List.length_append] at hmo
      refine s_has (by omega) (by omega) (fun hb => ⟨fun _ => ?_, fun c => absurd rfl c⟩) (fun hb => ⟨fun c => absurd c z01, fun _ => ?_⟩)
      · rw [nI_1]
        refine ih (a + 1) (by omega) (by omega) co ?_
        have e : gWith t f n st i x a = [] := by unfold gWith; rw [hb]; rfl
        rw [cat_s, e, List.append_nil]; exact hco
      · have e : gWith t f n st i x a = [dL t f n a i] := by unfold gWith; rw [hb]; rfl
        rw [e] at hmo
        refine s_done hT hs (s_put hco (by simp at hmo ⊢; omega) (fun co2 h => ?_))
        rw [nI_1]
        refine ih (a + 1) (by omega) (by omega) co2 ?_
        rw [cat_s, e, ← List.append_assoc]; exact h
  exact ⟨n + 1, key (n + 1) 0 (by omega) (by omega) co (by rw [show cat (gWith t f n st i x) 0 = [] from rfl, List.append_nil]; exact hco)⟩
theorem s_kept (hk : tkOk f n bg gl aq ad tk) (hT : isTA ta f n bg gl aq ad tk) (hs : ct.steps = nI t) {i : Nat} {cs0 : List (List Int32)} (c1 : (cs0 ++ cat (gKept t f n ad tk i) f).length ≤ 422) (c2 : lits (cs0 ++ cat (gKept t f n ad tk i) f) ≤ 982) {co : tCode} (hco : isCO co cs0 []) {Q : tCode → Prop} (hQ : ∀ co, isCO co (cs0 ++ cat (gKept t f n ad tk i) f) [] → Q co) : w_Code_tellKept (nI i) ta co ct Q := by
  have hn := hk.2.1
  have hf := hk.1
  unfold w_Code_tellKept
  have key : ∀ nn j, j ≤ f → f - j < nn → ∀ co, isCO co (cs0 ++ cat (gKept t f n ad tk i) j) [] → w_Code_tellKept_L2 (nI i) ta ct (fun co_1 => Q co_1) nn (nI j) co := by
    intro nn
    induction nn with
    | zero => intro j _ h; omega
    | succ nn ih =>
      intro j hj hm co hco
      rw [w_Code_tellKept_L2, hT.1]
      refine pk_le f j (fun c => hQ co (by rw [show j = f by omega] at hco; exact hco)) (fun c => ?_)
      obtain ⟨h1, h2⟩ := cap_j (g := gKept t f n ad tk i) c c1 c2
      rw [lits_app] at h2
      rw [List.length_append] at h1
      have e1 : lits (gKept t f n ad tk i j) = 2 + (cat (gWith t f n ad i j) n).length + (2 + (cat (gWith t f n tk i j) n).length) := by
        simp only [gKept, lits, List.flatten_cons, List.flatten_nil, List.length_append, List.length_cons, List.length_nil]; omega
      have e2 : (gKept t f n ad tk i j).length = 2 := rfl
      refine s_fact hT (s_put hco (by simp; omega) (fun co2 g2 => ?_))
      rw [nI_1]
      refine s_fact hT (s_put g2 (by simp; omega) (fun co3 g3 => ?_))
      refine s_with hk hT hs c (fun a ha => ⟨(hT.2.2.2.2 a ha).2.1, (hk.2.2.2.2 a ha).2.1⟩) (by simp; omega) g3 (fun co4 g4 => s_close g4 (by omega) (fun co5 g5 => ?_))
      have e3 : lits ((cs0 ++ cat (gKept t f n ad tk i) j) ++ [([] ++ [fL f j i] ++ [-fL f j (i + 1)]) ++ cat (gWith t f n ad i j) n]) = lits (cs0 ++ cat (gKept t f n ad tk i) j) + (2 + (cat (gWith t f n ad i j) n).length) := by
        rw [lits_app]; simp only [lits, List.flatten_cons, List.flatten_nil, List.length_append, List.length_cons, List.length_nil]; omega
      refine s_fact hT (s_put g5 (by rw [e3]; simp; omega) (fun co6 g6 => ?_))
      refine s_fact hT (s_put g6 (by rw [e3]; simp; omega) (fun co7 g7 => ?_))
      refine s_with hk hT hs c (fun a ha => ⟨(hT.2.2.2.2 a ha).2.2, (hk.2.2.2.2 a ha).2.2.1⟩) (by rw [e3]; simp; omega) g7 (fun co8 g8 => s_close g8 (by rw [List.length_append, List.length_singleton]; omega) (fun co9 g9 => ?_))
      rw [nI_1]
      refine ih (j + 1) (by omega) (by omega) co9 ?_
      rw [cat_s]
      have e4 : cs0 ++ (cat (gKept t f n ad tk i) j ++ gKept t f n ad tk i j) = ((cs0 ++ cat (gKept t f n ad tk i) j) ++ [([] ++ [fL f j i] ++ [-fL f j (i + 1)]) ++ cat (gWith t f n ad i j) n]) ++ [([] ++ [-fL f j i] ++ [fL f j (i + 1)]) ++ cat (gWith t f n tk i j) n] := by
        unfold gKept; simp
      rw [e4]; exact g9
  exact ⟨f + 1, key (f + 1) 0 (by omega) (by omega) co (by rw [show cat (gKept t f n ad tk i) 0 = [] from rfl, List.append_nil]; exact hco)⟩
theorem s_pairs (hk : tkOk f n bg gl aq ad tk) (hT : isTA ta f n bg gl aq ad tk) (hs : ct.steps = nI t) {i : Nat} {cs0 : List (List Int32)} (c1 : (cs0 ++ cat (fun a => cat (gPair t f n i a) (n - (a + 1))) n).length ≤ 422) (c2 : lits (cs0 ++ cat (fun a => cat (gPair t f n i a) (n - (a + 1))) n) ≤ 982) {co : tCode} (hco : isCO co cs0 []) {Q : tCode → Prop} (hQ : ∀ co, isCO co (cs0 ++ cat (fun a => cat (gPair t f n i a) (n - (a + 1))) n) [] → Q co) : w_Code_tellPairs (nI i) ta co ct Q := by
  have hn := hk.2.1
  unfold w_Code_tellPairs
  have inner : ∀ a, a < n → ∀ (cs1 : List (List Int32)), (cs1 ++ cat (gPair t f n i a) (n - (a + 1))).length ≤ 422 → lits (cs1 ++ cat (gPair t f n i a) (n - (a + 1))) ≤ 982 → ∀ K : tCode → Prop, (∀ co, isCO co (cs1 ++ cat (gPair t f n i a) (n - (a + 1))) [] → K co) →
      ∀ nn b, b ≤ n - (a + 1) → n - (a + 1) - b < nn → ∀ co, isCO co (cs1 ++ cat (gPair t f n i a) b) [] → w_Code_tellPairs_L17 (nI i) (nI a) ta ct K nn (nI (a + 1 + b)) co := by
    intro a ha cs1 d1 d2 K hK nn
    induction nn with
    | zero => intro b _ h; omega
    | succ nn ih =>
      intro b hb hm co hco
      rw [w_Code_tellPairs_L17, hT.2.1]
      refine pk_le n (a + 1 + b) (fun c => hK co (by rw [show n - (a + 1) = b by omega]; exact hco)) (fun c => ?_)
      obtain ⟨h1, h2⟩ := cap_j (g := gPair t f n i a) (show b < n - (a + 1) by omega) d1 d2
      rw [lits_app] at h2
      rw [List.length_append] at h1
      have e0 : lits (gPair t f n i a b) = 2 := rfl
      have e1 : (gPair t f n i a b).length = 1 := rfl
      refine s_done hT hs (s_put hco (by simp; omega) (fun co2 h => s_done hT hs (s_put h (by simp; omega) (fun co3 h3 => s_close h3 (by omega) (fun co4 h4 => ?_)))))
      rw [nI_1, show a + 1 + b + 1 = a + 1 + (b + 1) by omega]
      refine ih (b + 1) (by omega) (by omega) co4 ?_
      rw [cat_s, ← List.append_assoc]; exact h4
  have key : ∀ nn a, a ≤ n → n - a < nn → ∀ co, isCO co (cs0 ++ cat (fun a => cat (gPair t f n i a) (n - (a + 1))) a) [] → w_Code_tellPairs_L2 (nI i) ta ct (fun co_1 => Q co_1) nn (nI a) co := by
    intro nn
    induction nn with
    | zero => intro a _ h; omega
    | succ nn ih =>
      intro a ha hm co hco
      rw [w_Code_tellPairs_L2, hT.2.1]
      refine pk_le n a (fun c => hQ co (by rw [show a = n by omega] at hco; exact hco)) (fun c => ?_)
      obtain ⟨h1, h2⟩ := cap_j (g := fun a => cat (gPair t f n i a) (n - (a + 1))) c c1 c2
      refine ⟨n + 1, ?_⟩
      rw [nI_1]
      refine inner a c _ h1 h2 _ (fun co2 h => ?_) (n + 1) 0 (by omega) (by omega) co (by rw [show cat (gPair t f n i a) 0 = [] from rfl, List.append_nil]; exact hco)
      refine ih (a + 1) (by omega) (by omega) co2 ?_
      rw [cat_s, ← List.append_assoc]; exact h
  exact ⟨n + 1, key (n + 1) 0 (by omega) (by omega) co (by rw [show cat (fun a => cat (gPair t f n i a) (n - (a + 1))) 0 = [] from rfl, List.append_nil]; exact hco)⟩
end CODE
