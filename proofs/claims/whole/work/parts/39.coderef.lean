/-! the reference tells the code -/
def isMD (md : mCode) (w : Int32) (cs : List (List Int32)) (cur : List Int32) : Prop := md.codedClauses = nI cs.length ∧ md.codedLiterals = nI (lits cs + cur.length) ∧ md.wanted = w ∧ md.inHand = nI cur.length ∧ ∀ i, i < 2 ^ 31 → w = nI i → (∀ ci, cs[i]? = some ci → md.wantedSize = nI ci.length ∧ ∀ k x, ci[k]? = some x → md.kept k = x) ∧ (i = cs.length → ∀ k x, cur[k]? = some x → md.kept k = x)
theorem s_says {md : mCode} {w : Int32} {cs : List (List Int32)} {cur : List Int32} {x : Int32} {Q : mCode → Prop} (h : isMD md w cs cur) (c1 : cs.length ≤ 422) (c3 : cur.length < 12) (hq : ∀ md', isMD md' w cs (cur ++ [x]) → Q md') : w_Ref_says x md Q := by
  obtain ⟨h1, h2, h3, h4, h5⟩ := h
  unfold w_Ref_says
  rw [h1, h3, h4]
  refine ⟨fun c => hq _ ⟨rfl, ?_, rfl, ?_, fun i hi e => ⟨(h5 i hi e).1, fun e2 => ?_⟩⟩, fun c => ⟨vp_in_nI (by omega) (by omega), hq _ ⟨rfl, ?_, rfl, ?_, fun i hi e => ⟨fun ci hci => ?_, fun e2 k y hy => ?_⟩⟩⟩⟩
  · show md.codedLiterals + 1 = _
    rw [h2, nI_1, List.length_append]; rfl
  · show nI cur.length + 1 = _
    rw [nI_1, List.length_append]; rfl
  · exact absurd (by rw [e, e2]) c
  · show md.codedLiterals + 1 = _
    rw [h2, nI_1, List.length_append]; rfl
  · show nI cur.length + 1 = _
    rw [nI_1, List.length_append]; rfl
  · have : i = cs.length := nI_inj hi (by omega) (by rw [← e, c])
    subst this
    simp at hci
  · show upd md.kept (nI cur.length).toNatClampNeg x k = y
    rw [nI_clamp (by omega)]
    by_cases g : k < cur.length
    · rw [pk_un (by omega)]
      rw [List.getElem?_append_left g] at hy
      exact (h5 i hi e).2 e2 k y hy
    · rw [List.getElem?_append_right (by omega)] at hy
      have hl := (List.getElem?_eq_some_iff.mp hy).1
      simp at hl
      have : k = cur.length := by omega
      subst this
      rw [pk_us]
      simpa using hy
theorem s_ends {md : mCode} {w : Int32} {cs : List (List Int32)} {cur : List Int32} {Q : mCode → Prop} (h : isMD md w cs cur) (c1 : cs.length ≤ 422) (hq : ∀ md', isMD md' w (cs ++ [cur]) [] → Q md') : w_Ref_ends md Q := by
  obtain ⟨h1, h2, h3, h4, h5⟩ := h
  have e1 : lits (cs ++ [cur]) + ([] : List Int32).length = lits cs + cur.length := by rw [lits_app]; simp [lits]
  unfold w_Ref_ends
  rw [h1, h3, h4]
  refine ⟨fun c => hq _ ⟨?_, ?_, rfl, rfl, fun i hi e => ⟨fun ci hci => ?_, fun _ k y hy => by simp at hy⟩⟩, fun c => hq _ ⟨?_, ?_, rfl, rfl, fun i hi e => ⟨fun ci hci => ?_, fun _ k y hy => by simp at hy⟩⟩⟩
  · show nI cs.length + 1 = _
    rw [nI_1, List.length_append]; rfl
  · show md.codedLiterals = _
    rw [h2, e1]
  · by_cases g : i < cs.length
    · rw [List.getElem?_append_left g] at hci
      exact (h5 i hi e).1 ci hci
    · have hl := (List.getElem?_eq_some_iff.mp hci).1
      rw [List.length_append, List.length_singleton] at hl
      exact absurd (by rw [e, show i = cs.length by omega]) c
  · show nI cs.length + 1 = _
    rw [nI_1, List.length_append]; rfl
  · show md.codedLiterals = _
    rw [h2, e1]
  · have : i = cs.length := nI_inj hi (by omega) (by rw [← e, c])
    subst this
    simp at hci
    subst hci
    exact ⟨rfl, (h5 _ hi e).2 rfl⟩
theorem h_has {X x : Nat} {A B : Prop} (hX : X < 2 ^ 31) (hx : x < 31) (h0 : X.testBit x = false → B) (h1 : X.testBit x = true → A) : ((((nI X >>> (nI x &&& 31)) &&& 1) = 1 → A) ∧ (¬ ((nI X >>> (nI x &&& 31)) &&& 1) = 1 → B)) ∧ ((¬ ((nI X >>> (nI x &&& 31)) &&& 1) = 1 → B) ∧ (((nI X >>> (nI x &&& 31)) &&& 1) = 1 → A)) := by
  rw [has_v hX hx]
  cases hb : X.testBit x with
  | false => exact ⟨⟨fun c => absurd c (by decide), fun _ => h0 hb⟩, ⟨fun _ => h0 hb, fun c => absurd c (by decide)⟩⟩
  | true => exact ⟨⟨fun _ => h1 hb, fun c => absurd rfl c⟩, ⟨fun c => absurd rfl c, fun _ => h1 hb⟩⟩
section REFCODE
variable {mt : mTask} {w : Int32} {f n bg gl t : Nat} {aq ad tk : Nat → Nat}
theorem s_factM {x i : Nat} {Q : Int32 → Prop} (hT : isMT mt f n bg gl aq ad tk) (hq : Q (fL f x i)) : w_Ref_factAt (nI x) (nI i) mt Q := by
  unfold w_Ref_factAt
  rw [hT.1, show (1 : Int32) = nI 1 from rfl, pk_mul, nI_add, nI_add]
  exact hq
theorem s_actM {a i : Nat} {Q : Int32 → Prop} (hT : isMT mt f n bg gl aq ad tk) (hq : Q (dL t f n a i)) : w_Ref_actionAt (nI t) (nI a) (nI i) mt Q := by
  unfold w_Ref_actionAt
  rw [hT.1, hT.2.1, nI_1, show (1 : Int32) = nI 1 from rfl, pk_mul, pk_mul, nI_add, nI_add, nI_add]
  exact hq
theorem l_mEnd27 {x1 : Int32} (hk : tkOk f n bg gl aq ad tk) (hT : isMT mt f n bg gl aq ad tk) {K : mCode → Prop} (hK : ∀ md, isMD md w (cat (gEndA f bg) f) [] → K md) :
    ∀ nn j, j ≤ f → f - j < nn → ∀ md, isMD md w (cat (gEndA f bg) j) [] → w_Ref_codes_L27 x1 mt K nn (nI j) md := by
  have hf := hk.1
  have hp := p_f hf
  have hbg := hk.2.2.1
  obtain ⟨e1, -, -, -⟩ := ends_len (t := 0) hk
  intro nn
  induction nn with
  | zero => intro j _ h; omega
  | succ nn ih =>
    intro j hj hm md hmd
    rw [w_Ref_codes_L27, hT.1, hT.2.2.1]
    refine pk_le f j (fun c => hK md (by rw [show j = f by omega] at hmd; exact hmd)) (fun c => ?_)
    have h1 := cat_mono (gEndA f bg) (show j ≤ f from hj)
    have fin : ∀ x : Int32, gEndA f bg j = [[x]] → w_Ref_says x md (fun md_2 => w_Ref_ends md_2 (fun md_3 => w_Ref_codes_L27 x1 mt K nn (nI j + 1) md_3)) := by
      intro x hx
      refine s_says hmd (by omega) (by simp) (fun md2 h => s_ends h (by omega) (fun md3 h3 => ?_))
      rw [nI_1]
      exact ih (j + 1) (by omega) (by omega) md3 (by rw [cat_s, hx]; exact h3)
    refine (h_has (by omega) (by omega) (fun hb => ?_) (fun hb => ?_)).2
    · exact s_factM (i := 0) hT (fin _ (by unfold gEndA; rw [hb]; rfl))
    · exact s_factM (i := 0) hT (fin _ (by unfold gEndA; rw [hb]; rfl))
theorem l_mEnd79 (hk : tkOk f n bg gl aq ad tk) (hT : isMT mt f n bg gl aq ad tk) {cs0 : List (List Int32)} (c1 : (cs0 ++ cat (gEndB t f gl) f).length ≤ 422) (c2 : lits (cs0 ++ cat (gEndB t f gl) f) ≤ 982) {K : mCode → Prop} (hK : ∀ md, isMD md w (cs0 ++ cat (gEndB t f gl) f) [] → K md) :
    ∀ nn j, j ≤ f → f - j < nn → ∀ md, isMD md w (cs0 ++ cat (gEndB t f gl) j) [] → w_Ref_codes_L79 (nI t) mt K nn (nI j) md := by
  have hf := hk.1
  have hp := p_f hf
  have hgl := hk.2.2.2.1
  intro nn
  induction nn with
  | zero => intro j _ h; omega
  | succ nn ih =>
    intro j hj hm md hmd
    rw [w_Ref_codes_L79, hT.1, hT.2.2.2.1]
    refine pk_le f j (fun c => hK md (by rw [show j = f by omega] at hmd; exact hmd)) (fun c => ?_)
    obtain ⟨h1, h2⟩ := cap_j (g := gEndB t f gl) c c1 c2
    rw [List.length_append] at h1
    refine (h_has (by omega) (by omega) (fun hb => ?_) (fun hb => ?_)).2
    · rw [nI_1]
      refine ih (j + 1) (by omega) (by omega) md ?_
      have e : gEndB t f gl j = [] := by unfold gEndB; rw [hb]; rfl
      rw [cat_s, e, List.append_nil]; exact hmd
    · have e : gEndB t f gl j = [[fL f j t]] := by unfold gEndB; rw [hb]; rfl
      refine s_factM hT (s_says hmd (by omega) (by simp) (fun md2 h => s_ends h (by omega) (fun md3 h3 => ?_)))
      rw [nI_1]
      refine ih (j + 1) (by omega) (by omega) md3 ?_
      rw [cat_s, e, ← List.append_assoc]; exact h3
theorem l_mAsk13 (hk : tkOk f n bg gl aq ad tk) (hT : isMT mt f n bg gl aq ad tk) {i a : Nat} (ha : a < n) {cs0 : List (List Int32)} (c1 : (cs0 ++ cat (gAsk t f n aq i a) f).length ≤ 422) (c2 : lits (cs0 ++ cat (gAsk t f n aq i a) f) ≤ 982) {K : mCode → Prop} (hK : ∀ md, isMD md w (cs0 ++ cat (gAsk t f n aq i a) f) [] → K md) :
    ∀ nn j, j ≤ f → f - j < nn → ∀ md, isMD md w (cs0 ++ cat (gAsk t f n aq i a) j) [] → w_Ref_codesStep_L13 (nI t) (nI i) (nI a) mt K nn (nI j) md := by
  have hf := hk.1
  have hn := hk.2.1
  have hp := p_f hf
  have hx := (hk.2.2.2.2 a ha).1
  have hxt := (hT.2.2.2.2 a ha).1
  intro nn
  induction nn with
  | zero => intro j _ h; omega
  | succ nn ih =>
    intro j hj hm md hmd
    rw [w_Ref_codesStep_L13, hT.1]
    refine pk_le f j (fun c => hK md (by rw [show j = f by omega] at hmd; exact hmd)) (fun c => ⟨vp_in_nI (by omega) (by omega), ?_⟩)
    rw [nI_clamp (by omega), hxt]
    obtain ⟨h1, h2⟩ := cap_j (g := gAsk t f n aq i a) c c1 c2
    rw [List.length_append] at h1
    refine (h_has (by omega) (by omega) (fun hb => ?_) (fun hb => ?_)).2
    · rw [nI_1]
      refine ih (j + 1) (by omega) (by omega) md ?_
      have e : gAsk t f n aq i a j = [] := by unfold gAsk; rw [hb]; rfl
      rw [cat_s, e, List.append_nil]; exact hmd
    · have e : gAsk t f n aq i a j = [[-dL t f n a i, fL f j i]] := by unfold gAsk; rw [hb]; rfl
      refine s_actM hT (s_says hmd (by omega) (by simp) (fun md2 h => s_factM hT (s_says h (by omega) (by simp) (fun md3 h3 => s_ends h3 (by omega) (fun md4 h4 => ?_)))))
      rw [nI_1]
      refine ih (j + 1) (by omega) (by omega) md4 ?_
      rw [cat_s, e, ← List.append_assoc]; exact h4
theorem l_mAsk (hk : tkOk f n bg gl aq ad tk) (hT : isMT mt f n bg gl aq ad tk) {i : Nat} {cs0 : List (List Int32)} (c1 : (cs0 ++ cat (fun a => cat (gAsk t f n aq i a) f) n).length ≤ 422) (c2 : lits (cs0 ++ cat (fun a => cat (gAsk t f n aq i a) f) n) ≤ 982) {K : mCode → Prop} (hQ : ∀ md, isMD md w (cs0 ++ cat (fun a => cat (gAsk t f n aq i a) f) n) [] → K md) :
    ∀ nn a, a ≤ n → n - a < nn → ∀ md, isMD md w (cs0 ++ cat (fun a => cat (gAsk t f n aq i a) f) a) [] → w_Ref_codesStep_L2 (nI t) (nI i) mt K nn (nI a) md := by
  have hn := hk.2.1
  intro nn
  induction nn with
  | zero => intro a _ h; omega
  | succ nn ih =>
    intro a ha hm md hmd
    rw [w_Ref_codesStep_L2, hT.2.1]
    refine pk_le n a (fun c => hQ md (by rw [show a = n by omega] at hmd; exact hmd)) (fun c => ?_)
    obtain ⟨h1, h2⟩ := cap_j (g := fun a => cat (gAsk t f n aq i a) f) c c1 c2
    refine ⟨f + 1, l_mAsk13 hk hT c h1 h2 (fun md2 h => ?_) (f + 1) 0 (by omega) (by omega) md (by rw [show cat (gAsk t f n aq i a) 0 = [] from rfl, List.append_nil]; exact hmd)⟩
    rw [nI_1]
    refine ih (a + 1) (by omega) (by omega) md2 ?_
    rw [cat_s, ← List.append_assoc]; exact h
theorem l_mChg13 (hk : tkOk f n bg gl aq ad tk) (hT : isMT mt f n bg gl aq ad tk) {i a : Nat} (ha : a < n) {cs0 : List (List Int32)} (c1 : (cs0 ++ cat (gChg t f n ad tk i a) f).length ≤ 422) (c2 : lits (cs0 ++ cat (gChg t f n ad tk i a) f) ≤ 982) {K : mCode → Prop} (hK : ∀ md, isMD md w (cs0 ++ cat (gChg t f n ad tk i a) f) [] → K md) :
    ∀ nn j, j ≤ f → f - j < nn → ∀ md, isMD md w (cs0 ++ cat (gChg t f n ad tk i a) j) [] → w_Ref_codesEffects_L13 (nI t) (nI i) (nI a) mt K nn (nI j) md := by
  have hf := hk.1
  have hn := hk.2.1
  have hp := p_f hf
  have hx := (hk.2.2.2.2 a ha).2.1
  have hy := (hk.2.2.2.2 a ha).2.2.1
  have hxt := (hT.2.2.2.2 a ha).2.1
  have hyt := (hT.2.2.2.2 a ha).2.2
  intro nn
  induction nn with
  | zero => intro j _ h; omega
  | succ nn ih =>
    intro j hj hm md hmd
    rw [w_Ref_codesEffects_L13, hT.1]
    refine pk_le f j (fun c => hK md (by rw [show j = f by omega] at hmd; exact hmd)) (fun c => ⟨vp_in_nI (by omega) (by omega), ?_⟩)
    rw [nI_clamp (by omega), hxt, hyt]
    obtain ⟨h1, h2⟩ := cap_j (g := gChg t f n ad tk i a) c c1 c2
    rw [List.length_append] at h1
    have fin : ∀ x : Int32, gChg t f n ad tk i a j = [[-dL t f n a i, x]] → ∀ md2, isMD md2 w (cs0 ++ cat (gChg t f n ad tk i a) j) ([] ++ [-dL t f n a i]) → w_Ref_says x md2 (fun md_4 => w_Ref_ends md_4 (fun md_5 => w_Ref_codesEffects_L13 (nI t) (nI i) (nI a) mt K nn (nI j + 1) md_5)) := by
      intro x e md2 h
      refine s_says h (by omega) (by simp) (fun md3 h3 => s_ends h3 (by omega) (fun md4 h4 => ?_))
      rw [nI_1]
      refine ih (j + 1) (by omega) (by omega) md4 ?_
      rw [cat_s, e, ← List.append_assoc]; exact h4
    have hin : vp_in (nI a) 5 := vp_in_nI (by omega) (by omega)
    refine (h_has (by omega) (by omega) (fun hb => ?_) (fun hb => ?_)).1
    · refine ⟨hin, ?_⟩
      refine (h_has (by omega) (by omega) (fun hb2 => ?_) (fun hb2 => ?_)).2
      · rw [nI_1]
        refine ih (j + 1) (by omega) (by omega) md ?_
        have e : gChg t f n ad tk i a j = [] := by unfold gChg; rw [hb, hb2]; rfl
        rw [cat_s, e, List.append_nil]; exact hmd
      · have e : gChg t f n ad tk i a j = [[-dL t f n a i, -fL f j (i + 1)]] := by unfold gChg; rw [hb, hb2]; rfl
        refine s_actM hT (s_says hmd (by omega) (by simp) (fun md2 h => ?_))
        refine ⟨hin, ?_⟩
        refine (h_has (by omega) (by omega) (fun _ => ?_) (fun hb3 => ?_)).2
        · rw [nI_1]
          exact s_factM hT (fin _ e md2 h)
        · rw [hb] at hb3; cases hb3
    · have e : gChg t f n ad tk i a j = [[-dL t f n a i, fL f j (i + 1)]] := by unfold gChg; rw [hb]; rfl
      refine s_actM hT (s_says hmd (by omega) (by simp) (fun md2 h => ?_))
      refine ⟨hin, ?_⟩
      refine (h_has (by omega) (by omega) (fun hb3 => ?_) (fun _ => ?_)).2
      · rw [hb] at hb3; cases hb3
      · rw [nI_1]
        exact s_factM hT (fin _ e md2 h)
theorem s_mChg (hk : tkOk f n bg gl aq ad tk) (hT : isMT mt f n bg gl aq ad tk) {i : Nat} {cs0 : List (List Int32)} (c1 : (cs0 ++ cat (fun a => cat (gChg t f n ad tk i a) f) n).length ≤ 422) (c2 : lits (cs0 ++ cat (fun a => cat (gChg t f n ad tk i a) f) n) ≤ 982) {md : mCode} (hmd : isMD md w cs0 []) {Q : mCode → Prop} (hQ : ∀ md, isMD md w (cs0 ++ cat (fun a => cat (gChg t f n ad tk i a) f) n) [] → Q md) : w_Ref_codesEffects (nI t) (nI i) mt md Q := by
  have hn := hk.2.1
  unfold w_Ref_codesEffects
  have key : ∀ nn a, a ≤ n → n - a < nn → ∀ md, isMD md w (cs0 ++ cat (fun a => cat (gChg t f n ad tk i a) f) a) [] → w_Ref_codesEffects_L2 (nI t) (nI i) mt (fun md_1 => Q md_1) nn (nI a) md := by
    intro nn
    induction nn with
    | zero => intro a _ h; omega
    | succ nn ih =>
      intro a ha hm md hmd
      rw [w_Ref_codesEffects_L2, hT.2.1]
      refine pk_le n a (fun c => hQ md (by rw [show a = n by omega] at hmd; exact hmd)) (fun c => ?_)
      obtain ⟨h1, h2⟩ := cap_j (g := fun a => cat (gChg t f n ad tk i a) f) c c1 c2
      refine ⟨f + 1, l_mChg13 hk hT c h1 h2 (fun md2 h => ?_) (f + 1) 0 (by omega) (by omega) md (by rw [show cat (gChg t f n ad tk i a) 0 = [] from rfl, List.append_nil]; exact hmd)⟩
      rw [nI_1]
      refine ih (a + 1) (by omega) (by omega) md2 ?_
      rw [cat_s, ← List.append_assoc]; exact h
  exact ⟨n + 1, key (n + 1) 0 (by omega) (by omega) md (by rw [show cat (fun a => cat (gChg t f n ad tk i a) f) 0 = [] from rfl, List.append_nil]; exact hmd)⟩
theorem cw_le {st : Nat → Nat} {i x : Nat} : ∀ a, (cat (gWith t f n st i x) a).length ≤ a
  | 0 => by simp [cat]
  | a + 1 => by
    have := cw_le (st := st) (i := i) (x := x) a
    have h : (gWith t f n st i x a).length ≤ 1 := by unfold gWith; split <;> simp
    rw [cat_s, List.length_append]; omega
theorem l_mW36 (hk : tkOk f n bg gl aq ad tk) (hT : isMT mt f n bg gl aq ad tk) {i x : Nat} (hx : x < f) {cs : List (List Int32)} {cur : List Int32} (c1 : cs.length ≤ 422) (hc : cur.length ≤ 2) {K : mCode → Prop} (hK : ∀ md, isMD md w cs (cur ++ cat (gWith t f n ad i x) n) → K md) :
    ∀ nn a, a ≤ n → n - a < nn → ∀ md, isMD md w cs (cur ++ cat (gWith t f n ad i x) a) → w_Ref_codesFrames_L36 (nI t) (nI i) (nI x) mt K nn (nI a) md := by
  have hn := hk.2.1
  have hf := hk.1
  have hp := p_f hf
  intro nn
  induction nn with
  | zero => intro a _ h; omega
  | succ nn ih =>
    intro a ha hm md hmd
    rw [w_Ref_codesFrames_L36, hT.2.1]
    refine pk_le n a (fun c => hK md (by rw [show a = n by omega] at hmd; exact hmd)) (fun c => ⟨vp_in_nI (by omega) (by omega), ?_⟩)
    rw [nI_clamp (by omega), (hT.2.2.2.2 a c).2.1]
    have hl := (hk.2.2.2.2 a c).2.1
    have hw := cw_le (t := t) (f := f) (n := n) (st := ad) (i := i) (x := x) a
    refine (h_has (by omega) (by omega) (fun hb => ?_) (fun hb => ?_)).2
    · rw [nI_1]
      refine ih (a + 1) (by omega) (by omega) md ?_
      have e : gWith t f n ad i x a = [] := by unfold gWith; rw [hb]; rfl
      rw [cat_s, e, List.append_nil]; exact hmd
    · have e : gWith t f n ad i x a = [dL t f n a i] := by unfold gWith; rw [hb]; rfl
      refine s_actM hT (s_says hmd c1 (by rw [List.length_append]; omega) (fun md2 h => ?_))
      rw [nI_1]
      refine ih (a + 1) (by omega) (by omega) md2 ?_
      rw [cat_s, e, ← List.append_assoc]; exact h
theorem l_mW108 (hk : tkOk f n bg gl aq ad tk) (hT : isMT mt f n bg gl aq ad tk) {i x : Nat} (hx : x < f) {cs : List (List Int32)} {cur : List Int32} (c1 : cs.length ≤ 422) (hc : cur.length ≤ 2) {K : mCode → Prop} (hK : ∀ md, isMD md w cs (cur ++ cat (gWith t f n tk i x) n) → K md) :
    ∀ nn a, a ≤ n → n - a < nn → ∀ md, isMD md w cs (cur ++ cat (gWith t f n tk i x) a) → w_Ref_codesFrames_L108 (nI t) (nI i) (nI x) mt K nn (nI a) md := by
  have hn := hk.2.1
  have hf := hk.1
  have hp := p_f hf
  intro nn
  induction nn with
  | zero => intro a _ h; omega
  | succ nn ih =>
    intro a ha hm md hmd
    rw [w_Ref_codesFrames_L108, hT.2.1]
    refine pk_le n a (fun c => hK md (by rw [show a = n by omega] at hmd; exact hmd)) (fun c => ⟨vp_in_nI (by omega) (by omega), ?_⟩)
    rw [nI_clamp (by omega), (hT.2.2.2.2 a c).2.2]
    have hl := (hk.2.2.2.2 a c).2.2.1
    have hw := cw_le (t := t) (f := f) (n := n) (st := tk) (i := i) (x := x) a
    refine (h_has (by omega) (by omega) (fun hb => ?_) (fun hb => ?_)).2
    · rw [nI_1]
      refine ih (a + 1) (by omega) (by omega) md ?_
      have e : gWith t f n tk i x a = [] := by unfold gWith; rw [hb]; rfl
      rw [cat_s, e, List.append_nil]; exact hmd
    · have e : gWith t f n tk i x a = [dL t f n a i] := by unfold gWith; rw [hb]; rfl
      refine s_actM hT (s_says hmd c1 (by rw [List.length_append]; omega) (fun md2 h => ?_))
      rw [nI_1]
      refine ih (a + 1) (by omega) (by omega) md2 ?_
      rw [cat_s, e, ← List.append_assoc]; exact h
theorem s_mKept (hk : tkOk f n bg gl aq ad tk) (hT : isMT mt f n bg gl aq ad tk) {i : Nat} {cs0 : List (List Int32)} (c1 : (cs0 ++ cat (gKept t f n ad tk i) f).length ≤ 422) (c2 : lits (cs0 ++ cat (gKept t f n ad tk i) f) ≤ 982) {md : mCode} (hmd : isMD md w cs0 []) {Q : mCode → Prop} (hQ : ∀ md, isMD md w (cs0 ++ cat (gKept t f n ad tk i) f) [] → Q md) : w_Ref_codesFrames (nI t) (nI i) mt md Q := by
  have hn := hk.2.1
  have hf := hk.1
  unfold w_Ref_codesFrames
  have key : ∀ nn j, j ≤ f → f - j < nn → ∀ md, isMD md w (cs0 ++ cat (gKept t f n ad tk i) j) [] → w_Ref_codesFrames_L2 (nI t) (nI i) mt (fun md_1 => Q md_1) nn (nI j) md := by
    intro nn
    induction nn with
    | zero => intro j _ h; omega
    | succ nn ih =>
      intro j hj hm md hmd
      rw [w_Ref_codesFrames_L2, hT.1]
      refine pk_le f j (fun c => hQ md (by rw [show j = f by omega] at hmd; exact hmd)) (fun c => ?_)
      obtain ⟨h1, h2⟩ := cap_j (g := gKept t f n ad tk i) c c1 c2
      rw [List.length_append] at h1
      have e2 : (gKept t f n ad tk i j).length = 2 := rfl
      refine s_factM hT (s_says hmd (by omega) (by simp) (fun md2 g2 => ?_))
      rw [nI_1]
      refine s_factM hT (s_says g2 (by omega) (by simp) (fun md3 g3 => ?_))
      refine ⟨n + 1, l_mW36 (cs := cs0 ++ cat (gKept t f n ad tk i) j) (cur := [] ++ [fL f j i] ++ [-fL f j (i + 1)]) hk hT c (by omega) (by simp) (fun md4 g4 => s_ends g4 (by omega) (fun md5 g5 => ?_)) (n + 1) 0 (by omega) (by omega) md3 (by rw [show cat (gWith t f n ad i j) 0 = [] from rfl, List.append_nil]; exact g3)⟩
      have l1 : ((cs0 ++ cat (gKept t f n ad tk i) j) ++ [([] ++ [fL f j i] ++ [-fL f j (i + 1)]) ++ cat (gWith t f n ad i j) n]).length ≤ 422 := by rw [List.length_append, List.length_singleton]; omega
      refine s_factM hT (s_says g5 l1 (by simp) (fun md6 g6 => ?_))
      refine s_factM hT (s_says g6 l1 (by simp) (fun md7 g7 => ?_))
      refine ⟨n + 1, l_mW108 (cur := [] ++ [-fL f j i] ++ [fL f j (i + 1)]) hk hT c l1 (by simp) (fun md8 g8 => s_ends g8 l1 (fun md9 g9 => ?_)) (n + 1) 0 (by omega) (by omega) md7 (by rw [show cat (gWith t f n tk i j) 0 = [] from rfl, List.append_nil]; exact g7)⟩
      rw [nI_1]
      refine ih (j + 1) (by omega) (by omega) md9 ?_
      rw [cat_s]
      have e4 : cs0 ++ (cat (gKept t f n ad tk i) j ++ gKept t f n ad tk i j) = ((cs0 ++ cat (gKept t f n ad tk i) j) ++ [([] ++ [fL f j i] ++ [-fL f j (i + 1)]) ++ cat (gWith t f n ad i j) n]) ++ [([] ++ [-fL f j i] ++ [fL f j (i + 1)]) ++ cat (gWith t f n tk i j) n] := by
        unfold gKept; simp
      rw [e4]; exact g9
  exact ⟨f + 1, key (f + 1) 0 (by omega) (by omega) md (by rw [show cat (gKept t f n ad tk i) 0 = [] from rfl, List.append_nil]; exact hmd)⟩
theorem l_mPair (hk : tkOk f n bg gl aq ad tk) (hT : isMT mt f n bg gl aq ad tk) {i : Nat} {cs0 : List (List Int32)} (c1 : (cs0 ++ cat (fun a => cat (gPair t f n i a) (n - (a + 1))) n).length ≤ 422) (c2 : lits (cs0 ++ cat (fun a => cat (gPair t f n i a) (n - (a + 1))) n) ≤ 982) {Q : mCode → Prop} (hQ : ∀ md, isMD md w (cs0 ++ cat (fun a => cat (gPair t f n i a) (n - (a + 1))) n) [] → Q md) :
    ∀ nn a, a ≤ n → n - a < nn → ∀ md, isMD md w (cs0 ++ cat (fun a => cat (gPair t f n i a) (n - (a + 1))) a) [] → w_Ref_codesStep_L90 (nI t) (nI i) mt (fun md_1 => Q md_1) nn (nI a) md := by
  have hn := hk.2.1
  have inner : ∀ a, a < n → ∀ (cs1 : List (List Int32)), (cs1 ++ cat (gPair t f n i a) (n - (a + 1))).length ≤ 422 → lits (cs1 ++ cat (gPair t f n i a) (n - (a + 1))) ≤ 982 → ∀ K : mCode → Prop, (∀ md, isMD md w (cs1 ++ cat (gPair t f n i a) (n - (a + 1))) [] → K md) →
      ∀ nn b, b ≤ n - (a + 1) → n - (a + 1) - b < nn → ∀ md, isMD md w (cs1 ++ cat (gPair t f n i a) b) [] → w_Ref_codesStep_L103 (nI t) (nI i) (nI a) mt K nn (nI (a + 1 + b)) md := by
    intro a ha cs1 d1 d2 K hK nn
    induction nn with
    | zero => intro b _ h; omega
    | succ nn ih =>
      intro b hb hm md hmd
      rw [w_Ref_codesStep_L103, hT.2.1]
      refine pk_le n (a + 1 + b) (fun c => hK md (by rw [show n - (a + 1) = b by omega]; exact hmd)) (fun c => ?_)
      obtain ⟨h1, h2⟩ := cap_j (g := gPair t f n i a) (show b < n - (a + 1) by omega) d1 d2
      rw [List.length_append] at h1
      refine s_actM hT (s_says hmd (by omega) (by simp) (fun md2 h => s_actM hT (s_says h (by omega) (by simp) (fun md3 h3 => s_ends h3 (by omega) (fun md4 h4 => ?_)))))
      rw [nI_1, show a + 1 + b + 1 = a + 1 + (b + 1) by omega]
      refine ih (b + 1) (by omega) (by omega) md4 ?_
      rw [cat_s, ← List.append_assoc]; exact h4
  intro nn
  induction nn with
  | zero => intro a _ h; omega
  | succ nn ih =>
    intro a ha hm md hmd
    rw [w_Ref_codesStep_L90, hT.2.1]
    refine pk_le n a (fun c => hQ md (by rw [show a = n by omega] at hmd; exact hmd)) (fun c => ?_)
    obtain ⟨h1, h2⟩ := cap_j (g := fun a => cat (gPair t f n i a) (n - (a + 1))) c c1 c2
    refine ⟨n + 1, ?_⟩
    rw [nI_1]
    refine inner a c _ h1 h2 _ (fun md2 h => ?_) (n + 1) 0 (by omega) (by omega) md (by rw [show cat (gPair t f n i a) 0 = [] from rfl, List.append_nil]; exact hmd)
    refine ih (a + 1) (by omega) (by omega) md2 ?_
    rw [cat_s, ← List.append_assoc]; exact h
theorem s_mStep (hk : tkOk f n bg gl aq ad tk) (hT : isMT mt f n bg gl aq ad tk) {i : Nat} {cs0 : List (List Int32)} (c1 : (cs0 ++ gStep t f n aq ad tk i).length ≤ 422) (c2 : lits (cs0 ++ gStep t f n aq ad tk i) ≤ 982) {md : mCode} (hmd : isMD md w cs0 []) {Q : mCode → Prop} (hQ : ∀ md, isMD md w (cs0 ++ gStep t f n aq ad tk i) [] → Q md) : w_Ref_codesStep (nI t) (nI i) mt md Q := by
  unfold gStep at c1 c2 hQ
  rw [← List.append_assoc, ← List.append_assoc, ← List.append_assoc] at c1 c2
  have q1 := cap_l ⟨c1, c2⟩
  have q2 := cap_l q1
  have q3 := cap_l q2
  unfold w_Ref_codesStep
  refine ⟨n + 1, l_mAsk hk hT q3.1 q3.2 (fun md1 h1 => s_mChg hk hT q2.1 q2.2 h1 (fun md2 h2 => s_mKept hk hT q1.1 q1.2 h2 (fun md3 h3 => ?_))) (n + 1) 0 (by omega) (by omega) md (by rw [show cat (fun a => cat (gAsk t f n aq i a) f) 0 = [] from rfl, List.append_nil]; exact hmd)⟩
  refine ⟨n + 1, l_mPair hk hT c1 c2 (fun md4 h4 => hQ md4 ?_) (n + 1) 0 (by omega) (by omega) md3 (by rw [show cat (fun a => cat (gPair t f n i a) (n - (a + 1))) 0 = [] from rfl, List.append_nil]; exact h3)⟩
  rw [← List.append_assoc, ← List.append_assoc, ← List.append_assoc]; exact h4
theorem s_codes (hk : tkOk f n bg gl aq ad tk) (hT : isMT mt f n bg gl aq ad tk) (ht : t ≤ 5) {md : mCode} {Q : mCode → Prop} (hQ : ∀ md, isMD md w (codeOf t f n bg gl aq ad tk) [] → Q md) : w_Ref_codes (nI t) w mt md Q := by
  have hc := code_len (t := t) hk ht
  unfold codeOf at hc hQ
  rw [← List.append_assoc] at hc
  have q1 := cap_l hc
  unfold w_Ref_codes
  have hmd : isMD (mCode.mk 0 0 w 0 md.kept 0) w (cat (gEndA f bg) 0) [] := ⟨rfl, rfl, rfl, rfl, fun i hi e => ⟨fun ci h => by simp [cat] at h, fun _ k x h => by simp at h⟩⟩
  refine ⟨f + 1, l_mEnd27 hk hT (fun md1 h1 => ?_) (f + 1) 0 (by omega) (by omega) _ hmd⟩
  refine ⟨f + 1, l_mEnd79 hk hT q1.1 q1.2 (fun md2 h2 => ?_) (f + 1) 0 (by omega) (by omega) md1 (by rw [show cat (gEndB t f gl) 0 = [] from rfl, List.append_nil]; exact h1)⟩
  have key : ∀ nn i, i ≤ t → t - i < nn → ∀ md, isMD md w ((cat (gEndA f bg) f ++ cat (gEndB t f gl) f) ++ cat (gStep t f n aq ad tk) i) [] → w_Ref_codes_L121 (nI t) mt (fun md_3 => Q md_3) nn (nI i) md := by
    intro nn
    induction nn with
    | zero => intro i _ h; omega
    | succ nn ih =>
      intro i hi hm md hmd
      rw [w_Ref_codes_L121]
      refine pk_le t i (fun c => hQ md (by rw [show i = t by omega] at hmd; rw [← List.append_assoc]; exact hmd)) (fun c => ?_)
      obtain ⟨g1, g2⟩ := cap_j (g := gStep t f n aq ad tk) c hc.1 hc.2
      refine s_mStep hk hT g1 g2 hmd (fun md3 h3 => ?_)
      rw [nI_1]
      refine ih (i + 1) (by omega) (by omega) md3 ?_
      rw [cat_s, ← List.append_assoc]; exact h3
  exact ⟨t + 1, key (t + 1) 0 (by omega) (by omega) md2 (by rw [show cat (gStep t f n aq ad tk) 0 = [] from rfl, List.append_nil]; exact h2)⟩
theorem code_small (hk : tkOk f n bg gl aq ad tk) {ci : List Int32} (h : ci ∈ codeOf t f n bg gl aq ad tk) : ci.length ≤ 7 := by
  have hn := hk.2.1
  have up : ∀ {g : Nat → List (List Int32)} {m : Nat}, (∀ j, ∀ c ∈ g j, c.length ≤ 7) → ∀ c ∈ cat g m, c.length ≤ 7 := by
    intro g m hg
    induction m with
    | zero => intro c h; simp [cat] at h
    | succ m ih =>
      intro c h
      rw [cat_s] at h
      rcases List.mem_append.mp h with h | h
      · exact ih c h
      · exact hg m c h
  unfold codeOf at h
  rcases List.mem_append.mp h with h | h
  · exact up (fun j c h => by unfold gEndA at h; simp at h; subst h; simp) ci h
  rcases List.mem_append.mp h with h | h
  · exact up (fun j c h => by unfold gEndB at h; split at h <;> simp at h; subst h; simp) ci h
  · refine up (fun i c h => ?_) ci h
    unfold gStep at h
    rcases List.mem_append.mp h with h | h
    · exact up (fun a c h => up (fun j c h => by unfold gAsk at h; split at h <;> simp at h; subst h; simp) c h) c h
    rcases List.mem_append.mp h with h | h
    · exact up (fun a c h => up (fun j c h => by unfold gChg at h; split at h <;> (try split at h) <;> simp at h <;> subst h <;> simp) c h) c h
    rcases List.mem_append.mp h with h | h
    · refine up (fun j c h => ?_) c h
      have w1 := cw_le (t := t) (f := f) (n := n) (st := ad) (i := i) (x := j) n
      have w2 := cw_le (t := t) (f := f) (n := n) (st := tk) (i := i) (x := j) n
      unfold gKept at h
      simp at h
      rcases h with h | h <;> subst h <;> simp <;> omega
    · exact up (fun a c h => up (fun j c h => by unfold gPair at h; simp at h; subst h; simp) c h) c h
theorem s_Ref_code (hk : tkOk f n bg gl aq ad tk) (hT : isMT mt f n bg gl aq ad tk) {md : mCode} {x y : Int32} {Q : Int32 → mCode → Prop} (hq : ∀ md', Q (codeV f n bg gl aq ad tk x y) md') : w_Ref_code x y mt md Q := by
  unfold w_Ref_code
  unfold codeV at hq
  refine s_isLenM (fun e => ?_) (fun t ht ex e => ?_)
  · rw [e] at hq
    exact ⟨fun _ => hq md, fun c => absurd rfl c⟩
  · rw [e] at hq
    dsimp only at hq
    refine ⟨fun c => absurd c z01, fun _ => ?_⟩
    subst ex
    refine s_inM (m := 3) (by omega) rfl (fun ey => ?_) (fun v hv ey h => ?_)
    · rw [ey] at hq
      exact ⟨fun c => absurd rfl c, fun _ => hq md⟩
    · rw [h] at hq
      dsimp only at hq
      refine ⟨fun _ => ?_, fun c => absurd c z01⟩
      subst ey
      refine s_codes hk hT ht (fun md' h1 => ?_)
      have hQ := hq md'
      refine (pk_eq v 0 (fun c => ?_) (fun c => (pk_eq v 1 (fun c2 => ?_) (fun c2 => ?_) (hx := rfl) (hy := rfl)).symm) (hx := rfl) (hy := rfl)).symm
      · rw [hT.1, hT.2.1, nI_1, pk_mul, pk_mul, nI_add]
        rwa [if_pos c] at hQ
      · rw [if_neg c, if_pos c2] at hQ
        rw [h1.1]; exact hQ
      · rw [if_neg c, if_neg c2] at hQ
        rw [h1.2.1]; exact hQ
theorem s_Ref_coded (hk : tkOk f n bg gl aq ad tk) (hT : isMT mt f n bg gl aq ad tk) {md : mCode} {x y z : Int32} {Q : Int32 → mCode → Prop} (hq : ∀ md', Q (codedV f n bg gl aq ad tk x y z) md') : w_Ref_coded x y z mt md Q := by
  unfold w_Ref_coded
  unfold codedV at hq
  refine s_isLenM (fun e => ?_) (fun t ht ex e => ?_)
  · rw [e] at hq
    exact ⟨fun _ => hq md, fun c => absurd rfl c⟩
  · rw [e] at hq
    dsimp only at hq
    refine ⟨fun c => absurd c z01, fun _ => ?_⟩
    subst ex
    have hcl := code_len (t := t) hk ht
    by_cases hz : z.toInt < 0
    · simp only [if_pos hz] at hq
      refine ⟨fun _ => hq md, fun c => ⟨fun c2 => ?_, fun _ => hq md⟩⟩
      have g2 : 0 ≤ z.toInt := ti_le.mp c2
      omega
    · simp only [if_neg hz] at hq
      rcases inR_cases y (m := (codeOf t f n bg gl aq ad tk).length) (by omega) with ⟨ey, h⟩ | ⟨i, hi, ey, h⟩
      · rw [ey] at hq
        dsimp only at hq
        refine ⟨fun _ => hq md, fun c => ⟨fun c2 => ?_, fun _ => hq md⟩⟩
        refine s_codes hk hT ht (fun md' h1 => ⟨fun c3 => ?_, fun _ => hq md'⟩)
        rcases h with h | h
        · exact absurd h c
        · rw [h1.1] at c3; rw [ti_le] at h; rw [ti_lt] at c3; omega
      · rw [h] at hq
        dsimp only at hq
        subst ey
        refine ⟨fun c => absurd c (nI_pos (by omega)), fun _ => ⟨fun _ => ?_, fun c => absurd ((ti_le (a := 0) (b := z)).mpr (show (0 : Int) ≤ z.toInt by omega)) c⟩⟩
        refine s_codes hk hT ht (fun md' h1 => ?_)
        have hx := List.getElem?_eq_getElem hi
        have hg : (codeOf t f n bg gl aq ad tk).getD i [] = (codeOf t f n bg gl aq ad tk)[i] := by rw [List.getD_eq_getElem?_getD, hx]; rfl
        have hQ := hq md'
        rw [hg] at hQ
        have h7 := code_small hk (List.getElem_mem hi)
        obtain ⟨hw, hkp⟩ := (h1.2.2.2.2 i (by omega) rfl).1 _ hx
        rw [h1.1, hw]
        refine pk_lt i (codeOf t f n bg gl aq ad tk).length (fun _ => ?_) (fun c => by omega)
        generalize (codeOf t f n bg gl aq ad tk)[i] = ci at *
        rcases inR_cases z (m := ci.length) (by omega) with ⟨ez, hz2⟩ | ⟨k, hk2, ez, hz2⟩
        · rw [ez] at hQ
          dsimp only at hQ
          refine ⟨fun _ => hQ, fun c => ?_⟩
          rcases hz2 with g | g
          · exact absurd (ti_lt.mp g) hz
          · exact absurd g c
        · rw [hz2] at hQ
          dsimp only at hQ
          subst ez
          refine pk_le ci.length k (fun c => by omega) (fun _ => ⟨vp_in_nI (by omega) (by omega), ?_⟩)
          have hc2 := List.getElem?_eq_getElem hk2
          rw [nI_clamp (by omega), hkp k _ hc2]
          rw [List.getD_eq_getElem?_getD, hc2] at hQ
          exact hQ
end REFCODE
