/-! clauses: variables, the draft, what is told -/
def mT (c : List Int32) : Int32 := c.foldl (fun m x => if x ≤ 0 then m else m ||| ((1 : Int32) <<< ((x - 1) &&& 31))) 0
def mF (c : List Int32) : Int32 := c.foldl (fun m x => if x ≤ 0 then m ||| ((1 : Int32) <<< ((-x - 1) &&& 31)) else m) 0
theorem mT_snoc (c : List Int32) (x : Int32) : mT (c ++ [x]) = if x ≤ 0 then mT c else mT c ||| ((1 : Int32) <<< ((x - 1) &&& 31)) := by unfold mT; rw [List.foldl_append]; rfl
theorem mF_snoc (c : List Int32) (x : Int32) : mF (c ++ [x]) = if x ≤ 0 then mF c ||| ((1 : Int32) <<< ((-x - 1) &&& 31)) else mF c := by unfold mF; rw [List.foldl_append]; rfl
theorem take_snoc {c : List Int32} {k : Nat} {x : Int32} (h : c[k]? = some x) : c.take (k + 1) = c.take k ++ [x] := by rw [List.take_succ, h]; rfl
/-- a row of literals over w variables -/
def okL (w : Nat) (c : List Int32) : Prop := c.length ≤ 6 ∧ (∀ x ∈ c, x ≠ 0 ∧ -(w : Int) ≤ x.toInt ∧ x.toInt ≤ w) ∧ c.Pairwise (fun x y => x.toInt.natAbs ≠ y.toInt.natAbs)
def okF (w : Nat) (dr : List Int32) (cs : List (List Int32)) : Prop := w ≤ 30 ∧ okL w dr ∧ cs.length ≤ 400 ∧ ∀ c ∈ cs, okL w c
def isFO (fo : tForm) (fr : tRows) (w : Nat) (dr : List Int32) (cs : List (List Int32)) : Prop := fo.width = nI w ∧ fo.draftSize = nI dr.length ∧ (∀ k x, dr[k]? = some x → fo.draft k = x) ∧ fr.size = nI cs.length ∧ fr.room = 400 ∧ ∀ i c, cs[i]? = some c → fo.sizes i = nI c.length ∧ (∀ k x, c[k]? = some x → fo.literals (6 * i + k) = x) ∧ fr.wantTrue i = mT c ∧ fr.wantFalse i = mF c
def isMF (ma : mForm) (w : Nat) (dr : List Int32) (cs : List (List Int32)) : Prop := ma.variables = nI w ∧ ma.drafted = nI dr.length ∧ (∀ k x, dr[k]? = some x → ma.draft k = x) ∧ ma.clauses = nI cs.length ∧ ∀ i c, cs[i]? = some c → ma.sizes i = nI c.length ∧ (∀ k x, c[k]? = some x → ma.literals (6 * i + k) = x) ∧ ma.told i = mT c ∧ ma.toldNot i = mF c
/-- whether a number is a literal -/
def isL (w : Nat) (x : Int32) : Bool := decide (x ≠ 0 ∧ -(w : Int) ≤ x.toInt ∧ x.toInt ≤ w)
def hasV (dr : List Int32) (x : Int32) : Bool := dr.any (fun y => decide (y.toInt.natAbs = x.toInt.natAbs))
section FORM
variable {fo : tForm} {fr : tRows} {mo : tMods} {ma : mForm} {mn : mKnow} {w : Nat} {dr : List Int32} {cs : List (List Int32)}
theorem s_isLit0 (hw : w ≤ 30) (h1 : fo.width = nI w) {x : Int32} {Q : Int32 → Prop} (h0 : ¬ (-(w : Int) ≤ x.toInt ∧ x.toInt ≤ w) → Q 0) (h2 : (-(w : Int) ≤ x.toInt ∧ x.toInt ≤ w) → Q 1) : w_PC_isLiteralOrZero x fo Q := by
  unfold w_PC_isLiteralOrZero
  rw [h1, ti_lt, ti_lt, neg_nI (by omega), nI_toInt (by omega)]
  exact ⟨fun c => h0 (by omega), fun c => ⟨fun c2 => h0 (by omega), fun c2 => h2 (by omega)⟩⟩
theorem lit_abs {x : Int32} (h : -(w : Int) ≤ x.toInt ∧ x.toInt ≤ w) (hw : w ≤ 30) : x.toInt.natAbs ≤ 30 := by omega
theorem any_take {dr : List Int32} {p : Int32 → Bool} (h : ∀ (k : Nat) (x : Int32), dr[k]? = some x → p x = false) : dr.any p = false := by
  rw [List.any_eq_false]
  intro x hx
  obtain ⟨k, hk⟩ := List.mem_iff_getElem?.mp hx
  simp [h k x hk]
theorem any_yes {dr : List Int32} {p : Int32 → Bool} {k : Nat} {x : Int32} (h : dr[k]? = some x) (hp : p x = true) : dr.any p = true := List.any_eq_true.mpr ⟨x, List.mem_of_getElem? h, hp⟩
theorem s_draftHas (hok : okF w dr cs) (h : isFO fo fr w dr cs) {x : Int32} (hx : x.toInt.natAbs ≤ 30) {Q : Int32 → Prop} (h0 : hasV dr x = false → Q 0) (h1 : hasV dr x = true → Q 1) : w_Form_draftHas (nI x.toInt.natAbs) fo Q := by
  obtain ⟨g1, g2, g3, -⟩ := h
  obtain ⟨w30, ⟨d6, dl, -⟩, -⟩ := hok
  unfold w_Form_draftHas
  have key : ∀ nn k, k ≤ dr.length → dr.length - k < nn → (∀ j y, j < k → dr[j]? = some y → decide (y.toInt.natAbs = x.toInt.natAbs) = false) → w_Form_draftHas_L2 (nI x.toInt.natAbs) fo (Q 0) Q nn (nI k) := by
    intro nn
    induction nn with
    | zero => intro k _ h; omega
    | succ nn ih =>
      intro k hk hm hj
      rw [w_Form_draftHas_L2, g2]
      refine pk_le dr.length k (fun c => h0 (any_take (fun j y hy => ?_))) (fun c => ⟨vp_in_nI (by omega) (by omega), ?_⟩)
      · exact hj j y (by have := (List.getElem?_eq_some_iff.mp hy).1; omega) hy
      · have hy := List.getElem?_eq_getElem c
        rw [nI_clamp (by omega), g3 k _ hy]
        have hv := dl _ (List.mem_of_getElem? hy)
        generalize dr[k] = y at *
        refine s_abs (by omega) ((pk_eq y.toInt.natAbs x.toInt.natAbs (fun c2 => h1 (any_yes hy (by simpa using c2))) (fun c2 => ?_) (hx := rfl) (hy := rfl)).symm)
        rw [nI_1]
        refine ih (k + 1) (by omega) (by omega) (fun j z hj2 hz => ?_)
        by_cases e : j = k
        · subst e
          rw [hy] at hz; cases hz
          simpa using c2
        · exact hj j z (by omega) hz
  exact ⟨dr.length + 1, key (dr.length + 1) 0 (by omega) (by omega) (fun j y hj => by omega)⟩
theorem okL_snoc (h : okL w dr) {x : Int32} (hl : dr.length < 6) (h1 : isL w x = true) (h2 : hasV dr x = false) : okL w (dr ++ [x]) := by
  obtain ⟨a1, a2, a3⟩ := h
  unfold isL at h1
  rw [decide_eq_true_eq] at h1
  refine ⟨by rw [List.length_append]; simp; omega, fun y hy => ?_, List.pairwise_append.mpr ⟨a3, by simp, fun y hy z hz e => ?_⟩⟩
  · rcases List.mem_append.mp hy with h | h
    · exact a2 y h
    · rw [List.mem_singleton] at h; subst h; exact h1
  · rw [List.mem_singleton] at hz; subst hz
    have := List.any_eq_false.mp h2 y hy
    simp at this
    exact this e
theorem s_PC_literal (hok : okF w dr cs) (h : isFO fo fr w dr cs) {x : Int32} {Q : Int32 → tForm → Prop} (hb : (isL w x = false ∨ hasV dr x = true) → Q (-1) fo) (hf : isL w x = true → hasV dr x = false → dr.length = 6 → Q (-3) fo)
    (hg : isL w x = true → hasV dr x = false → dr.length < 6 → ∀ fo', isFO fo' fr w (dr ++ [x]) cs → Q (nI (dr.length + 1)) fo') : w_PC_literal x fo Q := by
  obtain ⟨w30, hdr, hcs⟩ := id hok
  unfold w_PC_literal
  have hL : isL w x = false ↔ ¬ (x ≠ 0 ∧ -(w : Int) ≤ x.toInt ∧ x.toInt ≤ w) := by unfold isL; exact decide_eq_false_iff_not
  have hL1 : isL w x = true ↔ (x ≠ 0 ∧ -(w : Int) ≤ x.toInt ∧ x.toInt ≤ w) := by unfold isL; exact decide_eq_true_iff
  refine ⟨fun c => hb (Or.inl (hL.mpr (fun g => g.1 c))), fun c => ?_⟩
  refine s_isLit0 w30 h.1 (fun g => ⟨fun _ => hb (Or.inl (hL.mpr (fun g2 => g g2.2))), fun c => absurd rfl c⟩) (fun g => ⟨fun c => absurd c z01, fun _ => ?_⟩)
  have ha := lit_abs g w30
  have hl1 := hL1.mpr ⟨c, g⟩
  refine s_abs (by omega) (s_draftHas hok h ha (fun g2 => ⟨fun _ => ?_, fun c => absurd rfl c⟩) (fun g2 => ⟨fun c => absurd c z01, fun _ => hb (Or.inr g2)⟩))
  obtain ⟨g3, g4, g5, g6⟩ := h
  have h6 := hdr.1
  rw [g4]
  refine pk_lt dr.length 6 (fun c2 => ?_) (fun c2 => hf hl1 g2 (by omega))
  unfold w_Form_addToDraft
  rw [g4]
  refine pk_le 6 dr.length (fun c => by omega) (fun _ => ⟨vp_in_nI (by omega) (by omega), ?_⟩)
  rw [nI_1, nI_clamp (by omega)]
  refine hg hl1 g2 c2 _ ⟨g3, ?_, fun k y hy => ?_, g6⟩
  · show nI (dr.length + 1) = _
    rw [List.length_append]; rfl
  · show upd fo.draft dr.length x k = y
    by_cases e : k < dr.length
    · rw [pk_un (by omega)]
      rw [List.getElem?_append_left e] at hy
      exact g5 k y hy
    · rw [List.getElem?_append_right (by omega)] at hy
      have hl := (List.getElem?_eq_some_iff.mp hy).1
      simp at hl
      have : k = dr.length := by omega
      subst this
      rw [pk_us]; simpa using hy
theorem s_size {x : Int32} {Q : Int32 → Prop} (h : -2147483648 < x.toInt) (hq : Q (nI x.toInt.natAbs)) : w_Ref_size x Q := by
  have := s_abs (x := x) (Q := Q) h hq
  unfold w_Math_abs at this
  unfold w_Ref_size
  exact this
theorem s_Ref_literal (hok : okF w dr cs) (h : isMF ma w dr cs) {x : Int32} {Q : Int32 → mForm → Prop} (hb : (isL w x = false ∨ hasV dr x = true) → Q (-1) ma) (hf : isL w x = true → hasV dr x = false → dr.length = 6 → Q (-3) ma)
    (hg : isL w x = true → hasV dr x = false → dr.length < 6 → ∀ ma', isMF ma' w (dr ++ [x]) cs → Q (nI (dr.length + 1)) ma') : w_Ref_literal x ma Q := by
  obtain ⟨w30, hdr, hcs⟩ := id hok
  obtain ⟨g3, g4, g5, g6⟩ := id h
  unfold w_Ref_literal w_Ref_isLiteral
  have hL : isL w x = false ↔ ¬ (x ≠ 0 ∧ -(w : Int) ≤ x.toInt ∧ x.toInt ≤ w) := by unfold isL; exact decide_eq_false_iff_not
  have hL1 : isL w x = true ↔ (x ≠ 0 ∧ -(w : Int) ≤ x.toInt ∧ x.toInt ≤ w) := by unfold isL; exact decide_eq_true_iff
  have bad : ∀ A : Prop, isL w x = false → (¬ (0 : Int32) = 0 → A) ∧ ((0 : Int32) = 0 → Q (-1) ma) := fun A g => ⟨fun c => absurd rfl c, fun _ => hb (Or.inl g)⟩
  rw [g3, ti_lt, ti_lt, neg_nI (by omega), nI_toInt (by omega)]
  refine ⟨fun c => bad _ (hL.mpr (fun g => by omega)), fun c => ⟨fun c2 => bad _ (hL.mpr (fun g => by omega)), fun c2 => ⟨fun c3 => bad _ (hL.mpr (fun g => g.1 c3)), fun c3 => ⟨fun _ => ?_, fun c => absurd c z01⟩⟩⟩⟩
  have hl1 := hL1.mpr ⟨c3, by omega, by omega⟩
  have ha : x.toInt.natAbs ≤ 30 := by omega
  have h6 := hdr.1
  have key : ∀ nn k, k ≤ dr.length → dr.length - k < nn → (∀ j y, j < k → dr[j]? = some y → decide (y.toInt.natAbs = x.toInt.natAbs) = false) → ∀ K : Prop, (hasV dr x = false → K) → w_Ref_literal_L12 x ma K Q nn (nI k) := by
    intro nn
    induction nn with
    | zero => intro k _ h; omega
    | succ nn ih =>
      intro k hk hm hj K hK
      rw [w_Ref_literal_L12, g4]
      refine pk_le dr.length k (fun c => hK (any_take (fun j y hy => ?_))) (fun c => ⟨vp_in_nI (by omega) (by omega), ?_⟩)
      · exact hj j y (by have := (List.getElem?_eq_some_iff.mp hy).1; omega) hy
      · have hy := List.getElem?_eq_getElem c
        rw [nI_clamp (by omega), g5 k _ hy]
        have hv := hdr.2.1 _ (List.mem_of_getElem? hy)
        generalize dr[k] = y at *
        refine s_size (by omega) (s_size (by omega) ((pk_eq y.toInt.natAbs x.toInt.natAbs (fun c2 => hb (Or.inr (any_yes hy (by simpa using c2)))) (fun c2 => ?_) (hx := rfl) (hy := rfl)).symm))
        rw [nI_1]
        refine ih (k + 1) (by omega) (by omega) (fun j z hj2 hz => ?_) K hK
        by_cases e : j = k
        · subst e
          rw [hy] at hz; cases hz
          simpa using c2
        · exact hj j z (by omega) hz
  refine ⟨dr.length + 1, key (dr.length + 1) 0 (by omega) (by omega) (fun j y hj => by omega) _ (fun g2 => ?_)⟩
  rw [g4]
  refine (pk_eq dr.length 6 (fun c => hf hl1 g2 c) (fun c => ⟨vp_in_nI (by omega) (by omega), ?_⟩) (hx := rfl) (hy := rfl)).symm
  rw [nI_1, nI_clamp (by omega)]
  refine hg hl1 g2 (by omega) _ ⟨rfl, ?_, fun k y hy => ?_, g6⟩
  · show nI (dr.length + 1) = _
    rw [List.length_append]; rfl
  · show upd ma.draft dr.length x k = y
    by_cases e : k < dr.length
    · rw [pk_un (by omega)]
      rw [List.getElem?_append_left e] at hy
      exact g5 k y hy
    · rw [List.getElem?_append_right (by omega)] at hy
      have hl := (List.getElem?_eq_some_iff.mp hy).1
      simp at hl
      have : k = dr.length := by omega
      subst this
      rw [pk_us]; simpa using hy
theorem s_PC_variables (hok : okF w dr cs) (h : isFO fo fr w dr cs) {x : Int32} {Q : Int32 → tForm → tMods → Prop} (hb : inR x 31 = none → Q (-1) fo mo) (hs : ∀ m, inR x 31 = some m → cs ≠ [] → Q (-2) fo mo)
    (hg : ∀ m, m ≤ 30 → inR x 31 = some m → cs = [] → ∀ fo' mo', isFO fo' fr m [] [] → mo'.begun = 0 → Q (nI w) fo' mo') : w_PC_variables x fo fr mo Q := by
  obtain ⟨g1, g2, g3, g4, g5, g6⟩ := h
  have hn := hok.2.2.1
  unfold w_PC_variables w_Mods_forget
  rw [g4, g1]
  rcases inR_cases x (m := 31) (by omega) with ⟨e, h⟩ | ⟨t, ht, e, h⟩
  · refine ⟨fun _ => hb e, fun c => ⟨fun c2 => ?_, fun _ => hb e⟩⟩
    rcases h with h | h
    · exact absurd h c
    · rw [ti_le] at h; rw [ti_le] at c2
      have a1 : (31 : Int) ≤ x.toInt := h
      have a2 : x.toInt ≤ 30 := c2
      omega
  · subst e
    refine ⟨fun c => absurd c (nI_pos (by omega)), fun _ => pk_le t 30 (fun _ => pk_le cs.length 0 (fun c => ?_) (fun c => ?_)) (fun c => by omega)⟩
    · have hcs : cs = [] := List.length_eq_zero_iff.mp (by omega)
      subst hcs
      exact hg t (by omega) h rfl _ _ ⟨rfl, rfl, fun k y hy => by simp at hy, g4, g5, fun i c hc => by simp at hc⟩ rfl
    · exact hs t h (fun e => by subst e; simp at c)
theorem s_Ref_variables (hok : okF w dr cs) (h : isMF ma w dr cs) {x : Int32} {Q : Int32 → mForm → mKnow → Prop} (hb : inR x 31 = none → Q (-1) ma mn) (hs : ∀ m, inR x 31 = some m → cs ≠ [] → Q (-2) ma mn)
    (hg : ∀ m, m ≤ 30 → inR x 31 = some m → cs = [] → ∀ ma' mn', isMF ma' m [] [] → mn'.isKnown = 0 → Q (nI w) ma' mn') : w_Ref_variables x ma mn Q := by
  obtain ⟨g1, g2, g3, g4, g6⟩ := h
  have hn := hok.2.2.1
  unfold w_Ref_variables
  refine s_inM (m := 31) (by omega) rfl (fun e => ⟨fun c => absurd rfl c, fun _ => hb e⟩) (fun t ht e h => ⟨fun _ => ?_, fun c => absurd c z01⟩)
  subst e
  rw [g4, g1]
  refine pk_le cs.length 0 (fun c => ?_) (fun c => ?_)
  · have hcs : cs = [] := List.length_eq_zero_iff.mp (by omega)
    subst hcs
    exact hg t (by omega) h rfl _ _ ⟨rfl, rfl, fun k y hy => by simp at hy, rfl, fun i c hc => by simp at hc⟩ rfl
  · exact hs t h (fun e => by subst e; simp at c)
theorem s_PC_drop (hok : okF w dr cs) (h : isFO fo fr w dr cs) {Q : Int32 → tRows → tMods → Prop} (hs : cs = [] → Q (-2) fr mo) (hg : cs ≠ [] → ∀ fr' mo', isFO fo fr' w dr cs.dropLast → mo'.begun = 0 → Q (nI (cs.length - 1)) fr' mo') : w_PC_drop fr mo Q := by
  obtain ⟨g1, g2, g3, g4, g5, g6⟩ := h
  have hn := hok.2.2.1
  unfold w_PC_drop w_Mods_forget
  rw [g4]
  refine (pk_eq cs.length 0 (fun c => hs (List.length_eq_zero_iff.mp c)) (fun c => ?_) (hx := rfl) (hy := rfl)).symm
  rw [show nI cs.length - 1 = nI (cs.length - 1) from pk_sub (a := cs.length) (b := 1) (by omega)]
  refine hg (fun e => c (by rw [e]; rfl)) _ _ ⟨g1, g2, g3, ?_, g5, fun i c hc => ?_⟩ rfl
  · show nI (cs.length - 1) = _
    rw [List.length_dropLast]
  · have hl := (List.getElem?_eq_some_iff.mp hc).1
    rw [List.length_dropLast] at hl
    rw [List.dropLast_eq_take, List.getElem?_take, if_pos (by omega)] at hc
    exact g6 i c hc
theorem s_Ref_drop (hok : okF w dr cs) (h : isMF ma w dr cs) {Q : Int32 → mForm → mKnow → Prop} (hs : cs = [] → Q (-2) ma mn) (hg : cs ≠ [] → ∀ ma' mn', isMF ma' w dr cs.dropLast → mn'.isKnown = 0 → Q (nI (cs.length - 1)) ma' mn') : w_Ref_drop ma mn Q := by
  obtain ⟨g1, g2, g3, g4, g6⟩ := h
  have hn := hok.2.2.1
  unfold w_Ref_drop
  rw [g4]
  refine (pk_eq cs.length 0 (fun c => hs (List.length_eq_zero_iff.mp c)) (fun c => ?_) (hx := rfl) (hy := rfl)).symm
  rw [show nI cs.length - 1 = nI (cs.length - 1) from pk_sub (a := cs.length) (b := 1) (by omega)]
  refine hg (fun e => c (by rw [e]; rfl)) _ _ ⟨g1, g2, g3, ?_, fun i c hc => ?_⟩ rfl
  · show nI (cs.length - 1) = _
    rw [List.length_dropLast]
  · have hl := (List.getElem?_eq_some_iff.mp hc).1
    rw [List.length_dropLast] at hl
    rw [List.dropLast_eq_take, List.getElem?_take, if_pos (by omega)] at hc
    exact g6 i c hc
end FORM
