/-! the calls on tasks, each side for itself -/
/-- a number of 0 .. m - 1 -/
def inR (x : Int32) (m : Nat) : Option Nat := if 0 ≤ x.toInt ∧ x.toInt < (m : Int) then some x.toInt.toNat else none
theorem inR_cases (x : Int32) {m : Nat} (hm : m < 2 ^ 31) : (inR x m = none ∧ (x < 0 ∨ nI m ≤ x)) ∨ ∃ j, j < m ∧ x = nI j ∧ inR x m = some j := by
  unfold inR
  by_cases h : 0 ≤ x.toInt ∧ x.toInt < (m : Int)
  · rw [if_pos h]
    exact Or.inr ⟨x.toInt.toNat, by omega, of_ti (by omega), rfl⟩
  · rw [if_neg h]
    refine Or.inl ⟨rfl, ?_⟩
    rw [ti_lt, ti_le, nI_toInt hm]
    show x.toInt < 0 ∨ _
    omega
theorem s_isLen {x : Int32} {Q : Int32 → Prop} (h0 : inR x 6 = none → Q 0) (h1 : ∀ t, t ≤ 5 → x = nI t → inR x 6 = some t → Q 1) : w_PC_isLength x Q := by
  unfold w_PC_isLength
  rcases inR_cases x (m := 6) (by omega) with ⟨e, h⟩ | ⟨t, ht, e, h⟩
  · refine ⟨fun _ => h0 e, fun c => ⟨fun _ => h0 e, fun c2 => ?_⟩⟩
    rcases h with h | h
    · exact absurd h c
    · rw [ti_le] at h; rw [ti_lt] at c2
      exact absurd (show (5 : Int) < x.toInt by have : (nI 6).toInt = 6 := rfl; omega) c2
  · subst e
    refine ⟨fun c => absurd c (nI_pos (by omega)), fun _ => pk_lt 5 t (fun c => by omega) (fun _ => h1 t (by omega) rfl h)⟩
theorem s_inM {x y : Int32} {m : Nat} {Q : Int32 → Prop} (hm : m < 2 ^ 30) (hy : y.toInt = (m : Int) - 1) (h0 : inR x m = none → Q 0) (h1 : ∀ j, j < m → x = nI j → inR x m = some j → Q 1) : w_Ref_in x 0 y Q := by
  unfold w_Ref_in
  rcases inR_cases x (m := m) (by omega) with ⟨e, h⟩ | ⟨t, ht, e, h⟩
  · refine ⟨fun _ => h0 e, fun c => ⟨fun _ => h0 e, fun c2 => ?_⟩⟩
    rcases h with h | h
    · exact absurd h c
    · rw [ti_le, nI_toInt (by omega)] at h; rw [ti_lt, hy] at c2; omega
  · subst e
    refine ⟨fun c => absurd c (nI_pos (by omega)), fun _ => ⟨fun c => ?_, fun _ => h1 t ht rfl h⟩⟩
    rw [ti_lt, hy, nI_toInt (by omega)] at c; omega
theorem s_isLenM {x : Int32} {Q : Int32 → Prop} (h0 : inR x 6 = none → Q 0) (h1 : ∀ t, t ≤ 5 → x = nI t → inR x 6 = some t → Q 1) : w_Ref_isLength x Q := by
  unfold w_Ref_isLength
  exact s_inM (m := 6) (by omega) rfl (fun h => ⟨Or.inl rfl, h0 h⟩) (fun j hj e h => ⟨Or.inr rfl, h1 j (by omega) e h⟩)
section CALLS
variable {ta : tTask} {mt : mTask} {f n bg gl : Nat} {aq ad tk : Nat → Nat}
def planV (n bg gl : Nat) (aq ad tk : Nat → Nat) (x : Int32) : Int32 := match inR x 6 with
  | none => -1
  | some t => if 0 < wy n gl aq ad tk t bg then 1 else 0
def plansV (n bg gl : Nat) (aq ad tk : Nat → Nat) (x : Int32) : Int32 := match inR x 6 with
  | none => -1
  | some t => nI (wy n gl aq ad tk t bg)
def stepV (n bg gl : Nat) (aq ad tk : Nat → Nat) (x y : Int32) : Int32 := match inR x 6 with
  | none => -1
  | some t => match inR y t with
    | none => -1
    | some i => if 0 < wy n gl aq ad tk t bg then cV n gl aq ad tk (t - 1 - i) (sq n bg gl aq ad tk t i) else -9
def stateV (n bg gl : Nat) (aq ad tk : Nat → Nat) (x y : Int32) : Int32 := match inR x 6 with
  | none => -1
  | some t => match inR y (t + 1) with
    | none => -1
    | some i => if 0 < wy n gl aq ad tk t bg then nI (sq n bg gl aq ad tk t i) else -9
def shortV (n bg gl : Nat) (aq ad tk : Nat → Nat) : Int32 := if fst (fun t => decide (0 < wy n gl aq ad tk t bg)) 6 < 6 then nI (fst (fun t => decide (0 < wy n gl aq ad tk t bg)) 6) else -9
theorem z01 : ¬ (1 : Int32) = 0 := by decide
theorem s_PC_plan (hk : tkOk f n bg gl aq ad tk) (hT : isTA ta f n bg gl aq ad tk) {tw : tWays} (hw : wKn tw f n gl aq ad tk) {x : Int32} {Q : Int32 → tWays → Prop} (hq : ∀ tw', wKn tw' f n gl aq ad tk → Q (planV n bg gl aq ad tk x) tw') : w_PC_plan x ta tw Q := by
  unfold w_PC_plan
  unfold planV at hq
  refine s_isLen (fun e => ?_) (fun t ht ex e => ?_)
  · rw [e] at hq
    exact ⟨fun c => absurd rfl c, fun _ => hq tw hw⟩
  · rw [e] at hq
    refine ⟨fun _ => ?_, fun c => absurd c z01⟩
    subst ex
    rw [hT.2.2.1]
    have hb := wy_le n gl aq ad tk t bg
    refine s_ways hk hT hw ht hk.2.2.1 (fun tw' h => pk_le _ 0 (fun c => ?_) (fun c => ?_) (hx := rfl) (hy := rfl))
    · have := hq tw' h; dsimp only at this; rwa [if_neg (by omega)] at this
    · have := hq tw' h; dsimp only at this; rwa [if_pos (by omega)] at this
theorem s_Ref_plan (hk : tkOk f n bg gl aq ad tk) (hT : isMT mt f n bg gl aq ad tk) {mw : Nat → Int32} {x : Int32} {Q : Int32 → (Nat → Int32) → Prop} (hq : ∀ mw', Q (planV n bg gl aq ad tk x) mw') : w_Ref_plan x mt mw Q := by
  unfold w_Ref_plan
  unfold planV at hq
  refine s_isLenM (fun e => ?_) (fun t ht ex e => ?_)
  · rw [e] at hq
    exact ⟨fun _ => hq mw, fun c => absurd rfl c⟩
  · rw [e] at hq
    refine ⟨fun c => absurd c z01, fun _ => ?_⟩
    subst ex
    have hb := wy_le n gl aq ad tk t bg
    refine s_plansOf hk hT ht (fun mw' h => pk_le _ 0 (fun c => ?_) (fun c => ?_) (hx := rfl) (hy := rfl))
    · have := hq mw'; dsimp only at this; rwa [if_neg (by omega)] at this
    · have := hq mw'; dsimp only at this; rwa [if_pos (by omega)] at this
theorem s_PC_plans (hk : tkOk f n bg gl aq ad tk) (hT : isTA ta f n bg gl aq ad tk) {tw : tWays} (hw : wKn tw f n gl aq ad tk) {x : Int32} {Q : Int32 → tWays → Prop} (hq : ∀ tw', wKn tw' f n gl aq ad tk → Q (plansV n bg gl aq ad tk x) tw') : w_PC_plans x ta tw Q := by
  unfold w_PC_plans
  unfold plansV at hq
  refine s_isLen (fun e => ?_) (fun t ht ex e => ?_)
  · rw [e] at hq
    exact ⟨fun c => absurd rfl c, fun _ => hq tw hw⟩
  · rw [e] at hq
    refine ⟨fun _ => ?_, fun c => absurd c z01⟩
    subst ex
    rw [hT.2.2.1]
    exact s_ways hk hT hw ht hk.2.2.1 hq
theorem s_Ref_plans (hk : tkOk f n bg gl aq ad tk) (hT : isMT mt f n bg gl aq ad tk) {mw : Nat → Int32} {x : Int32} {Q : Int32 → (Nat → Int32) → Prop} (hq : ∀ mw', Q (plansV n bg gl aq ad tk x) mw') : w_Ref_plans x mt mw Q := by
  unfold w_Ref_plans
  unfold plansV at hq
  refine s_isLenM (fun e => ?_) (fun t ht ex e => ?_)
  · rw [e] at hq
    exact ⟨fun _ => hq mw, fun c => absurd rfl c⟩
  · rw [e] at hq
    refine ⟨fun c => absurd c z01, fun _ => ?_⟩
    subst ex
    exact s_plansOf hk hT ht (fun mw' _ => hq mw')
theorem s_PC_step (hk : tkOk f n bg gl aq ad tk) (hT : isTA ta f n bg gl aq ad tk) {tw : tWays} (hw : wKn tw f n gl aq ad tk) {x y : Int32} {Q : Int32 → tWays → Prop} (hq : ∀ tw', wKn tw' f n gl aq ad tk → Q (stepV n bg gl aq ad tk x y) tw') : w_PC_step x y ta tw Q := by
  unfold w_PC_step
  unfold stepV at hq
  refine s_isLen (fun e => ?_) (fun t ht ex e => ?_)
  · rw [e] at hq
    exact ⟨fun _ => hq tw hw, fun c => absurd rfl c⟩
  · rw [e] at hq
    refine ⟨fun c => absurd c z01, fun _ => ?_⟩
    subst ex
    rcases inR_cases y (m := t) (by omega) with ⟨ey, h⟩ | ⟨i, hi, ey, h⟩
    · dsimp only at hq
      rw [ey] at hq
      refine ⟨fun _ => hq tw hw, fun c => ⟨fun c2 => ?_, fun _ => hq tw hw⟩⟩
      rcases h with h | h
      · exact absurd h c
      · rw [ti_le] at h; rw [ti_lt] at c2; omega
    · dsimp only at hq
      rw [h] at hq
      subst ey
      refine ⟨fun c => absurd c (nI_pos (by omega)), fun _ => pk_lt i t (fun _ => ?_) (fun c => by omega)⟩
      rw [hT.2.2.1]
      have hb := wy_le n gl aq ad tk t bg
      refine s_ways hk hT hw ht hk.2.2.1 (fun tw' h' => ⟨fun c => ?_, fun c => ?_⟩)
      · have hp : 0 < wy n gl aq ad tk t bg := by
          rcases Nat.eq_zero_or_pos (wy n gl aq ad tk t bg) with q | q
          · rw [q] at c; exact absurd rfl c
          · exact q
        refine s_ahead hk hT ht (by omega) h' (fun tw2 h2 => ?_)
        rw [pk_sub (by omega), show t - i = (t - 1 - i) + 1 by omega]
        refine s_choice hk hT (by omega) (sq_lt hk i) h2 (fun tw3 h3 => ?_)
        have := hq tw3 h3; dsimp only at this; rwa [if_pos hp] at this
      · have hp : wy n gl aq ad tk t bg = 0 := nI_inj (by omega) (by omega) c
        have := hq tw' h'; dsimp only at this; rwa [if_neg (by omega)] at this
theorem cf_V {k s : Nat} : (¬ nI (cf n gl aq ad tk k s) = nI n → cV n gl aq ad tk k s = nI (cf n gl aq ad tk k s)) ∧ (nI (cf n gl aq ad tk k s) = nI n → n ≤ 5 → cV n gl aq ad tk k s = -7) := by
  have hle : cf n gl aq ad tk k s ≤ n := fst_le _ n
  unfold cV
  refine ⟨fun h => ?_, fun h hn => ?_⟩
  · rw [if_pos]
    rcases Nat.lt_or_ge (cf n gl aq ad tk k s) n with q | q
    · exact q
    · exact absurd (by rw [show cf n gl aq ad tk k s = n by omega]) h
  · have := nI_inj (by omega) (by omega) h
    rw [if_neg (by omega)]
theorem s_Ref_step (hk : tkOk f n bg gl aq ad tk) (hT : isMT mt f n bg gl aq ad tk) {mw : Nat → Int32} {mg : mGo} {x y : Int32} {Q : Int32 → (Nat → Int32) → mGo → Prop} (hq : ∀ mw' mg', Q (stepV n bg gl aq ad tk x y) mw' mg') : w_Ref_step x y mt mw mg Q := by
  unfold w_Ref_step
  unfold stepV at hq
  refine s_isLenM (fun e => ?_) (fun t ht ex e => ?_)
  · rw [e] at hq
    exact ⟨fun _ => hq mw mg, fun c => absurd rfl c⟩
  · rw [e] at hq
    refine ⟨fun c => absurd c z01, fun _ => ?_⟩
    subst ex
    dsimp only at hq
    refine s_inM (m := t) (by omega) (by rw [ti_sub (by rw [nI_toInt (by omega)]; show -2147483648 ≤ (t : Int) - 1; omega) (by rw [nI_toInt (by omega)]; show (t : Int) - 1 < _; omega), nI_toInt (by omega)]; rfl) (fun ey => ?_) (fun i hi ey h => ?_)
    · rw [ey] at hq
      exact ⟨fun c => absurd rfl c, fun _ => hq mw mg⟩
    · rw [h] at hq
      refine ⟨fun _ => ?_, fun c => absurd c z01⟩
      subst ey
      have hb := wy_le n gl aq ad tk t bg
      refine s_plansOf hk hT ht (fun mw' h' => ⟨fun c => ?_, fun c => ?_⟩)
      · have hp : 0 < wy n gl aq ad tk t bg := by
          rcases Nat.eq_zero_or_pos (wy n gl aq ad tk t bg) with q | q
          · rw [q] at c; exact absurd rfl c
          · exact q
        rw [nI_1]
        refine s_goes hk hT ht (by omega) h' hp (fun mg' e1 e2 => ?_)
        rw [hT.2.1, e2 (by omega), show i + 1 - 1 = i by omega, show t - (i + 1) = t - 1 - i by omega]
        have hQ := hq mw' mg'
        dsimp only at hQ
        rw [if_pos hp] at hQ
        refine ⟨fun c2 => ?_, fun c2 => ?_⟩
        · rw [cf_V.1 c2] at hQ; exact hQ
        · rw [cf_V.2 c2 hk.2.1] at hQ; exact hQ
      · have hp : wy n gl aq ad tk t bg = 0 := nI_inj (by omega) (by omega) c
        have := hq mw' mg; dsimp only at this; rwa [if_neg (by omega)] at this
theorem s_PC_state (hk : tkOk f n bg gl aq ad tk) (hT : isTA ta f n bg gl aq ad tk) {tw : tWays} (hw : wKn tw f n gl aq ad tk) {x y : Int32} {Q : Int32 → tWays → Prop} (hq : ∀ tw', wKn tw' f n gl aq ad tk → Q (stateV n bg gl aq ad tk x y) tw') : w_PC_state x y ta tw Q := by
  unfold w_PC_state
  unfold stateV at hq
  refine s_isLen (fun e => ?_) (fun t ht ex e => ?_)
  · rw [e] at hq
    exact ⟨fun _ => hq tw hw, fun c => absurd rfl c⟩
  · rw [e] at hq
    refine ⟨fun c => absurd c z01, fun _ => ?_⟩
    subst ex
    rcases inR_cases y (m := t + 1) (by omega) with ⟨ey, h⟩ | ⟨i, hi, ey, h⟩
    · dsimp only at hq
      rw [ey] at hq
      refine ⟨fun _ => hq tw hw, fun c => ⟨fun c2 => ?_, fun _ => hq tw hw⟩⟩
      rcases h with h | h
      · exact absurd h c
      · rw [ti_le, nI_toInt (by omega)] at h; rw [ti_le, nI_toInt (by omega)] at c2; omega
    · dsimp only at hq
      rw [h] at hq
      subst ey
      refine ⟨fun c => absurd c (nI_pos (by omega)), fun _ => pk_le i t (fun _ => ?_) (fun c => by omega)⟩
      rw [hT.2.2.1]
      have hb := wy_le n gl aq ad tk t bg
      refine s_ways hk hT hw ht hk.2.2.1 (fun tw' h' => ⟨fun c => ?_, fun c => ?_⟩)
      · have hp : 0 < wy n gl aq ad tk t bg := by
          rcases Nat.eq_zero_or_pos (wy n gl aq ad tk t bg) with q | q
          · rw [q] at c; exact absurd rfl c
          · exact q
        refine s_ahead hk hT ht (by omega) h' (fun tw2 h2 => ?_)
        have := hq tw2 h2; dsimp only at this; rwa [if_pos hp] at this
      · have hp : wy n gl aq ad tk t bg = 0 := nI_inj (by omega) (by omega) c
        have := hq tw' h'; dsimp only at this; rwa [if_neg (by omega)] at this
theorem s_Ref_state (hk : tkOk f n bg gl aq ad tk) (hT : isMT mt f n bg gl aq ad tk) {mw : Nat → Int32} {mg : mGo} {x y : Int32} {Q : Int32 → (Nat → Int32) → mGo → Prop} (hq : ∀ mw' mg', Q (stateV n bg gl aq ad tk x y) mw' mg') : w_Ref_state x y mt mw mg Q := by
  unfold w_Ref_state
  unfold stateV at hq
  refine s_isLenM (fun e => ?_) (fun t ht ex e => ?_)
  · rw [e] at hq
    exact ⟨fun _ => hq mw mg, fun c => absurd rfl c⟩
  · rw [e] at hq
    refine ⟨fun c => absurd c z01, fun _ => ?_⟩
    subst ex
    dsimp only at hq
    refine s_inM (m := t + 1) (by omega) (by rw [nI_toInt (by omega)]; omega) (fun ey => ?_) (fun i hi ey h => ?_)
    · rw [ey] at hq
      exact ⟨fun c => absurd rfl c, fun _ => hq mw mg⟩
    · rw [h] at hq
      refine ⟨fun _ => ?_, fun c => absurd c z01⟩
      subst ey
      have hb := wy_le n gl aq ad tk t bg
      refine s_plansOf hk hT ht (fun mw' h' => ⟨fun c => ?_, fun c => ?_⟩)
      · have hp : 0 < wy n gl aq ad tk t bg := by
          rcases Nat.eq_zero_or_pos (wy n gl aq ad tk t bg) with q | q
          · rw [q] at c; exact absurd rfl c
          · exact q
        refine s_goes hk hT ht (by omega) h' hp (fun mg' e1 e2 => ?_)
        have hQ := hq mw' mg'
        dsimp only at hQ
        rw [if_pos hp] at hQ
        rw [e1]; exact hQ
      · have hp : wy n gl aq ad tk t bg = 0 := nI_inj (by omega) (by omega) c
        have := hq mw' mg; dsimp only at this; rwa [if_neg (by omega)] at this
theorem short_at {t : Nat} (ht : t ≤ 5) (h1 : 0 < wy n gl aq ad tk t bg) (h2 : ∀ j, j < t → wy n gl aq ad tk j bg = 0) : shortV n bg gl aq ad tk = nI t := by
  have e : fst (fun t => decide (0 < wy n gl aq ad tk t bg)) 6 = t := fst_eq (by omega) (by simpa using h1) (fun j hj => by simpa using h2 j hj)
  unfold shortV
  rw [e, if_pos (by omega)]
theorem short_no (h2 : ∀ j, j < 6 → wy n gl aq ad tk j bg = 0) : shortV n bg gl aq ad tk = -9 := by
  have e : fst (fun t => decide (0 < wy n gl aq ad tk t bg)) 6 = 6 := fst_n (fun j hj => by simpa using h2 j hj)
  unfold shortV
  rw [e, if_neg (by omega)]
theorem s_PC_shortest (hk : tkOk f n bg gl aq ad tk) (hT : isTA ta f n bg gl aq ad tk) {tw : tWays} (hw : wKn tw f n gl aq ad tk) {Q : Int32 → tWays → Prop} (hq : ∀ tw', wKn tw' f n gl aq ad tk → Q (shortV n bg gl aq ad tk) tw') : w_PC_shortest ta tw Q := by
  unfold w_PC_shortest
  have key : ∀ nn t, t ≤ 6 → 6 - t < nn → (∀ j, j < t → wy n gl aq ad tk j bg = 0) → ∀ tw, wKn tw f n gl aq ad tk → w_PC_shortest_L2 ta (fun tw_1 => Q (-9) tw_1) Q nn (nI t) tw := by
    intro nn
    induction nn with
    | zero => intro t _ h; omega
    | succ nn ih =>
      intro t ht hm hj tw hw
      rw [w_PC_shortest_L2]
      refine pk_lt 5 t (fun c => ?_) (fun c => ?_)
      · have := hq tw hw
        rwa [short_no (fun j hj2 => hj j (by omega))] at this
      · rw [hT.2.2.1]
        have hb := wy_le n gl aq ad tk t bg
        refine s_ways hk hT hw c hk.2.2.1 (fun tw' h => pk_le _ 0 (fun c2 => ?_) (fun c2 => ?_) (hx := rfl) (hy := rfl))
        · rw [nI_1]
          refine ih (t + 1) (by omega) (by omega) (fun j hj2 => ?_) tw' h
          by_cases e : j = t
          · subst e; omega
          · exact hj j (by omega)
        · have := hq tw' h
          rwa [short_at c (by omega) hj] at this
  exact ⟨7, key 7 0 (by omega) (by omega) (fun j hj => by omega) tw hw⟩
theorem s_Ref_shortest (hk : tkOk f n bg gl aq ad tk) (hT : isMT mt f n bg gl aq ad tk) {mw : Nat → Int32} {Q : Int32 → (Nat → Int32) → Prop} (hq : ∀ mw', Q (shortV n bg gl aq ad tk) mw') : w_Ref_shortest mt mw Q := by
  unfold w_Ref_shortest
  have key : ∀ nn t, t ≤ 6 → 6 - t < nn → (∀ j, j < t → wy n gl aq ad tk j bg = 0) → ∀ mw, w_Ref_shortest_L2 mt (fun mw_1 => Q (-9) mw_1) Q nn (nI t) mw := by
    intro nn
    induction nn with
    | zero => intro t _ h; omega
    | succ nn ih =>
      intro t ht hm hj mw
      rw [w_Ref_shortest_L2]
      refine pk_lt 5 t (fun c => ?_) (fun c => ?_)
      · have := hq mw
        rwa [short_no (fun j hj2 => hj j (by omega))] at this
      · have hb := wy_le n gl aq ad tk t bg
        refine s_plansOf hk hT c (fun mw' h => pk_le _ 0 (fun c2 => ?_) (fun c2 => ?_) (hx := rfl) (hy := rfl))
        · rw [nI_1]
          refine ih (t + 1) (by omega) (by omega) (fun j hj2 => ?_) mw'
          by_cases e : j = t
          · subst e; omega
          · exact hj j (by omega)
        · have := hq mw'
          rwa [short_at c (by omega) hj] at this
  exact ⟨7, key 7 0 (by omega) (by omega) (fun j hj => by omega) mw⟩
end CALLS
