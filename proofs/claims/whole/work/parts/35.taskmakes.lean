/-! facts, action, set -/
section MAKES
variable {ta : tTask} {mt : mTask} {f n bg gl : Nat} {aq ad tk : Nat → Nat}
theorem nI_pw {f : Nat} (hf : f ≤ 6) : (1 : Int32) <<< (nI f &&& 31) = nI (2 ^ f) := p_shl hf
theorem s_areF (hk : tkOk f n bg gl aq ad tk) (hT : isTA ta f n bg gl aq ad tk) {x : Int32} {Q : Int32 → Prop} (h0 : inR x (2 ^ f) = none → Q 0) (h1 : ∀ b, b < 2 ^ f → x = nI b → inR x (2 ^ f) = some b → Q 1) : w_PC_areFacts x ta Q := by
  have hf := p_f hk.1
  unfold w_PC_areFacts
  rw [hT.1, p_shl hk.1]
  rcases inR_cases x (m := 2 ^ f) (by omega) with ⟨e, h⟩ | ⟨t, ht, e, h⟩
  · refine ⟨fun _ => h0 e, fun c => ⟨fun _ => h0 e, fun c2 => ?_⟩⟩
    rcases h with h | h
    · exact absurd h c
    · exact absurd h c2
  · subst e
    exact ⟨fun c => absurd c (nI_pos (by omega)), fun _ => pk_le (2 ^ f) t (fun c => by omega) (fun _ => h1 t ht rfl h)⟩
theorem s_areFM (hk : tkOk f n bg gl aq ad tk) (hT : isMT mt f n bg gl aq ad tk) {x : Int32} {Q : Int32 → Prop} (h0 : inR x (2 ^ f) = none → Q 0) (h1 : ∀ b, b < 2 ^ f → x = nI b → inR x (2 ^ f) = some b → Q 1) : w_Ref_areFacts x mt Q := by
  have hf := p_f hk.1
  have hp := Nat.two_pow_pos f
  unfold w_Ref_areFacts
  rw [hT.1, p_shl hk.1]
  refine s_inM (m := 2 ^ f) (by omega) ?_ (fun h => ⟨Or.inl rfl, h0 h⟩) (fun j hj e h => ⟨Or.inr rfl, h1 j hj e h⟩)
  have e : (nI (2 ^ f)).toInt = ((2 ^ f : Nat) : Int) := nI_toInt (by omega)
  rw [ti_sub (by rw [e]; show -2147483648 ≤ _ - 1; omega) (by rw [e]; show _ - 1 < _; omega), e]; rfl
theorem s_PC_facts {tw : tWays} {ct : tTold} {x : Int32} {Q : Int32 → tTask → tWays → tTold → Prop} (hb : inR x 7 = none → Q (-1) ta tw ct)
    (hg : ∀ m, m ≤ 6 → x = nI m → inR x 7 = some m → ∀ (ta' : tTask) (tw' : tWays) (ct' : tTold) (a1 a2 a3 : Nat → Nat), isTA ta' m 0 0 0 a1 a2 a3 → tw'.counted = 0 → ct'.told = 0 → Q ta.factCount ta' tw' ct') : w_PC_facts x ta tw ct Q := by
  unfold w_PC_facts w_Task_restart w_Code_forget
  rcases inR_cases x (m := 7) (by omega) with ⟨e, h⟩ | ⟨t, ht, e, h⟩
  · refine ⟨fun _ => hb e, fun c => ⟨fun c2 => ?_, fun _ => hb e⟩⟩
    rcases h with h | h
    · exact absurd h c
    · rw [ti_le] at h; rw [ti_le] at c2
      have h1 : (7 : Int) ≤ x.toInt := h
      have h2 : x.toInt ≤ 6 := c2
      omega
  · have hg' := hg t (by omega) e h
    subst e
    exact ⟨fun c => absurd c (nI_pos (by omega)), fun _ => pk_le t 6 (fun _ => hg' _ _ _ (fun _ => 0) (fun _ => 0) (fun _ => 0) ⟨rfl, rfl, rfl, rfl, fun a ha => by omega⟩ rfl rfl) (fun c => by omega)⟩
theorem s_Ref_facts {x : Int32} {Q : Int32 → mTask → Prop} (hb : inR x 7 = none → Q (-1) mt)
    (hg : ∀ m, m ≤ 6 → x = nI m → inR x 7 = some m → ∀ (mt' : mTask) (a1 a2 a3 : Nat → Nat), isMT mt' m 0 0 0 a1 a2 a3 → Q mt.facts mt') : w_Ref_facts x mt Q := by
  unfold w_Ref_facts
  refine s_inM (m := 7) (by omega) rfl (fun h => ⟨fun c => absurd rfl c, fun _ => hb h⟩) (fun j hj e h => ⟨fun _ => ?_, fun c => absurd c z01⟩)
  have hg' := hg j (by omega) e h
  subst e
  exact hg' _ (fun _ => 0) (fun _ => 0) (fun _ => 0) ⟨rfl, rfl, rfl, rfl, fun a ha => by omega⟩
/-- the actions with one more -/
def up1 (g : Nat → Nat) (n v : Nat) : Nat → Nat := fun j => if j = n then v else g j
theorem up1_s {g : Nat → Nat} {n v : Nat} : up1 g n v n = v := by unfold up1; rw [if_pos rfl]
theorem up1_n {g : Nat → Nat} {n v j : Nat} (h : j ≠ n) : up1 g n v j = g j := by unfold up1; rw [if_neg h]
theorem tk_up (hk : tkOk f n bg gl aq ad tk) (hn : n < 5) {A B C : Nat} (hA : A < 2 ^ f) (hB : B < 2 ^ f) (hC : C < 2 ^ f) : tkOk f (n + 1) bg gl (up1 aq n A) (up1 ad n B) (up1 tk n (C ^^^ (C &&& B))) := by
  obtain ⟨h1, h2, h3, h4, h5⟩ := hk
  refine ⟨h1, by omega, h3, h4, fun a ha => ?_⟩
  by_cases e : a = n
  · subst e
    rw [up1_s, up1_s, up1_s]
    refine ⟨hA, hB, Nat.xor_lt_two_pow hC (Nat.and_lt_two_pow _ hB), ?_⟩
    apply Nat.eq_of_testBit_eq
    intro i
    rw [Nat.testBit_and, Nat.testBit_xor, Nat.testBit_and, Nat.zero_testBit]
    cases B.testBit i <;> cases C.testBit i <;> rfl
  · rw [up1_n e, up1_n e, up1_n e]
    exact h5 a (by omega)
theorem s_PC_action (hk : tkOk f n bg gl aq ad tk) (hT : isTA ta f n bg gl aq ad tk) {tw : tWays} {ct : tTold} {x y z : Int32} {Q : Int32 → tTask → tWays → tTold → Prop}
    (hb : (inR x (2 ^ f) = none ∨ inR y (2 ^ f) = none ∨ inR z (2 ^ f) = none) → Q (-1) ta tw ct) (hf : (∃ A, inR x (2 ^ f) = some A) → (∃ A, inR y (2 ^ f) = some A) → (∃ A, inR z (2 ^ f) = some A) → n = 5 → Q (-3) ta tw ct)
    (hg : ∀ A B C, A < 2 ^ f → B < 2 ^ f → C < 2 ^ f → inR x (2 ^ f) = some A → inR y (2 ^ f) = some B → inR z (2 ^ f) = some C → n < 5 → ∀ (ta' : tTask) (tw' : tWays) (ct' : tTold), isTA ta' f (n + 1) bg gl (up1 aq n A) (up1 ad n B) (up1 tk n (C ^^^ (C &&& B))) → tw'.counted = 0 → ct'.told = 0 → Q (nI n) ta' tw' ct') : w_PC_action x y z ta tw ct Q := by
  have hp := p_f hk.1
  unfold w_PC_action
  refine s_areF hk hT (fun e => ⟨fun _ => hb (Or.inl e), fun c => absurd rfl c⟩) (fun A hA ex e1 => ⟨fun c => absurd c z01, fun _ => ?_⟩)
  refine s_areF hk hT (fun e => ⟨fun _ => hb (Or.inr (Or.inl e)), fun c => absurd rfl c⟩) (fun B hB ey e2 => ⟨fun c => absurd c z01, fun _ => ?_⟩)
  refine s_areF hk hT (fun e => ⟨fun c => absurd rfl c, fun _ => hb (Or.inr (Or.inr e))⟩) (fun C hC ez e3 => ⟨fun _ => ?_, fun c => absurd c z01⟩)
  have hg' := hg A B C hA hB hC e1 e2 e3
  have hf' := hf ⟨A, e1⟩ ⟨B, e2⟩ ⟨C, e3⟩
  subst ex ey ez
  have hn := hk.2.1
  unfold w_Code_forget w_Task_addAction
  obtain ⟨t1, t2, t3, t4, t5⟩ := hT
  rw [t2]
  refine pk_lt n 5 (fun c => pk_le 5 n (fun c2 => by omega) (fun _ => ⟨vp_in_nI (by omega) (by omega), vp_in_nI (by omega) (by omega), vp_in_nI (by omega) (by omega), ?_⟩)) (fun c => hf' (by omega))
  rw [nI_clamp (by omega), and_notN (by omega) (by omega)]
  refine hg' c _ _ _ ⟨t1, nI_1 n, t3, t4, fun a ha => ?_⟩ rfl rfl
  show upd ta.asks n (nI A) a = _ ∧ upd ta.adds n (nI B) a = _ ∧ upd ta.takes n (nI (C ^^^ (C &&& B))) a = _
  by_cases e : a = n
  · subst e
    rw [pk_us, pk_us, pk_us, up1_s, up1_s, up1_s]
    exact ⟨rfl, rfl, rfl⟩
  · rw [pk_un e, pk_un e, pk_un e, up1_n e, up1_n e, up1_n e]
    exact t5 a (by omega)
theorem s_Ref_action (hk : tkOk f n bg gl aq ad tk) (hT : isMT mt f n bg gl aq ad tk) {x y z : Int32} {Q : Int32 → mTask → Prop}
    (hb : (inR x (2 ^ f) = none ∨ inR y (2 ^ f) = none ∨ inR z (2 ^ f) = none) → Q (-1) mt) (hf : (∃ A, inR x (2 ^ f) = some A) → (∃ A, inR y (2 ^ f) = some A) → (∃ A, inR z (2 ^ f) = some A) → n = 5 → Q (-3) mt)
    (hg : ∀ A B C, A < 2 ^ f → B < 2 ^ f → C < 2 ^ f → inR x (2 ^ f) = some A → inR y (2 ^ f) = some B → inR z (2 ^ f) = some C → n < 5 → ∀ (mt' : mTask), isMT mt' f (n + 1) bg gl (up1 aq n A) (up1 ad n B) (up1 tk n (C ^^^ (C &&& B))) → Q (nI n) mt') : w_Ref_action x y z mt Q := by
  have hp := p_f hk.1
  unfold w_Ref_action
  refine s_areFM hk hT (fun e => ⟨fun _ => hb (Or.inl e), fun c => absurd rfl c⟩) (fun A hA ex e1 => ⟨fun c => absurd c z01, fun _ => ?_⟩)
  refine s_areFM hk hT (fun e => ⟨fun _ => hb (Or.inr (Or.inl e)), fun c => absurd rfl c⟩) (fun B hB ey e2 => ⟨fun c => absurd c z01, fun _ => ?_⟩)
  refine s_areFM hk hT (fun e => ⟨fun c => absurd rfl c, fun _ => hb (Or.inr (Or.inr e))⟩) (fun C hC ez e3 => ⟨fun _ => ?_, fun c => absurd c z01⟩)
  have hg' := hg A B C hA hB hC e1 e2 e3
  have hf' := hf ⟨A, e1⟩ ⟨B, e2⟩ ⟨C, e3⟩
  subst ex ey ez
  have hn := hk.2.1
  obtain ⟨t1, t2, t3, t4, t5⟩ := hT
  rw [t2]
  refine (pk_eq n 5 (fun c => hf' c) (fun c => ⟨vp_in_nI (by omega) (by omega), vp_in_nI (by omega) (by omega), vp_in_nI (by omega) (by omega), ?_⟩) (hx := rfl) (hy := rfl)).symm
  rw [nI_clamp (by omega), and_notN (by omega) (by omega), nI_1, nI_pred]
  refine hg' (by omega) _ ⟨t1, rfl, t3, t4, fun a ha => ?_⟩
  show upd mt.asks n (nI A) a = _ ∧ upd mt.adds n (nI B) a = _ ∧ upd mt.takes n (nI (C ^^^ (C &&& B))) a = _
  by_cases e : a = n
  · subst e
    rw [pk_us, pk_us, pk_us, up1_s, up1_s, up1_s]
    exact ⟨rfl, rfl, rfl⟩
  · rw [pk_un e, pk_un e, pk_un e, up1_n e, up1_n e, up1_n e]
    exact t5 a (by omega)
theorem s_PC_set (hk : tkOk f n bg gl aq ad tk) (hT : isTA ta f n bg gl aq ad tk) {tw : tWays} (hw : wKn tw f n gl aq ad tk) {ct : tTold} {x y : Int32} {Q : Int32 → tTask → tWays → tTold → Prop}
    (hb : (inR x 2 = none ∨ inR y (2 ^ f) = none) → Q (-1) ta tw ct)
    (h0 : ∀ B, B < 2 ^ f → inR x 2 = some 0 → inR y (2 ^ f) = some B → ∀ (ta' : tTask) (tw' : tWays) (ct' : tTold), isTA ta' f n B gl aq ad tk → wKn tw' f n gl aq ad tk → ct'.told = 0 → Q (nI bg) ta' tw' ct')
    (h1 : ∀ B, B < 2 ^ f → inR x 2 = some 1 → inR y (2 ^ f) = some B → ∀ (ta' : tTask) (tw' : tWays) (ct' : tTold), isTA ta' f n bg B aq ad tk → tw'.counted = 0 → ct'.told = 0 → Q (nI gl) ta' tw' ct') : w_PC_set x y ta tw ct Q := by
  unfold w_PC_set
  rcases inR_cases x (m := 2) (by omega) with ⟨e, h⟩ | ⟨t, ht, e, h⟩
  · refine ⟨fun _ => hb (Or.inl e), fun c => ⟨fun _ => hb (Or.inl e), fun c2 => ?_⟩⟩
    rcases h with h | h
    · exact absurd h c
    · rw [ti_le] at h; rw [ti_lt] at c2
      have g1 : (2 : Int) ≤ x.toInt := h
      exact absurd (show (1 : Int) < x.toInt by omega) c2
  · subst e
    refine ⟨fun c => absurd c (nI_pos (by omega)), fun _ => pk_lt 1 t (fun c => by omega) (fun _ => ?_)⟩
    refine s_areF hk hT (fun e => ⟨fun c => absurd rfl c, fun _ => hb (Or.inr e)⟩) (fun B hB ey e2 => ⟨fun _ => ?_, fun c => absurd c z01⟩)
    unfold w_Code_forget w_Task_aim w_Task_begin
    obtain ⟨t1, t2, t3, t4, t5⟩ := hT
    subst ey
    rw [t3, t4]
    refine (pk_eq t 0 (fun c => ?_) (fun c => ?_) (hx := rfl) (hy := rfl)).symm
    · subst c
      exact h0 B hB h e2 _ _ _ ⟨t1, t2, rfl, rfl, t5⟩ hw rfl
    · obtain rfl : t = 1 := by omega
      exact h1 B hB h e2 _ _ _ ⟨t1, t2, rfl, rfl, t5⟩ rfl rfl
theorem s_Ref_set (hk : tkOk f n bg gl aq ad tk) (hT : isMT mt f n bg gl aq ad tk) {x y : Int32} {Q : Int32 → mTask → Prop}
    (hb : (inR x 2 = none ∨ inR y (2 ^ f) = none) → Q (-1) mt)
    (h0 : ∀ B, B < 2 ^ f → inR x 2 = some 0 → inR y (2 ^ f) = some B → ∀ (mt' : mTask), isMT mt' f n B gl aq ad tk → Q (nI bg) mt')
    (h1 : ∀ B, B < 2 ^ f → inR x 2 = some 1 → inR y (2 ^ f) = some B → ∀ (mt' : mTask), isMT mt' f n bg B aq ad tk → Q (nI gl) mt') : w_Ref_set x y mt Q := by
  unfold w_Ref_set
  refine s_inM (m := 2) (by omega) rfl (fun h => ⟨fun _ => hb (Or.inl h), fun c => absurd rfl c⟩) (fun t ht e h => ⟨fun c => absurd c z01, fun _ => ?_⟩)
  refine s_areFM hk hT (fun e => ⟨fun c => absurd rfl c, fun _ => hb (Or.inr e)⟩) (fun B hB ey e2 => ⟨fun _ => ?_, fun c => absurd c z01⟩)
  subst e ey
  obtain ⟨t1, t2, t3, t4, t5⟩ := hT
  have z0 : t = 0 ∨ t = 1 := by omega
  rcases z0 with rfl | rfl
  · have a0 : nI 0 = 0 := rfl
    have a1 : ¬ nI 0 = 1 := by decide
    refine ⟨fun c => absurd a0 c, fun _ => ⟨fun c => absurd a0 c, fun _ => ⟨fun _ => ?_, fun c => absurd c a1⟩⟩⟩
    rw [t3]
    exact h0 B hB h e2 _ ⟨t1, t2, rfl, t4, t5⟩
  · have a0 : ¬ nI 1 = 0 := by decide
    have a1 : nI 1 = 1 := rfl
    refine ⟨fun _ => ⟨fun _ => ⟨fun c => absurd a1 c, fun _ => ?_⟩, fun c => absurd c a0⟩, fun c => absurd c a0⟩
    rw [t4]
    exact h1 B hB h e2 _ ⟨t1, t2, t3, rfl, t5⟩
end MAKES
