/-! counting bits, as the reference does -/
theorem cnt_rem {p : Nat → Bool} {l : Nat} (hp : p l = true) : ∀ n, (l < n → cnt (fun i => p i && decide (i ≠ l)) n + 1 = cnt p n) ∧ (n ≤ l → cnt (fun i => p i && decide (i ≠ l)) n = cnt p n)
  | 0 => ⟨fun h => by omega, fun _ => rfl⟩
  | n + 1 => by
    obtain ⟨h1, h2⟩ := cnt_rem hp n
    rw [cnt_s, cnt_s]
    refine ⟨fun h => ?_, fun h => ?_⟩
    · by_cases e : n = l
      · subst e
        have := h2 (Nat.le_refl n)
        rw [show (p n && decide (n ≠ n)) = false from by simp, if_neg (by decide), if_pos hp]; omega
      · have := h1 (by omega)
        rw [show (p n && decide (n ≠ l)) = p n from by simp [e]]; omega
    · have := h2 (by omega)
      have e : n ≠ l := by omega
      rw [show (p n && decide (n ≠ l)) = p n from by simp [e]]; omega
theorem pc_pred {x : Int32} (h : ¬ x = 0) : pc (x &&& (x - 1)) + 1 = pc x := by
  obtain ⟨l, hl, hb, hz⟩ := low_bit h
  unfold pc
  rw [cnt_cong (q := fun i => bt x i && decide (i ≠ l)) (fun i _ => b_pred_and hb hz i)]
  exact (cnt_rem hb 32).1 hl
theorem pc_0 : pc 0 = 0 := by decide +kernel
theorem pc_le (x : Int32) : pc x ≤ 32 := cnt_le _ 32
theorem pc_eq0 {x : Int32} (h : pc x = 0) : x = 0 := by
  refine Classical.byContradiction (fun hx => ?_)
  have := pc_pred hx
  omega
theorem pc_eq1 {x : Int32} (h : pc x = 1) : ∃ l, l < 32 ∧ x = b1 l := by
  have hx : ¬ x = 0 := fun e => by rw [e, pc_0] at h; omega
  have h2 := pc_pred hx
  exact pred_zero hx (pc_eq0 (by omega))
theorem pc_ge2 {x : Int32} (h : 1 < pc x) : ∃ i j, i < j ∧ bt x i = true ∧ bt x j = true := by
  have hx : ¬ x = 0 := fun e => by rw [e, pc_0] at h; omega
  have h2 := pc_pred hx
  exact pred_some (fun e => by rw [e, pc_0] at h2; omega)
theorem s_ones {x : Int32} {Q : Int32 → Prop} (hq : Q (nI (pc x))) : w_Ref_ones x Q := by
  unfold w_Ref_ones
  have key : ∀ nn (y : Int32) (a : Nat), pc y < nn → a + pc y = pc x → w_Ref_ones_L4 (fun x1_1 => Q x1_1) nn (nI a) y := by
    intro nn
    induction nn with
    | zero => intro y a h; omega
    | succ nn ih =>
      intro y a h1 h2
      rw [w_Ref_ones_L4]
      refine ⟨fun c => ?_, fun c => ?_⟩
      · subst c
        rw [pc_0] at h2
        rw [show a = pc x by omega]; exact hq
      · have h3 := pc_pred c
        rw [nI_1]
        exact ih _ (a + 1) (by omega) (by omega)
  exact ⟨33, key 33 x 0 (by have := pc_le x; omega) (by omega)⟩
/-- how many variables have no truth yet -/
def opn (y no : Int32) : Nat := cnt (fun v => !(bt y v || bt no v)) 30
theorem cnt_sub {p q : Nat → Bool} : ∀ {n : Nat}, (∀ v, v < n → p v = true → q v = true) → cnt p n ≤ cnt q n
  | 0, _ => Nat.le_refl 0
  | n + 1, h => by
    have ih := cnt_sub (n := n) (fun v hv => h v (by omega))
    have hn := h n (by omega)
    rw [cnt_s, cnt_s]
    cases hp : p n with
    | false => simp; split <;> omega
    | true => rw [hn hp]; simp; omega
theorem cnt_sub_lt {p q : Nat → Bool} {u : Nat} : ∀ {n : Nat}, (∀ v, v < n → p v = true → q v = true) → u < n → p u = false → q u = true → cnt p n < cnt q n
  | 0, _, h, _, _ => by omega
  | n + 1, h, hu, h1, h2 => by
    have hn := h n (by omega)
    rw [cnt_s, cnt_s]
    by_cases e : u = n
    · subst e
      have := cnt_sub (n := u) (fun v hv => h v (by omega))
      rw [h1, h2]; simp; omega
    · have := cnt_sub_lt (n := n) (fun v hv => h v (by omega)) (by omega) h1 h2
      cases hp : p n with
      | false => simp; split <;> omega
      | true => rw [hn hp]; simp; omega
theorem opn_le (y no : Int32) : opn y no ≤ 30 := cnt_le _ 30
theorem opn_mono {y no y2 no2 : Int32} (h1 : ∀ v, bt y v = true → bt y2 v = true) (h2 : ∀ v, bt no v = true → bt no2 v = true) : opn y2 no2 ≤ opn y no := by
  refine cnt_sub (fun v _ h => ?_)
  simp only [Bool.not_eq_true', Bool.or_eq_false_iff] at h ⊢
  refine ⟨?_, ?_⟩
  · cases hb : bt y v with
    | false => rfl
    | true => rw [h1 v hb] at h; cases h.1
  · cases hb : bt no v with
    | false => rfl
    | true => rw [h2 v hb] at h; cases h.2
theorem opn_lt {y no y2 no2 : Int32} (h1 : ∀ v, bt y v = true → bt y2 v = true) (h2 : ∀ v, bt no v = true → bt no2 v = true) {u : Nat} (hu : u < 30) (h3 : bt y u = false) (h4 : bt no u = false) (h5 : bt y2 u = true ∨ bt no2 u = true) : opn y2 no2 < opn y no := by
  refine cnt_sub_lt (u := u) (fun v _ h => ?_) hu ?_ ?_
  · simp only [Bool.not_eq_true', Bool.or_eq_false_iff] at h ⊢
    refine ⟨?_, ?_⟩
    · cases hb : bt y v with
      | false => rfl
      | true => rw [h1 v hb] at h; cases h.1
    · cases hb : bt no v with
      | false => rfl
      | true => rw [h2 v hb] at h; cases h.2
  · rcases h5 with h5 | h5 <;> simp [h5]
  · simp [h3, h4]
