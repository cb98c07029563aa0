/-! tasks: facts, actions, ways -/
/-- two sides and the numbers that both hold -/
def tkOk (f n bg gl : Nat) (aq ad tk : Nat → Nat) : Prop := f ≤ 6 ∧ n ≤ 5 ∧ bg < 2 ^ f ∧ gl < 2 ^ f ∧ ∀ a, a < n → aq a < 2 ^ f ∧ ad a < 2 ^ f ∧ tk a < 2 ^ f ∧ ad a &&& tk a = 0
def isTA (ta : tTask) (f n bg gl : Nat) (aq ad tk : Nat → Nat) : Prop := ta.factCount = nI f ∧ ta.actionCount = nI n ∧ ta.beginning = nI bg ∧ ta.goal = nI gl ∧ ∀ a, a < n → ta.asks a = nI (aq a) ∧ ta.adds a = nI (ad a) ∧ ta.takes a = nI (tk a)
def isMT (mt : mTask) (f n bg gl : Nat) (aq ad tk : Nat → Nat) : Prop := mt.facts = nI f ∧ mt.actions = nI n ∧ mt.beginning = nI bg ∧ mt.goal = nI gl ∧ ∀ a, a < n → mt.asks a = nI (aq a) ∧ mt.adds a = nI (ad a) ∧ mt.takes a = nI (tk a)
theorem p_f {f : Nat} (h : f ≤ 6) : 2 ^ f ≤ 64 := Nat.pow_le_pow_right (by omega) h
theorem nI_inj {a b : Nat} (ha : a < 2 ^ 31) (hb : b < 2 ^ 31) (h : nI a = nI b) : a = b := (nI_eq ha hb).mp h
theorem and_sub {A S : Nat} (hA : A < 2 ^ 31) (hS : S < 2 ^ 31) : (nI A &&& (nI S ^^^ (-1))) = 0 ↔ A &&& S = A := by
  rw [and_eq0]
  constructor
  · intro h
    apply Nat.eq_of_testBit_eq
    intro i
    rw [Nat.testBit_and]
    cases hi : A.testBit i with
    | false => rfl
    | true =>
      have hlt : i < 32 := by
        rcases Nat.lt_or_ge i 32 with q | q
        · exact q
        · rw [Nat.testBit_lt_two_pow (Nat.lt_of_lt_of_le hA (Nat.pow_le_pow_right (by omega) (by omega)))] at hi; cases hi
      cases hs : S.testBit i with
      | true => rfl
      | false => exact (h i (by rw [b_nI (by omega)]; exact hi) (by rw [b_not _ hlt, b_nI (by omega), hs]; rfl)).elim
  · intro h i h1 h2
    rw [b_nI (by omega)] at h1
    have hlt : i < 32 := by
      rcases Nat.lt_or_ge i 32 with q | q
      · exact q
      · rw [Nat.testBit_lt_two_pow (Nat.lt_of_lt_of_le hA (Nat.pow_le_pow_right (by omega) (by omega)))] at h1; cases h1
    rw [b_not _ hlt, b_nI (by omega)] at h2
    rw [← h, Nat.testBit_and, Bool.and_eq_true] at h1
    rw [h1.2] at h2
    cases h2
/-- a state behind an action -/
def aft (aq ad tk : Nat → Nat) (a s : Nat) : Option Nat := if aq a &&& s = aq a then some ((s ||| ad a) ^^^ ((s ||| ad a) &&& tk a)) else none
def oI (o : Option Nat) : Int32 := match o with
  | some s => nI s
  | none => -1
theorem aft_lt {f n bg gl : Nat} {aq ad tk : Nat → Nat} (hk : tkOk f n bg gl aq ad tk) {a s s' : Nat} (ha : a < n) (hs : s < 2 ^ f) (h : aft aq ad tk a s = some s') : s' < 2 ^ f := by
  unfold aft at h
  split at h
  · cases h
    exact Nat.xor_lt_two_pow (Nat.or_lt_two_pow hs (hk.2.2.2.2 a ha).2.1) (Nat.and_lt_two_pow _ (hk.2.2.2.2 a ha).2.2.1)
  · cases h
theorem nI_or (a b : Nat) : nI a ||| nI b = nI (a ||| b) := by
  apply Int32.toBitVec_inj.mp
  rw [Int32.toBitVec_or]
  show BitVec.ofNat 32 a ||| BitVec.ofNat 32 b = BitVec.ofNat 32 (a ||| b)
  rw [BitVec.ofNat_or]
theorem and_notN {Y T : Nat} (hY : Y < 2 ^ 31) (hT : T < 2 ^ 31) : nI Y &&& (nI T ^^^ (-1)) = nI (Y ^^^ (Y &&& T)) := by
  have hx : Y ^^^ (Y &&& T) < 2 ^ 31 := Nat.xor_lt_two_pow hY (Nat.and_lt_two_pow _ hT)
  refine b_ext (fun i hi => ?_)
  rw [b_and, b_not _ hi, b_nI (by omega), b_nI (by omega), b_nI (by omega), Nat.testBit_xor, Nat.testBit_and]
  cases Y.testBit i <;> cases T.testBit i <;> rfl
theorem s_after {ta : tTask} {f n bg gl : Nat} {aq ad tk : Nat → Nat} (hk : tkOk f n bg gl aq ad tk) (hT : isTA ta f n bg gl aq ad tk) {a s : Nat} (ha : a < n) (hs : s < 2 ^ f) {Q : Int32 → Prop} (hq : Q (oI (aft aq ad tk a s))) : w_Task_after (nI a) (nI s) ta Q := by
  obtain ⟨h1, h2, -, -, h3⟩ := hT
  obtain ⟨k1, k2, -, -, k3⟩ := hk
  obtain ⟨e1, e2, e3⟩ := h3 a ha
  obtain ⟨l1, l2, l3, -⟩ := k3 a ha
  have hf := p_f k1
  unfold w_Task_after
  rw [h2]
  refine ⟨fun c => absurd c (nI_pos (by omega)), fun _ => pk_le n a (fun c => by omega) (fun _ => ⟨vp_in_nI (by omega) (by omega), ?_⟩)⟩
  rw [nI_clamp (by omega), e1, e2, e3]
  unfold aft at hq
  refine ⟨fun c => ⟨vp_in_nI (by omega) (by omega), vp_in_nI (by omega) (by omega), ?_⟩, fun c => ?_⟩
  · rw [and_sub (by omega) (by omega)] at c
    rw [if_pos c] at hq
    have hor : s ||| ad a < 2 ^ f := Nat.or_lt_two_pow hs l2
    rw [nI_or, and_notN (by omega) (by omega)]
    exact hq
  · rw [and_sub (by omega) (by omega)] at c
    rw [if_neg c] at hq
    exact hq
theorem s_afterM {mt : mTask} {f n bg gl : Nat} {aq ad tk : Nat → Nat} (hk : tkOk f n bg gl aq ad tk) (hT : isMT mt f n bg gl aq ad tk) {a s : Nat} (ha : a < n) (hs : s < 2 ^ f) {Q : Int32 → Prop} (hq : Q (oI (aft aq ad tk a s))) : w_Ref_after (nI s) (nI a) mt Q := by
  obtain ⟨h1, h2, -, -, h3⟩ := hT
  obtain ⟨k1, k2, -, -, k3⟩ := hk
  obtain ⟨e1, e2, e3⟩ := h3 a ha
  obtain ⟨l1, l2, l3, l4⟩ := k3 a ha
  have hf := p_f k1
  unfold w_Ref_after
  rw [h2]
  refine ⟨fun _ => ⟨vp_in_nI (by omega) (by omega), vp_in_nI (by omega) (by omega), ?_⟩, fun c => absurd (nI_inj (by omega) (by omega) c) (by omega)⟩
  rw [nI_clamp (by omega), e1, e2, e3]
  have hand : s &&& aq a < 2 ^ f := Nat.and_lt_two_pow _ l1
  have hc : (nI s &&& nI (aq a) = nI (aq a)) ↔ aq a &&& s = aq a := by
    rw [fa_and, Nat.and_comm]
    exact nI_eq (by rw [Nat.and_comm]; omega) (by omega)
  unfold aft at hq
  refine ⟨fun c => ?_, fun c => ⟨vp_in_nI (by omega) (by omega), vp_in_nI (by omega) (by omega), ?_⟩⟩
  · rw [hc] at c
    rw [if_neg c] at hq
    exact hq
  · rw [hc] at c
    rw [if_pos c] at hq
    rw [and_notN (by omega) (by omega), nI_or]
    have e : (s ^^^ (s &&& tk a)) ||| ad a = (s ||| ad a) ^^^ ((s ||| ad a) &&& tk a) := by
      apply Nat.eq_of_testBit_eq
      intro i
      have hz : (ad a &&& tk a).testBit i = false := by rw [l4]; exact Nat.zero_testBit i
      rw [Nat.testBit_and] at hz
      rw [Nat.testBit_or, Nat.testBit_xor, Nat.testBit_and, Nat.testBit_xor, Nat.testBit_and, Nat.testBit_or]
      cases s.testBit i <;> cases h8 : (ad a).testBit i <;> cases h9 : (tk a).testBit i <;> simp [h8, h9] at hz ⊢
    rw [e]
    exact hq
theorem s_afterN {mt : mTask} {f n bg gl : Nat} {aq ad tk : Nat → Nat} (hT : isMT mt f n bg gl aq ad tk) {x : Int32} {Q : Int32 → Prop} (hq : Q x) : w_Ref_after x (nI n) mt Q := by
  unfold w_Ref_after
  rw [hT.2.1]
  exact ⟨fun c => absurd rfl c, fun _ => hq⟩
/-- the ways of k steps from s, 60 at most -/
def sg (g : Nat → Nat) : Nat → Nat
  | 0 => 0
  | n + 1 => sg g n + g n
def wy (n gl : Nat) (aq ad tk : Nat → Nat) : Nat → Nat → Nat
  | 0, s => if gl &&& s = gl then 1 else 0
  | k + 1, s => min (wy n gl aq ad tk k s + sg (fun a => match aft aq ad tk a s with
    | some s' => wy n gl aq ad tk k s'
    | none => 0) n) 60
def wa (n gl : Nat) (aq ad tk : Nat → Nat) (k s a : Nat) : Nat := match aft aq ad tk a s with
  | some s' => wy n gl aq ad tk k s'
  | none => 0
theorem wy_s (n gl : Nat) (aq ad tk : Nat → Nat) (k s : Nat) : wy n gl aq ad tk (k + 1) s = min (wy n gl aq ad tk k s + sg (wa n gl aq ad tk k s) n) 60 := rfl
theorem wy_le (n gl : Nat) (aq ad tk : Nat → Nat) (k s : Nat) : wy n gl aq ad tk k s ≤ 60 := by
  cases k with
  | zero => unfold wy; split <;> omega
  | succ k => rw [wy_s]; omega
theorem wa_le (n gl : Nat) (aq ad tk : Nat → Nat) (k s a : Nat) : wa n gl aq ad tk k s a ≤ 60 := by
  unfold wa
  split
  · exact wy_le ..
  · omega
theorem sg_le {g : Nat → Nat} {c : Nat} (h : ∀ a, g a ≤ c) : ∀ n, sg g n ≤ n * c
  | 0 => by simp [sg]
  | n + 1 => by have := sg_le h n; have := h n; rw [sg, Nat.succ_mul]; omega
/-- rows 0 .. of the table hold the ways -/
def wOk (f n gl : Nat) (aq ad tk : Nat → Nat) (w : Nat → Int32) (k : Nat) : Prop := ∀ s, s < 2 ^ f → w (64 * k + s) = nI (wy n gl aq ad tk k s)
theorem s_waysC {tw : tWays} {k s : Nat} (hk : k ≤ 5) (hs : s < 64) {Q : Int32 → Prop} (hq : Q (tw.ways (64 * k + s))) : w_Task_waysCounted (nI k) (nI s) tw Q := by
  unfold w_Task_waysCounted
  refine ⟨fun c => absurd c (nI_pos (by omega)), fun _ => pk_lt 5 k (fun c => by omega) (fun _ => ⟨fun c => absurd c (nI_pos (by omega)), fun _ => pk_lt s 64 (fun _ => ?_) (fun c => by omega)⟩)⟩
  have e : nI k * 64 + nI s = nI (64 * k + s) := by rw [show (64 : Int32) = nI 64 from rfl, pk_mul, nI_add]; congr 1; omega
  rw [e]
  refine ⟨vp_in_nI (by omega) (by omega), ?_⟩
  rw [nI_clamp (by omega)]
  exact hq
theorem s_waysN {tw : tWays} {k : Nat} (hk : k ≤ 5) {Q : Int32 → Prop} (hq : Q 0) : w_Task_waysCounted (nI k) (-1) tw Q := by
  unfold w_Task_waysCounted
  refine ⟨fun c => absurd c (nI_pos (by omega)), fun _ => pk_lt 5 k (fun c => by omega) (fun _ => ⟨fun _ => hq, fun c => absurd (by decide) c⟩)⟩
section TASKS
variable {ta : tTask} {mt : mTask} {f n bg gl : Nat} {aq ad tk : Nat → Nat}
theorem s_waysO (hk : tkOk f n bg gl aq ad tk) {tw : tWays} {k a s : Nat} (hk5 : k ≤ 5) (ha : a < n) (hs : s < 2 ^ f) (hw : wOk f n gl aq ad tk tw.ways k) {Q : Int32 → Prop} (hq : Q (nI (wa n gl aq ad tk k s a))) : w_Task_waysCounted (nI k) (oI (aft aq ad tk a s)) tw Q := by
  have hf := p_f hk.1
  unfold wa at hq
  cases h : aft aq ad tk a s with
  | none => rw [h] at hq; exact s_waysN hk5 hq
  | some s' =>
    rw [h] at hq
    have hl := aft_lt hk ha hs h
    refine s_waysC hk5 (by omega) ?_
    rw [hw s' hl]
    exact hq
theorem l_cW81 (hk : tkOk f n bg gl aq ad tk) (hT : isTA ta f n bg gl aq ad tk) {tw : tWays} {k s : Nat} {x1 : Int32} (hk5 : k < 5) (hs : s < 2 ^ f) (hw : wOk f n gl aq ad tk tw.ways k) {K : Int32 → Prop} (hK : K (nI (wy n gl aq ad tk k s + sg (wa n gl aq ad tk k s) n))) :
    ∀ nn a, a ≤ n → n - a < nn → w_Task_countWays_L81 x1 (nI (k + 1)) (nI s) ta tw K nn (nI (wy n gl aq ad tk k s + sg (wa n gl aq ad tk k s) a)) (nI a) := by
  have hn := hk.2.1
  intro nn
  induction nn with
  | zero => intro a _ h; omega
  | succ nn ih =>
    intro a ha hm
    rw [w_Task_countWays_L81, hT.2.1]
    refine pk_le n a (fun c => ?_) (fun c => ?_)
    · rw [show a = n by omega]; exact hK
    · refine s_after hk hT c hs ?_
      rw [nI_pred]
      refine s_waysO hk (by omega) c hs hw ?_
      rw [nI_add, nI_1, Nat.add_assoc]
      exact ih (a + 1) (by omega) (by omega)
theorem l_cW57 (hk : tkOk f n bg gl aq ad tk) (hT : isTA ta f n bg gl aq ad tk) {k : Nat} (hk5 : k < 5) {K : tWays → Prop} {w0 : tWays}
    (hK : ∀ tw : tWays, tw.counted = w0.counted → (∀ j, j ≤ k → wOk f n gl aq ad tk w0.ways j → wOk f n gl aq ad tk tw.ways j) → wOk f n gl aq ad tk tw.ways (k + 1) → K tw) :
    ∀ nn s, s ≤ 2 ^ f → 2 ^ f - s < nn → ∀ tw : tWays, tw.counted = w0.counted → (∀ j, j ≤ k → wOk f n gl aq ad tk w0.ways j → wOk f n gl aq ad tk tw.ways j) → wOk f n gl aq ad tk tw.ways k → (∀ q, q < s → tw.ways (64 * (k + 1) + q) = nI (wy n gl aq ad tk (k + 1) q)) →
      w_Task_countWays_L57 (nI (2 ^ f)) (nI (k + 1)) ta K nn (nI s) tw := by
  have hf := p_f hk.1
  have hn := hk.2.1
  intro nn
  induction nn with
  | zero => intro s _ h; omega
  | succ nn ih =>
    intro s hs hm tw h1 h2 h3 h4
    rw [w_Task_countWays_L57]
    refine pk_le (2 ^ f) s (fun c => ?_) (fun c => pk_le 64 s (fun c2 => by omega) (fun _ => ?_))
    · exact hK tw h1 h2 (fun q hq => h4 q (by omega))
    · rw [nI_pred]
      refine s_waysC (by omega) (by omega) ?_
      rw [h3 s c]
      refine ⟨n + 1, ?_⟩
      have hb1 := wy_le n gl aq ad tk k s
      have hb2 := sg_le (wa_le n gl aq ad tk k s) n
      have hb3 : n * 60 ≤ 300 := by omega
      refine l_cW81 hk hT hk5 c h3 ?_ (n + 1) 0 (by omega) (by omega)
      rw [show (60 : Int32) = nI 60 from rfl]
      refine s_min (by omega) (by omega) ?_
      have e : nI (k + 1) * 64 + nI s = nI (64 * (k + 1) + s) := by rw [show (64 : Int32) = nI 64 from rfl, pk_mul, nI_add]; congr 1; omega
      rw [e]
      refine ⟨vp_in_nI (by omega) (by omega), ?_⟩
      rw [nI_clamp (by omega), nI_1, ← wy_s]
      have up : ∀ i, i ≠ 64 * (k + 1) + s → upd tw.ways (64 * (k + 1) + s) (nI (wy n gl aq ad tk (k + 1) s)) i = tw.ways i := fun i hi => pk_un hi
      refine ih (s + 1) (by omega) (by omega) _ h1 (fun j hj hw q hq => ?_) (fun q hq => ?_) (fun q hq => ?_)
      · exact (up _ (by omega)).trans (h2 j hj hw q hq)
      · exact (up _ (by omega)).trans (h3 q hq)
      · by_cases e2 : q = s
        · subst e2; exact pk_us
        · exact (up _ (by omega)).trans (h4 q (by omega))
theorem l_cW50 (hk : tkOk f n bg gl aq ad tk) (hT : isTA ta f n bg gl aq ad tk) {K : tWays → Prop} {ct0 : Int32} (hK : ∀ tw : tWays, tw.counted = ct0 → (∀ j, j ≤ 5 → wOk f n gl aq ad tk tw.ways j) → K tw) :
    ∀ nn k, 1 ≤ k → k ≤ 6 → 6 - k < nn → ∀ tw : tWays, tw.counted = ct0 → (∀ j, j < k → wOk f n gl aq ad tk tw.ways j) → w_Task_countWays_L50 (nI (2 ^ f)) ta K nn (nI k) tw := by
  intro nn
  induction nn with
  | zero => intro k _ _ h; omega
  | succ nn ih =>
    intro k hk1 hk6 hm tw h1 h2
    rw [w_Task_countWays_L50]
    refine pk_lt 5 k (fun c => ?_) (fun c => ?_)
    · exact hK tw h1 (fun j hj => h2 j (by omega))
    · obtain ⟨k, rfl⟩ : ∃ k', k = k' + 1 := ⟨k - 1, by omega⟩
      refine ⟨2 ^ f + 1, l_cW57 hk hT (by omega) (w0 := tw) (fun tw' e1 e2 e3 => ?_) (2 ^ f + 1) 0 (Nat.zero_le _) (Nat.lt_succ_self _) tw rfl (fun _ _ h => h) (h2 k (by omega)) (fun q hq => by omega)⟩
      rw [nI_1]
      refine ih (k + 1 + 1) (by omega) (by omega) (by omega) tw' (e1.trans h1) (fun j hj => ?_)
      by_cases e : j = k + 1
      · subst e; exact e3
      · exact e2 j (by omega) (h2 j (by omega))
theorem l_cW9 (hk : tkOk f n bg gl aq ad tk) (hT : isTA ta f n bg gl aq ad tk) {K : tWays → Prop} {ct0 : Int32} (hK : ∀ tw : tWays, tw.counted = ct0 → wOk f n gl aq ad tk tw.ways 0 → K tw) :
    ∀ nn s, s ≤ 2 ^ f → 2 ^ f - s < nn → ∀ tw : tWays, tw.counted = ct0 → (∀ q, q < s → tw.ways q = nI (wy n gl aq ad tk 0 q)) → w_Task_countWays_L9 (nI (2 ^ f)) ta K nn (nI s) tw := by
  have hf := p_f hk.1
  have hgl := hk.2.2.2.1
  intro nn
  induction nn with
  | zero => intro s _ h; omega
  | succ nn ih =>
    intro s hs hm tw h1 h2
    rw [w_Task_countWays_L9, hT.2.2.2.1]
    refine pk_le (2 ^ f) s (fun c => hK tw h1 (fun q hq => by rw [show 64 * 0 + q = q by omega]; exact h2 q (by omega))) (fun c => pk_le 64 s (fun c2 => by omega) (fun _ => ⟨fun c3 => ⟨vp_in_nI (by omega) (by omega), ?_⟩, fun c3 => ⟨vp_in_nI (by omega) (by omega), ?_⟩⟩))
    all_goals
      rw [and_sub (by omega) (by omega)] at c3
      rw [nI_clamp (by omega), nI_1]
      refine ih (s + 1) (by omega) (by omega) _ h1 (fun q hq => ?_)
      by_cases e : q = s
      · subst e
        refine pk_us.trans ?_
        unfold wy
        first | rw [if_pos c3]; rfl | rw [if_neg c3]; rfl
      · exact (pk_un e).trans (h2 q (by omega))
theorem p_shl {f : Nat} (h : f ≤ 6) : (1 : Int32) <<< (nI f &&& 31) = nI (2 ^ f) := by
  rcases (show f = 0 ∨ f = 1 ∨ f = 2 ∨ f = 3 ∨ f = 4 ∨ f = 5 ∨ f = 6 by omega) with rfl | rfl | rfl | rfl | rfl | rfl | rfl <;> decide
theorem s_countWays (hk : tkOk f n bg gl aq ad tk) (hT : isTA ta f n bg gl aq ad tk) {tw : tWays} {Q : tWays → Prop} (hq : ∀ tw' : tWays, tw'.counted = tw.counted → (∀ j, j ≤ 5 → wOk f n gl aq ad tk tw'.ways j) → Q tw') : w_Task_countWays ta tw Q := by
  unfold w_Task_countWays
  rw [hT.1, p_shl hk.1]
  refine ⟨2 ^ f + 1, l_cW9 hk hT (ct0 := tw.counted) (fun tw1 e1 e2 => ?_) (2 ^ f + 1) 0 (Nat.zero_le _) (Nat.lt_succ_self _) tw rfl (fun q hq => by omega)⟩
  exact ⟨7, l_cW50 hk hT (ct0 := tw.counted) (fun tw2 e3 e4 => hq tw2 e3 e4) 7 1 (by omega) (by omega) (by omega) tw1 e1 (fun j hj => by rw [show j = 0 by omega]; exact e2)⟩
/-- what the class knows of the ways -/
def wKn (tw : tWays) (f n gl : Nat) (aq ad tk : Nat → Nat) : Prop := (tw.counted = 0 ∨ tw.counted = 1) ∧ (¬ tw.counted = 0 → ∀ j, j ≤ 5 → wOk f n gl aq ad tk tw.ways j)
theorem s_ways (hk : tkOk f n bg gl aq ad tk) (hT : isTA ta f n bg gl aq ad tk) {tw : tWays} (hw : wKn tw f n gl aq ad tk) {k s : Nat} (hk5 : k ≤ 5) (hs : s < 2 ^ f) {Q : Int32 → tWays → Prop} (hq : ∀ tw', wKn tw' f n gl aq ad tk → Q (nI (wy n gl aq ad tk k s)) tw') : w_Task_ways (nI k) (nI s) ta tw Q := by
  have hf := p_f hk.1
  unfold w_Task_ways
  refine ⟨fun c => s_waysC hk5 (by omega) ?_, fun c => s_countWays hk hT (fun tw' e1 e2 => s_waysC hk5 (by omega) ?_)⟩
  · rw [hw.2 c k hk5 s hs]; exact hq tw hw
  · show Q (tw'.ways (64 * k + s)) _
    rw [e2 k hk5 s hs]
    exact hq _ ⟨Or.inr rfl, fun _ => e2⟩
theorem s_waysNeg (hk : tkOk f n bg gl aq ad tk) (hT : isTA ta f n bg gl aq ad tk) {tw : tWays} (hw : wKn tw f n gl aq ad tk) {k : Nat} (hk5 : k ≤ 5) {Q : Int32 → tWays → Prop} (hq : ∀ tw', wKn tw' f n gl aq ad tk → Q 0 tw') : w_Task_ways (nI k) (-1) ta tw Q := by
  unfold w_Task_ways
  refine ⟨fun c => s_waysN hk5 (hq tw hw), fun c => s_countWays hk hT (fun tw' e1 e2 => s_waysN hk5 (hq _ ⟨Or.inr rfl, fun _ => e2⟩))⟩
end TASKS
