/-! the code of a task: the list that both sides tell -/
def cat {α : Type} (g : Nat → List α) : Nat → List α
  | 0 => []
  | n + 1 => cat g n ++ g n
theorem cat_s {α : Type} (g : Nat → List α) (n : Nat) : cat g (n + 1) = cat g n ++ g n := rfl
def lits (cs : List (List Int32)) : Nat := cs.flatten.length
theorem lits_app (a b : List (List Int32)) : lits (a ++ b) = lits a + lits b := by unfold lits; rw [List.flatten_append, List.length_append]
theorem lits_nil : lits [] = 0 := rfl
theorem cat_mono {α : Type} (g : Nat → List α) {j n : Nat} (h : j ≤ n) : (cat g j).length ≤ (cat g n).length := by
  induction n with
  | zero => rw [show j = 0 by omega]; exact Nat.le_refl _
  | succ n ih =>
    by_cases e : j = n + 1
    · subst e; exact Nat.le_refl _
    · have := ih (by omega); rw [cat_s, List.length_append]; omega
theorem catl_mono (g : Nat → List (List Int32)) {j n : Nat} (h : j ≤ n) : lits (cat g j) ≤ lits (cat g n) := by
  induction n with
  | zero => rw [show j = 0 by omega]; exact Nat.le_refl _
  | succ n ih =>
    by_cases e : j = n + 1
    · subst e; exact Nat.le_refl _
    · have := ih (by omega); rw [cat_s, lits_app]; omega
theorem cat_le {α : Type} {g : Nat → List α} {c : Nat} : ∀ {n : Nat}, (∀ j, j < n → (g j).length ≤ c) → (cat g n).length ≤ n * c
  | 0, _ => by simp [cat]
  | n + 1, h => by have := cat_le (n := n) (fun j hj => h j (by omega)); have := h n (by omega); rw [cat_s, List.length_append, Nat.succ_mul]; omega
theorem catl_le {g : Nat → List (List Int32)} {c : Nat} : ∀ {n : Nat}, (∀ j, j < n → lits (g j) ≤ c) → lits (cat g n) ≤ n * c
  | 0, _ => by simp [cat, lits]
  | n + 1, h => by have := catl_le (n := n) (fun j hj => h j (by omega)); have := h n (by omega); rw [cat_s, lits_app, Nat.succ_mul]; omega
/-- a fact at a time, an action at a step -/
def fL (F f i : Nat) : Int32 := nI (1 + i * F + f)
def dL (t F A a i : Nat) : Int32 := nI (1 + (t + 1) * F + i * A + a)
def gEndA (F bg f : Nat) : List (List Int32) := [[if bg.testBit f then fL F f 0 else -fL F f 0]]
def gEndB (t F gl f : Nat) : List (List Int32) := if gl.testBit f then [[fL F f t]] else []
def gAsk (t F A : Nat) (aq : Nat → Nat) (i a f : Nat) : List (List Int32) := if (aq a).testBit f then [[-dL t F A a i, fL F f i]] else []
def gChg (t F A : Nat) (ad tk : Nat → Nat) (i a f : Nat) : List (List Int32) := if (ad a).testBit f then [[-dL t F A a i, fL F f (i + 1)]] else if (tk a).testBit f then [[-dL t F A a i, -fL F f (i + 1)]] else []
def gWith (t F A : Nat) (st : Nat → Nat) (i f a : Nat) : List Int32 := if (st a).testBit f then [dL t F A a i] else []
def gKept (t F A : Nat) (ad tk : Nat → Nat) (i f : Nat) : List (List Int32) := [[fL F f i, -fL F f (i + 1)] ++ cat (gWith t F A ad i f) A, [-fL F f i, fL F f (i + 1)] ++ cat (gWith t F A tk i f) A]
def gPair (t F A i a b : Nat) : List (List Int32) := [[-dL t F A a i, -dL t F A (a + 1 + b) i]]
def gStep (t F A : Nat) (aq ad tk : Nat → Nat) (i : Nat) : List (List Int32) :=
  cat (fun a => cat (gAsk t F A aq i a) F) A ++ (cat (fun a => cat (gChg t F A ad tk i a) F) A ++ (cat (gKept t F A ad tk i) F ++ cat (fun a => cat (gPair t F A i a) (A - (a + 1))) A))
def codeOf (t F A bg gl : Nat) (aq ad tk : Nat → Nat) : List (List Int32) := cat (gEndA F bg) F ++ (cat (gEndB t F gl) F ++ cat (gStep t F A aq ad tk) t)
/-! how long it is -/
theorem len_two {ad tk : Nat → Nat} {t F A i f : Nat} (h : ∀ a, a < A → ad a &&& tk a = 0) : ∀ n, n ≤ A → (cat (gWith t F A ad i f) n).length + (cat (gWith t F A tk i f) n).length ≤ n
  | 0, _ => by simp [cat]
  | n + 1, hn => by
    have ih := len_two (t := t) (F := F) (i := i) (f := f) h n (by omega)
    have hz : (ad n &&& tk n).testBit f = false := by rw [h n (by omega)]; exact Nat.zero_testBit f
    rw [Nat.testBit_and] at hz
    rw [cat_s, cat_s, List.length_append, List.length_append]
    have h1 : (gWith t F A ad i f n).length + (gWith t F A tk i f n).length ≤ 1 := by
      unfold gWith
      cases h8 : (ad n).testBit f <;> cases h9 : (tk n).testBit f <;> simp [h8, h9] at hz ⊢
    omega
theorem step_len {f n bg gl : Nat} {aq ad tk : Nat → Nat} (hk : tkOk f n bg gl aq ad tk) (t i : Nat) : (gStep t f n aq ad tk i).length ≤ 82 ∧ lits (gStep t f n aq ad tk i) ≤ 194 := by
  obtain ⟨hf, hn, -, -, hx⟩ := hk
  have a1 : (cat (fun a => cat (gAsk t f n aq i a) f) n).length ≤ n * (f * 1) := cat_le (fun a _ => cat_le (fun j _ => by unfold gAsk; split <;> simp))
  have a2 : lits (cat (fun a => cat (gAsk t f n aq i a) f) n) ≤ n * (f * 2) := catl_le (fun a _ => catl_le (fun j _ => by unfold gAsk; split <;> simp [lits]))
  have b1 : (cat (fun a => cat (gChg t f n ad tk i a) f) n).length ≤ n * (f * 1) := cat_le (fun a _ => cat_le (fun j _ => by unfold gChg; split <;> (try split) <;> simp))
  have b2 : lits (cat (fun a => cat (gChg t f n ad tk i a) f) n) ≤ n * (f * 2) := catl_le (fun a _ => catl_le (fun j _ => by unfold gChg; split <;> (try split) <;> simp [lits]))
  have c1 : (cat (gKept t f n ad tk i) f).length ≤ f * 2 := cat_le (fun j _ => by simp [gKept])
  have c2 : lits (cat (gKept t f n ad tk i) f) ≤ f * (4 + n) := catl_le (fun j _ => by
    have := len_two (t := t) (F := f) (A := n) (i := i) (f := j) (fun a ha => (hx a ha).2.2.2) n (Nat.le_refl n)
    simp only [gKept, lits, List.flatten_cons, List.flatten_nil, List.length_append, List.length_cons, List.length_nil]; omega)
  have pg : ∀ m, (cat (fun a => cat (gPair t f n i a) (n - (a + 1))) m).length ≤ m * n ∧ lits (cat (fun a => cat (gPair t f n i a) (n - (a + 1))) m) ≤ m * (n * 2) := fun m => ⟨cat_le (fun a _ => Nat.le_trans (cat_le (c := 1) (fun j _ => by simp [gPair])) (by omega)), catl_le (fun a _ => Nat.le_trans (catl_le (c := 2) (fun j _ => by simp [gPair, lits])) (by omega))⟩
  have d1 : (cat (fun a => cat (gPair t f n i a) (n - (a + 1))) n).length ≤ 10 ∧ lits (cat (fun a => cat (gPair t f n i a) (n - (a + 1))) n) ≤ 20 := by
    have p1 : ∀ a, (cat (gPair t f n i a) (n - (a + 1))).length ≤ (n - (a + 1)) * 1 := fun a => cat_le (fun j _ => by simp [gPair])
    have p2 : ∀ a, lits (cat (gPair t f n i a) (n - (a + 1))) ≤ (n - (a + 1)) * 2 := fun a => catl_le (fun j _ => by simp [gPair, lits])
    have q1 := p1 0; have q2 := p1 1; have q3 := p1 2; have q4 := p1 3; have q5 := p1 4
    have r1 := p2 0; have r2 := p2 1; have r3 := p2 2; have r4 := p2 3; have r5 := p2 4
    rcases (show n = 0 ∨ n = 1 ∨ n = 2 ∨ n = 3 ∨ n = 4 ∨ n = 5 by omega) with rfl | rfl | rfl | rfl | rfl | rfl <;>
      simp only [cat_s, show ∀ g : Nat → List (List Int32), cat g 0 = [] from fun _ => rfl, List.length_append, lits_app, List.length_nil, lits_nil] at * <;> omega
  have m1 : n * (f * 1) ≤ 5 * (6 * 1) := Nat.mul_le_mul hn (Nat.mul_le_mul hf (Nat.le_refl _))
  have m2 : n * (f * 2) ≤ 5 * (6 * 2) := Nat.mul_le_mul hn (Nat.mul_le_mul hf (Nat.le_refl _))
  have m3 : f * (4 + n) ≤ 6 * (4 + 5) := Nat.mul_le_mul hf (by omega)
  unfold gStep
  rw [List.length_append, List.length_append, List.length_append, lits_app, lits_app, lits_app]
  omega
theorem ends_len {t f n bg gl : Nat} {aq ad tk : Nat → Nat} (hk : tkOk f n bg gl aq ad tk) : (cat (gEndA f bg) f).length ≤ 6 ∧ lits (cat (gEndA f bg) f) ≤ 6 ∧ (cat (gEndB t f gl) f).length ≤ 6 ∧ lits (cat (gEndB t f gl) f) ≤ 6 := by
  have hf := hk.1
  have a1 : (cat (gEndA f bg) f).length ≤ f * 1 := cat_le (fun j _ => by simp [gEndA])
  have a2 : lits (cat (gEndA f bg) f) ≤ f * 1 := catl_le (fun j _ => by simp [gEndA, lits])
  have b1 : (cat (gEndB t f gl) f).length ≤ f * 1 := cat_le (fun j _ => by unfold gEndB; split <;> simp)
  have b2 : lits (cat (gEndB t f gl) f) ≤ f * 1 := catl_le (fun j _ => by unfold gEndB; split <;> simp [lits])
  omega
theorem code_len {t f n bg gl : Nat} {aq ad tk : Nat → Nat} (hk : tkOk f n bg gl aq ad tk) (ht : t ≤ 5) : (codeOf t f n bg gl aq ad tk).length ≤ 422 ∧ lits (codeOf t f n bg gl aq ad tk) ≤ 982 := by
  obtain ⟨e1, e2, e3, e4⟩ := ends_len (t := t) hk
  have s1 : (cat (gStep t f n aq ad tk) t).length ≤ t * 82 := cat_le (fun i _ => (step_len hk t i).1)
  have s2 : lits (cat (gStep t f n aq ad tk) t) ≤ t * 194 := catl_le (fun i _ => (step_len hk t i).2)
  unfold codeOf
  rw [List.length_append, List.length_append, lits_app, lits_app]
  omega
/-- one bit of a set, as both sides look at it -/
theorem has_v {X f : Nat} (hX : X < 2 ^ 31) (hf : f < 31) : ((nI X >>> (nI f &&& 31)) &&& 1) = if X.testBit f then 1 else 0 := by
  have h0 : ∀ i, i < 32 → bt ((nI X >>> (nI f &&& 31)) &&& 1) i = (decide (i = 0) && X.testBit f) := by
    intro i hi
    rw [b_and, b_1, b_sshr f (by omega) _ hi]
    by_cases e : i = 0
    · subst e; rw [if_pos (by omega), b_nI (by omega)]; simp
    · simp [e]
  refine b_ext (fun i hi => ?_)
  rw [h0 i hi]
  cases X.testBit f with
  | true => simp [b_1]
  | false => simp [b_0]
