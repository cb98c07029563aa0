/-! numbers and bits (the first rows began as kit/laws/BITS.to-paste) -/
def bt (x : Int32) (i : Nat) : Bool := x.toBitVec.getLsbD i
theorem b_ext {x y : Int32} (h : ∀ i, i < 32 → bt x i = bt y i) : x = y := Int32.toBitVec_inj.mp (BitVec.eq_of_getLsbD_eq (fun i hi => h i hi))
theorem b_or (x y : Int32) (i : Nat) : bt (x ||| y) i = (bt x i || bt y i) := by unfold bt; rw [Int32.toBitVec_or, BitVec.getLsbD_or]
theorem b_and (x y : Int32) (i : Nat) : bt (x &&& y) i = (bt x i && bt y i) := by unfold bt; rw [Int32.toBitVec_and, BitVec.getLsbD_and]
theorem b_xor (x y : Int32) (i : Nat) : bt (x ^^^ y) i = (bt x i ^^ bt y i) := by unfold bt; rw [Int32.toBitVec_xor, BitVec.getLsbD_xor]
theorem b_big {x : Int32} {i : Nat} (h : 32 ≤ i) : bt x i = false := BitVec.getLsbD_of_ge _ _ h
theorem b_m1 : ∀ i, i < 32 → bt (-1) i = true := by decide +kernel
theorem b_0 (i : Nat) : bt 0 i = false := BitVec.getLsbD_zero
theorem s_l : ∀ n, n < 32 → ((nI n &&& 31).toBitVec.smod 32).toNat = n := by decide +kernel
theorem s_u : ∀ n, n < 32 → (((nI n).toUInt32 &&& Int32.toUInt32 31).toBitVec % 32).toNat = n := by decide +kernel
theorem b_shl (n : Nat) (hn : n < 32) (x : Int32) {i : Nat} (hi : i < 32) : bt (x <<< (nI n &&& 31)) i = (decide (n ≤ i) && bt x (i - n)) := by
  unfold bt
  rw [Int32.toBitVec_shiftLeft]
  show (x.toBitVec <<< ((nI n &&& 31).toBitVec.smod 32).toNat).getLsbD i = _
  rw [s_l n hn, BitVec.getLsbD_shiftLeft]
  rcases Nat.lt_or_ge i n with h | h
  · simp [h, Nat.not_le.mpr h]
  · simp [hi, h, Nat.not_lt.mpr h]
theorem b_sshr (n : Nat) (hn : n < 32) (x : Int32) {i : Nat} (hi : i < 32) : bt (x >>> (nI n &&& 31)) i = if n + i < 32 then bt x (n + i) else bt x 31 := by
  unfold bt
  rw [Int32.toBitVec_shiftRight]
  show (x.toBitVec.sshiftRight ((nI n &&& 31).toBitVec.smod 32).toNat).getLsbD i = _
  rw [s_l n hn, BitVec.getLsbD_sshiftRight, BitVec.msb_eq_getLsbD_last]
  simp [hi]
theorem b_not (x : Int32) {i : Nat} (hi : i < 32) : bt (x ^^^ (-1)) i = !bt x i := by rw [b_xor, b_m1 i hi]; cases bt x i <;> rfl
theorem b_eq0 {x : Int32} : x = 0 ↔ ∀ i, i < 32 → bt x i = false := ⟨fun h i _ => by rw [h, b_0], fun h => b_ext (fun i hi => by rw [h i hi, b_0])⟩
theorem b_ne0 {x : Int32} (h : ¬ x = 0) : ∃ i, i < 32 ∧ bt x i = true := by
  refine Classical.byContradiction (fun hc => h (b_eq0.mpr (fun i hi => ?_)))
  cases hb : bt x i with
  | false => rfl
  | true => exact absurd ⟨i, hi, hb⟩ hc
/-- a row of truths: 30 bits -/
def sm (x : Int32) : Prop := ∀ i, 30 ≤ i → bt x i = false
theorem sm_lt {x : Int32} (h : sm x) {i : Nat} (hb : bt x i = true) : i < 30 := by
  rcases Nat.lt_or_ge i 30 with q | q
  · exact q
  · rw [h i q] at hb; cases hb
theorem sm_0 : sm 0 := fun i _ => b_0 i
theorem sm_or {x y : Int32} (hx : sm x) (hy : sm y) : sm (x ||| y) := fun i hi => by rw [b_or, hx i hi, hy i hi]; rfl
theorem sm_andl {x y : Int32} (hx : sm x) : sm (x &&& y) := fun i hi => by rw [b_and, hx i hi]; rfl
theorem sm_andr {x y : Int32} (hy : sm y) : sm (x &&& y) := fun i hi => by rw [b_and, hy i hi]; cases bt x i <;> rfl
theorem sm_ne0 {x : Int32} (hs : sm x) (h : ¬ x = 0) : ∃ i, i < 30 ∧ bt x i = true := by
  obtain ⟨i, -, hb⟩ := b_ne0 h
  exact ⟨i, sm_lt hs hb, hb⟩
theorem sm_eq {x y : Int32} (hx : sm x) (hy : sm y) (h : ∀ i, i < 30 → bt x i = bt y i) : x = y := by
  refine b_ext (fun i _ => ?_)
  rcases Nat.lt_or_ge i 30 with q | q
  · exact h i q
  · rw [hx i q, hy i q]
theorem sm_eq0 {x : Int32} (hx : sm x) (h : ∀ i, i < 30 → bt x i = false) : x = 0 := sm_eq hx sm_0 (fun i hi => by rw [h i hi, b_0])
theorem and_eq0 {x y : Int32} : x &&& y = 0 ↔ ∀ i, bt x i = true → bt y i = true → False := by
  constructor
  · intro h i hx hy
    have := b_0 i
    rw [← h, b_and, hx, hy] at this
    cases this
  · intro h
    refine b_eq0.mpr (fun i _ => ?_)
    rw [b_and]
    cases hx : bt x i with
    | false => rfl
    | true =>
      cases hy : bt y i with
      | false => rfl
      | true => exact (h i hx hy).elim
theorem and_ne0 {x y : Int32} : ¬ x &&& y = 0 ↔ ∃ i, bt x i = true ∧ bt y i = true := by
  constructor
  · intro h
    obtain ⟨i, -, hb⟩ := b_ne0 h
    rw [b_and, Bool.and_eq_true] at hb
    exact ⟨i, hb⟩
  · rintro ⟨i, hx, hy⟩ h
    exact and_eq0.mp h i hx hy
theorem or_eq0 {x y : Int32} : x ||| y = 0 ↔ x = 0 ∧ y = 0 := by
  constructor
  · intro h
    refine ⟨b_eq0.mpr (fun i hi => ?_), b_eq0.mpr (fun i hi => ?_)⟩ <;>
    · have := b_eq0.mp h i hi
      rw [b_or, Bool.or_eq_false_iff] at this
      first | exact this.1 | exact this.2
  · rintro ⟨rfl, rfl⟩
    exact b_eq0.mpr (fun i _ => by rw [b_or, b_0]; rfl)
/-- one bit -/
def b1 (v : Nat) : Int32 := (1 : Int32) <<< (nI v &&& 31)
theorem b_1 : ∀ i, bt 1 i = decide (i = 0) := by
  intro i
  rcases Nat.lt_or_ge i 32 with h | h
  · revert i; decide +kernel
  · rw [b_big h]; simp; omega
theorem b_b1 {v : Nat} (hv : v < 32) (i : Nat) : bt (b1 v) i = decide (i = v) := by
  unfold b1
  rcases Nat.lt_or_ge i 32 with h | h
  · rw [b_shl v hv 1 h, b_1]
    by_cases e : i = v
    · subst e; simp
    · by_cases e2 : v ≤ i
      · simp [e, e2]; omega
      · simp [e, e2]
  · rw [b_big h]; simp; omega
theorem sm_b1 {v : Nat} (hv : v < 30) : sm (b1 v) := fun i hi => by rw [b_b1 (by omega)]; simp; omega
theorem b1_ne0 {v : Nat} (hv : v < 32) : ¬ b1 v = 0 := fun h => by
  have := b_b1 hv v
  rw [h, b_0] at this
  simp at this
/-- the bits as a number -/
theorem b_nat (x : Int32) (i : Nat) : bt x i = x.toBitVec.toNat.testBit i := rfl
theorem nI_nat {n : Nat} (h : n < 2 ^ 32) : (nI n).toBitVec.toNat = n := pk_tn h
theorem b_nI {n : Nat} (h : n < 2 ^ 32) (i : Nat) : bt (nI n) i = n.testBit i := by rw [b_nat, nI_nat h]
theorem nI_of_nat (x : Int32) : x = nI x.toBitVec.toNat := by
  apply Int32.toBitVec_inj.mp
  apply BitVec.eq_of_toNat_eq
  rw [nI_nat x.toBitVec.isLt]
theorem nat_lt_of_bits {n k : Nat} (h : ∀ i, k ≤ i → n.testBit i = false) : n < 2 ^ k := by
  rcases Nat.lt_or_ge n (2 ^ k) with q | q
  · exact q
  · obtain ⟨i, hi, hb⟩ := Nat.exists_ge_and_testBit_of_ge_two_pow q
    rw [h i hi] at hb; cases hb
theorem sm_nat {x : Int32} (h : sm x) : ∃ k, k < 2 ^ 30 ∧ x = nI k := ⟨_, nat_lt_of_bits (fun i hi => h i hi), nI_of_nat x⟩
theorem sm_of_nat {k : Nat} (h : k < 2 ^ 30) : sm (nI k) := fun i hi => by
  rw [b_nI (by omega)]
  exact Nat.testBit_lt_two_pow (Nat.lt_of_lt_of_le h (Nat.pow_le_pow_right (by omega) hi))
theorem sm_nonneg {x : Int32} (h : sm x) : ¬ x < 0 := by
  obtain ⟨k, hk, rfl⟩ := sm_nat h
  exact nI_pos (by omega)
theorem sm_ne_m1 {x : Int32} (h : sm x) : ¬ x = -1 := fun e => by
  have := h 30 (by omega)
  rw [e, b_m1 30 (by omega)] at this
  cases this
/-- the lowest bit -/
theorem low_bit {x : Int32} (h : ¬ x = 0) : ∃ l, l < 32 ∧ bt x l = true ∧ ∀ i, i < l → bt x i = false := by
  obtain ⟨i, hi, hb⟩ := b_ne0 h
  obtain ⟨l, h1, h2⟩ := pk_least (fun k => bt x k = true) ⟨i, hb⟩
  refine ⟨l, ?_, h1, fun j hj => by simpa using h2 j hj⟩
  rcases Nat.lt_or_ge l 32 with q | q
  · exact q
  · rw [b_big q] at h1; cases h1
theorem low_nat {x : Int32} {l : Nat} (hb : bt x l = true) (hz : ∀ i, i < l → bt x i = false) : ∃ k, x.toBitVec.toNat = 2 ^ l * (2 * k + 1) := by
  have h1 : x.toBitVec.toNat % 2 ^ l = 0 := by
    apply Nat.eq_of_testBit_eq
    intro i
    rw [Nat.testBit_mod_two_pow, Nat.zero_testBit]
    by_cases q : i < l
    · simp [q]; exact hz i q
    · simp [q]
  have h2 : (x.toBitVec.toNat / 2 ^ l).testBit 0 = true := by
    rw [Nat.testBit_div_two_pow, Nat.zero_add]; exact hb
  rw [Nat.testBit_zero, decide_eq_true_eq] at h2
  refine ⟨x.toBitVec.toNat / 2 ^ l / 2, ?_⟩
  have h3 := Nat.div_add_mod x.toBitVec.toNat (2 ^ l)
  have h4 : 2 * (x.toBitVec.toNat / 2 ^ l / 2) + 1 = x.toBitVec.toNat / 2 ^ l := by omega
  rw [h4]; omega
theorem nat_pred {x : Int32} (h : ¬ x = 0) : (x - 1).toBitVec.toNat = x.toBitVec.toNat - 1 := by
  have h0 : x.toBitVec.toNat ≠ 0 := fun e => h (by rw [nI_of_nat x, e]; rfl)
  have hlt := x.toBitVec.isLt
  rw [Int32.toBitVec_sub, BitVec.toNat_sub]
  show (2 ^ 32 - (1 : Int32).toBitVec.toNat + x.toBitVec.toNat) % 2 ^ 32 = _
  rw [show (1 : Int32).toBitVec.toNat = 1 from rfl]
  omega
theorem b_pred {x : Int32} {l : Nat} (hb : bt x l = true) (hz : ∀ i, i < l → bt x i = false) (i : Nat) : bt (x - 1) i = if i < l then true else if i = l then false else bt x i := by
  have hx : ¬ x = 0 := fun e => by rw [e, b_0] at hb; cases hb
  obtain ⟨k, hk⟩ := low_nat hb hz
  have hp := Nat.two_pow_pos l
  have e1 : x.toBitVec.toNat - 1 = 2 ^ l * (2 * k) + (2 ^ l - 1) := by rw [hk, Nat.mul_add]; omega
  rw [b_nat, nat_pred hx, e1, Nat.testBit_two_pow_mul_add _ (by omega)]
  by_cases q : i < l
  · simp [q, Nat.testBit_two_pow_sub_one]
  · rw [if_neg q, if_neg q, b_nat, hk]
    have e2 := Nat.testBit_two_pow_mul_add (2 * k + 1) (b := 0) hp i
    rw [Nat.add_zero] at e2
    rw [e2, if_neg q]
    by_cases q2 : i = l
    · subst q2; simp [Nat.testBit_zero]
    · rw [if_neg q2]
      obtain ⟨j, hj⟩ : ∃ j, i - l = j + 1 := ⟨i - l - 1, by omega⟩
      rw [hj, Nat.testBit_succ, Nat.testBit_succ]
      congr 1; omega
theorem b_pred_and {x : Int32} {l : Nat} (hb : bt x l = true) (hz : ∀ i, i < l → bt x i = false) (i : Nat) : bt (x &&& (x - 1)) i = (bt x i && decide (i ≠ l)) := by
  rw [b_and, b_pred hb hz]
  by_cases q : i < l
  · rw [hz i q]; simp
  · by_cases q2 : i = l
    · subst q2; simp
    · simp [q, q2]
/-- x and x - 1: nothing is left if there is one bit alone -/
theorem pred_zero {x : Int32} (hx : ¬ x = 0) (h : x &&& (x - 1) = 0) : ∃ l, l < 32 ∧ x = b1 l := by
  obtain ⟨l, hl, hb, hz⟩ := low_bit hx
  refine ⟨l, hl, b_ext (fun i hi => ?_)⟩
  rw [b_b1 hl]
  have := b_0 i
  rw [← h, b_pred_and hb hz] at this
  by_cases q : i = l
  · subst q; simp [hb]
  · simp [q] at this; simp [q, this]
theorem pred_some {x : Int32} (h : ¬ x &&& (x - 1) = 0) : ∃ i j, i < j ∧ bt x i = true ∧ bt x j = true := by
  have hx : ¬ x = 0 := fun e => h (by rw [e]; rfl)
  obtain ⟨l, hl, hb, hz⟩ := low_bit hx
  obtain ⟨i, hi, hb2⟩ := b_ne0 h
  rw [b_pred_and hb hz] at hb2
  simp at hb2
  refine ⟨l, i, ?_, hb, hb2.1⟩
  rcases Nat.lt_trichotomy i l with q | q | q
  · rw [hz i q] at hb2; simp at hb2
  · exact absurd q hb2.2
  · exact q
theorem b1_pred {l : Nat} (hl : l < 32) : b1 l &&& (b1 l - 1) = 0 := by
  refine b_eq0.mpr (fun i _ => ?_)
  rw [b_pred_and (l := l) (by rw [b_b1 hl]; simp) (fun i hi => by rw [b_b1 hl]; simp; omega), b_b1 hl]
  by_cases q : i = l <;> simp [q]
theorem neg_pred (x : Int32) : -x = (x - 1) ^^^ (-1) := by
  by_cases h : x = 0
  · subst h; rfl
  · apply Int32.toBitVec_inj.mp
    apply BitVec.eq_of_toNat_eq
    have h0 : x.toBitVec.toNat ≠ 0 := fun e => h (by rw [nI_of_nat x, e]; rfl)
    have hlt := x.toBitVec.isLt
    have e1 : ((x - 1) ^^^ (-1)).toBitVec = ~~~(x - 1).toBitVec := by
      rw [Int32.toBitVec_xor]
      show (x - 1).toBitVec ^^^ BitVec.allOnes 32 = _
      rw [BitVec.xor_allOnes]
    rw [e1, BitVec.toNat_not, nat_pred h, Int32.toBitVec_neg, BitVec.toNat_neg]
    omega
/-- the lowest bit alone -/
theorem low_alone {x : Int32} {l : Nat} (hl : l < 32) (hb : bt x l = true) (hz : ∀ i, i < l → bt x i = false) : x &&& -x = b1 l := by
  refine b_ext (fun i hi => ?_)
  rw [neg_pred, b_and, b_not _ hi, b_pred hb hz, b_b1 hl]
  by_cases q : i < l
  · rw [hz i q]; simp; omega
  · by_cases q2 : i = l
    · subst q2; simp [hb]
    · simp [q, q2]
