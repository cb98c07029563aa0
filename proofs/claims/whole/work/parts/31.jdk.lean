/-! small numbers; the JDK's own functions -/
theorem bm {z : Int} (h1 : -2147483648 ≤ z) (h2 : z < 2147483648) : z.bmod (2 ^ 32) = z := by
  have e : ((2 ^ 32 : Nat) : Int) = 4294967296 := rfl
  rw [Int.bmod_def, e]
  split <;> omega
theorem ti_add {a b : Int32} (h1 : -2147483648 ≤ a.toInt + b.toInt) (h2 : a.toInt + b.toInt < 2147483648) : (a + b).toInt = a.toInt + b.toInt := by
  rw [Int32.toInt_add, bm h1 h2]
theorem ti_sub {a b : Int32} (h1 : -2147483648 ≤ a.toInt - b.toInt) (h2 : a.toInt - b.toInt < 2147483648) : (a - b).toInt = a.toInt - b.toInt := by
  rw [Int32.toInt_sub, bm h1 h2]
theorem ti_neg {a : Int32} (h : -2147483648 < a.toInt) : (-a).toInt = -a.toInt := by
  have := Int32.toInt_lt a
  rw [Int32.toInt_neg, bm (by omega) (by omega)]
theorem ti_le {a b : Int32} : a ≤ b ↔ a.toInt ≤ b.toInt := Int32.le_iff_toInt_le
theorem ti_lt {a b : Int32} : a < b ↔ a.toInt < b.toInt := Int32.lt_iff_toInt_lt
theorem ti_eq {a b : Int32} : a = b ↔ a.toInt = b.toInt := ⟨fun h => by rw [h], fun h => Int32.toInt_inj.mp h⟩
theorem of_ti {x : Int32} {n : Nat} (h : x.toInt = (n : Int)) : x = nI n := by
  have := Int32.toInt_lt x
  exact ti_eq.mpr (by rw [h, nI_toInt (by omega)])
theorem neg_nI {n : Nat} (h : n < 2 ^ 31) : (-nI n).toInt = -(n : Int) := by
  rw [ti_neg (by rw [nI_toInt h]; omega), nI_toInt h]
theorem s_abs {x : Int32} {Q : Int32 → Prop} (h : -2147483648 < x.toInt) (hq : Q (nI x.toInt.natAbs)) : w_Math_abs x Q := by
  unfold w_Math_abs
  have h2 := Int32.toInt_lt x
  refine ⟨fun c => ?_, fun c => ?_⟩
  · rw [ti_le] at c
    have c' : 0 ≤ x.toInt := c
    rw [of_ti (x := x) (n := x.toInt.natAbs) (by omega)]; exact hq
  · rw [ti_le] at c
    have c' : ¬ 0 ≤ x.toInt := c
    rw [of_ti (x := -x) (n := x.toInt.natAbs) (by rw [ti_neg h]; omega)]; exact hq
theorem s_min {a b : Nat} {Q : Int32 → Prop} (ha : a < 2 ^ 31) (hb : b < 2 ^ 31) (hq : Q (nI (min a b))) : w_Math_min (nI a) (nI b) Q := by
  unfold w_Math_min
  refine ⟨fun c => ?_, fun c => ?_⟩
  · rw [nI_ltI hb ha] at c
    rw [show b = min a b by omega]; exact hq
  · rw [nI_ltI hb ha] at c
    rw [show a = min a b by omega]; exact hq
theorem s_max {a b : Nat} {Q : Int32 → Prop} (ha : a < 2 ^ 31) (hb : b < 2 ^ 31) (hq : Q (nI (max a b))) : w_Math_max (nI a) (nI b) Q := by
  unfold w_Math_max
  refine ⟨fun c => ?_, fun c => ?_⟩
  · rw [nI_ltI ha hb] at c
    rw [show b = max a b by omega]; exact hq
  · rw [nI_ltI ha hb] at c
    rw [show a = max a b by omega]; exact hq
/-! how many bits -/
def cnt (p : Nat → Bool) : Nat → Nat
  | 0 => 0
  | n + 1 => cnt p n + if p n then 1 else 0
theorem cnt_s (p : Nat → Bool) (n : Nat) : cnt p (n + 1) = cnt p n + if p n then 1 else 0 := rfl
theorem cnt_cong {p q : Nat → Bool} : ∀ {n : Nat}, (∀ i, i < n → p i = q i) → cnt p n = cnt q n
  | 0, _ => rfl
  | n + 1, h => by rw [cnt_s, cnt_s, cnt_cong (fun i hi => h i (by omega)), h n (by omega)]
theorem cnt_split (p : Nat → Bool) (m : Nat) : ∀ n, cnt p (m + n) = cnt p m + cnt (fun k => p (m + k)) n
  | 0 => rfl
  | n + 1 => by
    have h := cnt_split p m n
    rw [← Nat.add_assoc, cnt_s, h, cnt_s]; omega
theorem cnt_le (p : Nat → Bool) : ∀ n, cnt p n ≤ n
  | 0 => Nat.le_refl 0
  | n + 1 => by have := cnt_le p n; rw [cnt_s]; split <;> omega
def pc (x : Int32) : Nat := cnt (bt x) 32
theorem fa_and (a b : Nat) : nI a &&& nI b = nI (a &&& b) := by
  apply Int32.toBitVec_inj.mp
  rw [Int32.toBitVec_and]
  show BitVec.ofNat 32 a &&& BitVec.ofNat 32 b = BitVec.ofNat 32 (a &&& b)
  rw [BitVec.ofNat_and]
theorem and_cat (k A v M m : Nat) (hv : v < 2 ^ k) (hm : m < 2 ^ k) : (2 ^ k * A + v) &&& (2 ^ k * M + m) = 2 ^ k * (A &&& M) + (v &&& m) := by
  apply Nat.eq_of_testBit_eq
  intro i
  have hvm : v &&& m < 2 ^ k := Nat.and_lt_two_pow _ hm
  rw [Nat.testBit_and, Nat.testBit_two_pow_mul_add _ hv, Nat.testBit_two_pow_mul_add _ hm, Nat.testBit_two_pow_mul_add _ hvm]
  split
  · rw [Nat.testBit_and]
  · rw [Nat.testBit_and]
def k1 (m X : Nat) : Nat := X - ((X / 2) &&& m)
def k2 (m X : Nat) : Nat := (X &&& m) + ((X / 4) &&& m)
def k3 (m X : Nat) : Nat := (X + X / 16) &&& m
theorem k1_cat {A v : Nat} (hv : v < 65536) : k1 1431655765 (65536 * A + v) = 65536 * k1 21845 A + k1 21845 v := by
  unfold k1
  have e : (65536 * A + v) / 2 = 65536 * (A / 2) + (32768 * (A % 2) + v / 2) := by omega
  have e2 : (65536 * (A / 2) + (32768 * (A % 2) + v / 2)) &&& 1431655765 = 65536 * (A / 2 &&& 21845) + ((32768 * (A % 2) + v / 2) &&& 21845) := and_cat 16 (A / 2) (32768 * (A % 2) + v / 2) 21845 21845 (by omega) (by omega)
  have e3 : (32768 * (A % 2) + v / 2) &&& 21845 = 32768 * (A % 2 &&& 0) + (v / 2 &&& 21845) := and_cat 15 (A % 2) (v / 2) 0 21845 (by omega) (by omega)
  have l1 : A / 2 &&& 21845 ≤ A / 2 := Nat.and_le_left
  have l2 : v / 2 &&& 21845 ≤ v / 2 := Nat.and_le_left
  rw [e, e2, e3, Nat.and_zero]
  omega
theorem k2_cat {A v : Nat} (hv : v < 65536) : k2 858993459 (65536 * A + v) = 65536 * k2 13107 A + k2 13107 v := by
  unfold k2
  have e : (65536 * A + v) / 4 = 65536 * (A / 4) + (16384 * (A % 4) + v / 4) := by omega
  have e1 : (65536 * A + v) &&& 858993459 = 65536 * (A &&& 13107) + (v &&& 13107) := and_cat 16 A v 13107 13107 (by omega) (by omega)
  have e2 : (65536 * (A / 4) + (16384 * (A % 4) + v / 4)) &&& 858993459 = 65536 * (A / 4 &&& 13107) + ((16384 * (A % 4) + v / 4) &&& 13107) := and_cat 16 (A / 4) (16384 * (A % 4) + v / 4) 13107 13107 (by omega) (by omega)
  have e3 : (16384 * (A % 4) + v / 4) &&& 13107 = 16384 * (A % 4 &&& 0) + (v / 4 &&& 13107) := and_cat 14 (A % 4) (v / 4) 0 13107 (by omega) (by omega)
  rw [e, e1, e2, e3, Nat.and_zero]
  omega
theorem k3_cat {A v : Nat} (hv : v ≤ 17476) (hA : A % 16 ≤ 4) : k3 252645135 (65536 * A + v) = 65536 * k3 3855 A + k3 3855 v := by
  unfold k3
  have e : (65536 * A + v) + (65536 * A + v) / 16 = 65536 * (A + A / 16) + (4096 * (A % 16) + (v + v / 16)) := by omega
  have e2 : (65536 * (A + A / 16) + (4096 * (A % 16) + (v + v / 16))) &&& 252645135 = 65536 * (A + A / 16 &&& 3855) + ((4096 * (A % 16) + (v + v / 16)) &&& 3855) := and_cat 16 (A + A / 16) (4096 * (A % 16) + (v + v / 16)) 3855 3855 (by omega) (by omega)
  have e3 : ∀ q r : Nat, r < 4096 → (4096 * q + r) &&& 3855 = r &&& 3855 := fun q r hr => by
    have : (4096 * q + r) &&& 3855 = 4096 * (q &&& 0) + (r &&& 3855) := and_cat 12 q r 0 3855 hr (by omega)
    rw [this, Nat.and_zero]; omega
  have e4 : (4096 * (A % 16) + (v + v / 16)) &&& 3855 = (v + v / 16) &&& 3855 := by
    have h1 := e3 (A % 16 + (v + v / 16) / 4096) ((v + v / 16) % 4096) (by omega)
    have h2 := e3 ((v + v / 16) / 4096) ((v + v / 16) % 4096) (by omega)
    rw [show 4096 * (A % 16 + (v + v / 16) / 4096) + (v + v / 16) % 4096 = 4096 * (A % 16) + (v + v / 16) by omega] at h1
    rw [show 4096 * ((v + v / 16) / 4096) + (v + v / 16) % 4096 = v + v / 16 by omega] at h2
    rw [h1, h2]
  rw [e, e2, e4]
theorem j1_cat {A v : Nat} (hv : v < 256) : k1 21845 (256 * A + v) = 256 * k1 85 A + k1 85 v := by
  unfold k1
  have e : (256 * A + v) / 2 = 256 * (A / 2) + (128 * (A % 2) + v / 2) := by omega
  have e2 : (256 * (A / 2) + (128 * (A % 2) + v / 2)) &&& 21845 = 256 * (A / 2 &&& 85) + ((128 * (A % 2) + v / 2) &&& 85) := and_cat 8 (A / 2) (128 * (A % 2) + v / 2) 85 85 (by omega) (by omega)
  have e3 : (128 * (A % 2) + v / 2) &&& 85 = 128 * (A % 2 &&& 0) + (v / 2 &&& 85) := and_cat 7 (A % 2) (v / 2) 0 85 (by omega) (by omega)
  have l1 : A / 2 &&& 85 ≤ A / 2 := Nat.and_le_left
  have l2 : v / 2 &&& 85 ≤ v / 2 := Nat.and_le_left
  rw [e, e2, e3, Nat.and_zero]
  omega
theorem j2_cat {A v : Nat} (hv : v < 256) : k2 13107 (256 * A + v) = 256 * k2 51 A + k2 51 v := by
  unfold k2
  have e : (256 * A + v) / 4 = 256 * (A / 4) + (64 * (A % 4) + v / 4) := by omega
  have e1 : (256 * A + v) &&& 13107 = 256 * (A &&& 51) + (v &&& 51) := and_cat 8 A v 51 51 (by omega) (by omega)
  have e2 : (256 * (A / 4) + (64 * (A % 4) + v / 4)) &&& 13107 = 256 * (A / 4 &&& 51) + ((64 * (A % 4) + v / 4) &&& 51) := and_cat 8 (A / 4) (64 * (A % 4) + v / 4) 51 51 (by omega) (by omega)
  have e3 : (64 * (A % 4) + v / 4) &&& 51 = 64 * (A % 4 &&& 0) + (v / 4 &&& 51) := and_cat 6 (A % 4) (v / 4) 0 51 (by omega) (by omega)
  rw [e, e1, e2, e3, Nat.and_zero]
  omega
theorem j3_cat {A v : Nat} (hv : v ≤ 68) (hA : A % 16 ≤ 4) : k3 3855 (256 * A + v) = 256 * k3 15 A + k3 15 v := by
  unfold k3
  have e : (256 * A + v) + (256 * A + v) / 16 = 256 * (A + A / 16) + (16 * (A % 16) + (v + v / 16)) := by omega
  have e2 : (256 * (A + A / 16) + (16 * (A % 16) + (v + v / 16))) &&& 3855 = 256 * (A + A / 16 &&& 15) + ((16 * (A % 16) + (v + v / 16)) &&& 15) := and_cat 8 (A + A / 16) (16 * (A % 16) + (v + v / 16)) 15 15 (by omega) (by omega)
  have e3 : ∀ n : Nat, n &&& 15 = n % 16 := fun n => Nat.and_two_pow_sub_one_eq_mod n 4
  rw [e, e2, e3, e3, e3]
  omega
def kOk (v : Nat) : Bool :=
  let y := k2 51 (k1 85 v)
  decide (k1 85 v < 256) && decide (y ≤ 68) && decide (y % 16 ≤ 4) && decide (k3 15 y ≤ 8) && decide (k3 15 y = cnt v.testBit 8)
theorem kk_8 : ∀ a, a < 256 → kOk a = true := by decide +kernel
theorem kk_b {v : Nat} (hv : v < 256) : k1 85 v < 256 ∧ k2 51 (k1 85 v) ≤ 68 ∧ k2 51 (k1 85 v) % 16 ≤ 4 ∧ k3 15 (k2 51 (k1 85 v)) ≤ 8 ∧ k3 15 (k2 51 (k1 85 v)) = cnt v.testBit 8 := by
  have h := kk_8 v hv
  simp only [kOk, Bool.and_eq_true, decide_eq_true_eq] at h
  obtain ⟨⟨⟨⟨h1, h2⟩, h3⟩, h4⟩, h5⟩ := h
  exact ⟨h1, h2, h3, h4, h5⟩
theorem k_all {v : Nat} (hv : v < 65536) : k1 21845 v < 65536 ∧ k2 13107 (k1 21845 v) ≤ 17476 ∧ k2 13107 (k1 21845 v) % 16 ≤ 4 ∧ k3 3855 (k2 13107 (k1 21845 v)) / 256 ≤ 8 ∧ k3 3855 (k2 13107 (k1 21845 v)) % 256 ≤ 8 ∧ k3 3855 (k2 13107 (k1 21845 v)) / 256 + k3 3855 (k2 13107 (k1 21845 v)) % 256 = cnt v.testBit 16 := by
  obtain ⟨a, b, ha, hb, rfl⟩ : ∃ a b, a < 256 ∧ b < 256 ∧ v = 256 * a + b := ⟨v / 256, v % 256, by omega, by omega, by omega⟩
  obtain ⟨a1, a2, a3, a4, a5⟩ := kk_b ha
  obtain ⟨b1', b2, b3, b4, b5⟩ := kk_b hb
  have hc : cnt (256 * a + b).testBit 16 = cnt b.testBit 8 + cnt a.testBit 8 := by
    rw [show 16 = 8 + 8 from rfl, cnt_split]
    congr 1
    · exact cnt_cong (fun i hi => by rw [show 256 * a + b = 2 ^ 8 * a + b from rfl, Nat.testBit_two_pow_mul_add _ hb, if_pos hi])
    · exact cnt_cong (fun i hi => by rw [show 256 * a + b = 2 ^ 8 * a + b from rfl, Nat.testBit_two_pow_mul_add _ hb, if_neg (by omega)]; congr 1; omega)
  rw [hc, j1_cat hb, j2_cat b1', j3_cat b2 a3, ← a5, ← b5]
  clear hc a5 b5 ha hb hv
  generalize k3 15 (k2 51 (k1 85 a)) = X at *
  generalize k3 15 (k2 51 (k1 85 b)) = Y at *
  have e1 : (256 * X + Y) / 256 = X := by omega
  have e2 : (256 * X + Y) % 256 = Y := by omega
  rw [e1, e2]
  refine ⟨by omega, by omega, by omega, a4, b4, by omega⟩
theorem ush_1 {n : Nat} (h : n < 2 ^ 32) : q_ushr (nI n) 1 = nI (n / 2) := pk_ushrN h 1 1 (by decide)
theorem ush_2 {n : Nat} (h : n < 2 ^ 32) : q_ushr (nI n) 2 = nI (n / 4) := pk_ushrN h 2 2 (by decide)
theorem ush_4 {n : Nat} (h : n < 2 ^ 32) : q_ushr (nI n) 4 = nI (n / 16) := pk_ushrN h 4 4 (by decide)
theorem ush_8 {n : Nat} (h : n < 2 ^ 32) : q_ushr (nI n) 8 = nI (n / 256) := pk_ushrN h 8 8 (by decide)
theorem ush_16 {n : Nat} (h : n < 2 ^ 32) : q_ushr (nI n) 16 = nI (n / 65536) := pk_ushrN h 16 16 (by decide)
theorem and_63 (n : Nat) : n &&& 63 = n % 64 := Nat.and_two_pow_sub_one_eq_mod n 6
theorem s_bitCount {x : Int32} {Q : Int32 → Prop} (hq : Q (nI (pc x))) : w_Int_bitCount x Q := by
  unfold w_Int_bitCount
  have hX := x.toBitVec.isLt
  have hpc : pc x = cnt (x.toBitVec.toNat).testBit 32 := rfl
  rw [hpc] at hq
  rw [nI_of_nat x]
  generalize x.toBitVec.toNat = X at hX hq
  clear hpc
  obtain ⟨A, v, hA, hv, rfl⟩ : ∃ A v, A < 65536 ∧ v < 65536 ∧ X = 65536 * A + v := ⟨X / 65536, X % 65536, by omega, by omega, by omega⟩
  obtain ⟨a1, a2, a3, a4, a5, a6⟩ := k_all hA
  obtain ⟨v1, v2, v3, v4, v5, v6⟩ := k_all hv
  have hc : cnt (65536 * A + v).testBit 32 = cnt v.testBit 16 + cnt A.testBit 16 := by
    rw [show 32 = 16 + 16 from rfl, cnt_split]
    congr 1
    · exact cnt_cong (fun i hi => by rw [show 65536 * A + v = 2 ^ 16 * A + v from rfl, Nat.testBit_two_pow_mul_add _ hv, if_pos hi])
    · exact cnt_cong (fun i hi => by rw [show 65536 * A + v = 2 ^ 16 * A + v from rfl, Nat.testBit_two_pow_mul_add _ hv, if_neg (by omega)]; congr 1; omega)
  rw [hc] at hq
  have e1 : nI (65536 * A + v) - ((q_ushr (nI (65536 * A + v)) (1 : Int32)) &&& (1431655765)) = nI (65536 * k1 21845 A + k1 21845 v) := by
    rw [ush_1 hX, show (1431655765 : Int32) = nI 1431655765 from rfl, fa_and, pk_sub (Nat.le_trans Nat.and_le_left (by omega)), ← k1_cat hv]; rfl
  rw [e1]
  generalize hA2 : k1 21845 A = A2 at *
  generalize hv2 : k1 21845 v = v2' at *
  have e2 : ((nI (65536 * A2 + v2') &&& (858993459)) + ((q_ushr (nI (65536 * A2 + v2')) (2 : Int32)) &&& (858993459))) = nI (65536 * k2 13107 A2 + k2 13107 v2') := by
    rw [ush_2 (by omega), show (858993459 : Int32) = nI 858993459 from rfl, fa_and, fa_and, nI_add, ← k2_cat v1]; rfl
  rw [e2]
  generalize k2 13107 A2 = A3 at *
  generalize k2 13107 v2' = v3' at *
  have e3 : ((nI (65536 * A3 + v3') + (q_ushr (nI (65536 * A3 + v3')) (4 : Int32))) &&& (252645135)) = nI (65536 * k3 3855 A3 + k3 3855 v3') := by
    rw [ush_4 (by omega), show (252645135 : Int32) = nI 252645135 from rfl, nI_add, fa_and, ← k3_cat v2 a3]; rfl
  rw [e3]
  generalize k3 3855 A3 = A4 at *
  generalize k3 3855 v3' = v4' at *
  rw [ush_8 (by omega), nI_add, ush_16 (by omega), nI_add, show (63 : Int32) = nI 63 from rfl, fa_and, and_63]
  obtain ⟨a, b, ha, hb, ea⟩ : ∃ a b, a = A4 / 256 ∧ b = A4 % 256 ∧ A4 = 256 * a + b := ⟨_, _, rfl, rfl, by omega⟩
  obtain ⟨c, d, hc2, hd, ec⟩ : ∃ c d, c = v4' / 256 ∧ d = v4' % 256 ∧ v4' = 256 * c + d := ⟨_, _, rfl, rfl, by omega⟩
  rw [← ha] at a4 a6
  rw [← hb] at a5 a6
  rw [← hc2] at v4 v6
  rw [← hd] at v5 v6
  rw [← v6, ← a6] at hq
  clear ha hb hc2 hd hc v6 a6
  subst ea ec
  have d1 : (65536 * (256 * a + b) + (256 * c + d)) / 256 = 65536 * a + 256 * b + c := by omega
  rw [d1]
  have d2 : (65536 * (256 * a + b) + (256 * c + d) + (65536 * a + 256 * b + c)) / 65536 = 257 * a + b := by omega
  rw [d2]
  rw [show (65536 * (256 * a + b) + (256 * c + d) + (65536 * a + 256 * b + c) + (257 * a + b)) % 64 = c + d + (a + b) by omega]
  exact hq
theorem ntz_e {x : Int32} {l : Nat} (hl : l < 31) (hb : bt x l = true) (hz : ∀ i, i < l → bt x i = false) : (x ^^^ (-1)) &&& (x - 1) = nI (2 ^ l - 1) := by
  have hp := Nat.two_pow_pos l
  have hp2 : 2 ^ l < 2 ^ 31 := Nat.pow_lt_pow_right (by omega) hl
  refine b_ext (fun i hi => ?_)
  rw [b_and, b_not x hi, b_pred hb hz, b_nI (by omega), Nat.testBit_two_pow_sub_one]
  by_cases q : i < l
  · simp [q, hz i q]
  · by_cases q2 : i = l
    · subst q2; simp
    · simp [q, q2]
theorem s_ntz {x : Int32} {l : Nat} {Q : Int32 → Prop} (hl : l < 31) (hb : bt x l = true) (hz : ∀ i, i < l → bt x i = false) (hq : Q (nI l)) : w_Int_numberOfTrailingZeros x Q := by
  unfold w_Int_numberOfTrailingZeros
  rw [ntz_e hl hb hz]
  have hc : l = 0 ∨ l = 1 ∨ l = 2 ∨ l = 3 ∨ l = 4 ∨ l = 5 ∨ l = 6 ∨ l = 7 ∨ l = 8 ∨ l = 9 ∨ l = 10 ∨ l = 11 ∨ l = 12 ∨ l = 13 ∨ l = 14 ∨ l = 15 ∨ l = 16 ∨ l = 17 ∨ l = 18 ∨ l = 19 ∨ l = 20 ∨ l = 21 ∨ l = 22 ∨ l = 23 ∨ l = 24 ∨ l = 25 ∨ l = 26 ∨ l = 27 ∨ l = 28 ∨ l = 29 ∨ l = 30 := by omega
  clear hb hz hl
  rcases hc with rfl | rfl | rfl | rfl | rfl | rfl | rfl | rfl | rfl | rfl | rfl | rfl | rfl | rfl | rfl | rfl | rfl | rfl | rfl | rfl | rfl | rfl | rfl | rfl | rfl | rfl | rfl | rfl | rfl | rfl | rfl <;>
    repeat' (first | exact br_f (by decide +kernel) (ek_v (by decide +kernel) hq) | exact br_t (by decide +kernel) (ek_v (by decide +kernel) hq) | exact ek_v (by decide +kernel) hq | refine br_t (by decide +kernel) ?_ | refine br_f (by decide +kernel) ?_)
theorem s_several {x : Int32} {Q : Int32 → Prop} (h0 : x &&& (x - 1) = 0 → Q 0) (h1 : ¬ x &&& (x - 1) = 0 → Q 1) : w_Sear_areSeveral x Q := by
  unfold w_Sear_areSeveral
  first | exact ⟨h1, h0⟩ | exact ⟨h0, h1⟩
