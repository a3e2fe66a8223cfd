/-! ===== the number of bits ===== -/
def bcC : Nat → Nat → Nat
  | 0, _ => 0
  | n + 1, x => x % 2 + bcC n (x / 2)
theorem bc_land {k p q m1 m0 : Nat} (hq : q < 2 ^ k) (hm : m0 < 2 ^ k) : (2 ^ k * p + q) &&& (2 ^ k * m1 + m0) = 2 ^ k * (p &&& m1) + (q &&& m0) := by
  apply Nat.eq_of_testBit_eq
  intro i
  have h3 : q &&& m0 < 2 ^ k := Nat.and_lt_two_pow _ hm
  rw [Nat.testBit_and, Nat.testBit_two_pow_mul_add _ hq, Nat.testBit_two_pow_mul_add _ hm, Nat.testBit_two_pow_mul_add _ h3]
  split <;> rw [Nat.testBit_and]
def bcA (m : Nat) (y : Nat) : Nat := y - ((y >>> 1) &&& m)
def bcB (m : Nat) (a : Nat) : Nat := (a &&& m) + ((a >>> 2) &&& m)
theorem bc_a : ∀ q, q < 256 → (q >>> 1) &&& 85 ≤ q ∧ (q >>> 1) &&& 5592405 ≤ q ∧ bcA 85 q < 256 ∧ bcA 5592405 q < 256 ∧ bcA 5592405 q = bcA 85 q ∧ bcB 51 (bcA 85 q) ≤ 68 ∧ bcB 51 (bcA 85 q) % 16 ≤ 4 ∧ bcB 3355443 (bcA 85 q) = bcB 51 (bcA 85 q) ∧ (bcB 51 (bcA 85 q) + bcB 51 (bcA 85 q) / 16) % 16 = bcC 8 q ∧ (bcB 51 (bcA 85 q) + bcB 51 (bcA 85 q) / 16) &&& 986895 = bcC 8 q ∧ bcC 8 q ≤ 8 := by decide +kernel
theorem bc_add : ∀ n x y, x < 2 ^ n → bcC (n + 8) (2 ^ n * y + x) = bcC n x + bcC 8 y
  | 0, x, y, h => by
    have : x = 0 := by simpa using h
    subst this
    simp [bcC]
  | n + 1, x, y, h => by
    have h2 : x / 2 < 2 ^ n := by rw [Nat.pow_succ] at h; omega
    have ih := bc_add n (x / 2) y h2
    have e1 : (2 ^ (n + 1) * y + x) / 2 = 2 ^ n * y + x / 2 := by
      rw [Nat.pow_succ, show 2 ^ n * 2 * y = 2 * (2 ^ n * y) by rw [Nat.mul_comm (2 ^ n) 2, Nat.mul_assoc]]
      omega
    have e2 : (2 ^ (n + 1) * y + x) % 2 = x % 2 := by
      rw [Nat.pow_succ, show 2 ^ n * 2 * y = 2 * (2 ^ n * y) by rw [Nat.mul_comm (2 ^ n) 2, Nat.mul_assoc]]
      omega
    show (2 ^ (n + 1) * y + x) % 2 + bcC (n + 8) ((2 ^ (n + 1) * y + x) / 2) = (x % 2 + bcC n (x / 2)) + bcC 8 y
    rw [e1, e2, ih]; omega
theorem bc_st (f : Nat → Bool) : ∀ n, bcC n (stB f n) = fb_ct f n
  | 0 => rfl
  | n + 1 => by
    have key : ∀ m x y, x < 2 ^ m → bcC (m + 1) (2 ^ m * y + x) = bcC m x + y % 2 := by
      intro m
      induction m with
      | zero => intro x y h; have : x = 0 := by simpa using h
                subst this; simp [bcC]
      | succ m ih =>
        intro x y h
        have h2 : x / 2 < 2 ^ m := by rw [Nat.pow_succ] at h; omega
        have e0 : 2 ^ (m + 1) * y = 2 * (2 ^ m * y) := by rw [Nat.pow_succ, Nat.mul_comm (2 ^ m) 2, Nat.mul_assoc]
        have e1 : (2 ^ (m + 1) * y + x) / 2 = 2 ^ m * y + x / 2 := by rw [e0]; omega
        have e2 : (2 ^ (m + 1) * y + x) % 2 = x % 2 := by rw [e0]; omega
        show (2 ^ (m + 1) * y + x) % 2 + bcC (m + 1) ((2 ^ (m + 1) * y + x) / 2) = (x % 2 + bcC m (x / 2)) + y % 2
        rw [e1, e2, ih _ _ h2]; omega
    have hl := stB_lt f n
    have hs : stB f (n + 1) = if f n then 2 ^ n + stB f n else stB f n := rfl
    rw [fb_ct_succ, ← bc_st f n, hs]
    split
    · have := key n (stB f n) 1 hl
      rw [Nat.mul_one] at this
      rw [this]
    · have := key n (stB f n) 0 hl
      rw [Nat.mul_zero, Nat.zero_add] at this
      rw [this]
theorem nI_subN {a b : Nat} (h : b ≤ a) : nI a - nI b = nI (a - b) := by
  have e : nI a = nI (a - b) + nI b := by rw [nI_add, Nat.sub_add_cancel h]
  rw [e]
  apply Int32.toBitVec_inj.mp
  rw [Int32.toBitVec_sub, Int32.toBitVec_add, BitVec.add_sub_cancel]
theorem bc_ush {k : Nat} (j : Nat) (hk : k < 65536) (hj : j < 32) (y : Int32) (hy : y = nI j) : UInt32.toInt32 ((Int32.toUInt32 (nI k)) >>> ((Int32.toUInt32 y) &&& Int32.toUInt32 31)) = nI (k >>> j) := by
  subst hy
  exact nx_ush hk hj
theorem r_bitCount {f : Nat → Bool} {v : gMem} {Q : Int32 → gMem → Prop} {X : String → gMem → Prop} (h : Q (nI (fb_ct f 16)) v) : TJ6_bitCount_0f7a4 (st f) v Q X := by
  have hx : stB f 16 < 65536 := stB_lt f 16
  have hc := bc_st f 16
  unfold TJ6_bitCount_0f7a4 st
  rw [← hc] at h
  generalize stB f 16 = x at hx h
  obtain ⟨p, q, hp, hq, rfl⟩ : ∃ p q, p < 256 ∧ q < 256 ∧ x = 2 ^ 8 * p + q := ⟨x / 256, x % 256, by omega, by omega, by omega⟩
  have P := bc_a p hp
  have R := bc_a q hq
  have hs : bcC 16 (2 ^ 8 * p + q) = bcC 8 q + bcC 8 p := bc_add 8 q p hq
  have l1 : (1431655765 : Int32) = nI 1431655765 := rfl
  have l2 : (858993459 : Int32) = nI 858993459 := rfl
  have l3 : (252645135 : Int32) = nI 252645135 := rfl
  have l4 : (63 : Int32) = nI 63 := rfl
  have s1 : ((2 ^ 8 * p + q) >>> 1) &&& 1431655765 = 2 ^ 8 * ((p >>> 1) &&& 5592405) + ((q >>> 1) &&& 85) := by
    have e : (2 ^ 8 * p + q) >>> 1 = 2 ^ 8 * (p >>> 1) + (2 ^ 7 * (p % 2) + q >>> 1) := by
      simp only [Nat.shiftRight_succ, Nat.shiftRight_zero]; omega
    have hq1 : q >>> 1 < 2 ^ 7 := by simp only [Nat.shiftRight_succ, Nat.shiftRight_zero]; omega
    have e2 : (2 ^ 7 * (p % 2) + q >>> 1) &&& 85 = (q >>> 1) &&& 85 := by
      have := bc_land (k := 7) (p := p % 2) (q := q >>> 1) (m1 := 0) (m0 := 85) hq1 (by decide)
      simpa using this
    have := bc_land (k := 8) (p := p >>> 1) (q := 2 ^ 7 * (p % 2) + q >>> 1) (m1 := 5592405) (m0 := 85) (by omega) (by decide)
    rw [e, ← e2, ← this]
  have s2 : (2 ^ 8 * p + q) - (2 ^ 8 * ((p >>> 1) &&& 5592405) + ((q >>> 1) &&& 85)) = 2 ^ 8 * bcA 85 p + bcA 85 q := by
    have e1 : bcA 5592405 p = bcA 85 p := P.2.2.2.2.1
    rw [← e1]
    have := P.2.1
    have := R.1
    unfold bcA
    omega
  have le1 : (2 ^ 8 * ((p >>> 1) &&& 5592405) + ((q >>> 1) &&& 85)) ≤ 2 ^ 8 * p + q := by
    have := P.2.1
    have := R.1
    omega
  generalize ha : bcA 85 p = ap at *
  generalize hb : bcA 85 q = aq at *
  obtain ⟨-, -, P3, -, -, P6, P7, P8, P9, P10, P11⟩ := P
  obtain ⟨-, -, R3, -, -, R6, R7, R8, R9, R10, R11⟩ := R
  have s3 : ((2 ^ 8 * ap + aq) &&& 858993459) + (((2 ^ 8 * ap + aq) >>> 2) &&& 858993459) = 2 ^ 8 * bcB 51 ap + bcB 51 aq := by
    have e : (2 ^ 8 * ap + aq) >>> 2 = 2 ^ 8 * (ap >>> 2) + (2 ^ 6 * (ap % 4) + aq >>> 2) := by
      simp only [Nat.shiftRight_succ, Nat.shiftRight_zero]; omega
    have hq1 : aq >>> 2 < 2 ^ 6 := by simp only [Nat.shiftRight_succ, Nat.shiftRight_zero]; omega
    have e2 : (2 ^ 6 * (ap % 4) + aq >>> 2) &&& 51 = (aq >>> 2) &&& 51 := by
      have := bc_land (k := 6) (p := ap % 4) (q := aq >>> 2) (m1 := 0) (m0 := 51) hq1 (by decide)
      simpa using this
    have k1 := bc_land (k := 8) (p := ap >>> 2) (q := 2 ^ 6 * (ap % 4) + aq >>> 2) (m1 := 3355443) (m0 := 51) (by omega) (by decide)
    have k2 := bc_land (k := 8) (p := ap) (q := aq) (m1 := 3355443) (m0 := 51) R3 (by decide)
    have k3 : (858993459 : Nat) = 2 ^ 8 * 3355443 + 51 := by decide
    rw [e, k3, k1, k2, e2, ← P8]
    unfold bcB
    omega
  generalize hc2 : bcB 51 ap = bp at *
  generalize hd2 : bcB 51 aq = bq at *
  have s4 : ((2 ^ 8 * bp + bq) + (2 ^ 8 * bp + bq) >>> 4) &&& 252645135 = 2 ^ 8 * bcC 8 p + bcC 8 q := by
    have e : (2 ^ 8 * bp + bq) + (2 ^ 8 * bp + bq) >>> 4 = 2 ^ 8 * (bp + bp / 16) + (2 ^ 4 * ((bp % 16) + (bq + bq / 16) / 16) + (bq + bq / 16) % 16) := by
      simp only [Nat.shiftRight_succ, Nat.shiftRight_zero]; omega
    have k0 : (2 ^ 4 * ((bp % 16) + (bq + bq / 16) / 16) + (bq + bq / 16) % 16) &&& 15 = (bq + bq / 16) % 16 := by
      rw [show (15 : Nat) = 2 ^ 4 - 1 by decide, Nat.and_two_pow_sub_one_eq_mod]; omega
    have k1 := bc_land (k := 8) (p := bp + bp / 16) (q := 2 ^ 4 * ((bp % 16) + (bq + bq / 16) / 16) + (bq + bq / 16) % 16) (m1 := 986895) (m0 := 15) (by omega) (by decide)
    rw [e, show (252645135 : Nat) = 2 ^ 8 * 986895 + 15 by decide, k1, k0, P10, R9]
  have s5 : ((2 ^ 8 * bcC 8 p + bcC 8 q) + (2 ^ 8 * bcC 8 p + bcC 8 q) >>> 8) = 2 ^ 8 * bcC 8 p + bcC 8 q + bcC 8 p := by
    rw [Nat.shiftRight_eq_div_pow]; omega
  have s6 : (2 ^ 8 * bcC 8 p + bcC 8 q + bcC 8 p) >>> 16 = 0 := by
    rw [Nat.shiftRight_eq_div_pow]; omega
  have s7 : (2 ^ 8 * bcC 8 p + bcC 8 q + bcC 8 p + 0) &&& 63 = bcC 8 q + bcC 8 p := by
    rw [show (63 : Nat) = 2 ^ 6 - 1 by decide, Nat.and_two_pow_sub_one_eq_mod]; omega
  rw [hs] at h
  have t1 : nI (2 ^ 8 * p + q) - (UInt32.toInt32 ((Int32.toUInt32 (nI (2 ^ 8 * p + q))) >>> ((Int32.toUInt32 1) &&& Int32.toUInt32 31)) &&& 1431655765) = nI (2 ^ 8 * ap + aq) := by
    rw [bc_ush 1 (by omega) (by decide) 1 rfl, l1, fa_and, s1, nI_subN le1, s2]
  have t2 : (nI (2 ^ 8 * ap + aq) &&& 858993459) + (UInt32.toInt32 ((Int32.toUInt32 (nI (2 ^ 8 * ap + aq))) >>> ((Int32.toUInt32 2) &&& Int32.toUInt32 31)) &&& 858993459) = nI (2 ^ 8 * bp + bq) := by
    rw [bc_ush 2 (by omega) (by decide) 2 rfl, l2, fa_and, fa_and, nI_add, s3]
  have t3 : (nI (2 ^ 8 * bp + bq) + UInt32.toInt32 ((Int32.toUInt32 (nI (2 ^ 8 * bp + bq))) >>> ((Int32.toUInt32 4) &&& Int32.toUInt32 31))) &&& 252645135 = nI (2 ^ 8 * bcC 8 p + bcC 8 q) := by
    rw [bc_ush 4 (by omega) (by decide) 4 rfl, l3, nI_add, fa_and, s4]
  have t4 : nI (2 ^ 8 * bcC 8 p + bcC 8 q) + UInt32.toInt32 ((Int32.toUInt32 (nI (2 ^ 8 * bcC 8 p + bcC 8 q))) >>> ((Int32.toUInt32 8) &&& Int32.toUInt32 31)) = nI (2 ^ 8 * bcC 8 p + bcC 8 q + bcC 8 p) := by
    rw [bc_ush 8 (by omega) (by decide) 8 rfl, nI_add, s5]
  have t5 : (nI (2 ^ 8 * bcC 8 p + bcC 8 q + bcC 8 p) + UInt32.toInt32 ((Int32.toUInt32 (nI (2 ^ 8 * bcC 8 p + bcC 8 q + bcC 8 p))) >>> ((Int32.toUInt32 16) &&& Int32.toUInt32 31))) &&& 63 = nI (bcC 8 q + bcC 8 p) := by
    rw [bc_ush 16 (by omega) (by decide) 16 rfl, nI_add, l4, fa_and, s6, s7]
  rw [t1, t2, t3, t4, t5]
  exact h
