/-! ===== Sets of cards as the bits of an int ===== -/
def stB (f : Nat → Bool) : Nat → Nat
  | 0 => 0
  | n + 1 => if f n then 2 ^ n + stB f n else stB f n
def st (f : Nat → Bool) : Int32 := nI (stB f 16)
def nb (b : Bool) : Int32 := if b then 1 else 0
theorem nb_0 (b : Bool) : nb b = 0 ↔ b = false := by cases b <;> decide
theorem nb_t : nb true = 1 := rfl
theorem nb_f : nb false = 0 := rfl
theorem nb_nar (b : Bool) : narrow .boolean (.int (nb b)) = .int (nb b) := by cases b <;> rfl
theorem stB_lt (f : Nat → Bool) : ∀ n, stB f n < 2 ^ n
  | 0 => by simp [stB]
  | n + 1 => by
    have := stB_lt f n
    unfold stB
    rw [Nat.pow_succ]
    split <;> omega
theorem stB_bit (f : Nat → Bool) (i : Nat) : ∀ n, (stB f n).testBit i = (decide (i < n) && f i)
  | 0 => by simp [stB]
  | n + 1 => by
    have h := stB_bit f i n
    have hl := stB_lt f n
    unfold stB
    rcases Nat.lt_trichotomy i n with c | c | c
    · have e : decide (i < n + 1) = decide (i < n) := by simp [c]; omega
      rw [e, ← h]
      split
      · exact Nat.testBit_two_pow_add_gt c _
      · rfl
    · subst c
      have e : decide (i < i + 1) = true := by simp
      rw [e, Bool.true_and]
      split
      · rename_i q
        rw [Nat.testBit_two_pow_add_eq, h, q]; simp
      · rename_i q
        rw [h]; simp at q; simp [q]
    · have e : decide (i < n + 1) = false := by simp; omega
      rw [e, Bool.false_and]
      apply Nat.testBit_lt_two_pow
      have h2 : 2 ^ (n + 1) ≤ 2 ^ i := Nat.pow_le_pow_right (by decide) c
      rw [Nat.pow_succ] at h2
      split <;> omega
theorem b_nI (n i : Nat) : bt (nI n) i = (decide (i < 32) && n.testBit i) := by
  show (BitVec.ofNat 32 n).getLsbD i = _
  rw [BitVec.getLsbD_ofNat]
theorem b_st (f : Nat → Bool) (i : Nat) : bt (st f) i = (decide (i < 16) && f i) := by
  unfold st
  rw [b_nI, stB_bit]
  by_cases c : i < 16
  · simp [c]; omega
  · simp [c]
theorem st_cong {f g : Nat → Bool} (h : ∀ c, c < 16 → f c = g c) : st f = st g := b_ext fun i _ => by
  rw [b_st, b_st]
  by_cases c : i < 16
  · rw [h i c]
  · simp [c]
theorem st_inj {f g : Nat → Bool} (h : st f = st g) {c : Nat} (hc : c < 16) : f c = g c := by
  have e : bt (st f) c = bt (st g) c := by rw [h]
  rw [b_st, b_st] at e
  simpa [hc] using e
theorem st_and (f g : Nat → Bool) : st f &&& st g = st (fun c => f c && g c) := b_ext fun i _ => by
  rw [b_and, b_st, b_st, b_st]
  by_cases c : i < 16 <;> simp [c]
theorem st_or (f g : Nat → Bool) : st f ||| st g = st (fun c => f c || g c) := b_ext fun i _ => by
  rw [b_or, b_st, b_st, b_st]
  by_cases c : i < 16 <;> simp [c]
theorem st_sub (f g : Nat → Bool) : st f &&& (st g ^^^ (-1)) = st (fun c => f c && !g c) := b_ext fun i hi => by
  rw [b_and, b_xor, b_st, b_st, b_st, b_m1 i hi]
  by_cases c : i < 16 <;> simp [c]
theorem st_one {c : Nat} (hc : c < 16) : (1 : Int32) <<< (nI c &&& 31) = st (fun x => x == c) := b_ext fun i hi => by
  rw [b_shl c (by omega) 1 hi, b_st]
  show (_ && bt (nI 1) (i - c)) = _
  rw [b_nI]
  rcases Nat.lt_trichotomy i c with q | q | q
  · have : ¬ c ≤ i := by omega
    simp [this]; intro _; omega
  · subst q; simp [hc]
  · have e : (Nat.testBit 1 (i - c)) = false := by
      apply Nat.testBit_lt_two_pow
      have : 2 ^ 1 ≤ 2 ^ (i - c) := Nat.pow_le_pow_right (by decide) (by omega)
      omega
    rw [e]; simp; intro _; omega
theorem st_none : st (fun _ => false) = 0 := by decide +kernel
theorem st_0 (f : Nat → Bool) : st f = 0 ↔ ∀ c, c < 16 → f c = false := by
  rw [← st_none]
  exact ⟨fun h c hc => st_inj h hc, fun h => st_cong h⟩
theorem st_n0 (f : Nat → Bool) : ¬ st f = 0 ↔ ∃ c, c < 16 ∧ f c = true := by
  rw [st_0]
  constructor
  · intro h
    apply Classical.byContradiction
    intro q
    exact h fun c hc => by
      cases e : f c
      · rfl
      · exact absurd ⟨c, hc, e⟩ q
  · rintro ⟨c, hc, e⟩ h
    rw [h c hc] at e; cases e
theorem st_has (f : Nat → Bool) {c : Nat} (hc : c < 16) : ((st f >>> (nI c &&& 31)) &&& 1) = nb (f c) := b_ext fun i hi => by
  rw [b_and, b_sshr c (by omega) _ hi]
  have e1 : bt (1 : Int32) i = decide (i = 0) := by
    show bt (nI 1) i = _
    rw [b_nI]
    by_cases q : i = 0
    · subst q; rfl
    · have : (Nat.testBit 1 i) = false := by
        apply Nat.testBit_lt_two_pow
        have : 2 ^ 1 ≤ 2 ^ i := Nat.pow_le_pow_right (by decide) (by omega)
        omega
      simp [this, q]
  have e2 : bt (nb (f c)) i = (decide (i = 0) && f c) := by
    cases f c
    · rw [nb_f, b_0]; simp
    · rw [nb_t, e1]; simp
  rw [e1, e2]
  by_cases q : i = 0
  · subst q
    have : c + 0 < 32 := by omega
    rw [if_pos this, b_st]
    simp [hc]
  · simp [q]
theorem st_all : ∀ n, n < 17 → ((1 : Int32) <<< (nI n &&& 31)) - 1 = st (fun x => decide (x < n)) := by decide +kernel
theorem b_neg (x : Int32) (i : Nat) (hi : i < 32) : bt (-x) i = (bt x i ^^ decide (∃ j, j < i ∧ bt x j = true)) := by
  unfold bt
  rw [Int32.toBitVec_neg, BitVec.getLsbD_neg]
  simp [hi]
theorem b_dec (x : Int32) (i : Nat) (hi : i < 32) : bt (x - 1) i = !(bt x i ^^ decide (∃ j, j < i ∧ bt x j = true)) := by
  rw [← b_neg x i hi]
  have e : x - 1 = (-x) ^^^ (-1) := by
    apply Int32.toBitVec_inj.mp
    rw [Int32.toBitVec_xor, Int32.toBitVec_sub, Int32.toBitVec_neg]
    show x.toBitVec - 1#32 = -x.toBitVec ^^^ BitVec.allOnes 32
    rw [BitVec.xor_allOnes, BitVec.not_neg]
  rw [e, b_xor, b_m1 i hi]
  simp
theorem st_low (f : Nat → Bool) : st f &&& -(st f) = st (fun c => f c && !decide (∃ j, j < c ∧ f j = true)) := b_ext fun i hi => by
  rw [b_and, b_neg _ i hi, b_st, b_st]
  by_cases c : i < 16
  · have e : (∃ j, j < i ∧ bt (st f) j = true) ↔ (∃ j, j < i ∧ f j = true) := by
      constructor
      · rintro ⟨j, h1, h2⟩; rw [b_st] at h2; simp at h2; exact ⟨j, h1, h2.2⟩
      · rintro ⟨j, h1, h2⟩; exact ⟨j, h1, by rw [b_st]; simp [h2]; omega⟩
    simp only [e, c]
    cases f i <;> simp
  · simp [c]
theorem st_rest (f : Nat → Bool) : st f &&& (st f - 1) = st (fun c => f c && decide (∃ j, j < c ∧ f j = true)) := b_ext fun i hi => by
  rw [b_and, b_dec _ i hi, b_st, b_st]
  by_cases c : i < 16
  · have e : (∃ j, j < i ∧ bt (st f) j = true) ↔ (∃ j, j < i ∧ f j = true) := by
      constructor
      · rintro ⟨j, h1, h2⟩; rw [b_st] at h2; simp at h2; exact ⟨j, h1, h2.2⟩
      · rintro ⟨j, h1, h2⟩; exact ⟨j, h1, by rw [b_st]; simp [h2]; omega⟩
    simp only [e, c]
    cases f i <;> simp
  · simp [c]
