/-! ===== Rules of the class's methods on names ===== -/
theorem nI_mul (a b : Nat) : nI a * nI b = nI (a * b) := (Int32.ofNat_mul a b).symm
theorem nar0 : narrow .boolean (.int 0) = .int 0 := rfl
theorem nar1 : narrow .boolean (.int 1) = .int 1 := rfl
theorem bf {b : Bool} (h : ¬ b = true) : b = false := by cases b; rfl; exact absurd rfl h
theorem bt' {b : Bool} (h : ¬ b = false) : b = true := by cases b; exact absurd rfl h; rfl
theorem sn_le (l : Nat → Nat) : ∀ n, sn l n ≤ 4
  | 0 => by simp [sn]
  | n + 1 => by
    have := sn_le l n
    unfold sn
    split
    · omega
    · split
      · omega
      · exact this
theorem sn_s1 (l : Nat → Nat) : sn l 1 = 1 := rfl
theorem sn_ge (l : Nat → Nat) : ∀ n, 1 ≤ sn l (n + 1)
  | 0 => by rw [sn_s1]; omega
  | n + 1 => by
    have := sn_ge l n
    unfold sn
    rw [if_neg (by omega)]
    split <;> omega
theorem sr_0 (l : Nat → Nat) : ∀ n, sr l (n + 1) 0 = l 0
  | 0 => rfl
  | n + 1 => by
    have := sr_0 l n
    have g := sn_ge l n
    unfold sr
    rw [if_neg (by omega)]
    split
    · rw [if_neg (by omega)]; exact this
    · exact this
theorem dg_le (x : Nat) : dg x ≤ 6 := by
  unfold dg
  repeat' split
  all_goals omega
theorem sr_le (l : Nat → Nat) : ∀ n k, 1 ≤ k → sr l n k ≤ 6
  | 0, k, _ => by simp [sr]
  | n + 1, k, h => by
    have ih := sr_le l n k h
    unfold sr
    split
    · rw [if_neg (by omega)]; omega
    · split
      · split
        · exact dg_le _
        · exact ih
      · exact ih
def kk (g : Nat → Nat) : Nat → Nat
  | 0 => 0
  | n + 1 => kk g n * 128 + g n
theorem kk_lt {g : Nat → Nat} : ∀ n, (∀ k, k < n → g k < 128) → kk g n < 128 ^ n
  | 0, _ => by simp [kk]
  | n + 1, h => by
    have ih := kk_lt n fun k hk => h k (by omega)
    have := h n (by omega)
    unfold kk
    rw [Nat.pow_succ]
    omega
theorem kk_ge {g : Nat → Nat} (h : 1 ≤ g 0) : ∀ n, 128 ^ n ≤ kk g (n + 1)
  | 0 => by simp [kk]; exact h
  | n + 1 => by
    have ih := kk_ge h n
    unfold kk
    rw [Nat.pow_succ]
    omega
theorem kk_inj {g h : Nat → Nat} : ∀ n, (∀ k, k < n → g k < 128 ∧ h k < 128) → kk g n = kk h n → ∀ k, k < n → g k = h k
  | 0, _, _, k, hk => absurd hk (Nat.not_lt_zero k)
  | n + 1, hb, he, k, hk => by
    have he : kk g n * 128 + g n = kk h n * 128 + h n := he
    have := hb n (by omega)
    rcases Nat.lt_or_eq_of_le (Nat.le_of_lt_succ hk) with q | q
    · exact kk_inj n (fun k hk => hb k (by omega)) (by omega) k q
    · subst q; omega
theorem kk_cong {g h : Nat → Nat} : ∀ n, (∀ k, k < n → g k = h k) → kk g n = kk h n
  | 0, _ => rfl
  | n + 1, hb => by
    show kk g n * 128 + g n = kk h n * 128 + h n
    rw [kk_cong n fun k hk => hb k (by omega), hb n (by omega)]
theorem kk_len {g h : Nat → Nat} {n m : Nat} (hg : 1 ≤ g 0) (hh : 1 ≤ h 0) (b1 : ∀ k, k < n + 1 → g k < 128) (b2 : ∀ k, k < m + 1 → h k < 128) (e : kk g (n + 1) = kk h (m + 1)) : n = m := by
  have l1 := kk_lt (n + 1) b1
  have l2 := kk_lt (m + 1) b2
  have g1 := kk_ge hg n
  have g2 := kk_ge hh m
  apply Nat.le_antisymm
  · apply Nat.not_lt.mp
    intro q
    have := Nat.pow_le_pow_right (n := 128) (by decide) (show m + 1 ≤ n by omega)
    omega
  · apply Nat.not_lt.mp
    intro q
    have := Nat.pow_le_pow_right (n := 128) (by decide) (show n + 1 ≤ m by omega)
    omega
def ks (a : gMem) (i : Nat) : Int32 := if ln a i = 0 then -1 else nI (kk (sg (lt a i) (ln a i)) (sn (lt a i) (ln a i)))
section
variable {a v : gMem} {Q : Int32 → gMem → Prop} {X : String → gMem → Prop}
theorem c_ln (hR : RC v a) (hW : WF a) {i : Nat} (hi : i < 17) : v 4 i 1 = nI (ln a i) ∧ ln a i ≤ 10 := by
  unfold ln
  by_cases q : i = 16
  · subst q; rw [if_pos rfl, hR.1.2.2.2.2.2]; exact ⟨hW.1.2.2.2.2.2.2.2.2.1, hW.1.2.2.2.2.2.2.2.2.2⟩
  · rw [if_neg q, (hR.2.2.1 i (by omega)).2]; exact hW.2.2.2.1 i (by omega)
theorem c_lt (hR : RC v a) (hW : WF a) {i k : Nat} (hi : i < 17) (hk : k < ln a i) : v 21 i k = nI (lt a i k) ∧ 97 ≤ lt a i k ∧ lt a i k ≤ 122 := by
  have := (c_ln hR hW hi).2
  rw [hR.2.2.2.2.1 i hi k (by omega)]
  exact hW.2.2.2.2.1 i hi k hk
theorem sg_b (hW : WF a) {i : Nat} (hi : i < 17) (h0 : 0 < ln a i) (k : Nat) : sg (lt a i) (ln a i) k < 128 ∧ 97 ≤ sg (lt a i) (ln a i) 0 := by
  have h := (hW.2.2.2.2.1 i hi 0 h0).2
  obtain ⟨n, hn⟩ : ∃ n, ln a i = n + 1 := ⟨ln a i - 1, by omega⟩
  unfold sg
  rw [hn, sr_0, if_pos rfl]
  refine ⟨?_, h.1⟩
  split
  · omega
  · have := sr_le (lt a i) (n + 1) k (by omega); omega
theorem ks_n (hW : WF a) {i : Nat} (hi : i < 17) (h0 : 0 < ln a i) : kk (sg (lt a i) (ln a i)) (sn (lt a i) (ln a i)) < 2 ^ 28 := by
  have h := kk_lt (g := sg (lt a i) (ln a i)) (sn (lt a i) (ln a i)) fun k _ => (sg_b hW hi h0 k).1
  have := Nat.pow_le_pow_right (n := 128) (by decide) (sn_le (lt a i) (ln a i))
  have e : 128 ^ 4 = 2 ^ 28 := by decide
  omega
theorem ss_ks (hW : WF a) {i j : Nat} (hi : i < 17) (hj : j < 17) : ss a i j = true ↔ (0 < ln a i ∧ ks a i = ks a j) := by
  unfold ss ks
  rw [decide_eq_true_iff]
  constructor
  · rintro ⟨h0, h1, h2⟩
    refine ⟨h0, ?_⟩
    have h3 : ¬ ln a j = 0 := by
      intro q
      rw [q] at h1
      obtain ⟨n, hn⟩ : ∃ n, ln a i = n + 1 := ⟨ln a i - 1, by omega⟩
      rw [hn] at h1
      have := sn_ge (lt a i) n
      have e : sn (lt a j) 0 = 0 := rfl
      omega
    rw [if_neg (by omega), if_neg h3, ← h1]
    congr 1
    apply kk_cong
    intro k hk
    unfold sg
    split
    · rename_i q
      rw [h2 0 (by omega)]
    · rw [h2 k hk]
  · rintro ⟨h0, h1⟩
    have b1 := ks_n hW hi h0
    rw [if_neg (by omega)] at h1
    by_cases q : ln a j = 0
    · rw [if_pos q] at h1
      have h3 := congrArg Int32.toInt h1
      rw [nI_toInt (by omega)] at h3
      have e : (-1 : Int32).toInt = -1 := by decide
      omega
    · rw [if_neg q] at h1
      have b2 := ks_n hW hj (by omega)
      have h2 := (nI_eq (by omega) (by omega)).mp h1
      obtain ⟨n, hn⟩ : ∃ n, ln a i = n + 1 := ⟨ln a i - 1, by omega⟩
      obtain ⟨m, hm⟩ : ∃ m, ln a j = m + 1 := ⟨ln a j - 1, by omega⟩
      have g1 := sn_ge (lt a i) n
      have g2 := sn_ge (lt a j) m
      rw [← hn] at g1
      rw [← hm] at g2
      have s1 := fun k => sg_b hW hi h0 k
      have s2 := fun k => sg_b hW hj (by omega) k
      obtain ⟨p, hp⟩ : ∃ p, sn (lt a i) (ln a i) = p + 1 := ⟨sn (lt a i) (ln a i) - 1, by omega⟩
      obtain ⟨r, hr⟩ : ∃ r, sn (lt a j) (ln a j) = r + 1 := ⟨sn (lt a j) (ln a j) - 1, by omega⟩
      rw [hp, hr] at h2 ⊢
      have h3 := kk_len (by have := (s1 0).2; omega) (by have := (s2 0).2; omega) (fun k _ => (s1 k).1) (fun k _ => (s2 k).1) h2
      subst h3
      have h4 := kk_inj (p + 1) (fun k _ => ⟨(s1 k).1, (s2 k).1⟩) h2
      refine ⟨h0, rfl, fun k hk => ?_⟩
      have h5 := h4 k hk
      unfold sg at h5
      split at h5
      · rename_i q; rw [q]; exact h5
      · omega
theorem r_soundKey (hR : RC v a) (hW : WF a) {i : Nat} (hi : i < 17) (h : Q (ks a i) v) : TX4_soundKey i v Q X := by
  have hl := c_ln hR hW hi
  have hs := hR.2.2.2.2.2.1 i hi
  unfold TX4_soundKey
  rw [hl.1]
  unfold ks at h
  refine ⟨fun n => ?_, fun n => ?_⟩
  · have n2 : ¬ ln a i = 0 := fun q => n (by rw [q]; rfl)
    rw [if_neg n2] at h
    unfold LX4_soundKey_13
    intro I hI
    have hb := sn_le (lt a i) (ln a i)
    have key : ∀ k, k ≤ sn (lt a i) (ln a i) → I (nI (kk (sg (lt a i) (ln a i)) k)) (nI k) v := up_to
      (by
        apply hI
        unfold BX4_soundKey_13
        rw [hs.1]
        refine ⟨fun _ => h, fun n => absurd ((leI (by omega) (by omega)).mpr (Nat.le_refl _)) n⟩)
      (by
        intro k hk ih
        apply hI
        unfold BX4_soundKey_13
        rw [hs.1]
        refine ⟨fun n => absurd ((leI (by omega) (by omega)).mp n) (by omega), fun _ => ⟨in_nI (by omega), ?_⟩⟩
        rw [clI (by omega), hs.2 k hk, nI_1, show (128 : Int32) = nI 128 from rfl, nI_mul, nI_add]
        exact ih)
    exact key 0 (by omega)
  · have n2 : ln a i = 0 := (eqI (b := 0) (by omega) (by decide)).mp n
    rw [if_pos n2] at h
    exact h
theorem r_soundsLike (hR : RC v a) (hW : WF a) {i j : Nat} (hi : i < 17) (hj : j < 17) (h : Q (nb (ss a i j)) v) : TX4_soundsLike i j v Q X := by
  have hl := c_ln hR hW hi
  unfold TX4_soundsLike BX4_soundsLike_22 BX4_soundsLike_23
  rw [hl.1]
  refine ⟨fun n => ?_, fun n => ?_⟩
  · have n2 := (leI (b := 0) (by omega) (by decide)).mp n
    have e : ss a i j = false := bf fun q => by have := ((ss_ks hW hi hj).mp q).1; omega
    rw [e] at h
    exact ⟨nar0, h⟩
  · have n2 : ¬ ln a i ≤ 0 := fun q => n ((leI (b := 0) (by omega) (by decide)).mpr q)
    apply r_soundKey hR hW hi
    apply r_soundKey hR hW hj
    refine ⟨fun q => ?_, fun q => ?_⟩
    · have e : ss a i j = false := bf fun r => q ((ss_ks hW hi hj).mp r).2
      rw [e] at h
      exact ⟨nar0, h⟩
    · have e : ss a i j = true := (ss_ks hW hi hj).mpr ⟨by omega, q⟩
      rw [e] at h
      exact ⟨nar1, h⟩
def bw (a : gMem) (i j : Nat) : Bool := decide (ln a j ≤ ln a i ∧ ∀ k, k < ln a j → lt a i k = lt a j k)
theorem r_beginsWith (hR : RC v a) (hW : WF a) {i j : Nat} (hi : i < 17) (hj : j < 17) (h : Q (nb (bw a i j)) v) : TX4_beginsWith i j v Q X := by
  have h1 := c_ln hR hW hi
  have h2 := c_ln hR hW hj
  unfold TX4_beginsWith
  rw [h1.1, h2.1]
  refine ⟨fun n => ?_, fun n => ?_⟩
  · have n2 := (leI (by omega) (by omega)).mp n
    unfold LX4_beginsWith_15
    intro I hI
    have key : ∀ k, k ≤ ln a j → (∀ l, l < k → lt a i l = lt a j l) → I (nI k) v := up_to
      (by
        intro hn
        apply hI
        unfold BX4_beginsWith_15
        rw [h2.1]
        refine ⟨fun _ => ?_, fun n => absurd ((leI (by omega) (by omega)).mpr (Nat.le_refl _)) n⟩
        have e : bw a i j = true := by unfold bw; rw [decide_eq_true_iff]; exact ⟨n2, hn⟩
        rw [e] at h; exact h)
      (by
        intro k hk ih hn
        apply hI
        unfold BX4_beginsWith_15
        rw [h2.1]
        refine ⟨fun n => absurd ((leI (by omega) (by omega)).mp n) (by omega), fun _ => ⟨in_nI (by omega), in_nI (by omega), ?_⟩⟩
        have l1 := c_lt hR hW hi (k := k) (by omega)
        have l2 := c_lt hR hW hj (k := k) (by omega)
        rw [clI (by omega), l1.1, l2.1, nI_1]
        refine ⟨fun q => ih fun l hl => ?_, fun q => ?_⟩
        · rcases Nat.lt_or_eq_of_le (Nat.le_of_lt_succ hl) with r | r
          · exact hn l r
          · rw [r]; exact (eqI (by omega) (by omega)).mp q
        · have e : bw a i j = false := bf fun r => by
            unfold bw at r
            rw [decide_eq_true_iff] at r
            exact q (by rw [r.2 k hk])
          rw [e] at h; exact h)
    exact key 0 (by omega) fun l hl => absurd hl (Nat.not_lt_zero l)
  · have e : bw a i j = false := bf fun r => by
      unfold bw at r
      rw [decide_eq_true_iff] at r
      exact n ((leI (by omega) (by omega)).mpr r.1)
    rw [e] at h; exact h
theorem c_nu (hR : RC v a) (hW : WF a) {c f : Nat} (hc : c < nc a) (h1 : 1 ≤ f) (h4 : f < 4) : v 23 c f = nu a c f := by
  have := hW.1.2.2.2.1
  rw [hR.2.2.2.1 c (by omega) f h1 h4, if_pos hc]
theorem r_has (hR : RC v a) (hW : WF a) {c f : Nat} (hc : c < nc a) (hf : f < 4) (h : Q (nb (hs a c f)) v) : TX2_has c (nI f) v Q X := by
  have := hW.1.2.2.2.1
  have hl := c_ln hR hW (i := c) (by omega)
  unfold TX2_has BX2_has_37
  unfold hs at h
  refine ⟨fun n => ⟨in_nI hf, ?_⟩, fun n => ?_⟩
  · have n2 : ¬ f = 0 := fun q => n (by rw [q]; rfl)
    rw [if_neg n2] at h
    rw [clI (by omega), c_nu hR hW hc (by omega) hf]
    refine ⟨fun q => ?_, fun q => ?_⟩
    · rw [decide_eq_true q] at h; exact ⟨nar0, h⟩
    · rw [decide_eq_false q] at h; exact ⟨nar1, h⟩
  · have n2 : f = 0 := (eqI (b := 0) (by omega) (by decide)).mp n
    rw [if_pos n2] at h
    rw [hl.1]
    refine ⟨fun q => ?_, fun q => ?_⟩
    · have q2 := (leI (b := 0) (by omega) (by decide)).mp q
      rw [decide_eq_false (by omega)] at h; exact ⟨nar0, h⟩
    · have q2 : ¬ ln a c ≤ 0 := fun r => q ((leI (b := 0) (by omega) (by decide)).mpr r)
      rw [decide_eq_true (by omega)] at h; exact ⟨nar1, h⟩
theorem ag_0 (a : gMem) (c d : Nat) : ag a c d 0 = (decide (ln a c = ln a d) && bw a c d) := by
  unfold ag bw
  rw [if_pos rfl]
  by_cases q : ln a c = ln a d
  · rw [q, decide_eq_true rfl, Bool.true_and]
    congr 1
    simp
  · rw [decide_eq_false q, Bool.false_and]
    apply decide_eq_false
    exact fun r => q r.1
theorem r_agrees (hR : RC v a) (hW : WF a) {c d f : Nat} (hc : c < nc a) (hd : d < nc a) (hf : f < 4) (h : Q (nb (ag a c d f)) v) : TX2_agrees c d (nI f) v Q X := by
  have := hW.1.2.2.2.1
  have hl := c_ln hR hW (i := c) (by omega)
  have hl2 := c_ln hR hW (i := d) (by omega)
  unfold TX2_agrees BX2_agrees_61 BX2_agrees_40 BX2_agrees_39 BX2_agrees_40
  refine ⟨fun n => ⟨in_nI hf, in_nI hf, ?_⟩, fun n => ?_⟩
  · have n2 : ¬ f = 0 := fun q => n (by rw [q]; rfl)
    unfold ag at h
    rw [if_neg n2] at h
    rw [clI (by omega), c_nu hR hW hc (by omega) hf, c_nu hR hW hd (by omega) hf]
    refine ⟨fun q => ?_, fun q => ?_⟩
    · rw [decide_eq_false q] at h; exact ⟨nar0, h⟩
    · rw [decide_eq_true q] at h; exact ⟨nar1, h⟩
  · have n2 : f = 0 := (eqI (b := 0) (by omega) (by decide)).mp n
    rw [n2, ag_0] at h
    rw [hl.1, hl2.1]
    refine ⟨fun q => ?_, fun q => ?_⟩
    · rw [decide_eq_false (fun r => q (by rw [r]))] at h; exact ⟨nar0, h⟩
    · rw [decide_eq_true ((eqI (by omega) (by omega)).mp q), Bool.true_and] at h
      apply r_beginsWith hR hW (by omega) (by omega)
      refine ⟨fun r => ?_, fun r => ?_⟩
      · rw [nb_0] at r; rw [r] at h; exact ⟨nar0, h⟩
      · rw [nb_0] at r; rw [bt' r] at h; exact ⟨nar1, h⟩
theorem r_key (hR : RC v a) (hW : WF a) {c f : Nat} (hc : c < nc a) (hf : f < 4) (h : Q (if f = 0 then ks a c else nu a c f) v) : TX2_key c (nI f) v Q X := by
  have := hW.1.2.2.2.1
  unfold TX2_key BX2_key_20
  refine ⟨fun n => ⟨in_nI hf, ?_⟩, fun n => ?_⟩
  · have n2 : ¬ f = 0 := fun q => n (by rw [q]; rfl)
    rw [if_neg n2] at h
    rw [clI (by omega), c_nu hR hW hc (by omega) hf]
    exact h
  · have n2 : f = 0 := (eqI (b := 0) (by omega) (by decide)).mp n
    rw [if_pos n2] at h
    exact r_soundKey hR hW (by omega) h
end
