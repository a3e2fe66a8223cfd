/-! ===== letter, type ===== -/
section
variable {v : gMem} {Q : gMem → Prop} {X : String → gMem → Prop}
theorem let_or {x : Int32} (h1 : 97 ≤ x) (h2 : x ≤ 122) : ∃ m, 97 ≤ m ∧ m ≤ 122 ∧ x = nI m := by
  rcases in_or x (n := 123) (by omega) with ⟨c, hc, e⟩ | ⟨_, h, _⟩
  · refine ⟨c, ?_, by omega, e⟩
    rw [e] at h1
    exact (leI (a := 97) (by omega) (by omega)).mp h1
  · rcases h with h | h
    · exact absurd (Int32.le_trans h1 (Int32.le_of_lt h)) (by decide)
    · exact absurd (Int32.le_trans h h2) (by decide)
theorem r_letter {x : Int32} (hy : ∀ m, 97 ≤ m → m ≤ 122 → x = nI m → Q v) (hn : ¬ (97 ≤ x ∧ x ≤ 122) → X "java/lang/IllegalArgumentException" v) : TX6_requireLetter x v Q X := by
  unfold TX6_requireLetter BX6_requireLetter_12
  refine ⟨fun q => hn fun r => ltn q r.1, fun p => ⟨fun q => ?_, fun q => hn fun r => q r.2⟩⟩
  obtain ⟨m, m1, m2, e⟩ := let_or (nlt p) q
  exact hy m m1 m2 e
theorem m_letter {w : gMem} {Q : Int32 → gMem → Prop} {x : Int32} (h1 : 97 ≤ x) (h2 : x ≤ 122) (h : Q 1 w) : TX7_isLetter x w Q X := by
  unfold TX7_isLetter BX7_isLetter_17
  exact ⟨fun q => absurd h1 (ltn q), fun _ => ⟨fun q => absurd h2 (ltn q), fun _ => ⟨nar1, h⟩⟩⟩
theorem m_letterNo {w : gMem} {Q : Int32 → gMem → Prop} {x : Int32} (hn : ¬ (97 ≤ x ∧ x ≤ 122)) (h : Q 0 w) : TX7_isLetter x w Q X := by
  unfold TX7_isLetter BX7_isLetter_16 BX7_isLetter_17
  exact ⟨fun _ => ⟨nar0, h⟩, fun p => ⟨fun _ => ⟨nar0, h⟩, fun q => absurd ⟨nlt p, nlt q⟩ hn⟩⟩
end
section
variable {a b v w : gMem} {i x : Nat}
theorem A_lt (hx : x < 65536) (hb : ∀ j, j < 17 → ∀ k, k < 10 → b 42 0 (10 * j + k) = if j = i ∧ k = ln a i then nI x else a 42 0 (10 * j + k)) {j k : Nat} (hj : j < 17) (hk : k < 10) : lt b j k = if j = i ∧ k = ln a i then x else lt a j k := by
  unfold lt na
  rw [hb j hj k hk]
  split
  · exact clI hx
  · rfl
theorem A_42 (h1 : 97 ≤ x) (h2 : x ≤ 122) (hn : ln a i < 10) (hb : ∀ j, j < 17 → ∀ k, k < 10 → b 42 0 (10 * j + k) = if j = i ∧ k = ln a i then nI x else a 42 0 (10 * j + k)) (hl : ∀ j, ln b j = if j = i then ln a i + 1 else ln a j) (h10 : ∀ j, j < 17 → ln a j ≤ 10) (hW : WF a) : ∀ i, i < 17 → ∀ k, k < ln b i → b 42 0 (10 * i + k) = nI (lt b i k) ∧ 97 ≤ lt b i k ∧ lt b i k ≤ 122 := by
  intro j hj k hk
  rw [hl] at hk
  have hk10 : k < 10 := by
    have := h10 j hj
    by_cases q : j = i
    · rw [if_pos q] at hk; omega
    · rw [if_neg q] at hk; omega
  rw [A_lt (by omega) hb hj hk10, hb j hj k hk10]
  by_cases q : j = i ∧ k = ln a i
  · rw [if_pos q, if_pos q]
    exact ⟨rfl, h1, h2⟩
  · rw [if_neg q, if_neg q]
    apply hW.2.2.2.2.1 j hj k
    by_cases r : j = i
    · rw [if_pos r] at hk
      have : ¬ k = ln a i := fun s => q ⟨r, s⟩
      rw [r]; omega
    · rw [if_neg r] at hk; exact hk
theorem A_N (hi : i < 17) (hx : x < 65536) (hn : ln a i < 10) (hb : ∀ j, j < 17 → ∀ k, k < 10 → b 42 0 (10 * j + k) = if j = i ∧ k = ln a i then nI x else a 42 0 (10 * j + k)) (hR : RC v a) (hW : WF a) : Nm v i (lt b i) (ln a i) := by
  have o := N_of hR hW hi
  have c : ∀ k, k < ln a i → lt a i k = lt b i k := fun k hk => by rw [A_lt hx hb hi (by omega), if_neg (by omega)]
  refine ⟨o.1, by rw [← sn_cg _ c]; exact o.2.1, fun k hk => by rw [← c k hk]; exact o.2.2.1 k hk, fun k hk => ?_⟩
  rw [← sn_cg _ c] at hk
  rw [← sg_cg k _ c]
  exact o.2.2.2 k hk
theorem A_r5 (hi : i < 17) (hx : x < 65536) (hn : ln a i < 10) (hb : ∀ j, j < 17 → ∀ k, k < 10 → b 42 0 (10 * j + k) = if j = i ∧ k = ln a i then nI x else a 42 0 (10 * j + k)) (hf : fN i v w) (hN : Nm w i (lt b i) (ln a i + 1)) (hk : ∀ k, k ≠ ln a i → w 21 i k = v 21 i k) (hR : RC v a) : ∀ i, i < 17 → ∀ k, k < 10 → w 21 i k = b 42 0 (10 * i + k) := by
  intro j hj k h10
  rw [hb j hj k h10]
  by_cases q : j = i
  · rw [q]
    by_cases r : k = ln a i
    · rw [if_pos ⟨rfl, r⟩, r, hN.2.2.1 _ (by omega), A_lt hx hb hi hn, if_pos ⟨rfl, rfl⟩]
    · rw [if_neg (by omega), hk k r]
      exact hR.2.2.2.2.1 i hi k h10
  · rw [if_neg (by omega), hf 21 j (by omega)]
    exact hR.2.2.2.2.1 j hj k h10
theorem A_r6 (hi : i < 17) (hx : x < 65536) (hb : ∀ j, j < 17 → ∀ k, k < 10 → b 42 0 (10 * j + k) = if j = i ∧ k = ln a i then nI x else a 42 0 (10 * j + k)) (hl : ∀ j, ln b j = if j = i then ln a i + 1 else ln a j) (h10 : ∀ j, j < 17 → ln a j ≤ 10) (hf : fN i v w) (hN : Nm w i (lt b i) (ln a i + 1)) (hR : RC v a) : ∀ i, i < 17 → w 4 i 3 = nI (sn (lt b i) (ln b i)) ∧ ∀ k, k < sn (lt b i) (ln b i) → w 22 i k = nI (sg (lt b i) (ln b i) k) := by
  intro j hj
  by_cases q : j = i
  · rw [hl, if_pos q, q]
    exact ⟨hN.2.1, hN.2.2.2⟩
  · have c : ∀ k, k < ln a j → lt a j k = lt b j k := fun k hk => by
      have := h10 j hj
      rw [A_lt hx hb hj (by omega), if_neg (by omega)]
    rw [hl, if_neg q, hf 4 j (by omega), hf 22 j (by omega), ← sn_cg _ c]
    refine ⟨(hR.2.2.2.2.2.1 j hj).1, fun k hk => ?_⟩
    rw [← sg_cg k _ c]
    exact (hR.2.2.2.2.2.1 j hj).2 k hk
end
/-- One letter more on card c, and in the query. -/
def wL (a : gMem) (c x : Nat) : gMem := gw (gw a 42 0 (10 * c + ln a c) (nI x)) 32 0 c (nI (ln a c + 1))
def wQ (a : gMem) (x : Nat) : gMem := gw (gw a 42 0 (10 * 16 + ln a 16) (nI x)) 7 0 6 (nI (ln a 16 + 1))
section
variable {a v w : gMem} {c x : Nat}
theorem ln_10 (hW : WF a) : ∀ j, j < 17 → ln a j ≤ 10 := by
  intro j hj
  unfold ln
  by_cases q : j = 16
  · rw [if_pos q]; exact hW.1.2.2.2.2.2.2.2.2.2
  · rw [if_neg q]; exact (hW.2.2.2.1 j (by omega)).2
theorem wr_42 {i : Nat} (hn : ln a i < 10) : ∀ j, j < 17 → ∀ k, k < 10 → gw a 42 0 (10 * i + ln a i) (nI x) 42 0 (10 * j + k) = if j = i ∧ k = ln a i then nI x else a 42 0 (10 * j + k) := by
  intro j _ k hk
  by_cases q : j = i ∧ k = ln a i
  · rw [if_pos q, q.1, q.2, gw_same]
  · rw [if_neg q, gw_ne _ _ (by omega)]
theorem wL_42 (hn : ln a c < 10) : ∀ j, j < 17 → ∀ k, k < 10 → wL a c x 42 0 (10 * j + k) = if j = c ∧ k = ln a c then nI x else a 42 0 (10 * j + k) := by
  unfold wL
  rw [gk 42]
  exact wr_42 hn
theorem wQ_42 (hn : ln a 16 < 10) : ∀ j, j < 17 → ∀ k, k < 10 → wQ a x 42 0 (10 * j + k) = if j = 16 ∧ k = ln a 16 then nI x else a 42 0 (10 * j + k) := by
  unfold wQ
  rw [gk 42]
  exact wr_42 hn
theorem wL_ln (hc : c < 16) (hn : ln a c < 10) : ∀ j, ln (wL a c x) j = if j = c then ln a c + 1 else ln a j := by
  intro j
  have e : ∀ j, j ≠ 16 → ln (wL a c x) j = (wL a c x 32 0 j).toNatClampNeg := fun j h => by
    unfold ln na
    rw [if_neg h]
  by_cases q : j = c
  · rw [if_pos q, q, e c (by omega)]
    unfold wL
    rw [gw_same, clI (by omega)]
  · rw [if_neg q]
    by_cases r : j = 16
    · rw [r]
      unfold ln
      rw [if_pos rfl, if_pos rfl]
      exact ty_c (by unfold wL; rw [gk 7, gk 7])
    · rw [e j r]
      unfold wL
      rw [gw_ne _ _ (by omega), gk 32]
      unfold ln na
      rw [if_neg r]
theorem wQ_ln (hn : ln a 16 < 10) : ∀ j, ln (wQ a x) j = if j = 16 then ln a 16 + 1 else ln a j := by
  intro j
  by_cases q : j = 16
  · rw [if_pos q, q]
    have e : ln (wQ a x) 16 = (wQ a x 7 0 6).toNatClampNeg := rfl
    rw [e]
    unfold wQ
    rw [gw_same, clI (by omega)]
  · rw [if_neg q]
    unfold ln
    rw [if_neg q, if_neg q]
    unfold na wQ
    rw [gk 32, gk 32]
theorem W_let (hc : c < 16) (hn : ln a c < 10) (h1 : 97 ≤ x) (h2 : x ≤ 122) (hW : WF a) : WF (wL a c x) := by
  have e7 : wL a c x 7 = a 7 := (gk 7).trans (gk 7)
  refine W_nm (fun k p q _ => (gk k p).trans (gk k q)) (fun j _ => by rw [e7]) ?_ ?_ (A_42 h1 h2 hn (wL_42 hn) (wL_ln hc hn) (ln_10 hW) hW) hW
  · rw [ty_c (a := a) (by rw [e7]), e7]
    exact hW.1.2.2.2.2.2.2.2.2
  · intro d hd
    unfold na
    by_cases q : d = c
    · unfold wL
      rw [q, gw_same, clI (by omega)]
      exact ⟨rfl, by omega⟩
    · unfold wL
      rw [gw_ne _ _ (by omega), gk 32]
      exact hW.2.2.2.1 d hd
theorem R_let (hc : c < 16) (hn : ln a c < 10) (hx : x < 65536) (hW : WF a) (hR : RC v a) (hf : fN c v w) (hN : Nm w c (lt (wL a c x) c) (ln a c + 1)) (hk : ∀ k, k ≠ ln a c → w 21 c k = v 21 c k) : RC w (wL a c x) := by
  have e7 : wL a c x 7 = a 7 := (gk 7).trans (gk 7)
  refine R_nm (fun k p q _ => (gk k p).trans (gk k q)) (fun j _ => by rw [e7]) hf ?_ ?_ (A_r5 (by omega) hx hn (wL_42 hn) hf hN hk hR) (A_r6 (by omega) hx (wL_42 hn) (wL_ln hc hn) (ln_10 hW) hf hN hR) hR
  · rw [hf 4 16 (by omega), e7]
    exact hR.1.2.2.2.2.2
  · intro d hd
    by_cases q : d = c
    · rw [q, hN.1]
      unfold wL
      rw [gw_same]
    · rw [hf 4 d (by omega)]
      unfold wL
      rw [gw_ne _ _ (by omega), gk 32]
      exact (hR.2.2.1 d hd).2
theorem W_typ (hn : ln a 16 < 10) (h1 : 97 ≤ x) (h2 : x ≤ 122) (hW : WF a) : WF (wQ a x) := by
  refine W_nm (fun k _ p q => (gk k q).trans (gk k p)) (fun j h => by unfold wQ; rw [gw_ne _ _ (by omega), gk 7]) ?_ ?_ (A_42 h1 h2 hn (wQ_42 hn) (wQ_ln hn) (ln_10 hW) hW) hW
  · unfold ty na wQ
    rw [gw_same, clI (by omega)]
    exact ⟨rfl, by omega⟩
  · intro d hd
    unfold na wQ
    rw [gk 32, gk 32]
    exact hW.2.2.2.1 d hd
theorem R_typ (hn : ln a 16 < 10) (hx : x < 65536) (hW : WF a) (hR : RC v a) (hf : fN 16 v w) (hN : Nm w 16 (lt (wQ a x) 16) (ln a 16 + 1)) (hk : ∀ k, k ≠ ln a 16 → w 21 16 k = v 21 16 k) : RC w (wQ a x) := by
  refine R_nm (fun k _ p q => (gk k q).trans (gk k p)) (fun j h => by unfold wQ; rw [gw_ne _ _ (by omega), gk 7]) hf ?_ ?_ (A_r5 (by omega) hx hn (wQ_42 hn) hf hN hk hR) (A_r6 (by omega) hx (wQ_42 hn) (wQ_ln hn) (ln_10 hW) hf hN hR) hR
  · rw [hN.1]
    unfold wQ
    rw [gw_same]
  · intro d hd
    rw [hf 4 d (by omega)]
    unfold wQ
    rw [gk 32, gk 32]
    exact (hR.2.2.1 d hd).2
end
theorem t4 : ∀ s1 s2 s3 v, Inv v → TC_4 s1 s2 s3 v Inv := by
  rintro s1 s2 s3 v ⟨a, hR, hM, hW⟩
  have h16 := hW.1.2.2.2.1
  unfold TC_4
  generalize UInt32.toInt32 ((Int32.toUInt32 s2) % 65536) = x
  unfold TL_letter TX6_letter TX6_appendTo
  apply r_card hR hW
  · intro c hc e
    rw [e]
    apply r_letter
    · intro m m1 m2 e2
      rw [e2, clI (by omega), (c_ln hR hW (i := c) (by omega)).1]
      have h10 := ln_10 hW c (by omega)
      have l1 : (97 : Int32) ≤ nI m := (leI (a := 97) (by omega) (by omega)).mpr m1
      have l2 : nI m ≤ 122 := (leI (b := 122) (by omega) (by omega)).mpr m2
      refine ⟨in_nI (by omega), fun q => ?_, fun q => Or.inr (Or.inr ⟨rfl, ?_⟩)⟩
      · have hn : ln a c < 10 := (ltI (b := 10) (by omega) (by decide)).mp q
        have em : nI m = nI (lt (wL a c m) c (ln a c)) := by rw [A_lt (by omega) (wL_42 hn) (by omega) hn, if_pos ⟨rfl, rfl⟩]
        have hl : ∀ k, k ≤ ln a c → lt (wL a c m) c k < 65536 := fun k hk => by
          rw [A_lt (by omega) (wL_42 hn) (by omega) (by omega)]
          split
          · omega
          · have := (hW.2.2.2.2.1 c (by omega) k (by omega)).2.2
            omega
        rw [em]
        apply r_append (A_N (by omega) (by omega) hn (wL_42 hn) hR hW) hn hl
        rw [← em]
        intro w hf hN hk
        have hR2 := R_let (by omega) hn (by omega) hW hR hf hN hk
        have hW2 := W_let (by omega) hn m1 m2 hW
        rw [hN.1]
        have hM2 : RM (gw w 50 0 0 (nI (ln a c + 1))) a := RM_T hM (fT_w (fN_T hf))
        unfold TX7_letter
        apply m_one hM2 hW hc
        refine ⟨fun _ => ?_, fun q => absurd rfl q⟩
        apply m_letter l1 l2
        have hM3 := RM_M hM2 (T0_M _ 0)
        rw [clI (by omega), (m_ln hM3 hW (c := c) (by omega)).1, x10, clI (by omega), vn_c (by omega), gk 32, (m_ln hM3 hW (c := c) (by omega)).1, nI_1]
        refine ⟨fun _ => ⟨in_nI (by omega), fun _ => ⟨in_nI (by omega), in_nI (by omega), in_nI (by omega), in_nI (by omega), ?_⟩, fun s => ?_⟩, fun q => absurd q (by decide)⟩
        · apply end_mut (RC_50 hR2) (fR_w (fR_w (fR_M (fR_rf _) (T0_M _ _)))) (RM_w (RM_w hM3)) hW2
          · rw [gk 7, gk 7]; exact T0_0 _ _
          · exact gw_same _ _ _ _ _
        · have := (eqI (b := 10) (by omega) (by decide)).mp s
          omega
      · have hge : ln a c = 10 := by
          have : ¬ ln a c < 10 := fun u => q ((ltI (b := 10) (by omega) (by decide)).mpr u)
          omega
        unfold TX7_letter
        apply m_one hM hW hc
        refine ⟨fun _ => ?_, fun q => absurd rfl q⟩
        apply m_letter l1 l2
        rw [clI (by omega), (m_ln (RM_M hM (T0_M _ 0)) hW (c := c) (by omega)).1, hge]
        refine ⟨fun _ => ⟨in_nI (by omega), fun s => absurd rfl s, fun _ => m_fail ?_⟩, fun q => absurd q (by decide)⟩
        exact end_case (T0_0 _ _) (fun q => absurd q (by decide)) (Inv_I hR hM hW (fM_I (fM_tr (T0_M v 0) (T0_M _ _))))
    · intro n
      refine Or.inr (Or.inl ⟨rfl, ?_⟩)
      unfold TX7_letter
      apply m_one hM hW hc
      refine ⟨fun _ => ?_, fun q => absurd rfl q⟩
      apply m_letterNo n
      refine ⟨fun q => absurd rfl q, fun _ => m_fail ?_⟩
      exact end_case (T0_0 _ _) (fun q => absurd q (by decide)) (Inv_I hR hM hW (fM_I (fM_tr (T0_M v 0) (T0_M _ _))))
  · intro n
    refine Or.inl ⟨rfl, ?_⟩
    unfold TX7_letter
    apply m_oneNo hM hW n
    exact ⟨fun q => absurd q (by decide), fun _ => end_case (T0_0 _ _) (fun q => absurd q (by decide)) (Inv_I hR hM hW (fM_I (T0_M _ _)))⟩
theorem t39 : ∀ s1 s2 s3 v, Inv v → TC_39 s1 s2 s3 v Inv := by
  rintro s1 s2 s3 v ⟨a, hR, hM, hW⟩
  unfold TC_39
  generalize UInt32.toInt32 ((Int32.toUInt32 s1) % 65536) = x
  unfold TL_type TX6_type TX6_appendTo
  apply r_letter
  · intro m m1 m2 e2
    rw [e2, (c_ln hR hW (i := 16) (by omega)).1]
    have h10 := ln_10 hW 16 (by omega)
    have l1 : (97 : Int32) ≤ nI m := (leI (a := 97) (by omega) (by omega)).mpr m1
    have l2 : nI m ≤ 122 := (leI (b := 122) (by omega) (by omega)).mpr m2
    refine ⟨fun q => ?_, fun q => Or.inr ⟨rfl, ?_⟩⟩
    · have hn : ln a 16 < 10 := (ltI (b := 10) (by omega) (by decide)).mp q
      have em : nI m = nI (lt (wQ a m) 16 (ln a 16)) := by rw [A_lt (by omega) (wQ_42 hn) (by omega) hn, if_pos ⟨rfl, rfl⟩]
      have hl : ∀ k, k ≤ ln a 16 → lt (wQ a m) 16 k < 65536 := fun k hk => by
        rw [A_lt (by omega) (wQ_42 hn) (by omega) (by omega)]
        split
        · omega
        · have := (hW.2.2.2.2.1 16 (by omega) k (by omega)).2.2
          omega
      rw [em]
      apply r_append (A_N (by omega) (by omega) hn (wQ_42 hn) hR hW) hn hl
      rw [← em]
      intro w hf hN hk
      have hR2 := R_typ hn (by omega) hW hR hf hN hk
      have hW2 := W_typ hn m1 m2 hW
      rw [hN.1]
      have hM2 : RM (gw w 50 0 0 (nI (ln a 16 + 1))) a := RM_T hM (fT_w (fN_T hf))
      unfold TX7_type
      apply m_letter l1 l2
      have e6 : ∀ y, gw (gw w 50 0 0 (nI (ln a 16 + 1))) 7 0 0 y 7 0 6 = nI (ln a 16) := fun y => (m_ty (RM_0 hM2) hW).1
      have e160 : (160 : Int32) + nI (ln a 16) = nI (10 * 16 + ln a 16) := nI_add 160 (ln a 16)
      have ej : ∀ i y, gw (gw (gw w 50 0 0 (nI (ln a 16 + 1))) 7 0 0 0) 42 0 i y 7 0 6 = nI (ln a 16) := fun i y => by
        rw [gk 7]; exact e6 0
      rw [(m_ty hM2 hW).1, e6, ej, e160, clI (by omega), vn_c (by omega), nI_1]
      refine ⟨fun _ => ⟨fun _ => ⟨in_nI (by omega), ?_⟩, fun s => ?_⟩, fun q => absurd q (by decide)⟩
      · apply end_mut (RC_50 hR2) (fR_w (fR_w (fR_w (fR_rf _)))) (RM_w (RM_w (RM_0 hM2))) hW2
        · rw [gw_ne _ _ (by omega), gk 7, gw_same]
        · exact gw_same _ _ _ _ _
      · have := (eqI (b := 10) (by omega) (by decide)).mp s
        omega
    · have hge : ln a 16 = 10 := by
        have : ¬ ln a 16 < 10 := fun u => q ((ltI (b := 10) (by omega) (by decide)).mpr u)
        omega
      unfold TX7_type
      apply m_letter l1 l2
      rw [(m_ty hM hW).1, hge]
      refine ⟨fun _ => ⟨fun s => absurd rfl s, fun _ => m_fail ?_⟩, fun q => absurd q (by decide)⟩
      exact end_case (T0_0 _ _) (fun q => absurd q (by decide)) (Inv_I hR hM hW (fM_I (T0_M _ _)))
  · intro n
    refine Or.inl ⟨rfl, ?_⟩
    unfold TX7_type
    apply m_letterNo n
    refine ⟨fun q => absurd rfl q, fun _ => m_fail ?_⟩
    exact end_case (T0_0 _ _) (fun q => absurd q (by decide)) (Inv_I hR hM hW (fM_I (T0_M _ _)))
