/-! ===== clearName, clearQuery ===== -/
theorem ln_cl {a : gMem} {c : Nat} (hc : c < 16) {j : Nat} : ln (gw a 32 0 c 0) j = if j = c then 0 else ln a j := by
  unfold ln na
  rw [ty_c (by rw [gk 7])]
  by_cases q : j = c
  · rw [if_pos q, if_neg (by omega), q, gw_same]
    rfl
  · rw [if_neg q]
    by_cases r : j = 16
    · rw [if_pos r, if_pos r]
    · rw [if_neg r, if_neg r, gw_ne _ _ (by omega)]
theorem ln_cq {a : gMem} {j : Nat} : ln (gw a 7 0 6 0) j = if j = 16 then 0 else ln a j := by
  unfold ln ty na
  rw [gw_same, gk 32]
  by_cases q : j = 16
  · rw [if_pos q, if_pos q]; rfl
  · rw [if_neg q, if_neg q, if_neg q]
section
variable {a b v : gMem}
theorem C_42 {i : Nat} (hl : ∀ j, ln b j = if j = i then 0 else ln a j) (h42 : b 42 = a 42) (hW : WF a) : ∀ i, i < 17 → ∀ k, k < ln b i → b 42 0 (10 * i + k) = nI (lt b i k) ∧ 97 ≤ lt b i k ∧ lt b i k ≤ 122 := by
  intro j hj k hk
  rw [hl] at hk
  by_cases q : j = i
  · rw [if_pos q] at hk; omega
  · rw [if_neg q] at hk
    rw [lt_c h42, h42]
    exact hW.2.2.2.2.1 j hj k hk
theorem C_r6 {i : Nat} (hl : ∀ j, ln b j = if j = i then 0 else ln a j) (h42 : b 42 = a 42) (hR : RC v a) : ∀ j, j < 17 → (gw (gw v 4 i 1 0) 4 i 3 0) 4 j 3 = nI (sn (lt b j) (ln b j)) ∧ ∀ k, k < sn (lt b j) (ln b j) → (gw (gw v 4 i 1 0) 4 i 3 0) 22 j k = nI (sg (lt b j) (ln b j) k) := by
  intro j hj
  rw [hl, lt_c h42]
  by_cases q : j = i
  · rw [if_pos q, q, gw_same]
    exact ⟨rfl, fun k hk => absurd hk (by unfold sn; omega)⟩
  · rw [if_neg q, gw_ne _ _ (by omega), gw_ne _ _ (by omega), gk 22, gk 22]
    exact hR.2.2.2.2.2.1 j hj
theorem C_f {i : Nat} : fN i v (gw (gw v 4 i 1 0) 4 i 3 0) := fN_tr (fN_gw i _ _ _) (fN_gw i _ _ _)
theorem W_cl {c : Nat} (hc : c < 16) (hW : WF a) : WF (gw a 32 0 c 0) := by
  refine W_nm (fun k h _ _ => gk k h) (fun j _ => by rw [gk 7]) ?_ ?_ (C_42 (i := c) (fun j => ln_cl hc) (gk 42) hW) hW
  · rw [ty_c (a := a) (by rw [gk 7]), gk 7]
    exact hW.1.2.2.2.2.2.2.2.2
  · intro d hd
    unfold na
    by_cases q : d = c
    · rw [q, gw_same]
      exact ⟨rfl, by decide⟩
    · rw [gw_ne _ _ (by omega)]
      exact hW.2.2.2.1 d hd
theorem R_cl {c : Nat} (hc : c < 16) (hR : RC v a) : RC (gw (gw v 4 c 1 0) 4 c 3 0) (gw a 32 0 c 0) := by
  refine R_nm (fun k h _ _ => gk k h) (fun j _ => by rw [gk 7]) C_f ?_ ?_ ?_ (C_r6 (i := c) (fun j => ln_cl hc) (gk 42) hR) hR
  · rw [gw_ne _ _ (by omega), gw_ne _ _ (by omega), gk 7]
    exact hR.1.2.2.2.2.2
  · intro d hd
    rw [gw_ne _ _ (by omega)]
    by_cases q : d = c
    · rw [q, gw_same, gw_same]
    · rw [gw_ne _ _ (by omega), gw_ne _ _ (by omega)]
      exact (hR.2.2.1 d hd).2
  · intro j hj k hk
    rw [gk 21, gk 21, gk 42]
    exact hR.2.2.2.2.1 j hj k hk
theorem W_cq (hW : WF a) : WF (gw a 7 0 6 0) := by
  refine W_nm (fun k _ _ h => gk k h) (fun j h => gw_ne _ _ (by omega)) ?_ ?_ (C_42 (i := 16) (fun j => ln_cq) (gk 42) hW) hW
  · unfold ty na
    rw [gw_same]
    exact ⟨rfl, by decide⟩
  · intro d hd
    unfold na
    rw [gk 32]
    exact hW.2.2.2.1 d hd
theorem R_cq (hR : RC v a) : RC (gw (gw v 4 16 1 0) 4 16 3 0) (gw a 7 0 6 0) := by
  refine R_nm (fun k _ _ h => gk k h) (fun j h => gw_ne _ _ (by omega)) C_f ?_ ?_ ?_ (C_r6 (i := 16) (fun j => ln_cq) (gk 42) hR) hR
  · rw [gw_ne _ _ (by omega), gw_same, gw_same]
  · intro d hd
    rw [gw_ne _ _ (by omega), gw_ne _ _ (by omega), gk 32]
    exact (hR.2.2.1 d hd).2
  · intro j hj k hk
    rw [gk 21, gk 21, gk 42]
    exact hR.2.2.2.2.1 j hj k hk
end
theorem t5 : ∀ s1 s2 s3 v, Inv v → TC_5 s1 s2 s3 v Inv := by
  rintro s1 s2 s3 v ⟨a, hR, hM, hW⟩
  have h16 := hW.1.2.2.2.1
  unfold TC_5 TL_clearName TX6_clearName TX4_empty
  apply r_card hR hW
  · intro c hc e
    rw [e, clI (by omega)]
    refine ⟨in_nI (by omega), ?_⟩
    have hR2 := R_cl (c := c) (by omega) hR
    have hW2 := W_cl (c := c) (by omega) hW
    have hl := c_ln hR hW (i := c) (by omega)
    rw [hl.1]
    have t : fT v (gw (gw (gw v 4 c 1 0) 4 c 3 0) 50 0 0 (nI (ln a c))) := fT_w (fT_w (fT_w (fT_rf v)))
    have hM2 := RM_T hM t
    unfold TX7_clearName
    apply m_one hM2 hW hc
    refine ⟨fun _ => ?_, fun q => absurd rfl q⟩
    rw [clI (by omega), (m_ln (RM_M hM2 (T0_M _ 0)) hW (c := c) (by omega)).1]
    refine ⟨in_nI (by omega), in_nI (by omega), ?_⟩
    apply end_mut (RC_50 hR2) (fR_w (fR_M (fR_rf _) (T0_M _ _))) (RM_w (RM_M hM2 (T0_M _ 0))) hW2
    · rw [gk 7]; exact T0_0 _ _
    · exact gw_same _ _ _ _ _
  · intro n
    refine ⟨rfl, ?_⟩
    unfold TX7_clearName
    apply m_oneNo hM hW n
    exact ⟨fun q => absurd q (by decide), fun _ => end_case (T0_0 _ _) (fun q => absurd q (by decide)) (Inv_I hR hM hW (fM_I (T0_M _ _)))⟩
theorem t40 : ∀ s1 s2 s3 v, Inv v → TC_40 s1 s2 s3 v Inv := by
  rintro s1 s2 s3 v ⟨a, hR, hM, hW⟩
  unfold TC_40 TX6_clearQuery TX4_empty TX7_clearQuery
  have hl := c_ln hR hW (i := 16) (by omega)
  have t : fT v (gw (gw v 4 16 1 0) 4 16 3 0) := fT_w (fT_w (fT_rf v))
  have hM2 := RM_T hM t
  rw [hl.1]
  show (nI (ln a 16) = gw (gw v 4 16 1 0) 4 16 3 0 7 0 6 → Inv (gw (gw (gw v 4 16 1 0) 4 16 3 0) 7 0 6 0)) ∧ (¬ nI (ln a 16) = gw (gw v 4 16 1 0) 4 16 3 0 7 0 6 → False)
  rw [(m_ty hM2 hW).1]
  refine ⟨fun _ => ?_, fun q => q rfl⟩
  exact ⟨gw a 7 0 6 0, RC_of (R_cq hR) (fun k hk => gk k (by unfold ckind at hk; omega)), RM_w hM2, W_cq hW⟩
