/-! ===== nameAt ===== -/
theorem nar_c {n : Nat} (h : n < 65536) : narrow .char (.int (nI n)) = .int (nI n) := congrArg Value.int (fb_char h)
theorem t8 : ∀ s1 s2 s3 v, Inv v → TC_8 s1 s2 s3 v Inv := by
  rintro s1 s2 s3 v ⟨a, hR, hM, hW⟩
  have h16 := hW.1.2.2.2.1
  unfold TC_8 TL_nameAt TX6_nameAt BX6_nameAt_27
  apply r_card hR hW
  · intro c hc e
    have hl := c_ln hR hW (i := c) (by omega)
    rw [e, clI (by omega), hl.1]
    refine ⟨in_nI (by omega), ?_⟩
    have bad : (∀ k, k < ln a c → ¬ s2 = nI k) → ¬ (0 ≤ s2 ∧ s2 ≤ nI (ln a c) - 1) → TX7_nameAt (nI c) s2 v (fun r723 v723 => (TX7_thrown v723 (fun r729 v729 => ((r729 = 2 → ((¬ (2 : Int32) = 0 → (Inv v729)) ∧ ((2 : Int32) = 0 → (((lg_cmp (Int32.toInt64 (v729 50 0 0)) (Int32.toInt64 r723)) = 0 → (Inv v729)) ∧ (¬ (lg_cmp (Int32.toInt64 (v729 50 0 0)) (Int32.toInt64 r723)) = 0 → False))))) ∧ (¬ r729 = 2 → False))) (fun _ _ => False))) (fun _ _ => False) := by
      intro _ h3
      unfold TX7_nameAt BX7_nameAt_30 BX7_nameAt_33 BX7_nameAt_56
      apply m_one hM hW hc
      refine ⟨fun q => absurd rfl q, fun _ => ?_⟩
      have hM2 := RM_M hM (T0_M v 0)
      rw [clI (by omega), (m_ln hM2 hW (c := c) (by omega)).1]
      refine ⟨in_nI (by omega), ?_⟩
      apply m_within
      · intro q1 q2
        exact absurd ⟨q1, q2⟩ h3
      · intro _
        rw [gw_same, gw_same]
        refine ⟨fun _ => ⟨fun _ => ⟨rfl, ?_⟩, fun q => absurd q (by decide)⟩, fun q => absurd rfl q⟩
        exact end_case (gw_same _ _ _ _ _) (fun q => absurd q (by decide)) (Inv_I hR hM hW (fM_I (fM_tr (T0_M v 0) (T0_M _ 2))))
    rcases in_or s2 (n := ln a c) (by omega) with ⟨k, hk, e2⟩ | ⟨n1, n2, n3⟩
    · rw [e2]
      refine ⟨fun q => absurd q (nI_pos (by omega)), fun _ => ⟨fun _ => ⟨in_nI (by omega), ?_⟩, fun q => absurd ((ltI (by omega) (by omega)).mpr hk) q⟩⟩
      have l1 := c_lt hR hW (i := c) (k := k) (by omega) hk
      rw [clI (by omega), l1.1]
      refine ⟨nar_c (by omega), ?_⟩
      have g1 := fI_out v (k := 50) 0 0 (nI (lt a c k)) (by decide)
      unfold TX7_nameAt BX7_nameAt_30 BX7_nameAt_33 BX7_nameAt_56
      apply m_one (RM_I hM g1) hW hc
      refine ⟨fun q => absurd rfl q, fun _ => ?_⟩
      have f2 := fI_tr g1 (fM_I (T0_M _ 0))
      have hM2 := RM_I hM f2
      rw [clI (by omega), (m_ln hM2 hW (c := c) (by omega)).1]
      refine ⟨in_nI (by omega), ?_⟩
      apply m_within
      · intro _ _
        rw [gw_same, gw_same, x10, clI (by omega)]
        refine ⟨fun q => absurd q (by decide), fun _ => ⟨fun q => absurd rfl q, fun _ => ⟨in_nI (by omega), ?_⟩⟩⟩
        have f3 := fM_tr (T0_M (gw v 50 0 0 (nI (lt a c k))) 0) (T0_M _ 0)
        have l2 := m_lt (RM_I hM (fI_tr g1 (fM_I f3))) hW (i := c) (k := k) (by omega) hk
        unfold T0 at l2 f3
        unfold T0
        rw [l2.1]
        exact ⟨nar_c (by omega), end_case (gw_same _ _ _ _ _) (fun _ => o50 f3) (Inv_I hR hM hW (fI_tr g1 (fM_I f3)))⟩
      · intro n
        exact absurd (in_le hk (by omega)) n
    · refine ⟨fun _ => Or.inr ⟨rfl, bad n1 n3⟩, fun q => ⟨fun r => ?_, fun _ => Or.inr ⟨rfl, bad n1 n3⟩⟩⟩
      rcases n2 with n2 | n2
      · exact absurd n2 q
      · exact absurd n2 (ltn r)
  · intro n
    refine Or.inl ⟨rfl, ?_⟩
    unfold TX7_nameAt BX7_nameAt_30 BX7_nameAt_33 BX7_nameAt_56
    apply m_oneNo hM hW n
    refine ⟨fun _ => ⟨fun _ => ⟨rfl, ?_⟩, fun q => absurd q (by rw [T0_0]; decide)⟩, fun q => absurd q (by decide)⟩
    exact end_case (T0_0 _ _) (fun q => absurd q (by decide)) (Inv_I hR hM hW (fM_I (T0_M _ _)))
