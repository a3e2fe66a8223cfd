/-! ===== Questions about one card ===== -/
theorem t29 : ∀ s1 s2 s3 v, Inv v → TC_29 s1 s2 s3 v Inv := by
  rintro s1 s2 s3 v ⟨a, hR, hM, hW⟩
  have h16 := hW.1.2.2.2.1
  unfold TC_29 TL_person TX6_person
  apply r_card hR hW
  · intro c hc e
    rw [e]
    have f0 := fI_rf v
    apply r_joined (c_ed hR) (by omega)
    apply r_lowest
    have lc := cp_le (ed a) (c := c) (by omega)
    rw [show fa_first (cn (ed a) c) 16 = cp (ed a) c from rfl, if_pos (by omega)]
    have f := fI_tr f0 (fI_out v (k := 50) 0 0 (nI (cp (ed a) c)) (by decide))
    unfold TX7_person 
    apply m_noCard (RM_I hM f) hW
    · intro d hd e2
      have hcd : c = d := (eqI (by omega) (by omega)).mp e2
      refine ⟨fun _ => ?_, fun q => absurd rfl q⟩
      have f2 := fI_tr f (fM_I (T0_M _ 0))
      apply m_gather (RM_I hM f2) hW
      intro u hu hG
      have hMu := RM_M (RM_I hM f2) (fL_M hu)
      have f3 := fI_tr f2 (fM_I (fL_M hu))
      have u7 : u 7 0 0 = 0 := by rw [hu 7 (by omega)]; exact T0_0 _ _
      have u50 : u 50 0 0 = nI (cp (ed a) c) := by
        rw [hu 50 (by omega)]
        unfold T0
        rw [gw_ne _ _ (by omega), gw_same]
      rw [clI (by omega), hG c hc]
      refine ⟨in_nI (by omega), ?_⟩
      exact end_case u7 (fun _ => u50) (Inv_I hR hM hW f3)
    · intro h
      exact absurd rfl (h c hc)
  · intro h
    refine ⟨rfl, ?_⟩
    unfold TX7_person 
    apply m_noCard hM hW
    · intro c hc e
      exact absurd e (h c hc)
    · intro _
      refine ⟨fun q => absurd q (by decide), fun _ => ?_⟩
      apply end_case (T0_0 _ _)
      · intro q; exact absurd q (by decide)
      · exact Inv_I hR hM hW (fM_I (T0_M _ _))
theorem t30 : ∀ s1 s2 s3 v, Inv v → TC_30 s1 s2 s3 v Inv := by
  rintro s1 s2 s3 v ⟨a, hR, hM, hW⟩
  have h16 := hW.1.2.2.2.1
  unfold TC_30 TL_personByRounds TX6_personByRounds
  apply r_card hR hW
  · intro c hc e
    rw [e]
    apply r_labels hR hW
    intro w hw hl
    have f0 := fS_I hw
    refine ⟨in_nI (by omega), ?_⟩
    rw [clI (by omega), hl c (by omega)]
    have f := fI_tr f0 (fI_out w (k := 50) 0 0 (nI (cp (ed a) c)) (by decide))
    unfold TX7_personByRounds TX7_person
    apply m_noCard (RM_I hM f) hW
    · intro d hd e2
      have hcd : c = d := (eqI (by omega) (by omega)).mp e2
      refine ⟨fun _ => ?_, fun q => absurd rfl q⟩
      have f2 := fI_tr f (fM_I (T0_M _ 0))
      apply m_gather (RM_I hM f2) hW
      intro u hu hG
      have hMu := RM_M (RM_I hM f2) (fL_M hu)
      have f3 := fI_tr f2 (fM_I (fL_M hu))
      have u7 : u 7 0 0 = 0 := by rw [hu 7 (by omega)]; exact T0_0 _ _
      have u50 : u 50 0 0 = nI (cp (ed a) c) := by
        rw [hu 50 (by omega)]
        unfold T0
        rw [gw_ne _ _ (by omega), gw_same]
      rw [clI (by omega), hG c hc]
      refine ⟨in_nI (by omega), ?_⟩
      exact end_case u7 (fun _ => u50) (Inv_I hR hM hW f3)
    · intro h
      exact absurd rfl (h c hc)
  · intro h
    refine ⟨rfl, ?_⟩
    unfold TX7_personByRounds TX7_person
    apply m_noCard hM hW
    · intro c hc e
      exact absurd e (h c hc)
    · intro _
      refine ⟨fun q => absurd q (by decide), fun _ => ?_⟩
      apply end_case (T0_0 _ _)
      · intro q; exact absurd q (by decide)
      · exact Inv_I hR hM hW (fM_I (T0_M _ _))
theorem t32 : ∀ s1 s2 s3 v, Inv v → TC_32 s1 s2 s3 v Inv := by
  rintro s1 s2 s3 v ⟨a, hR, hM, hW⟩
  have h16 := hW.1.2.2.2.1
  unfold TC_32 TL_size TX6_size
  apply r_card hR hW
  · intro c hc e
    rw [e]
    have f0 := fI_rf v
    apply r_joined (c_ed hR) (by omega)
    apply r_bitCount
    have f := fI_tr f0 (fI_out v (k := 50) 0 0 (nI (fb_ct (cn (ed a) c) 16)) (by decide))
    unfold TX7_size 
    apply m_noCard (RM_I hM f) hW
    · intro d hd e2
      have hcd : c = d := (eqI (by omega) (by omega)).mp e2
      refine ⟨fun _ => ?_, fun q => absurd rfl q⟩
      have f2 := fI_tr f (fM_I (T0_M _ 0))
      apply m_gather (RM_I hM f2) hW
      intro u hu hG
      have hMu := RM_M (RM_I hM f2) (fL_M hu)
      have f3 := fI_tr f2 (fM_I (fL_M hu))
      have u7 : u 7 0 0 = 0 := by rw [hu 7 (by omega)]; exact T0_0 _ _
      have u50 : u 50 0 0 = nI (fb_ct (cn (ed a) c) 16) := by
        rw [hu 50 (by omega)]
        unfold T0
        rw [gw_ne _ _ (by omega), gw_same]
      rw [clI (by omega), hG c hc]
      refine ⟨in_nI (by omega), ?_⟩
      apply m_sizeOf hMu hW hG hc
      exact end_case u7 (fun _ => u50) (Inv_I hR hM hW f3)
    · intro h
      exact absurd rfl (h c hc)
  · intro h
    refine ⟨rfl, ?_⟩
    unfold TX7_size 
    apply m_noCard hM hW
    · intro c hc e
      exact absurd e (h c hc)
    · intro _
      refine ⟨fun q => absurd q (by decide), fun _ => ?_⟩
      apply end_case (T0_0 _ _)
      · intro q; exact absurd q (by decide)
      · exact Inv_I hR hM hW (fM_I (T0_M _ _))
theorem t34 : ∀ s1 s2 s3 v, Inv v → TC_34 s1 s2 s3 v Inv := by
  rintro s1 s2 s3 v ⟨a, hR, hM, hW⟩
  have h16 := hW.1.2.2.2.1
  unfold TC_34 TL_conflicts TX6_conflicts
  apply r_card hR hW
  · intro c hc e
    rw [e]
    have f0 := fI_rf v
    apply r_joined (c_ed hR) (by omega)
    apply r_confl hR hW
    have f := fI_tr f0 (fI_out v (k := 50) 0 0 (nI (fb_ct (dp a (cn (ed a) c)) 4)) (by decide))
    unfold TX7_conflicts 
    apply m_noCard (RM_I hM f) hW
    · intro d hd e2
      have hcd : c = d := (eqI (by omega) (by omega)).mp e2
      refine ⟨fun _ => ?_, fun q => absurd rfl q⟩
      have f2 := fI_tr f (fM_I (T0_M _ 0))
      apply m_gather (RM_I hM f2) hW
      intro u hu hG
      have hMu := RM_M (RM_I hM f2) (fL_M hu)
      have f3 := fI_tr f2 (fM_I (fL_M hu))
      have u7 : u 7 0 0 = 0 := by rw [hu 7 (by omega)]; exact T0_0 _ _
      have u50 : u 50 0 0 = nI (fb_ct (dp a (cn (ed a) c)) 4) := by
        rw [hu 50 (by omega)]
        unfold T0
        rw [gw_ne _ _ (by omega), gw_same]
      apply m_confl hMu hW hG hc
      exact end_case u7 (fun _ => u50) (Inv_I hR hM hW f3)
    · intro h
      exact absurd rfl (h c hc)
  · intro h
    refine ⟨rfl, ?_⟩
    unfold TX7_conflicts 
    apply m_noCard hM hW
    · intro c hc e
      exact absurd e (h c hc)
    · intro _
      refine ⟨fun q => absurd q (by decide), fun _ => ?_⟩
      apply end_case (T0_0 _ _)
      · intro q; exact absurd q (by decide)
      · exact Inv_I hR hM hW (fM_I (T0_M _ _))
