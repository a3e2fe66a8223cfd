/-! ===== soundAt ===== -/
theorem ch_mod : ∀ x, x < 128 → UInt32.toInt32 ((Int32.toUInt32 (nI x)) % 65536) = nI x := by decide +kernel
theorem t9 : ∀ s1 s2 s3 v, Inv v → TC_9 s1 s2 s3 v Inv := by
  rintro s1 s2 s3 v ⟨a, hR, hM, hW⟩
  have h16 := hW.1.2.2.2.1
  unfold TC_9 TL_soundAt TX6_soundAt BX6_soundAt_27
  apply r_card hR hW
  · intro c hc e
    have hN := N_of hR hW (i := c) (by omega)
    have h4 := sn_le (lt a c) (ln a c)
    have hl10 := ln_10 hW c (by omega)
    rw [e, clI (by omega), hN.2.1]
    refine ⟨in_nI (by omega), ?_⟩
    have go : ∀ (v2 : gMem) (Q : Int32 → gMem → Prop) (X : String → gMem → Prop), RM v2 a → (∀ w, fM v2 w → (∀ k, k < 4 → w 40 0 k = nI (sr (lt a c) (ln a c) k)) → TX7_isWithin s2 0 (nI (sn (lt a c) (ln a c)) - 1) w (fun r33 v33 => ((r33 = 0 → (BX7_soundAt_44 s2 2 v33 Q X)) ∧ (¬ r33 = 0 → (BX7_soundAt_44 s2 0 v33 Q X)))) X) → TX7_soundAt (nI c) s2 v2 Q X := by
      intro v2 Q X hM2 h
      unfold TX7_soundAt
      apply m_one hM2 hW hc
      refine ⟨fun _ => ?_, fun q => absurd rfl q⟩
      have hM3 := RM_M hM2 (T0_M v2 0)
      rw [clI (by omega), (m_ln hM3 hW (c := c) (by omega)).1]
      refine ⟨in_nI (by omega), ?_⟩
      apply m_sounds hM3 hW (i := c) (by omega)
      intro w hw hk
      exact h w (fM_tr (T0_M v2 0) (fQ_M (fO_Q hw))) hk
    have bad : ¬ (0 ≤ s2 ∧ s2 ≤ nI (sn (lt a c) (ln a c)) - 1) → TX7_soundAt (nI c) s2 v (fun r791 v791 => (TX7_thrown v791 (fun r797 v797 => ((r797 = 2 → ((¬ (2 : Int32) = 0 → (Inv v797)) ∧ ((2 : Int32) = 0 → (((lg_cmp (Int32.toInt64 (v797 50 0 0)) (Int32.toInt64 r791)) = 0 → (Inv v797)) ∧ (¬ (lg_cmp (Int32.toInt64 (v797 50 0 0)) (Int32.toInt64 r791)) = 0 → False))))) ∧ (¬ r797 = 2 → False))) (fun _ _ => False))) (fun _ _ => False) := by
      intro n
      apply go v _ _ hM
      intro w hw _
      apply m_within
      · intro q1 q2
        exact absurd ⟨q1, q2⟩ n
      · intro _
        refine ⟨fun _ => ?_, fun q => absurd rfl q⟩
        unfold BX7_soundAt_44
        rw [gw_same]
        refine ⟨fun q => absurd q (by decide), fun _ => ?_⟩
        exact end_case (T0_0 _ _) (fun q => absurd q (by decide)) (Inv_I hR hM hW (fM_I (fM_tr hw (T0_M _ _))))
    rcases in_or s2 (n := sn (lt a c) (ln a c)) (by omega) with ⟨k, hk, e2⟩ | ⟨_, n2, n3⟩
    · rw [e2] at bad go ⊢
      refine ⟨fun q => absurd q (nI_pos (by omega)), fun _ => ⟨fun _ => ⟨in_nI (by omega), ?_⟩, fun q => absurd ((ltI (by omega) (by omega)).mpr hk) q⟩⟩
      have hln : 1 ≤ ln a c := by
        rcases Nat.eq_zero_or_pos (ln a c) with z | z
        · rw [z] at hk
          exact absurd hk (by unfold sn; omega)
        · exact z
      have hsr0 : sr (lt a c) (ln a c) 0 ≤ 122 := by
        obtain ⟨j, hj⟩ : ∃ j, ln a c = j + 1 := ⟨ln a c - 1, by omega⟩
        have := (hW.2.2.2.2.1 c (by omega) 0 (by omega)).2.2
        rw [hj, sr_0]
        exact this
      have hsg : sg (lt a c) (ln a c) k < 128 := by
        unfold sg
        by_cases z : k = 0
        · rw [if_pos z]; omega
        · rw [if_neg z]
          have := sr_le (lt a c) (ln a c) k (by omega)
          omega
      rw [clI (by omega), hN.2.2.2 k hk]
      refine ⟨nar_c (by omega), ?_⟩
      have hM2 : RM (gw v 50 0 0 (nI (sg (lt a c) (ln a c) k))) a := RM_T hM (fT_w (fT_rf v))
      have f := fI_out v (k := 50) 0 0 (nI (sg (lt a c) (ln a c) k)) (by decide)
      apply go _ _ _ hM2
      intro w hw h40
      apply m_within
      · intro _ _
        refine ⟨fun q => absurd q (by decide), fun _ => ?_⟩
        unfold BX7_soundAt_44 BX7_soundAt_81
        have g40 : ∀ j, j < 4 → gw w 7 0 0 0 40 0 j = nI (sr (lt a c) (ln a c) j) := fun j hj => by rw [gk 40]; exact h40 j hj
        rw [gw_same, clI (by omega), cl0, g40 k (by omega), g40 0 (by omega)]
        have fin : TX7_thrown (T0 w 0) (fun t u => ((t = 0 → ((¬ (0 : Int32) = 0 → (Inv u)) ∧ ((0 : Int32) = 0 → (((lg_cmp (Int32.toInt64 (u 50 0 0)) (Int32.toInt64 (nI (sg (lt a c) (ln a c) k)))) = 0 → (Inv u)) ∧ (¬ (lg_cmp (Int32.toInt64 (u 50 0 0)) (Int32.toInt64 (nI (sg (lt a c) (ln a c) k)))) = 0 → False))))) ∧ (¬ t = 0 → False))) (fun _ _ => False) :=
          end_case (T0_0 _ _) (fun _ => o50 (fM_tr hw (T0_M _ _))) (Inv_I hR hM hW (fI_tr f (fM_I (fM_tr hw (T0_M _ _)))))
        refine ⟨fun _ => ⟨fun z => ⟨in_nI (by omega), ?_⟩, fun z => ⟨in0, ?_⟩⟩, fun q => absurd rfl q⟩
        · have z2 : k ≠ 0 := fun r => z (by rw [r]; rfl)
          have es : sg (lt a c) (ln a c) k = 48 + sr (lt a c) (ln a c) k := if_neg z2
          have e48 : (48 : Int32) + nI (sr (lt a c) (ln a c) k) = nI (48 + sr (lt a c) (ln a c) k) := nI_add 48 _
          rw [e48, ← es, ch_mod _ hsg]
          exact ⟨nar_c (by omega), fin⟩
        · have z2 : k = 0 := (eqI (b := 0) (by omega) (by decide)).mp z
          have es : sg (lt a c) (ln a c) k = sr (lt a c) (ln a c) 0 := if_pos z2
          rw [← es, ch_mod _ hsg]
          exact ⟨nar_c (by omega), fin⟩
      · intro n
        exact absurd (in_le hk (by omega)) n
    · refine ⟨fun _ => Or.inr ⟨rfl, bad n3⟩, fun q => ⟨fun r => ?_, fun _ => Or.inr ⟨rfl, bad n3⟩⟩⟩
      rcases n2 with n2 | n2
      · exact absurd n2 q
      · exact absurd n2 (ltn r)
  · intro n
    refine Or.inl ⟨rfl, ?_⟩
    unfold TX7_soundAt
    apply m_oneNo hM hW n
    exact ⟨fun q => absurd q (by decide), fun _ => end_case (T0_0 _ _) (fun q => absurd q (by decide)) (Inv_I hR hM hW (fM_I (T0_M _ _)))⟩
