/-! ===== setRank, setWeights, setNumber ===== -/
section
variable {a v : gMem} {Q : gMem → Prop} {X : String → gMem → Prop}
theorem c_ns (hR : RC v a) (hW : WF a) : v 6 0 1 = nI (ns a) := by rw [hR.1.1]; exact hW.1.1
theorem m_ns (hM : RM v a) (hW : WF a) : v 7 0 1 = nI (ns a) := by rw [hM.1 1 (by omega) (by omega)]; exact hW.1.1
theorem r_rank {x : Int32} (hy : ∀ r, 1 ≤ r → r ≤ 9 → x = nI r → Q v) (hn : ¬ (1 ≤ x ∧ x ≤ 9) → X "java/lang/IllegalArgumentException" v) : TX6_requireRank x v Q X := by
  unfold TX6_requireRank BX6_requireRank_11
  refine ⟨fun q => hn fun r => ltn q r.1, fun p => ⟨fun q => ?_, fun q => hn fun r => q r.2⟩⟩
  rcases in_or x (n := 10) (by omega) with ⟨c, hc, e⟩ | ⟨_, h2, _⟩
  · refine hy c ?_ (by omega) e
    have p2 := nlt p
    rw [e] at p2
    exact (leI (a := 1) (by omega) (by omega)).mp p2
  · rcases h2 with h2 | h2
    · exact absurd (show x < 1 from Int32.lt_trans h2 (by decide)) p
    · exact absurd (Int32.le_trans h2 q) (by decide)
theorem r_source (hR : RC v a) (hW : WF a) {x : Int32} (hy : ∀ c, c < ns a → x = nI c → Q v) (hn : (∀ c, c < ns a → ¬ x = nI c) → ¬ (0 ≤ x ∧ x ≤ nI (ns a) - 1) → X "java/lang/IndexOutOfBoundsException" v) : TX6_requireSource x v Q X := by
  have h4 := hW.1.2.1
  unfold TX6_requireSource BX6_requireSource_12
  rw [c_ns hR hW]
  rcases in_or x (n := ns a) (by omega) with ⟨c, hc, e⟩ | ⟨h1, h2, h3⟩
  · refine ⟨fun q => ?_, fun _ => ⟨fun _ => hy c hc e, fun q => ?_⟩⟩
    · rw [e] at q; exact absurd q (nI_pos (by omega))
    · rw [e] at q; exact absurd ((ltI (by omega) (by omega)).mpr hc) q
  · refine ⟨fun _ => hn h1 h3, fun q => ⟨fun r => ?_, fun _ => hn h1 h3⟩⟩
    rcases h2 with h2 | h2
    · exact absurd h2 q
    · exact absurd h2 (ltn r)
theorem r_weight {x : Int32} (hy : -9 ≤ x → x ≤ 9 → Q v) (hn : ¬ (-9 ≤ x ∧ x ≤ 9) → X "java/lang/IllegalArgumentException" v) : TX6_requireWeight x v Q X := by
  unfold TX6_requireWeight BX6_requireWeight_12
  exact ⟨fun q => hn fun r => ltn q r.1, fun p => ⟨fun q => hy (nlt p) q, fun q => hn fun r => q r.2⟩⟩
end
theorem W_30 {a : gMem} {i r : Nat} (h1 : 1 ≤ r) (h9 : r ≤ 9) (hW : WF a) : WF (gw a 30 0 i (nI r)) := by
  have e7 : gw a 30 0 i (nI r) 7 = a 7 := gk 7
  have n : nc (gw a 30 0 i (nI r)) = nc a := nc_c (by rw [e7])
  have m : nm (gw a 30 0 i (nI r)) = nm a := nm_c (by rw [e7])
  have s : ns (gw a 30 0 i (nI r)) = ns a := ns_c (by rw [e7])
  have ht : gw a 30 0 i (nI r) 7 0 6 = a 7 0 6 := by rw [e7]
  refine ⟨W1c e7 hW, ?_, W3c s n (gk 31) hW, W4c (gk 32) hW, W5c (ln_c (gk 32) ht) (gk 42) hW, W6c n (gk 33) hW, W7c (gk 34) hW, W8c n m (gk 36) (gk 37) (gk 43) hW, W9c m (gk 36) (gk 37) (gk 43) hW, W10c n (ed_c (by rw [e7]) (gk 36) (gk 37) (gk 43)) (gk 44) hW, W11c n (gk 45) hW, W12c (np_c (by rw [e7])) (gk 44) hW⟩
  rw [s]
  intro j hj
  by_cases q : j = i
  · rw [q, gw_same]; exact ⟨r, rfl, h1, h9⟩
  · rw [gw_ne _ _ (by omega)]; exact hW.2.1 j hj
theorem R_30 {v a : gMem} {i : Nat} {x : Int32} (hR : RC v a) : RC (gw v 10 0 i x) (gw a 30 0 i x) := by
  have e7 : gw a 30 0 i x 7 = a 7 := gk 7
  have n : nc (gw a 30 0 i x) = nc a := nc_c (by rw [e7])
  have ht : gw a 30 0 i x 7 0 6 = a 7 0 6 := by rw [e7]
  refine ⟨by rw [e7, gk 6, gk 3, gk 4]; exact hR.1, ?_, R3c (gk 2) (gk 4) (gk 31) (gk 32) hR, R4c (gk 23) n (gk 33) hR, R5c (gk 21) (gk 42) hR, R6c (gk 4) (gk 22) (ln_c (gk 32) ht) (gk 42) hR, R7c (gk 17) (gk 18) (gk 19) (gk 36) (gk 37) (gk 43) hR, R8c (gk 16) (ed_c (by rw [e7]) (gk 36) (gk 37) (gk 43)) (gk 44) hR, R9c (gk 14) (gk 45) hR⟩
  intro j hj
  rw [gk 12, gk 13, gk 34, gk 35]
  refine ⟨?_, (hR.2.1 j hj).2⟩
  by_cases q : j = i
  · rw [q, gw_same, gw_same]
  · rw [gw_ne _ _ (by omega), gw_ne _ _ (by omega)]; exact (hR.2.1 j hj).1
theorem t1 : ∀ s1 s2 s3 v, Inv v → TC_1 s1 s2 s3 v Inv := by
  rintro s1 s2 s3 v ⟨a, hR, hM, hW⟩
  have h4 := hW.1.2.1
  unfold TC_1 TL_setRank TX6_setRank
  apply r_source hR hW
  · intro i hi e
    rw [e, clI (by omega)]
    apply r_rank
    · intro r h1 h9 e2
      rw [e2]
      refine ⟨in_nI (by omega), in_nI (by omega), ?_⟩
      have t : fT v (gw (gw v 10 0 i (nI r)) 50 0 0 (v 10 0 i)) := fT_w (fT_w (fT_rf v))
      have hM2 := RM_T hM t
      unfold TX7_setRank
      show TX7_isWithin _ _ _ _ _ _
      rw [m_ns hM2 hW]
      apply m_within
      · intro _ _
        refine ⟨fun _ => ?_, fun q => absurd q (by decide)⟩
        apply m_within
        · intro _ _
          refine ⟨fun _ => ?_, fun q => absurd q (by decide)⟩
          rw [clI (by omega)]
          refine ⟨in_nI (by omega), in_nI (by omega), ?_⟩
          apply end_mut (RC_50 (R_30 (x := nI r) hR)) (fR_w (fR_w (fR_rf _))) (RM_w (RM_0 hM2)) (W_30 h1 h9 hW)
          · rw [gw_ne _ _ (by omega), gw_same]
          · rw [gw_same, gk 30, hM2.2 30 (by unfold mkind; omega)]
            exact (hR.2.1 i (by omega)).1
        · intro n
          exact absurd ⟨(leI (a := 1) (by omega) (by omega)).mpr h1, (leI (b := 9) (by omega) (by omega)).mpr h9⟩ n
      · intro n
        exact absurd (in_le hi (by omega)) n
    · intro n
      refine Or.inr ⟨rfl, ?_⟩
      unfold TX7_setRank
      show TX7_isWithin _ _ _ _ _ _
      rw [m_ns hM hW]
      apply m_within
      · intro _ _
        refine ⟨fun _ => ?_, fun q => absurd q (by decide)⟩
        apply m_within
        · intro q1 q2
          exact absurd ⟨q1, q2⟩ n
        · intro _
          refine ⟨fun q => absurd rfl q, fun _ => m_fail ?_⟩
          exact end_case (T0_0 _ _) (fun q => absurd q (by decide)) (Inv_I hR hM hW (fM_I (T0_M _ _)))
      · intro n
        exact absurd (in_le hi (by omega)) n
  · intro _ n
    refine Or.inl ⟨rfl, ?_⟩
    unfold TX7_setRank
    show TX7_isWithin _ _ _ _ _ _
    rw [m_ns hM hW]
    apply m_within
    · intro q1 q2
      exact absurd ⟨q1, q2⟩ n
    · intro _
      refine ⟨fun q => absurd rfl q, fun _ => m_fail ?_⟩
      exact end_case (T0_0 _ _) (fun q => absurd q (by decide)) (Inv_I hR hM hW (fM_I (T0_M _ _)))
/-! ===== setWeights ===== -/
theorem W_wt {a : gMem} {f : Nat} {x y : Int32} (h1 : -9 ≤ x) (h9 : x ≤ 9) (hW : WF a) : WF (gw (gw a 34 0 f x) 35 0 f y) := by
  have E : ∀ k, k ≠ 34 → k ≠ 35 → gw (gw a 34 0 f x) 35 0 f y k = a k := fun k p q => (gk k q).trans (gk k p)
  generalize hb : gw (gw a 34 0 f x) 35 0 f y = b at E ⊢
  have e7 : b 7 = a 7 := E 7 (by decide) (by decide)
  have n : nc b = nc a := nc_c (by rw [e7])
  have m : nm b = nm a := nm_c (by rw [e7])
  have s : ns b = ns a := ns_c (by rw [e7])
  have e36 : b 36 = a 36 := E 36 (by decide) (by decide)
  have e37 : b 37 = a 37 := E 37 (by decide) (by decide)
  have e43 : b 43 = a 43 := E 43 (by decide) (by decide)
  have e44 : b 44 = a 44 := E 44 (by decide) (by decide)
  have e32 : b 32 = a 32 := E 32 (by decide) (by decide)
  refine ⟨W1c e7 hW, W2c s (E 30 (by decide) (by decide)) hW, W3c s n (E 31 (by decide) (by decide)) hW, W4c e32 hW, W5c (ln_c e32 (by rw [e7])) (E 42 (by decide) (by decide)) hW, W6c n (E 33 (by decide) (by decide)) hW, ?_, W8c n m e36 e37 e43 hW, W9c m e36 e37 e43 hW, W10c n (ed_c (by rw [e7]) e36 e37 e43) e44 hW, W11c n (E 45 (by decide) (by decide)) hW, W12c (np_c (by rw [e7])) e44 hW⟩
  intro j hj
  have e : b 34 0 j = if j = f then x else a 34 0 j := by
    rw [← hb, gk 34]
    by_cases q : j = f
    · rw [q, gw_same, if_pos rfl]
    · rw [gw_ne _ _ (by omega), if_neg q]
  rw [e]
  split
  · exact ⟨h1, h9⟩
  · exact hW.2.2.2.2.2.2.1 j hj
theorem R_wt {v a : gMem} {f : Nat} {x y : Int32} (hR : RC v a) : RC (gw (gw v 12 0 f x) 13 0 f y) (gw (gw a 34 0 f x) 35 0 f y) := by
  have E : ∀ k, k ≠ 34 → k ≠ 35 → gw (gw a 34 0 f x) 35 0 f y k = a k := fun k p q => (gk k q).trans (gk k p)
  have F : ∀ k, k ≠ 12 → k ≠ 13 → gw (gw v 12 0 f x) 13 0 f y k = v k := fun k p q => (gk k q).trans (gk k p)
  have G : ∀ i, i < 4 → gw (gw v 12 0 f x) 13 0 f y 12 0 i = gw (gw a 34 0 f x) 35 0 f y 34 0 i ∧ gw (gw v 12 0 f x) 13 0 f y 13 0 i = gw (gw a 34 0 f x) 35 0 f y 35 0 i := by
    intro i hi
    by_cases q : i = f
    · rw [q, gw_same, gw_same, gk 12, gk 34, gw_same, gw_same]
      exact ⟨rfl, rfl⟩
    · rw [gk 12, gk 34, gw_ne _ _ (by omega), gw_ne _ _ (by omega), gw_ne _ _ (by omega), gw_ne _ _ (by omega), gw_ne _ _ (by omega), gw_ne _ _ (by omega)]
      exact (hR.2.1 i hi).2
  generalize gw (gw a 34 0 f x) 35 0 f y = b at E G ⊢
  generalize gw (gw v 12 0 f x) 13 0 f y = w at F G ⊢
  have e7 : b 7 = a 7 := E 7 (by decide) (by decide)
  have n : nc b = nc a := nc_c (by rw [e7])
  have e36 : b 36 = a 36 := E 36 (by decide) (by decide)
  have e37 : b 37 = a 37 := E 37 (by decide) (by decide)
  have e43 : b 43 = a 43 := E 43 (by decide) (by decide)
  have e44 : b 44 = a 44 := E 44 (by decide) (by decide)
  have e32 : b 32 = a 32 := E 32 (by decide) (by decide)
  have e42 : b 42 = a 42 := E 42 (by decide) (by decide)
  have w4 : w 4 = v 4 := F 4 (by decide) (by decide)
  refine ⟨by rw [e7, F 6 (by decide) (by decide), F 3 (by decide) (by decide), w4]; exact hR.1, ?_, R3c (F 2 (by decide) (by decide)) w4 (E 31 (by decide) (by decide)) e32 hR, R4c (F 23 (by decide) (by decide)) n (E 33 (by decide) (by decide)) hR, R5c (F 21 (by decide) (by decide)) e42 hR, R6c w4 (F 22 (by decide) (by decide)) (ln_c e32 (by rw [e7])) e42 hR, R7c (F 17 (by decide) (by decide)) (F 18 (by decide) (by decide)) (F 19 (by decide) (by decide)) e36 e37 e43 hR, R8c (F 16 (by decide) (by decide)) (ed_c (by rw [e7]) e36 e37 e43) e44 hR, R9c (F 14 (by decide) (by decide)) (E 45 (by decide) (by decide)) hR⟩
  intro i hi
  rw [F 10 (by decide) (by decide), E 30 (by decide) (by decide)]
  exact ⟨(hR.2.1 i hi).1, G i hi⟩
theorem t11 : ∀ s1 s2 s3 v, Inv v → TC_11 s1 s2 s3 v Inv := by
  rintro s1 s2 s3 v ⟨a, hR, hM, hW⟩
  unfold TC_11 TL_setWeights TX6_setWeights
  have endc : ∀ {y : Int32}, TX7_thrown (T0 v 1) (fun t z => ((t = 1 → ((¬ (1 : Int32) = 0 → (Inv z)) ∧ ((1 : Int32) = 0 → (((lg_cmp (Int32.toInt64 (z 50 0 0)) (Int32.toInt64 y)) = 0 → (Inv z)) ∧ (¬ (lg_cmp (Int32.toInt64 (z 50 0 0)) (Int32.toInt64 y)) = 0 → False))))) ∧ (¬ t = 1 → False))) (fun _ _ => False) :=
    end_case (T0_0 _ _) (fun q => absurd q (by decide)) (Inv_I hR hM hW (fM_I (T0_M _ _)))
  apply r_field4
  · intro f hf e
    rw [e, clI (by omega)]
    apply r_weight
    · intro h1 h9
      apply r_weight
      · intro k1 k9
        refine ⟨in_nI hf, in_nI hf, in_nI hf, ?_⟩
        have t : fT v (gw (gw (gw v 12 0 f s2) 13 0 f s3) 50 0 0 (v 12 0 f)) := fT_w (fT_w (fT_w (fT_rf v)))
        have hM2 := RM_T hM t
        unfold TX7_setWeights
        apply m_in4 hf
        refine ⟨fun q => absurd q (by decide), fun _ => ?_⟩
        apply m_within
        · intro _ _
          refine ⟨fun q => absurd q (by decide), fun _ => ?_⟩
          apply m_within
          · intro _ _
            refine ⟨fun _ => ?_, fun q => absurd q (by decide)⟩
            rw [clI (by omega)]
            refine ⟨in_nI hf, in_nI hf, in_nI hf, ?_⟩
            apply end_mut (RC_50 (R_wt (x := s2) (y := s3) hR)) (fR_w (fR_w (fR_w (fR_rf _)))) (RM_w (RM_w (RM_0 hM2))) (W_wt h1 h9 hW)
            · rw [gk 7, gk 7, gw_same]
            · rw [gw_same, gk 34, hM2.2 34 (by unfold mkind; omega)]
              exact (hR.2.1 f hf).2.1
          · intro n
            exact absurd ⟨k1, k9⟩ n
        · intro n
          exact absurd ⟨h1, h9⟩ n
      · intro n
        refine ⟨rfl, ?_⟩
        unfold TX7_setWeights BX7_setWeights_31
        apply m_in4 hf
        refine ⟨fun q => absurd q (by decide), fun _ => ?_⟩
        apply m_within
        · intro _ _
          refine ⟨fun q => absurd q (by decide), fun _ => ?_⟩
          apply m_within
          · intro q1 q2
            exact absurd ⟨q1, q2⟩ n
          · intro _
            exact ⟨fun q => absurd rfl q, fun _ => m_fail endc⟩
        · intro n
          exact absurd ⟨h1, h9⟩ n
    · intro n
      refine ⟨rfl, ?_⟩
      unfold TX7_setWeights BX7_setWeights_31
      apply m_in4 hf
      refine ⟨fun q => absurd q (by decide), fun _ => ?_⟩
      apply m_within
      · intro q1 q2
        exact absurd ⟨q1, q2⟩ n
      · intro _
        exact ⟨fun _ => m_fail endc, fun q => absurd rfl q⟩
  · intro n
    refine ⟨rfl, ?_⟩
    unfold TX7_setWeights BX7_setWeights_31
    apply m_not4 n
    exact ⟨fun _ => m_fail endc, fun q => absurd rfl q⟩
