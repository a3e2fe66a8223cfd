/-! ===== setNumber ===== -/
theorem num_or {x : Int32} (h1 : -1 ≤ x) (h9 : x ≤ 999) : x = -1 ∨ ∃ r, x = nI r ∧ r ≤ 999 := by
  rcases in_or x (n := 1000) (by omega) with ⟨c, hc, e⟩ | ⟨_, h2, _⟩
  · exact Or.inr ⟨c, e, by omega⟩
  · rcases h2 with h2 | h2
    · left
      apply Int32.toInt_inj.mp
      rw [Int32.le_iff_toInt_le] at h1
      rw [Int32.lt_iff_toInt_lt] at h2
      have e0 : (0 : Int32).toInt = 0 := by decide
      have e1 : (-1 : Int32).toInt = -1 := by decide
      omega
    · exact absurd (Int32.le_trans h2 h9) (by decide)
theorem nu_gw {a : gMem} {c f : Nat} {x : Int32} (hf : f < 4) {d g : Nat} (hg : g < 4) : nu (gw a 33 0 (4 * c + f) x) d g = if d = c ∧ g = f then x else nu a d g := by
  unfold nu
  by_cases q : d = c ∧ g = f
  · rw [if_pos q, q.1, q.2, gw_same]
  · rw [if_neg q, gw_ne _ _ (by omega)]
theorem W_33 {a : gMem} {c f : Nat} {x : Int32} (hf : f < 4) (h1 : -1 ≤ x) (h9 : x ≤ 999) (hW : WF a) : WF (gw a 33 0 (4 * c + f) x) := by
  have e7 : gw a 33 0 (4 * c + f) x 7 = a 7 := gk 7
  have n : nc (gw a 33 0 (4 * c + f) x) = nc a := nc_c (by rw [e7])
  have m : nm (gw a 33 0 (4 * c + f) x) = nm a := nm_c (by rw [e7])
  have s : ns (gw a 33 0 (4 * c + f) x) = ns a := ns_c (by rw [e7])
  refine ⟨W1c e7 hW, W2c s (gk 30) hW, W3c s n (gk 31) hW, W4c (gk 32) hW, W5c (ln_c (gk 32) (by rw [e7])) (gk 42) hW, ?_, W7c (gk 34) hW, W8c n m (gk 36) (gk 37) (gk 43) hW, W9c m (gk 36) (gk 37) (gk 43) hW, W10c n (ed_c (by rw [e7]) (gk 36) (gk 37) (gk 43)) (gk 44) hW, W11c n (gk 45) hW, W12c (np_c (by rw [e7])) (gk 44) hW⟩
  rw [n]
  intro d hd g g1 g4
  rw [nu_gw hf g4]
  split
  · exact num_or h1 h9
  · exact hW.2.2.2.2.2.1 d hd g g1 g4
theorem R_33 {v a : gMem} {c f : Nat} {x : Int32} (hc : c < nc a) (hf : f < 4) (hR : RC v a) : RC (gw v 23 c f x) (gw a 33 0 (4 * c + f) x) := by
  have e7 : gw a 33 0 (4 * c + f) x 7 = a 7 := gk 7
  have n : nc (gw a 33 0 (4 * c + f) x) = nc a := nc_c (by rw [e7])
  refine ⟨by rw [e7, gk 6, gk 3, gk 4]; exact hR.1, R2c (gk 10) (gk 12) (gk 13) (gk 30) (gk 34) (gk 35) hR, R3c (gk 2) (gk 4) (gk 31) (gk 32) hR, ?_, R5c (gk 21) (gk 42) hR, R6c (gk 4) (gk 22) (ln_c (gk 32) (by rw [e7])) (gk 42) hR, R7c (gk 17) (gk 18) (gk 19) (gk 36) (gk 37) (gk 43) hR, R8c (gk 16) (ed_c (by rw [e7]) (gk 36) (gk 37) (gk 43)) (gk 44) hR, R9c (gk 14) (gk 45) hR⟩
  intro d hd g g1 g4
  rw [n, nu_gw hf g4]
  by_cases q : d = c ∧ g = f
  · rw [q.1, q.2, gw_same, if_pos hc, if_pos ⟨rfl, rfl⟩]
  · rw [gw_ne _ _ (by omega), if_neg q]
    exact hR.2.2.2.1 d hd g g1 g4
theorem t6 : ∀ s1 s2 s3 v, Inv v → TC_6 s1 s2 s3 v Inv := by
  rintro s1 s2 s3 v ⟨a, hR, hM, hW⟩
  have h16 := hW.1.2.2.2.1
  unfold TC_6 TL_setNumber TX6_setNumber BX6_setNumber_22
  have end2 : ∀ {y : Int32}, TX7_thrown (T0 (T0 v 0) 2) (fun t z => ((t = 2 → ((¬ (2 : Int32) = 0 → (Inv z)) ∧ ((2 : Int32) = 0 → (((lg_cmp (Int32.toInt64 (z 50 0 0)) (Int32.toInt64 y)) = 0 → (Inv z)) ∧ (¬ (lg_cmp (Int32.toInt64 (z 50 0 0)) (Int32.toInt64 y)) = 0 → False))))) ∧ (¬ t = 2 → False))) (fun _ _ => False) :=
    end_case (T0_0 _ _) (fun q => absurd q (by decide)) (Inv_I hR hM hW (fM_I (fM_tr (T0_M v 0) (T0_M _ _))))
  apply r_card hR hW
  · intro c hc e
    rw [e]
    apply r_numfield
    · intro f f1 f4 e2
      rw [e2, clI (by omega), clI (by omega)]
      have bad : ¬ (-1 ≤ s3 ∧ s3 ≤ 999) → TX7_setNumber (nI c) (nI f) s3 v (fun r599 v599 => (TX7_thrown v599 (fun r605 v605 => ((r605 = 2 → ((¬ (2 : Int32) = 0 → (Inv v605)) ∧ ((2 : Int32) = 0 → (((lg_cmp (Int32.toInt64 (v605 50 0 0)) (Int32.toInt64 r599)) = 0 → (Inv v605)) ∧ (¬ (lg_cmp (Int32.toInt64 (v605 50 0 0)) (Int32.toInt64 r599)) = 0 → False))))) ∧ (¬ r605 = 2 → False))) (fun _ _ => False))) (fun _ _ => False) := by
        intro n
        unfold TX7_setNumber BX7_setNumber_30
        apply m_one hM hW hc
        refine ⟨fun _ => ?_, fun q => absurd rfl q⟩
        apply m_in13 f1 f4
        refine ⟨fun q => absurd q (by decide), fun _ => ?_⟩
        apply m_within
        · intro q1 q2
          exact absurd ⟨q1, q2⟩ n
        · intro _
          exact ⟨fun q => absurd rfl q, fun _ => m_fail end2⟩
      refine ⟨fun q => Or.inr ⟨rfl, bad fun r => ltn q r.1⟩, fun p => ⟨fun q => ?_, fun q => Or.inr ⟨rfl, bad fun r => q r.2⟩⟩⟩
      refine ⟨in_nI (by omega), in_nI (by omega), in_nI (by omega), in_nI (by omega), ?_⟩
      have t : fT v (gw (gw v 23 c f s3) 50 0 0 (v 23 c f)) := fT_w (fT_w (fT_rf v))
      have hM2 := RM_T hM t
      unfold TX7_setNumber
      apply m_one hM2 hW hc
      refine ⟨fun _ => ?_, fun q => absurd rfl q⟩
      apply m_in13 f1 f4
      refine ⟨fun q => absurd q (by decide), fun _ => ?_⟩
      apply m_within
      · intro _ _
        refine ⟨fun _ => ?_, fun q => absurd q (by decide)⟩
        rw [x4, clI (by omega)]
        refine ⟨in_nI (by omega), in_nI (by omega), ?_⟩
        apply end_mut (RC_50 (R_33 (x := s3) hc f4 hR)) (fR_w (fR_M (fR_rf _) (T0_M _ _))) (RM_w (RM_M hM2 (T0_M _ 0))) (W_33 f4 (nlt p) q hW)
        · rw [gk 7]; exact T0_0 _ _
        · rw [gw_same, m_nu (RM_M hM2 (T0_M _ 0))]
          exact c_nu hR hW hc f1 f4
      · intro n
        exact absurd ⟨nlt p, q⟩ n
    · intro n
      refine Or.inr ⟨rfl, ?_⟩
      unfold TX7_setNumber BX7_setNumber_30
      apply m_one hM hW hc
      refine ⟨fun _ => ?_, fun q => absurd rfl q⟩
      apply m_not13 n
      exact ⟨fun _ => m_fail end2, fun q => absurd rfl q⟩
  · intro n
    refine Or.inl ⟨rfl, ?_⟩
    unfold TX7_setNumber
    apply m_oneNo hM hW n
    exact ⟨fun q => absurd q (by decide), fun _ => end_case (T0_0 _ _) (fun q => absurd q (by decide)) (Inv_I hR hM hW (fM_I (T0_M _ _)))⟩
