/-! ===== addSource ===== -/
def wS (a : gMem) (r : Int32) : gMem := gw (gw a 30 0 (ns a) r) 7 0 1 (nI (ns a + 1))
theorem wS_k {a : gMem} {r : Int32} (k : Nat) (h1 : k ≠ 30 := by decide) (h2 : k ≠ 7 := by decide) : wS a r k = a k := (gk k h2).trans (gk k h1)
theorem wS_7 {a : gMem} {r : Int32} (j : Nat) (h : j ≠ 1 := by decide) : wS a r 7 0 j = a 7 0 j := by
  unfold wS
  rw [gw_ne _ _ (by omega), gk 7]
theorem W_src {a : gMem} {r : Nat} (h1 : 1 ≤ r) (h9 : r ≤ 9) (h4 : ns a < 4) (hW : WF a) : WF (wS a (nI r)) := by
  have n : nc (wS a (nI r)) = nc a := nc_c (wS_7 2)
  have m : nm (wS a (nI r)) = nm a := nm_c (wS_7 3)
  have p : np (wS a (nI r)) = np a := np_c (wS_7 4)
  have y : ty (wS a (nI r)) = ty a := ty_c (wS_7 6)
  have e1 : wS a (nI r) 7 0 1 = nI (ns a + 1) := gw_same _ _ _ _ _
  have s : ns (wS a (nI r)) = ns a + 1 := by
    unfold ns na
    rw [e1]; exact clI (by have := h4; unfold ns na at this; omega)
  have e30 : ∀ i, wS a (nI r) 30 0 i = if i = ns a then nI r else a 30 0 i := fun i => by
    unfold wS
    rw [gk 30]
    by_cases q : i = ns a
    · rw [if_pos q, q, gw_same]
    · rw [if_neg q, gw_ne _ _ (by omega)]
  refine ⟨by rw [n, m, s, y, p, e1, wS_7 2, wS_7 3, wS_7 4, wS_7 6]; exact ⟨rfl, by omega, hW.1.2.2⟩, ?_, ?_, W4c (wS_k 32) hW, W5c (ln_c (wS_k 32) (wS_7 6)) (wS_k 42) hW, W6c n (wS_k 33) hW, W7c (wS_k 34) hW, W8c n m (wS_k 36) (wS_k 37) (wS_k 43) hW, W9c m (wS_k 36) (wS_k 37) (wS_k 43) hW, W10c n (ed_c (wS_7 3) (wS_k 36) (wS_k 37) (wS_k 43)) (wS_k 44) hW, W11c n (wS_k 45) hW, W12c p (wS_k 44) hW⟩
  · intro i hi
    rw [e30]
    split
    · exact ⟨r, rfl, h1, h9⟩
    · exact hW.2.1 i (by omega)
  · intro c hc
    unfold na
    rw [s, wS_k 31]
    have := hW.2.2.1 c (by omega)
    unfold na at this
    exact ⟨this.1, by omega⟩
theorem R_src {v a : gMem} {r : Int32} (hR : RC v a) : RC (gw (gw v 10 0 (ns a) r) 6 0 1 (nI (ns a + 1))) (wS a r) := by
  have n : nc (wS a r) = nc a := nc_c (wS_7 2)
  have F : ∀ k, k ≠ 10 → k ≠ 6 → gw (gw v 10 0 (ns a) r) 6 0 1 (nI (ns a + 1)) k = v k := fun k p q => (gk k q).trans (gk k p)
  have F6 : ∀ j, j ≠ 1 → gw (gw v 10 0 (ns a) r) 6 0 1 (nI (ns a + 1)) 6 0 j = v 6 0 j := fun j h => by rw [gw_ne _ _ (by omega), gk 6]
  have F1 : gw (gw v 10 0 (ns a) r) 6 0 1 (nI (ns a + 1)) 6 0 1 = wS a r 7 0 1 := by
    unfold wS
    rw [gw_same, gw_same]
  have F10 : ∀ i, i < 4 → gw (gw v 10 0 (ns a) r) 6 0 1 (nI (ns a + 1)) 10 0 i = wS a r 30 0 i := fun i hi => by
    unfold wS
    rw [gk 10, gk 30]
    by_cases q : i = ns a
    · rw [q, gw_same, gw_same]
    · rw [gw_ne _ _ (by omega), gw_ne _ _ (by omega)]
      exact (hR.2.1 i hi).1
  generalize gw (gw v 10 0 (ns a) r) 6 0 1 (nI (ns a + 1)) = w at F F6 F1 F10
  have w4 : w 4 = v 4 := F 4 (by decide) (by decide)
  refine ⟨by rw [F1, wS_7 2, wS_7 3, wS_7 4, wS_7 5, wS_7 6, F6 3 (by decide), F6 6 (by decide), F6 8 (by decide), F 3 (by decide) (by decide), w4]; exact ⟨rfl, hR.1.2⟩, ?_, R3c (F 2 (by decide) (by decide)) w4 (wS_k 31) (wS_k 32) hR, R4c (F 23 (by decide) (by decide)) n (wS_k 33) hR, R5c (F 21 (by decide) (by decide)) (wS_k 42) hR, R6c w4 (F 22 (by decide) (by decide)) (ln_c (wS_k 32) (wS_7 6)) (wS_k 42) hR, R7c (F 17 (by decide) (by decide)) (F 18 (by decide) (by decide)) (F 19 (by decide) (by decide)) (wS_k 36) (wS_k 37) (wS_k 43) hR, R8c (F 16 (by decide) (by decide)) (ed_c (wS_7 3) (wS_k 36) (wS_k 37) (wS_k 43)) (wS_k 44) hR, R9c (F 14 (by decide) (by decide)) (wS_k 45) hR⟩
  intro i hi
  rw [F 12 (by decide) (by decide), F 13 (by decide) (by decide), wS_k 34, wS_k 35]
  exact ⟨F10 i hi, (hR.2.1 i hi).2⟩
theorem t0 : ∀ s1 s2 s3 v, Inv v → TC_0 s1 s2 s3 v Inv := by
  rintro s1 s2 s3 v ⟨a, hR, hM, hW⟩
  have h4 := hW.1.2.1
  unfold TC_0 TL_addSource TX6_addSource
  apply r_rank
  · intro r h1 h9 e
    rw [e, c_ns hR hW]
    have inr : ∀ {w : gMem} {Q : Int32 → gMem → Prop} {X : String → gMem → Prop}, Q 1 w → TX7_isWithin (nI r) 1 9 w Q X := fun h =>
      m_within (fun _ _ => h) fun n => absurd ⟨(leI (a := 1) (by omega) (by omega)).mpr h1, (leI (b := 9) (by omega) (by omega)).mpr h9⟩ n
    refine ⟨fun q => ?_, fun q => Or.inr ⟨rfl, ?_⟩⟩
    · have hlt : ns a < 4 := (ltI (b := 4) (by omega) (by decide)).mp q
      refine ⟨in_nI hlt, ?_⟩
      rw [clI (by omega), gw_same, gk 6, c_ns hR hW, nI_1, nI_pred]
      have hR2 := R_src (r := nI r) hR
      have hW2 := W_src h1 h9 hlt hW
      generalize hw0 : gw (gw v 10 0 (ns a) (nI r)) 6 0 1 (nI (ns a + 1)) = w0 at hR2 ⊢
      have t0 : fT v w0 := by rw [← hw0]; exact fT_w (fT_w (fT_rf v))
      have hM2 : RM (gw w0 50 0 0 (nI (ns a))) a := RM_T hM (fT_w t0)
      unfold TX7_addSource
      apply inr
      have ei : ∀ x, gw (gw w0 50 0 0 (nI (ns a))) 7 0 0 x 7 0 1 = nI (ns a) := fun x => m_ns (RM_0 hM2) hW
      have ej : ∀ i y, gw (gw (gw w0 50 0 0 (nI (ns a))) 7 0 0 0) 30 0 i y 7 0 1 = nI (ns a) := fun i y => by
        rw [gk 7]; exact ei 0
      rw [m_ns hM2 hW, ei, ej]
      refine ⟨fun _ => ⟨fun _ => ?_, fun s => absurd ((eqI (b := 4) (by omega) (by decide)).mp s) (by omega)⟩, fun q => absurd q (by decide)⟩
      refine ⟨in_nI hlt, ?_⟩
      rw [clI (by omega), nI_1]
      apply end_mut (RC_50 hR2) (fR_w (fR_w (fR_w (fR_rf _)))) (RM_w (RM_w (RM_0 hM2))) hW2
      · rw [gw_ne _ _ (by omega), gk 7, gw_same]
      · exact gw_same _ _ _ _ _
    · have hge : ns a = 4 := by
        have : ¬ ns a < 4 := fun u => q ((ltI (b := 4) (by omega) (by decide)).mpr u)
        omega
      unfold TX7_addSource
      apply inr
      rw [m_ns hM hW, hge]
      refine ⟨fun _ => ⟨fun s => absurd rfl s, fun _ => m_fail ?_⟩, fun q => absurd q (by decide)⟩
      exact end_case (T0_0 _ _) (fun q => absurd q (by decide)) (Inv_I hR hM hW (fM_I (T0_M _ _)))
  · intro n
    refine Or.inl ⟨rfl, ?_⟩
    unfold TX7_addSource
    apply m_within
    · intro q1 q2
      exact absurd ⟨q1, q2⟩ n
    · intro _
      refine ⟨fun q => absurd rfl q, fun _ => m_fail ?_⟩
      exact end_case (T0_0 _ _) (fun q => absurd q (by decide)) (Inv_I hR hM hW (fM_I (T0_M _ _)))
