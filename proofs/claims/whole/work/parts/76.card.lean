/-! ===== addCard ===== -/
def wC (a : gMem) (x : Int32) : gMem := gw (gw (gw (gw (gw a 31 0 (nc a) x) 33 0 (4 * nc a + 1) (-1)) 33 0 (4 * nc a + 2) (-1)) 33 0 (4 * nc a + 3) (-1)) 7 0 2 (nI (nc a + 1))
theorem wC_k {a : gMem} {x : Int32} (k : Nat) (h1 : k ≠ 31 := by decide) (h2 : k ≠ 33 := by decide) (h3 : k ≠ 7 := by decide) : wC a x k = a k := ((((gk k h3).trans (gk k h2)).trans (gk k h2)).trans (gk k h2)).trans (gk k h1)
theorem wC_7 {a : gMem} {x : Int32} (j : Nat) (h : j ≠ 2 := by decide) : wC a x 7 0 j = a 7 0 j := by
  unfold wC
  rw [gw_ne _ _ (by omega), gk 7, gk 7, gk 7, gk 7]
theorem wC_nu {a : gMem} {x : Int32} {c f : Nat} (h1 : 1 ≤ f) (h4 : f < 4) : nu (wC a x) c f = if c = nc a then -1 else nu a c f := by
  unfold nu wC
  rw [gk 33]
  by_cases q : c = nc a
  · rw [if_pos q, q]
    rcases (show f = 1 ∨ f = 2 ∨ f = 3 by omega) with r | r | r
    · rw [r, gw_ne _ _ (by omega), gw_ne _ _ (by omega), gw_same]
    · rw [r, gw_ne _ _ (by omega), gw_same]
    · rw [r, gw_same]
  · rw [if_neg q, gw_ne _ _ (by omega), gw_ne _ _ (by omega), gw_ne _ _ (by omega), gk 33]
theorem W_crd {a : gMem} {s : Nat} (hs : s < ns a) (h16 : nc a < 16) (hW : WF a) : WF (wC a (nI s)) := by
  have h4 := hW.1.2.1
  have s' : ns (wC a (nI s)) = ns a := ns_c (wC_7 1)
  have m : nm (wC a (nI s)) = nm a := nm_c (wC_7 3)
  have p : np (wC a (nI s)) = np a := np_c (wC_7 4)
  have y : ty (wC a (nI s)) = ty a := ty_c (wC_7 6)
  have e2 : wC a (nI s) 7 0 2 = nI (nc a + 1) := gw_same _ _ _ _ _
  have n : nc (wC a (nI s)) = nc a + 1 := by
    unfold nc na
    rw [e2]; exact clI (by have := h16; unfold nc na at this; omega)
  have ee : ed (wC a (nI s)) = ed a := ed_c (wC_7 3) (wC_k 36) (wC_k 37) (wC_k 43)
  have e31 : ∀ i, wC a (nI s) 31 0 i = if i = nc a then nI s else a 31 0 i := fun i => by
    unfold wC
    rw [gk 31, gk 31, gk 31, gk 31]
    by_cases q : i = nc a
    · rw [if_pos q, q, gw_same]
    · rw [if_neg q, gw_ne _ _ (by omega)]
  refine ⟨by rw [n, m, s', y, p, e2, wC_7 1, wC_7 3, wC_7 4, wC_7 6]; exact ⟨hW.1.1, hW.1.2.1, rfl, by omega, hW.1.2.2.2.2⟩, W2c s' (wC_k 30) hW, ?_, W4c (wC_k 32) hW, W5c (ln_c (wC_k 32) (wC_7 6)) (wC_k 42) hW, ?_, W7c (wC_k 34) hW, ?_, W9c m (wC_k 36) (wC_k 37) (wC_k 43) hW, ?_, ?_, W12c p (wC_k 44) hW⟩
  · intro c hc
    unfold na
    rw [e31, s']
    by_cases q : c = nc a
    · rw [if_pos q, clI (by omega)]; exact ⟨rfl, hs⟩
    · rw [if_neg q]
      exact hW.2.2.1 c (by omega)
  · intro c hc f h1 hf
    rw [wC_nu h1 hf]
    split
    · exact Or.inl rfl
    · exact hW.2.2.2.2.2.1 c (by omega) f h1 hf
  · intro k hk
    rw [m] at hk
    have old := hW.2.2.2.2.2.2.2.1 k hk
    rw [n, m1_c (wC_k 36), m2_c (wC_k 37), sd_c (wC_k 43), wC_k 36, wC_k 37, wC_k 43]
    exact ⟨old.1, by omega, old.2.2.1, by omega, old.2.2.2.2⟩
  · intro c d hc hd
    have old := hW.2.2.2.2.2.2.2.2.2.1 c d hc hd
    rw [n, ee, fb_c (wC_k 44), wC_k 44]
    exact ⟨old.1, old.2.1, fun q => ⟨by have := (old.2.2 q).1; omega, by have := (old.2.2 q).2.1; omega, (old.2.2 q).2.2⟩⟩
  · intro g c hg hc
    have old := hW.2.2.2.2.2.2.2.2.2.2.1 g c hg hc
    rw [n, gr_c (wC_k 45), wC_k 45]
    exact ⟨old.1, fun q => by have := old.2 q; omega⟩
theorem R_crd {v a : gMem} {x : Int32} (h16 : nc a < 16) (hR : RC v a) : RC (gw (gw v 2 (nc a) 0 x) 6 0 3 (nI (nc a + 1))) (wC a x) := by
  have e2 : wC a x 7 0 2 = nI (nc a + 1) := gw_same _ _ _ _ _
  have n : nc (wC a x) = nc a + 1 := by
    unfold nc na
    rw [e2]; exact clI (by have := h16; unfold nc na at this; omega)
  have F : ∀ k, k ≠ 2 → k ≠ 6 → gw (gw v 2 (nc a) 0 x) 6 0 3 (nI (nc a + 1)) k = v k := fun k p q => (gk k q).trans (gk k p)
  have F6 : ∀ j, j ≠ 3 → gw (gw v 2 (nc a) 0 x) 6 0 3 (nI (nc a + 1)) 6 0 j = v 6 0 j := fun j h => by rw [gw_ne _ _ (by omega), gk 6]
  have F3 : gw (gw v 2 (nc a) 0 x) 6 0 3 (nI (nc a + 1)) 6 0 3 = wC a x 7 0 2 := by rw [gw_same, e2]
  have F2 : ∀ c, c < 16 → gw (gw v 2 (nc a) 0 x) 6 0 3 (nI (nc a + 1)) 2 c 0 = wC a x 31 0 c := fun c hc => by
    unfold wC
    rw [gk 2, gk 31, gk 31, gk 31, gk 31]
    by_cases q : c = nc a
    · rw [q, gw_same, gw_same]
    · rw [gw_ne _ _ (by omega), gw_ne _ _ (by omega)]
      exact (hR.2.2.1 c hc).1
  generalize gw (gw v 2 (nc a) 0 x) 6 0 3 (nI (nc a + 1)) = w at F F6 F3 F2
  have w4 : w 4 = v 4 := F 4 (by decide) (by decide)
  refine ⟨by rw [F3, wC_7 1, wC_7 3, wC_7 4, wC_7 5, wC_7 6, F6 1 (by decide), F6 6 (by decide), F6 8 (by decide), F 3 (by decide) (by decide), w4]; exact ⟨hR.1.1, rfl, hR.1.2.2⟩, R2c (F 10 (by decide) (by decide)) (F 12 (by decide) (by decide)) (F 13 (by decide) (by decide)) (wC_k 30) (wC_k 34) (wC_k 35) hR, ?_, ?_, R5c (F 21 (by decide) (by decide)) (wC_k 42) hR, R6c w4 (F 22 (by decide) (by decide)) (ln_c (wC_k 32) (wC_7 6)) (wC_k 42) hR, R7c (F 17 (by decide) (by decide)) (F 18 (by decide) (by decide)) (F 19 (by decide) (by decide)) (wC_k 36) (wC_k 37) (wC_k 43) hR, R8c (F 16 (by decide) (by decide)) (ed_c (wC_7 3) (wC_k 36) (wC_k 37) (wC_k 43)) (wC_k 44) hR, R9c (F 14 (by decide) (by decide)) (wC_k 45) hR⟩
  · intro c hc
    rw [w4, wC_k 32]
    exact ⟨F2 c hc, (hR.2.2.1 c hc).2⟩
  · intro c hc f h1 hf
    rw [F 23 (by decide) (by decide), hR.2.2.2.1 c hc f h1 hf, n, wC_nu h1 hf]
    by_cases q : c = nc a
    · rw [if_neg (by omega), if_pos (by omega), if_pos q]
    · by_cases r : c < nc a
      · rw [if_pos r, if_pos (by omega), if_neg q]
      · rw [if_neg r, if_neg (by omega)]
theorem t2 : ∀ s1 s2 s3 v, Inv v → TC_2 s1 s2 s3 v Inv := by
  rintro s1 s2 s3 v ⟨a, hR, hM, hW⟩
  have h4 := hW.1.2.1
  have h16 := hW.1.2.2.2.1
  unfold TC_2 TL_addCard TX6_addCard
  apply r_source hR hW
  · intro s hs e
    rw [e, c_nc hR hW]
    have ins : ∀ {w : gMem} {Q : Int32 → gMem → Prop} {X : String → gMem → Prop}, Q 1 w → TX7_isWithin (nI s) 0 (nI (ns a) - 1) w Q X := fun h =>
      m_within (fun _ _ => h) fun n => absurd (in_le hs (by omega)) n
    refine ⟨fun q => ?_, fun q => Or.inr ⟨rfl, ?_⟩⟩
    · have hlt : nc a < 16 := (ltI (b := 16) (by omega) (by decide)).mp q
      refine ⟨in_nI hlt, ?_⟩
      rw [clI (by omega), gw_same, gk 6, c_nc hR hW, nI_1, nI_pred]
      have hR2 := R_crd (x := nI s) hlt hR
      have hW2 := W_crd hs hlt hW
      generalize hw0 : gw (gw v 2 (nc a) 0 (nI s)) 6 0 3 (nI (nc a + 1)) = w0 at hR2 ⊢
      have t0 : fT v w0 := by rw [← hw0]; exact fT_w (fT_w (fT_rf v))
      have hM2 : RM (gw w0 50 0 0 (nI (nc a))) a := RM_T hM (fT_w t0)
      unfold TX7_addCard
      show TX7_isWithin _ _ _ _ _ _
      rw [m_ns hM2 hW]
      apply ins
      have ei : ∀ x, gw (gw w0 50 0 0 (nI (nc a))) 7 0 0 x 7 0 2 = nI (nc a) := fun x => m_nc (RM_0 hM2) hW
      rw [m_nc hM2 hW, ei]
      refine ⟨fun _ => ⟨fun _ => ?_, fun s => absurd ((eqI (b := 16) (by omega) (by decide)).mp s) (by omega)⟩, fun q => absurd q (by decide)⟩
      refine ⟨in_nI hlt, ?_⟩
      rw [clI (by omega)]
      have e1 : (1 : Int32) = nI 1 := rfl
      have step : ∀ (I : Int32 → gMem → Prop) (k : Nat) (w : gMem), k < 4 → 1 ≤ k → w 7 0 2 = nI (nc a) → I (nI (k + 1)) (gw w 33 0 (4 * nc a + k) (-1)) → BX7_addCard_52 I (nI k) w (fun r380 v380 => (TX7_thrown v380 (fun r386 v386 => ((r386 = 0 → ((¬ (0 : Int32) = 0 → (Inv v386)) ∧ ((0 : Int32) = 0 → (((lg_cmp (Int32.toInt64 (v386 50 0 0)) (Int32.toInt64 r380)) = 0 → (Inv v386)) ∧ (¬ (lg_cmp (Int32.toInt64 (v386 50 0 0)) (Int32.toInt64 r380)) = 0 → False))))) ∧ (¬ r386 = 0 → False))) (fun _ _ => False))) (fun _ _ => False) := by
        intro I k w hk _ hw h
        unfold BX7_addCard_52
        rw [hw, x4, clI (by omega), nI_1 k]
        exact ⟨fun q => absurd ((leI (a := 4) (by decide) (by omega)).mp q) (by omega), fun _ => ⟨in_nI (by omega), h⟩⟩
      unfold LX7_addCard_52
      intro I hI
      have i0 : ∀ x y : Int32, gw (gw (gw w0 50 0 0 (nI (nc a))) 7 0 0 x) 31 0 (nc a) y 7 0 2 = nI (nc a) := fun x y => by
        rw [gk 7]; exact ei x
      apply hI
      apply step I 1 _ (by omega) (by omega) (i0 _ _)
      apply hI
      apply step I 2 _ (by omega) (by omega) (by rw [gk 7]; exact i0 _ _)
      apply hI
      apply step I 3 _ (by omega) (by omega) (by rw [gk 7, gk 7]; exact i0 _ _)
      apply hI
      unfold BX7_addCard_52
      refine ⟨fun _ => ?_, fun q => absurd (by decide) q⟩
      rw [gk 7, gk 7, gk 7, i0, nI_1]
      apply end_mut (RC_50 hR2) (fR_w (fR_w (fR_w (fR_w (fR_w (fR_w (fR_rf _))))))) (RM_w (RM_w (RM_w (RM_w (RM_w (RM_0 hM2)))))) hW2
      · rw [gw_ne _ _ (by omega), gk 7, gk 7, gk 7, gk 7, gw_same]
      · exact gw_same _ _ _ _ _
    · have hge : nc a = 16 := by
        have : ¬ nc a < 16 := fun u => q ((ltI (b := 16) (by omega) (by decide)).mpr u)
        omega
      unfold TX7_addCard
      show TX7_isWithin _ _ _ _ _ _
      rw [m_ns hM hW]
      apply ins
      rw [m_nc hM hW, hge]
      refine ⟨fun _ => ⟨fun s => absurd rfl s, fun _ => m_fail ?_⟩, fun q => absurd q (by decide)⟩
      exact end_case (T0_0 _ _) (fun q => absurd q (by decide)) (Inv_I hR hM hW (fM_I (T0_M _ _)))
  · intro _ n
    refine Or.inl ⟨rfl, ?_⟩
    unfold TX7_addCard
    show TX7_isWithin _ _ _ _ _ _
    rw [m_ns hM hW]
    apply m_within
    · intro q1 q2
      exact absurd ⟨q1, q2⟩ n
    · intro _
      refine ⟨fun q => absurd rfl q, fun _ => m_fail ?_⟩
      exact end_case (T0_0 _ _) (fun q => absurd q (by decide)) (Inv_I hR hM hW (fM_I (T0_M _ _)))
