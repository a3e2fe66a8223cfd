/-! ===== Bars and the best pair: the cases ===== -/
theorem m_noBar {a v : gMem} {Q : Int32 → gMem → Prop} {X : String → gMem → Prop} (hM : RM v a) (hW : WF a) {c d : Nat} (hc : c < nc a) (hd : d < nc a) (h1 : bd a c d = true → ∀ u, fM v u → u 7 0 0 = 0 → u 7 0 7 = nI (b1 a c d) → u 7 0 8 = nI (b2 a c d) → Q 0 u) (h0 : bd a c d = false → ∀ u, fM v u → u 7 0 0 = 2 → Q 1 u) : TX7_noBar (nI c) (nI d) v Q X := by
  have h16 := hW.1.2.2.2.1
  unfold TX7_noBar
  apply m_two hM hW hc hd
  intro u hu u7
  refine ⟨fun _ => ?_, fun q => absurd rfl q⟩
  have hMu := RM_M hM hu
  apply m_gather hMu hW
  intro w hw hG
  have hMw := RM_M hMu (fL_M hw)
  have f2 := fM_tr hu (fL_M hw)
  have no : bd a c d = false → BX7_noBar_54 w Q X := by
    intro e
    unfold BX7_noBar_54 BX7_noBar_55 BX7_noBar_70
    rw [gw_same]
    exact ⟨fun q => absurd q (by decide), fun _ => ⟨rfl, h0 e _ (fM_tr f2 (T0_M w 2)) (T0_0 _ _)⟩⟩
  rw [clI (by omega), clI (by omega)]
  refine ⟨in_nI (by omega), in_nI (by omega), fun q => ?_, fun q => ⟨in_nI (by omega), in_nI (by omega), ?_⟩⟩
  · exact no (bd_one hW (by omega) (by omega) ((GA_ne hW hG hc hd).mp q))
  · rw [hG c hc, hG d hd]
    apply m_isBarred hMw hW hG hc hd
    · intro e
      exact ⟨fun _ => no e, fun s => absurd rfl s⟩
    · intro e _ _
      refine ⟨fun s => absurd s (by decide), fun _ => ?_⟩
      unfold BX7_noBar_55 BX7_noBar_70
      rw [gw_same]
      refine ⟨fun _ => ⟨rfl, ?_⟩, fun s => absurd rfl s⟩
      apply h1 e
      · exact fM_tr f2 (fM_tr (fM_tr (fM_gw _ _ _ _ (by omega)) (fM_gw _ _ _ _ (by omega))) (fM_gw _ _ _ _ (by omega)))
      · exact gw_same _ _ _ _ _
      · rw [gw_ne _ _ (by omega), gw_ne _ _ (by omega), gw_same]
      · rw [gw_ne _ _ (by omega), gw_same]
theorem m_noBarNo {a v : gMem} {Q : Int32 → gMem → Prop} {X : String → gMem → Prop} (hM : RM v a) (hW : WF a) {x y : Int32} (hn : ¬ (∃ c d, c < nc a ∧ d < nc a ∧ x = nI c ∧ y = nI d)) (h : ∀ u, fM v u → u 7 0 0 = 1 → Q 1 u) : TX7_noBar x y v Q X := by
  unfold TX7_noBar
  apply m_twoNo hM hW hn
  intro u hu u7
  exact ⟨fun q => absurd q (by decide), fun _ => h u hu u7⟩
theorem bd_f {a : gMem} {c d : Nat} (h : bd a c d = true) : b1 a c d < 16 ∧ br a c d (b1 a c d) = true := by
  unfold bd at h
  rw [an_t] at h
  obtain ⟨x, hx, h⟩ := h
  have := fi_at hx h
  have lt : b1 a c d < 16 := by unfold b1; omega
  exact ⟨lt, fa_first_yes _ _ lt⟩
theorem b2_lt {a : gMem} (hW : WF a) {c d : Nat} (h : bd a c d = true) : b2 a c d < 16 := by
  obtain ⟨h1, h2⟩ := bd_f h
  unfold br at h2
  rw [Bool.and_eq_true, nx_t] at h2
  obtain ⟨_, y, hy, q1, q2⟩ := h2
  have := fi_at (p := fun y => fb a (b1 a c d) y && cn (ed a) d y) hy (by rw [fb_sy hW h1 hy, q2, q1]; rfl)
  unfold b2
  omega
theorem low_b1 {a : gMem} {c d : Nat} (h : bd a c d = true) : st (br a c d) &&& -(st (br a c d)) = st (fun x => x == b1 a c d) := by
  rw [st_low]
  apply st_cong
  intro x hx
  obtain ⟨h1, h2⟩ := bd_f h
  by_cases q : x = b1 a c d
  · rw [q, h2, decide_eq_false (by
      rintro ⟨j, hj, hj2⟩
      have := fa_first_no (br a c d) 16 j hj
      rw [hj2] at this; cases this)]
    simp
  · have e : (x == b1 a c d) = false := by simp [q]
    rw [e]
    apply bf
    intro r
    rw [Bool.and_eq_true, Bool.not_eq_true', decide_eq_false_iff_not] at r
    have := fi_at hx r.1
    exact r.2 ⟨b1 a c d, by unfold b1 at q ⊢; omega, h2⟩
theorem nx_one {a : gMem} {z y : Nat} (hz : z < 16) : nx (fb a) (fun x => x == z) y = fb a z y := by
  cases r : fb a z y
  · apply bf
    intro s
    rw [nx_t] at s
    obtain ⟨x, _, z1, z2⟩ := s
    have : x = z := by simpa using z1
    rw [this, r] at z2; cases z2
  · rw [nx_t]; exact ⟨z, hz, by simp, r⟩
theorem t22 : ∀ s1 s2 s3 v, Inv v → TC_22 s1 s2 s3 v Inv := by
  rintro s1 s2 s3 v ⟨a, hR, hM, hW⟩
  have h16 := hW.1.2.2.2.1
  unfold TC_22 TL_barOne TX6_barOne
  apply r_cards hR hW
  · intro c d hc hd e1 e2
    rw [e1, e2]
    apply r_bars hR hW hc hd
    unfold TX6_requireBars
    refine ⟨fun q => ?_, fun q => Or.inr ⟨rfl, ?_⟩⟩
    · have hb : bd a c d = true := bt' fun r => q ((br_0 a c d).mpr r)
      have hlt := (bd_f hb).1
      apply r_lowest
      rw [show fa_first (br a c d) 16 = b1 a c d from rfl, if_pos hlt]
      have f := fI_out v (k := 50) 0 0 (nI (b1 a c d)) (by decide)
      unfold TX7_barOne BX7_barOne_17
      apply m_noBar (RM_I hM f) hW hc hd
      · intro _ u hu u7 ua _
        refine ⟨fun _ => ?_, fun s => absurd rfl s⟩
        rw [ua]
        exact end_case u7 (fun _ => o50 hu) (Inv_I hR hM hW (fI_tr f (fM_I hu)))
      · intro e
        rw [hb] at e; cases e
    · have hb := (br_0 a c d).mp q
      unfold TX7_barOne BX7_barOne_17
      apply m_noBar hM hW hc hd
      · intro e
        rw [hb] at e; cases e
      · intro _ u hu u7
        exact ⟨fun s => absurd s (by decide), fun _ => end_case u7 (fun q => absurd q (by decide)) (Inv_I hR hM hW (fM_I hu))⟩
  · intro n
    refine Or.inl ⟨rfl, ?_⟩
    unfold TX7_barOne BX7_barOne_17
    apply m_noBarNo hM hW n
    intro u hu u7
    exact ⟨fun s => absurd s (by decide), fun _ => end_case u7 (fun q => absurd q (by decide)) (Inv_I hR hM hW (fM_I hu))⟩
theorem t23 : ∀ s1 s2 s3 v, Inv v → TC_23 s1 s2 s3 v Inv := by
  rintro s1 s2 s3 v ⟨a, hR, hM, hW⟩
  have h16 := hW.1.2.2.2.1
  unfold TC_23 TL_barOther TX6_barOther
  apply r_cards hR hW
  · intro c d hc hd e1 e2
    rw [e1, e2]
    apply r_bars hR hW hc hd
    unfold TX6_requireBars
    refine ⟨fun q => ?_, fun q => Or.inr ⟨rfl, ?_⟩⟩
    · have hb : bd a c d = true := bt' fun r => q ((br_0 a c d).mpr r)
      have hlt := (bd_f hb).1
      rw [low_b1 hb]
      apply r_poa (c_fb hR)
      apply r_joined (c_ed hR) (by omega)
      rw [st_and]
      have es : st (fun y => nx (fb a) (fun x => x == b1 a c d) y && cn (ed a) d y) = st (fun y => fb a (b1 a c d) y && cn (ed a) d y) := st_cong fun y hy => by
        show (nx (fb a) (fun x => x == b1 a c d) y && cn (ed a) d y) = (fb a (b1 a c d) y && cn (ed a) d y)
        rw [nx_one hlt]
      rw [es]
      apply r_lowest
      rw [show fa_first (fun y => fb a (b1 a c d) y && cn (ed a) d y) 16 = b2 a c d from rfl, if_pos (b2_lt hW hb)]
      have f := fI_out v (k := 50) 0 0 (nI (b2 a c d)) (by decide)
      unfold TX7_barOther BX7_barOther_17
      apply m_noBar (RM_I hM f) hW hc hd
      · intro _ u hu u7 _ ua
        refine ⟨fun _ => ?_, fun s => absurd rfl s⟩
        rw [ua]
        exact end_case u7 (fun _ => o50 hu) (Inv_I hR hM hW (fI_tr f (fM_I hu)))
      · intro e
        rw [hb] at e; cases e
    · have hb := (br_0 a c d).mp q
      unfold TX7_barOther BX7_barOther_17
      apply m_noBar hM hW hc hd
      · intro e
        rw [hb] at e; cases e
      · intro _ u hu u7
        exact ⟨fun s => absurd s (by decide), fun _ => end_case u7 (fun q => absurd q (by decide)) (Inv_I hR hM hW (fM_I hu))⟩
  · intro n
    refine Or.inl ⟨rfl, ?_⟩
    unfold TX7_barOther BX7_barOther_17
    apply m_noBarNo hM hW n
    intro u hu u7
    exact ⟨fun s => absurd s (by decide), fun _ => end_case u7 (fun q => absurd q (by decide)) (Inv_I hR hM hW (fM_I hu))⟩
theorem t15 : ∀ s1 s2 s3 v, Inv v → TC_15 s1 s2 s3 v Inv := by
  rintro s1 s2 s3 v ⟨a, hR, hM, hW⟩
  unfold TC_15 TL_bestScore TX6_bestScore
  apply r_byKeys hR hW
  intro w hw hB
  have f0 := fS_I hw
  apply r_requireBest hB
  · intro q
    rw [(hB.1 q).2.2.1]
    have f := fI_tr f0 (fI_out w (k := 50) 0 0 (sc a (allB a (nc a)).1 (allB a (nc a)).2) (by decide))
    unfold TX7_bestScore BX7_bestScore_23
    apply m_noBest (RM_I hM f) hW
    · intro u hu u7 ua ub i1 i2
      refine ⟨fun _ => ?_, fun s => absurd rfl s⟩
      rw [ua, ub]
      apply m_scoreOf (RM_M (RM_I hM f) hu) hW i1 i2
      intro x hx
      have f2 := fM_tr hu (fQ_M hx)
      exact end_case (by rw [hx.2 0 (by omega)]; exact u7) (fun _ => o50 f2) (Inv_I hR hM hW (fI_tr f (fM_I f2)))
    · intro _ _ _ n
      exact absurd q n
  · intro q
    refine ⟨rfl, ?_⟩
    unfold TX7_bestScore BX7_bestScore_23
    apply m_noBest (RM_I hM f0) hW
    · intro _ _ _ _ _ i1 _
      have := hW.1.2.2.2.1
      exact absurd (show (bs a).1 < 16 by omega) q
    · intro u hu u7 _
      exact ⟨fun s => absurd s (by decide), fun _ => end_case u7 (fun q => absurd q (by decide)) (Inv_I hR hM hW (fI_tr f0 (fM_I hu)))⟩
theorem t16 : ∀ s1 s2 s3 v, Inv v → TC_16 s1 s2 s3 v Inv := by
  rintro s1 s2 s3 v ⟨a, hR, hM, hW⟩
  unfold TC_16 TL_bestScoreByPairs TX6_bestScoreByPairs
  apply r_byPairs hR hW
  intro w hw hB
  have f0 := fS_I hw
  apply r_requireBest hB
  · intro q
    rw [(hB.1 q).2.2.1]
    have f := fI_tr f0 (fI_out w (k := 50) 0 0 (sc a (allB a (nc a)).1 (allB a (nc a)).2) (by decide))
    unfold TX7_bestScoreByPairs TX7_bestScore BX7_bestScore_23
    apply m_noBest (RM_I hM f) hW
    · intro u hu u7 ua ub i1 i2
      refine ⟨fun _ => ?_, fun s => absurd rfl s⟩
      rw [ua, ub]
      apply m_scoreOf (RM_M (RM_I hM f) hu) hW i1 i2
      intro x hx
      have f2 := fM_tr hu (fQ_M hx)
      exact end_case (by rw [hx.2 0 (by omega)]; exact u7) (fun _ => o50 f2) (Inv_I hR hM hW (fI_tr f (fM_I f2)))
    · intro _ _ _ n
      exact absurd q n
  · intro q
    refine ⟨rfl, ?_⟩
    unfold TX7_bestScoreByPairs TX7_bestScore BX7_bestScore_23
    apply m_noBest (RM_I hM f0) hW
    · intro _ _ _ _ _ i1 _
      have := hW.1.2.2.2.1
      exact absurd (show (bs a).1 < 16 by omega) q
    · intro u hu u7 _
      exact ⟨fun s => absurd s (by decide), fun _ => end_case u7 (fun q => absurd q (by decide)) (Inv_I hR hM hW (fI_tr f0 (fM_I hu)))⟩
theorem t17 : ∀ s1 s2 s3 v, Inv v → TC_17 s1 s2 s3 v Inv := by
  rintro s1 s2 s3 v ⟨a, hR, hM, hW⟩
  unfold TC_17 TL_bestOne TX6_bestOne
  apply r_byKeys hR hW
  intro w hw hB
  have f0 := fS_I hw
  apply r_requireBest hB
  · intro q
    rw [(hB.1 q).1]
    have f := fI_tr f0 (fI_out w (k := 50) 0 0 (nI (allB a (nc a)).1) (by decide))
    unfold TX7_bestOne BX7_bestOne_15
    apply m_noBest (RM_I hM f) hW
    · intro u hu u7 ua ub i1 i2
      refine ⟨fun _ => ?_, fun s => absurd rfl s⟩
      rw [ua]
      exact end_case u7 (fun _ => o50 hu) (Inv_I hR hM hW (fI_tr f (fM_I hu)))
    · intro _ _ _ n
      exact absurd q n
  · intro q
    refine ⟨rfl, ?_⟩
    unfold TX7_bestOne BX7_bestOne_15
    apply m_noBest (RM_I hM f0) hW
    · intro _ _ _ _ _ i1 _
      have := hW.1.2.2.2.1
      exact absurd (show (bs a).1 < 16 by omega) q
    · intro u hu u7 _
      exact ⟨fun s => absurd s (by decide), fun _ => end_case u7 (fun q => absurd q (by decide)) (Inv_I hR hM hW (fI_tr f0 (fM_I hu)))⟩
theorem t18 : ∀ s1 s2 s3 v, Inv v → TC_18 s1 s2 s3 v Inv := by
  rintro s1 s2 s3 v ⟨a, hR, hM, hW⟩
  unfold TC_18 TL_bestOther TX6_bestOther
  apply r_byKeys hR hW
  intro w hw hB
  have f0 := fS_I hw
  apply r_requireBest hB
  · intro q
    rw [(hB.1 q).2.1]
    have f := fI_tr f0 (fI_out w (k := 50) 0 0 (nI (allB a (nc a)).2) (by decide))
    unfold TX7_bestOther BX7_bestOther_15
    apply m_noBest (RM_I hM f) hW
    · intro u hu u7 ua ub i1 i2
      refine ⟨fun _ => ?_, fun s => absurd rfl s⟩
      rw [ub]
      exact end_case u7 (fun _ => o50 hu) (Inv_I hR hM hW (fI_tr f (fM_I hu)))
    · intro _ _ _ n
      exact absurd q n
  · intro q
    refine ⟨rfl, ?_⟩
    unfold TX7_bestOther BX7_bestOther_15
    apply m_noBest (RM_I hM f0) hW
    · intro _ _ _ _ _ i1 _
      have := hW.1.2.2.2.1
      exact absurd (show (bs a).1 < 16 by omega) q
    · intro u hu u7 _
      exact ⟨fun s => absurd s (by decide), fun _ => end_case u7 (fun q => absurd q (by decide)) (Inv_I hR hM hW (fI_tr f0 (fM_I hu)))⟩
theorem t31 : ∀ s1 s2 s3 v, Inv v → TC_31 s1 s2 s3 v Inv := by
  rintro s1 s2 s3 v ⟨a, hR, hM, hW⟩
  unfold TC_31 TX6_persons
  apply r_allCards hR hW
  apply r_personsWith hR hW
  apply r_bitCount
  rw [pw_all hW]
  apply m_personsGo hM hW
  intro w hw
  exact ⟨fun _ => Inv_I hR hM hW (fM_I (fL_M hw)), fun n => n rfl⟩
