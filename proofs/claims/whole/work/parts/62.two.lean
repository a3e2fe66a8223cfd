/-! ===== Questions about two cards ===== -/
section
variable {a v : gMem} {Q : Int32 → gMem → Prop} {X : String → gMem → Prop}
theorem m_two (hM : RM v a) (hW : WF a) {c d : Nat} (hc : c < nc a) (hd : d < nc a) (h : ∀ u, fM v u → u 7 0 0 = 0 → Q 0 u) : TX7_noCards (nI c) (nI d) v Q X :=
  m_noCards hM hW (fun _ _ _ _ _ _ => h) fun n => absurd ⟨c, d, hc, hd, rfl, rfl⟩ n
theorem m_twoNo (hM : RM v a) (hW : WF a) {x y : Int32} (hn : ¬ (∃ c d, c < nc a ∧ d < nc a ∧ x = nI c ∧ y = nI d)) (h : ∀ u, fM v u → u 7 0 0 = 1 → Q 1 u) : TX7_noCards x y v Q X :=
  m_noCards hM hW (fun c d hc hd e1 e2 => absurd ⟨c, d, hc, hd, e1, e2⟩ hn) fun _ => h
theorem m_one (hM : RM v a) (hW : WF a) {c : Nat} (hc : c < nc a) (h : Q 0 (T0 v 0)) : TX7_noCard (nI c) v Q X :=
  m_noCard hM hW (fun _ _ _ => h) fun n => absurd rfl (n c hc)
theorem m_oneNo (hM : RM v a) (hW : WF a) {x : Int32} (hn : ∀ c, c < nc a → ¬ x = nI c) (h : Q 1 (T0 v 1)) : TX7_noCard x v Q X :=
  m_noCard hM hW (fun c hc e => absurd e (hn c hc)) fun _ => h
end
theorem o50 {v : gMem} {x : Int32} {u : gMem} (h : fM (gw v 50 0 0 x) u) : u 50 0 0 = x := by
  rw [h.1 50 (by omega), gw_same]
theorem t13 : ∀ s1 s2 s3 v, Inv v → TC_13 s1 s2 s3 v Inv := by
  rintro s1 s2 s3 v ⟨a, hR, hM, hW⟩
  have h16 := hW.1.2.2.2.1
  unfold TC_13 TL_score TX6_score
  apply r_cards hR hW
  · intro c d hc hd e1 e2
    rw [e1, e2]
    unfold TX6_requireTwo
    refine ⟨fun n => ?_, fun n => Or.inr ⟨rfl, ?_⟩⟩
    · apply r_scoreOf hR hW hc hd
      have f := fI_out v (k := 50) 0 0 (sc a c d) (by decide)
      unfold TX7_score
      apply m_two (RM_I hM f) hW hc hd
      intro u hu u7
      refine ⟨fun _ => ⟨fun _ => ?_, fun m => absurd m n⟩, fun q => absurd rfl q⟩
      apply m_scoreOf (RM_M (RM_I hM f) hu) hW hc hd
      intro w hw
      have f2 := fM_tr hu (fQ_M hw)
      exact end_case (by rw [hw.2 0 (by omega)]; exact u7) (fun _ => o50 f2) (Inv_I hR hM hW (fI_tr f (fM_I f2)))
    · unfold TX7_score
      apply m_two hM hW hc hd
      intro u hu _
      refine ⟨fun _ => ⟨fun m => absurd n m, fun _ => m_fail ?_⟩, fun q => absurd rfl q⟩
      exact end_case (T0_0 _ _) (fun q => absurd q (by decide)) (Inv_I hR hM hW (fM_I (fM_tr hu (T0_M _ _))))
  · intro n
    refine Or.inl ⟨rfl, ?_⟩
    unfold TX7_score
    apply m_twoNo hM hW n
    intro u hu u7
    exact ⟨fun q => absurd q (by decide), fun _ => end_case u7 (fun q => absurd q (by decide)) (Inv_I hR hM hW (fM_I hu))⟩
theorem t28 : ∀ s1 s2 s3 v, Inv v → TC_28 s1 s2 s3 v Inv := by
  rintro s1 s2 s3 v ⟨a, hR, hM, hW⟩
  have h16 := hW.1.2.2.2.1
  unfold TC_28 TL_steps TX6_steps
  apply r_cards hR hW
  · intro c d hc hd e1 e2
    rw [e1, e2]
    apply r_distance (c_ed hR) (by omega) (by omega)
    by_cases r : ds (ed a) c d < 16
    · rw [if_pos r]
      refine ⟨fun _ => ?_, fun q => absurd q (neg1 (by omega))⟩
      have f := fI_out v (k := 50) 0 0 (nI (ds (ed a) c d)) (by decide)
      unfold TX7_steps
      apply m_two (RM_I hM f) hW hc hd
      intro u hu u7
      refine ⟨fun _ => ?_, fun q => absurd rfl q⟩
      apply m_steps (RM_M (RM_I hM f) hu) hW hc hd
      · intro w hw w7 _
        have f2 := fM_tr hu hw
        exact end_case (by rw [w7]; exact u7) (fun _ => o50 f2) (Inv_I hR hM hW (fI_tr f (fM_I f2)))
      · intro _ _ n
        exact absurd r n
    · rw [if_neg r]
      refine ⟨fun q => absurd rfl q, fun _ => Or.inr ⟨rfl, ?_⟩⟩
      unfold TX7_steps
      apply m_two hM hW hc hd
      intro u hu u7
      refine ⟨fun _ => ?_, fun q => absurd rfl q⟩
      apply m_steps (RM_M hM hu) hW hc hd
      · intro _ _ _ n
        exact absurd n r
      · intro w hw _
        exact end_case (T0_0 _ _) (fun q => absurd q (by decide)) (Inv_I hR hM hW (fM_I (fM_tr (fM_tr hu hw) (T0_M _ _))))
  · intro n
    refine Or.inl ⟨rfl, ?_⟩
    unfold TX7_steps
    apply m_twoNo hM hW n
    intro u hu u7
    exact ⟨fun q => absurd q (by decide), fun _ => end_case u7 (fun q => absurd q (by decide)) (Inv_I hR hM hW (fM_I hu))⟩
/-- A forbidden pair is never in one person, nor barred within one. -/
theorem bd_one {a : gMem} (hW : WF a) {c d : Nat} (hc : c < 16) (hd : d < 16) (h : cn (ed a) c d = true) : bd a c d = false := by
  unfold bd
  rw [an_f]
  intro x hx
  apply bf
  intro q
  unfold br at q
  rw [Bool.and_eq_true, nx_t] at q
  obtain ⟨q1, y, hy, q2, q3⟩ := q
  have := ((hW.2.2.2.2.2.2.2.2.2.1 y x hy hx).2.2 q3).2.2
  have h1 := cn_tr hc hd hy h q2
  rw [cn_tr hy hc hx (cn_sy (ed_sy a) hc hy h1) q1] at this
  cases this
theorem fb_one {a : gMem} (hW : WF a) {c d : Nat} (hc : c < 16) (hd : d < 16) (h : cn (ed a) c d = true) : fb a c d = false := bf fun q => by
  have := ((hW.2.2.2.2.2.2.2.2.2.1 c d hc hd).2.2 q).2.2
  rw [h] at this; cases this
theorem br_0 (a : gMem) (c d : Nat) : st (br a c d) = 0 ↔ bd a c d = false := (an_st (br a c d)).symm
theorem GA_ne {a u : gMem} (hW : WF a) (hG : GA a u) {c d : Nat} (hc : c < nc a) (hd : d < nc a) : u 38 0 c = u 38 0 d ↔ cn (ed a) c d = true := by
  rw [hG c hc, hG d hd]
  exact ⟨fun h => (cpI hW hd hc).mp h.symm, fun h => ((cpI hW hd hc).mpr h).symm⟩
theorem t21 : ∀ s1 s2 s3 v, Inv v → TC_21 s1 s2 s3 v Inv := by
  rintro s1 s2 s3 v ⟨a, hR, hM, hW⟩
  have h16 := hW.1.2.2.2.1
  unfold TC_21 TL_why TX6_why
  apply r_cards hR hW
  · intro c d hc hd e1 e2
    rw [e1, e2]
    -- the reference, for an answer y
    have ref : ∀ y : Int32, (y = if cn (ed a) c d then 116 else if fb a c d then 100 else if bd a c d then 105 else 45) → TX7_why (nI c) (nI d) (gw v 50 0 0 y) (fun r1456 v1456 => (TX7_thrown v1456 (fun t u => ((t = 0 → ((¬ (0 : Int32) = 0 → (Inv u)) ∧ ((0 : Int32) = 0 → (((lg_cmp (Int32.toInt64 (u 50 0 0)) (Int32.toInt64 r1456)) = 0 → (Inv u)) ∧ (¬ (lg_cmp (Int32.toInt64 (u 50 0 0)) (Int32.toInt64 r1456)) = 0 → False))))) ∧ (¬ t = 0 → False))) (fun _ _ => False))) (fun _ _ => False) := by
      intro y hy
      have f := fI_out v (k := 50) 0 0 y (by decide)
      unfold TX7_why BX7_why_74
      apply m_two (RM_I hM f) hW hc hd
      intro u hu u7
      refine ⟨fun _ => ?_, fun q => absurd rfl q⟩
      have hMu := RM_M (RM_I hM f) hu
      apply m_gather hMu hW
      intro w hw hG
      have hMw := RM_M hMu (fL_M hw)
      have f2 := fM_tr hu (fL_M hw)
      have w7 : w 7 0 0 = 0 := by rw [hw 7 (by omega)]; exact u7
      have done : ∀ x, fQ w x → TX7_thrown x (fun t u => ((t = 0 → ((¬ (0 : Int32) = 0 → (Inv u)) ∧ ((0 : Int32) = 0 → (((lg_cmp (Int32.toInt64 (u 50 0 0)) (Int32.toInt64 y)) = 0 → (Inv u)) ∧ (¬ (lg_cmp (Int32.toInt64 (u 50 0 0)) (Int32.toInt64 y)) = 0 → False))))) ∧ (¬ t = 0 → False))) (fun _ _ => False) := fun x hx =>
        end_case (by rw [hx.2 0 (by omega)]; exact w7) (fun _ => o50 (fM_tr f2 (fQ_M hx))) (Inv_I hR hM hW (fI_tr f (fM_I (fM_tr f2 (fQ_M hx)))))
      rw [clI (by omega), clI (by omega)]
      refine ⟨in_nI (by omega), in_nI (by omega), fun q => ?_, fun q => ?_⟩
      · have q2 : cn (ed a) c d = false := bf fun r => q ((GA_ne hW hG hc hd).mpr r)
        rw [q2, if_neg (by decide)] at hy
        apply m_isPair hMw hW (by omega) (by omega)
        refine ⟨fun r => ⟨in_nI (by omega), in_nI (by omega), ?_⟩, fun r => ?_⟩
        · rw [(nb_0 _).mp r, if_neg (by decide)] at hy
          rw [hG c hc, hG d hd]
          apply m_isBarred hMw hW hG hc hd
          · intro e
            rw [e, if_neg (by decide)] at hy
            subst hy
            exact ⟨fun _ => ⟨rfl, done w (fQ_rf w)⟩, fun s => absurd rfl s⟩
          · intro e _ _
            rw [e, if_pos rfl] at hy
            subst hy
            exact ⟨fun s => absurd s (by decide), fun _ => ⟨rfl, done _ (fQ_tr (fQ_gw _ _ _ _ (by omega)) (fQ_gw _ _ _ _ (by omega)))⟩⟩
        · rw [bt' fun s => r ((nb_0 _).mpr s), if_pos rfl] at hy
          subst hy
          exact ⟨rfl, done w (fQ_rf w)⟩
      · have q2 := (GA_ne hW hG hc hd).mp q
        rw [q2, if_pos rfl] at hy
        subst hy
        exact done w (fQ_rf w)
    apply r_isOne hR hW hc hd
    refine ⟨fun q => ?_, fun q => ?_⟩
    · apply r_holds hR hW hc hd
      refine ⟨fun r => ?_, fun r => ?_⟩
      · apply r_bars hR hW hc hd
        unfold BX6_why_49
        refine ⟨fun s => ⟨rfl, ?_⟩, fun s => ⟨rfl, ?_⟩⟩
        · exact ref 45 (by rw [(nb_0 _).mp q, (nb_0 _).mp r, (br_0 a c d).mp s]; rfl)
        · exact ref 105 (by rw [(nb_0 _).mp q, (nb_0 _).mp r, bt' fun t => s ((br_0 a c d).mpr t)]; rfl)
      · exact ref 100 (by rw [(nb_0 _).mp q, bt' fun t => r ((nb_0 _).mpr t)]; rfl)
    · exact ref 116 (by rw [bt' fun t => q ((nb_0 _).mpr t)]; rfl)
  · intro n
    refine ⟨rfl, ?_⟩
    unfold TX7_why
    apply m_twoNo hM hW n
    intro u hu u7
    exact ⟨fun q => absurd q (by decide), fun _ => end_case u7 (fun q => absurd q (by decide)) (Inv_I hR hM hW (fM_I hu))⟩
