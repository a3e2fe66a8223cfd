/-! ===== merge, mergeBest ===== -/
theorem m_mrg {v a : gMem} {X : String → gMem → Prop} (hM : RM v a) (hW : WF a) {Q : Int32 → gMem → Prop} {c d : Nat} (hc : c < nc a) (hd : d < nc a) (h2 : cn (ed a) c d = false → bd a c d = true → ∀ w, fM v w → Q 0 (T0 w 2)) (h3 : cn (ed a) c d = true ∨ (bd a c d = false ∧ nm a = 30) → ∀ w, fM v w → Q 0 (T0 w 3)) (h0 : cn (ed a) c d = false → bd a c d = false → nm a < 30 → ∀ w, fM v w → w 7 0 0 = 0 → Q (nI (nm a)) (gw (gw (gw (gw w 36 0 (nm a) (nI c)) 37 0 (nm a) (nI d)) 43 0 (nm a) (nb true)) 7 0 3 (nI (nm a + 1)))) : TX7_merge (nI c) (nI d) v Q X := by
  have h16 := hW.1.2.2.2.1
  have h30 := hW.1.2.2.2.2.2.1
  unfold TX7_merge BX7_merge_55 BX7_merge_79
  apply m_two hM hW hc hd
  intro u hu u7
  refine ⟨fun _ => ?_, fun q => absurd rfl q⟩
  apply m_gather (RM_M hM hu) hW
  intro w hw hG
  have hf := fM_tr hu (fL_M hw)
  have hMw := RM_M hM hf
  have w7 : w 7 0 0 = 0 := by rw [hw 7 (by omega)]; exact u7
  rw [clI (by omega), clI (by omega), GA_ne hW hG hc hd]
  refine ⟨in_nI (by omega), in_nI (by omega), fun s => ?_, fun s => ?_⟩
  · exact ⟨in_nI (by omega), in_nI (by omega), fun _ => m_fail (h3 (Or.inl s) w hf), fun q => absurd s q⟩
  · refine ⟨in_nI (by omega), in_nI (by omega), ?_⟩
    rw [hG c hc, hG d hd]
    apply m_isBarred hMw hW hG hc hd
    · intro e
      refine ⟨fun _ => ⟨in_nI (by omega), in_nI (by omega), fun q => ?_, fun _ => ?_⟩, fun q => absurd rfl q⟩
      · exact absurd ((GA_ne hW hG hc hd).mp q) s
      · rw [m_nm hMw hW]
        refine ⟨fun q => ?_, fun q => m_fail (h3 (Or.inr ⟨e, (eqI (b := 30) (by omega) (by decide)).mp q⟩) w hf)⟩
        have hm : nm a < 30 := by
          have : nm a ≠ 30 := fun r => q (by rw [r]; rfl)
          omega
        exact m_makes hMw hW hm (h0 (bf s) e hm w hf w7)
    · intro e _ _
      refine ⟨fun q => absurd q (by decide), fun _ => m_fail (h2 (bf s) e _ (fM_tr hf (fQ_M (fQ_tr (fQ_gw _ _ _ _ (by omega)) (fQ_gw _ _ _ _ (by omega))))))⟩
theorem t24 : ∀ s1 s2 s3 v, Inv v → TC_24 s1 s2 s3 v Inv := by
  rintro s1 s2 s3 v ⟨a, hR, hM, hW⟩
  have h16 := hW.1.2.2.2.1
  have h30 := hW.1.2.2.2.2.2.1
  unfold TC_24 TL_merge TX6_merge BX6_merge_44
  apply r_cards hR hW
  · intro c d hc hd e1 e2
    rw [e1, e2]
    have bad : ∀ {w : gMem} {r : Int32} {y : Int32}, ¬ r = 0 → fM v w → TX7_thrown (T0 w r) (fun t z => ((t = r → ((¬ r = 0 → (Inv z)) ∧ (r = 0 → (((lg_cmp (Int32.toInt64 (z 50 0 0)) (Int32.toInt64 y)) = 0 → (Inv z)) ∧ (¬ (lg_cmp (Int32.toInt64 (z 50 0 0)) (Int32.toInt64 y)) = 0 → False))))) ∧ (¬ t = r → False))) (fun _ _ => False) := fun hr hw =>
      end_case (T0_0 _ _) (fun q => absurd q hr) (Inv_I hR hM hW (fM_I (fM_tr hw (T0_M _ _))))
    apply r_bars hR hW hc hd
    rw [br_0]
    refine ⟨fun hb => ?_, fun hb => Or.inr (Or.inl ⟨rfl, ?_⟩)⟩
    · apply r_isOne hR hW hc hd
      rw [nb_0]
      refine ⟨fun q => Or.inr (Or.inr ⟨rfl, ?_⟩), fun q => ?_⟩
      · apply m_mrg hM hW hc hd
        · intro s; exact absurd s q
        · intro _ w hw
          exact bad (by decide) hw
        · intro s; exact absurd s q
      · have hcd : c ≠ d := fun r => by
          rw [r, cn_rf _ (by omega)] at q
          cases q
        apply r_full hR hW
        · intro hm
          refine ⟨fun _ => ?_, fun r => absurd rfl r⟩
          apply r_make hR hW hc hd hcd hm
          have hR2 := R_mk (c := c) (d := d) (by omega) (by omega) hcd hm hR
          have hW2 := W_mk hc hd hm q hb hW
          generalize hw0 : gw (gw (gw (gw (gw (gw v 17 0 (nm a) (nI c)) 18 0 (nm a) (nI d)) 19 0 (nm a) (nb true)) 16 1 c (st fun x => ed a c x || x == d)) 16 1 d (st fun x => ed a d x || x == c)) 3 0 3 (nI (nm a + 1)) = w0 at hR2 ⊢
          have t0 : fT v w0 := by rw [← hw0]; exact fT_w (fT_w (fT_w (fT_w (fT_w (fT_w (fT_rf v))))))
          have hM2 : RM (gw w0 50 0 0 (nI (nm a))) a := RM_T hM (fT_w t0)
          apply m_mrg hM2 hW hc hd
          · intro _ s; rw [hb] at s; cases s
          · intro s
            rcases s with s | s
            · rw [q] at s; cases s
            · omega
          · intro _ _ _ w hw w7
            apply end_mut (RC_50 hR2) (fR_w (fR_w (fR_w (fR_w (fR_M (fR_rf _) hw))))) (RM_w (RM_w (RM_w (RM_w (RM_M hM2 hw))))) hW2
            · rw [gw_ne _ _ (by omega), gk 7, gk 7, gk 7]; exact w7
            · exact gw_same _ _ _ _ _
        · intro hm
          refine ⟨fun r => absurd r (by decide), fun _ => Or.inr (Or.inr ⟨rfl, ?_⟩)⟩
          apply m_mrg hM hW hc hd
          · intro _ s; rw [hb] at s; cases s
          · intro _ w hw
            exact bad (by decide) hw
          · intro _ _ s; omega
    · have hb2 := bt' hb
      have q : cn (ed a) c d = false := bf fun r => hb (bd_one hW (by omega) (by omega) r)
      apply m_mrg hM hW hc hd
      · intro _ _ w hw
        exact bad (by decide) hw
      · intro s
        rcases s with s | s
        · rw [q] at s; cases s
        · exact absurd s.1 hb
      · intro _ s; exact absurd s hb
  · intro n
    refine Or.inl ⟨rfl, ?_⟩
    unfold TX7_merge
    apply m_twoNo hM hW n
    intro u hu u7
    exact ⟨fun q => absurd q (by decide), fun _ => end_case u7 (fun q => absurd q (by decide)) (Inv_I hR hM hW (fM_I hu))⟩
theorem bs_cd {a : gMem} (hW : WF a) : ∀ i, i ≤ nc a → (allB a i).1 < 16 → cd a (allB a i).1 (allB a i).2 = true := by
  have hn := hW.1.2.2.2.1
  have row : ∀ s : Nat × Nat, (s.1 < 16 → cd a s.1 s.2 = true) → ∀ c, c < nc a → ∀ j, j ≤ nc a → (rowB a s c j).1 < 16 → cd a (rowB a s c j).1 (rowB a s c j).2 = true := by
    intro s hs c hc j
    induction j with
    | zero => intro _ h; exact hs h
    | succ j ih =>
      intro hj
      unfold rowB
      split
      · unfold stepB
        split
        · rename_i q
          intro _
          rw [Bool.and_eq_true] at q
          exact q.1
        · exact ih (by omega)
      · exact ih (by omega)
  intro i
  induction i with
  | zero => intro _ h; exact absurd (show (16 : Nat) < 16 from h) (by decide)
  | succ i ih => intro hi h; exact row _ (ih (by omega)) i (by omega) _ (Nat.le_refl _) h
theorem t25 : ∀ s1 s2 s3 v, Inv v → TC_25 s1 s2 s3 v Inv := by
  rintro s1 s2 s3 v ⟨a, hR, hM, hW⟩
  have h16 := hW.1.2.2.2.1
  have h30 := hW.1.2.2.2.2.2.1
  unfold TC_25 TL_mergeBest TX6_mergeBest
  apply r_byKeys hR hW
  intro v1 hv1 hB
  have f0 := fS_I hv1
  have hR1 := RC_S hR hv1
  have hM1 := RM_S hM hv1
  apply r_requireBest hB
  · intro q
    have hin := bs_in hW (nc a) (Nat.le_refl _) q
    have hcd := bs_cd hW (nc a) (Nat.le_refl _) q
    have hbq := hB.1 q
    have hbs : allB a (nc a) = bs a := rfl
    rw [hbs] at hin hcd hbq
    obtain ⟨c, d, hs⟩ : ∃ c d, bs a = (c, d) := ⟨(bs a).1, (bs a).2, rfl⟩
    rw [hs] at hin hcd hbq
    have hc : c < nc a := hin.1
    have hd : d < nc a := hin.2
    unfold cd mg at hcd
    simp only [Bool.and_eq_true, Bool.not_eq_true'] at hcd
    have q1 : cn (ed a) c d = false := hcd.2.2.1
    have hb : bd a c d = false := hcd.2.2.2
    have hne : c ≠ d := fun r => by
      rw [r, cn_rf _ (by omega)] at q1
      cases q1
    apply r_full hR1 hW
    · intro hm
      refine ⟨fun _ => ?_, fun r => absurd rfl r⟩
      have g1 : v1 0 0 0 = nI c := hbq.1
      have g2 : v1 0 0 1 = nI d := hbq.2.1
      rw [g1, g2]
      apply r_make hR1 hW hc hd hne hm
      have hR2 := R_mk (c := c) (d := d) (by omega) (by omega) hne hm hR1
      have hW2 := W_mk hc hd hm q1 hb hW
      generalize hw0 : gw (gw (gw (gw (gw (gw v1 17 0 (nm a) (nI c)) 18 0 (nm a) (nI d)) 19 0 (nm a) (nb true)) 16 1 c (st fun x => ed a c x || x == d)) 16 1 d (st fun x => ed a d x || x == c)) 3 0 3 (nI (nm a + 1)) = w0 at hR2 ⊢
      have t0 : fT v1 w0 := by rw [← hw0]; exact fT_w (fT_w (fT_w (fT_w (fT_w (fT_w (fT_rf v1))))))
      have hM2 : RM (gw w0 50 0 0 (nI (nm a))) a := RM_T hM1 (fT_w t0)
      unfold TX7_mergeBest
      apply m_noBest hM2 hW
      · intro u hu u7 ua ub _ _
        have hMu := RM_M hM2 hu
        rw [ua, ub, hs, m_nm hMu hW]
        refine ⟨fun _ => ⟨fun _ => ?_, fun s => absurd ((eqI (b := 30) (by omega) (by decide)).mp s) (by omega)⟩, fun s => absurd rfl s⟩
        apply m_makes hMu hW hm
        apply end_mut (RC_50 hR2) (fR_w (fR_w (fR_w (fR_w (fR_M (fR_rf _) hu))))) (RM_w (RM_w (RM_w (RM_w hMu)))) hW2
        · rw [gw_ne _ _ (by omega), gk 7, gk 7, gk 7]; exact u7
        · exact gw_same _ _ _ _ _
      · intro _ _ _ n
        exact absurd q n
    · intro hm
      refine ⟨fun r => absurd r (by decide), fun _ => Or.inr ⟨rfl, ?_⟩⟩
      unfold TX7_mergeBest
      apply m_noBest hM1 hW
      · intro u hu u7 _ _ _ _
        rw [m_nm (RM_M hM1 hu) hW, hm]
        refine ⟨fun _ => ⟨fun s => absurd rfl s, fun _ => m_fail ?_⟩, fun s => absurd rfl s⟩
        exact end_case (T0_0 _ _) (fun q => absurd q (by decide)) (Inv_I hR hM hW (fI_tr f0 (fM_I (fM_tr hu (T0_M _ _)))))
      · intro _ _ _ n
        exact absurd q n
  · intro q
    refine Or.inl ⟨rfl, ?_⟩
    unfold TX7_mergeBest
    apply m_noBest hM1 hW
    · intro _ _ _ _ _ i1 _
      exact absurd (show (bs a).1 < 16 by omega) q
    · intro u hu u7 _
      exact ⟨fun s => absurd s (by decide), fun _ => end_case u7 (fun q => absurd q (by decide)) (Inv_I hR hM hW (fI_tr f0 (fM_I hu)))⟩
