/-! ===== join, leave ===== -/
theorem zn1 : vp_nar .boolean 1 = nb true := rfl
theorem zn0 : vp_nar .boolean 0 = nb false := rfl
theorem nb_1 (t : Bool) : decide (nb t = 1) = t := by cases t <;> decide
theorem gr_gw {a : gMem} {g c : Nat} {t : Bool} (hc : c < 16) {h d : Nat} (hd : d < 16) : gr (gw a 45 0 (16 * g + c) (nb t)) h d = if h = g ∧ d = c then t else gr a h d := by
  unfold gr
  by_cases q : h = g ∧ d = c
  · rw [if_pos q, q.1, q.2, gw_same, nb_1]
  · rw [if_neg q, gw_ne _ _ (by omega)]
theorem W_45 {a : gMem} {g c : Nat} (t : Bool) (hc : c < nc a) (hW : WF a) : WF (gw a 45 0 (16 * g + c) (nb t)) := by
  have h16 := hW.1.2.2.2.1
  have e7 : gw a 45 0 (16 * g + c) (nb t) 7 = a 7 := gk 7
  have n : nc (gw a 45 0 (16 * g + c) (nb t)) = nc a := nc_c (by rw [e7])
  have m : nm (gw a 45 0 (16 * g + c) (nb t)) = nm a := nm_c (by rw [e7])
  have s : ns (gw a 45 0 (16 * g + c) (nb t)) = ns a := ns_c (by rw [e7])
  refine ⟨W1c e7 hW, W2c s (gk 30) hW, W3c s n (gk 31) hW, W4c (gk 32) hW, W5c (ln_c (gk 32) (by rw [e7])) (gk 42) hW, W6c n (gk 33) hW, W7c (gk 34) hW, W8c n m (gk 36) (gk 37) (gk 43) hW, W9c m (gk 36) (gk 37) (gk 43) hW, W10c n (ed_c (by rw [e7]) (gk 36) (gk 37) (gk 43)) (gk 44) hW, ?_, W12c (np_c (by rw [e7])) (gk 44) hW⟩
  intro h d hh hd
  rw [n, gr_gw (by omega) hd]
  by_cases q : h = g ∧ d = c
  · rw [if_pos q, q.1, q.2, gw_same]
    exact ⟨rfl, fun _ => hc⟩
  · rw [if_neg q, gw_ne _ _ (by omega)]
    exact hW.2.2.2.2.2.2.2.2.2.2.1 h d hh hd
theorem R_45 {v a : gMem} {g c : Nat} {t : Bool} (hc : c < 16) (hR : RC v a) : RC (gw v 14 0 g (st (gr (gw a 45 0 (16 * g + c) (nb t)) g))) (gw a 45 0 (16 * g + c) (nb t)) := by
  have e7 : gw a 45 0 (16 * g + c) (nb t) 7 = a 7 := gk 7
  have n : nc (gw a 45 0 (16 * g + c) (nb t)) = nc a := nc_c (by rw [e7])
  refine ⟨by rw [e7, gk 6, gk 3, gk 4]; exact hR.1, R2c (gk 10) (gk 12) (gk 13) (gk 30) (gk 34) (gk 35) hR, R3c (gk 2) (gk 4) (gk 31) (gk 32) hR, R4c (gk 23) n (gk 33) hR, R5c (gk 21) (gk 42) hR, R6c (gk 4) (gk 22) (ln_c (gk 32) (by rw [e7])) (gk 42) hR, R7c (gk 17) (gk 18) (gk 19) (gk 36) (gk 37) (gk 43) hR, R8c (gk 16) (ed_c (by rw [e7]) (gk 36) (gk 37) (gk 43)) (gk 44) hR, ?_⟩
  intro h hh
  by_cases q : h = g
  · rw [q, gw_same]
  · rw [gw_ne _ _ (by omega), hR.2.2.2.2.2.2.2.2 h hh]
    apply st_cong
    intro d hd
    rw [gr_gw hc hd, if_neg (by omega)]
theorem grp_add {a : gMem} {g c : Nat} (hc : c < 16) : st (gr a g) ||| ((1 : Int32) <<< (nI c &&& 31)) = st (gr (gw a 45 0 (16 * g + c) (nb true)) g) := by
  rw [st_one hc, st_or]
  apply st_cong
  intro d hd
  rw [gr_gw hc hd]
  by_cases q : d = c
  · rw [if_pos ⟨rfl, q⟩, q]; simp
  · rw [if_neg (by omega), show (d == c) = false by simpa using q, Bool.or_false]
theorem grp_del {a : gMem} {g c : Nat} (hc : c < 16) : st (gr a g) &&& (((1 : Int32) <<< (nI c &&& 31)) ^^^ (-1)) = st (gr (gw a 45 0 (16 * g + c) (nb false)) g) := by
  rw [st_one hc, st_sub]
  apply st_cong
  intro d hd
  rw [gr_gw hc hd]
  by_cases q : d = c
  · rw [if_pos ⟨rfl, q⟩, q]; simp
  · rw [if_neg (by omega), show (d == c) = false by simpa using q]; simp
theorem m_grpNo {a v : gMem} {X : String → gMem → Prop} (hM : RM v a) (hW : WF a) {Q : Int32 → gMem → Prop} {x y : Int32} (hn : ¬ (∃ g c, g < 4 ∧ c < nc a ∧ x = nI g ∧ y = nI c)) (h : Q 1 (T0 v 1)) : TX7_noGroup x y v Q X :=
  m_group hM hW (fun g c hg hc e1 e2 => absurd ⟨g, c, hg, hc, e1, e2⟩ hn) fun _ => h
theorem m_grp {a v : gMem} {X : String → gMem → Prop} (hM : RM v a) (hW : WF a) {Q : Int32 → gMem → Prop} {g c : Nat} (hg : g < 4) (hc : c < nc a) (h : Q 0 (T0 v 0)) : TX7_noGroup (nI g) (nI c) v Q X :=
  m_group hM hW (fun _ _ _ _ _ _ => h) fun n => absurd ⟨g, c, hg, hc, rfl, rfl⟩ n
theorem t35 : ∀ s1 s2 s3 v, Inv v → TC_35 s1 s2 s3 v Inv := by
  rintro s1 s2 s3 v ⟨a, hR, hM, hW⟩
  have h16 := hW.1.2.2.2.1
  unfold TC_35 TL_join TX6_join
  have no : ¬ (∃ g c, g < 4 ∧ c < nc a ∧ s1 = nI g ∧ s2 = nI c) → TX7_join s1 s2 v (fun r2264 v2264 => (TX7_thrown v2264 (fun r2270 v2270 => ((r2270 = 1 → ((¬ (1 : Int32) = 0 → (Inv v2270)) ∧ ((1 : Int32) = 0 → (((lg_cmp (Int32.toInt64 (v2270 50 0 0)) (Int32.toInt64 r2264)) = 0 → (Inv v2270)) ∧ (¬ (lg_cmp (Int32.toInt64 (v2270 50 0 0)) (Int32.toInt64 r2264)) = 0 → False))))) ∧ (¬ r2270 = 1 → False))) (fun _ _ => False))) (fun _ _ => False) := by
    intro n
    unfold TX7_join
    apply m_grpNo hM hW n
    exact ⟨fun q => absurd q (by decide), fun _ => end_case (T0_0 _ _) (fun q => absurd q (by decide)) (Inv_I hR hM hW (fM_I (T0_M _ _)))⟩
  apply r_group
  · intro g hg e
    rw [e]
    apply r_card hR hW
    · intro c hc e2
      rw [e2, clI (by omega), c_gr hR hg]
      refine ⟨in_nI hg, ?_⟩
      apply r_contains (by omega)
      rw [nb_0]
      refine ⟨fun q => ⟨in_nI hg, in_nI hg, in_nI hg, ?_⟩, fun q => Or.inr ⟨rfl, ?_⟩⟩
      · rw [gw_same, c_gr hR hg, grp_add (by omega)]
        apply r_bitCount
        have hR2 := R_45 (g := g) (t := true) (c := c) (by omega) hR
        have hW2 := W_45 (g := g) true hc hW
        have tt : fT v (gw (gw v 14 0 g (st (gr (gw a 45 0 (16 * g + c) (nb true)) g))) 50 0 0 (nI (fb_ct (gr (gw a 45 0 (16 * g + c) (nb true)) g) 16))) := fT_w (fT_w (fT_rf v))
        have hM2 := RM_T hM tt
        unfold TX7_join
        apply m_grp hM2 hW hg hc
        refine ⟨fun _ => ?_, fun q => absurd rfl q⟩
        rw [x16, clI (by omega), zn1]
        refine ⟨in_nI (by omega), fun _ => ⟨in_nI (by omega), ?_⟩, fun n => ?_⟩
        · have hM3 : RM _ (gw a 45 0 (16 * g + c) (nb true)) := RM_w (RM_M hM2 (T0_M _ 0))
          apply m_cardsIn hM3 hW2 hg
          apply end_mut (RC_50 hR2) (fR_w (fR_M (fR_rf _) (T0_M _ _))) hM3 hW2
          · rw [gk 7]; exact T0_0 _ _
          · exact gw_same _ _ _ _ _
        · rw [m_gr (RM_M hM2 (T0_M _ 0)) hW hg (by omega), nb_0] at n
          exact absurd q n
      · unfold TX7_join
        apply m_grp hM hW hg hc
        refine ⟨fun _ => ?_, fun q => absurd rfl q⟩
        rw [x16, clI (by omega), m_gr (RM_M hM (T0_M _ 0)) hW hg (by omega), nb_0]
        refine ⟨in_nI (by omega), fun n => absurd n q, fun _ => m_fail ?_⟩
        exact end_case (T0_0 _ _) (fun q => absurd q (by decide)) (Inv_I hR hM hW (fM_I (fM_tr (T0_M v 0) (T0_M _ _))))
    · intro n
      refine Or.inl ⟨rfl, ?_⟩
      rw [← e]
      exact no fun ⟨_, c, _, hc, _, e2⟩ => n c hc e2
  · intro n
    exact Or.inl ⟨rfl, no fun ⟨g, _, hg, _, e2, _⟩ => n g hg e2⟩
theorem t36 : ∀ s1 s2 s3 v, Inv v → TC_36 s1 s2 s3 v Inv := by
  rintro s1 s2 s3 v ⟨a, hR, hM, hW⟩
  have h16 := hW.1.2.2.2.1
  unfold TC_36 TL_leave TX6_leave
  have no : ¬ (∃ g c, g < 4 ∧ c < nc a ∧ s1 = nI g ∧ s2 = nI c) → TX7_leave s1 s2 v (fun r2264 v2264 => (TX7_thrown v2264 (fun r2270 v2270 => ((r2270 = 1 → ((¬ (1 : Int32) = 0 → (Inv v2270)) ∧ ((1 : Int32) = 0 → (((lg_cmp (Int32.toInt64 (v2270 50 0 0)) (Int32.toInt64 r2264)) = 0 → (Inv v2270)) ∧ (¬ (lg_cmp (Int32.toInt64 (v2270 50 0 0)) (Int32.toInt64 r2264)) = 0 → False))))) ∧ (¬ r2270 = 1 → False))) (fun _ _ => False))) (fun _ _ => False) := by
    intro n
    unfold TX7_leave
    apply m_grpNo hM hW n
    exact ⟨fun q => absurd q (by decide), fun _ => end_case (T0_0 _ _) (fun q => absurd q (by decide)) (Inv_I hR hM hW (fM_I (T0_M _ _)))⟩
  apply r_group
  · intro g hg e
    rw [e]
    apply r_card hR hW
    · intro c hc e2
      rw [e2, clI (by omega), c_gr hR hg]
      refine ⟨in_nI hg, ?_⟩
      apply r_contains (by omega)
      rw [nb_0]
      refine ⟨fun q => ⟨in_nI hg, in_nI hg, in_nI hg, ?_⟩, fun q => Or.inr ⟨rfl, ?_⟩⟩
      · rw [gw_same, c_gr hR hg, grp_del (by omega)]
        apply r_bitCount
        have hR2 := R_45 (g := g) (t := false) (c := c) (by omega) hR
        have hW2 := W_45 (g := g) false hc hW
        have tt : fT v (gw (gw v 14 0 g (st (gr (gw a 45 0 (16 * g + c) (nb false)) g))) 50 0 0 (nI (fb_ct (gr (gw a 45 0 (16 * g + c) (nb false)) g) 16))) := fT_w (fT_w (fT_rf v))
        have hM2 := RM_T hM tt
        unfold TX7_leave
        apply m_grp hM2 hW hg hc
        refine ⟨fun _ => ?_, fun q => absurd rfl q⟩
        rw [x16, clI (by omega), zn0]
        refine ⟨in_nI (by omega), fun _ => ⟨in_nI (by omega), ?_⟩, fun n => ?_⟩
        · have hM3 : RM _ (gw a 45 0 (16 * g + c) (nb false)) := RM_w (RM_M hM2 (T0_M _ 0))
          apply m_cardsIn hM3 hW2 hg
          apply end_mut (RC_50 hR2) (fR_w (fR_M (fR_rf _) (T0_M _ _))) hM3 hW2
          · rw [gk 7]; exact T0_0 _ _
          · exact gw_same _ _ _ _ _
        · rw [m_gr (RM_M hM2 (T0_M _ 0)) hW hg (by omega), nb_0] at n
          exact absurd n q
      · unfold TX7_leave
        apply m_grp hM hW hg hc
        refine ⟨fun _ => ?_, fun q => absurd rfl q⟩
        rw [x16, clI (by omega), m_gr (RM_M hM (T0_M _ 0)) hW hg (by omega), nb_0]
        refine ⟨in_nI (by omega), fun n => absurd q n, fun _ => m_fail ?_⟩
        exact end_case (T0_0 _ _) (fun q => absurd q (by decide)) (Inv_I hR hM hW (fM_I (fM_tr (T0_M v 0) (T0_M _ _))))
    · intro n
      refine Or.inl ⟨rfl, ?_⟩
      rw [← e]
      exact no fun ⟨_, c, _, hc, _, e2⟩ => n c hc e2
  · intro n
    exact Or.inl ⟨rfl, no fun ⟨g, _, hg, _, e2, _⟩ => n g hg e2⟩
