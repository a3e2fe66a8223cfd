/-! ===== undo ===== -/
theorem cn_sub {e f : Nat → Nat → Bool} (h : ∀ x y, e x y = true → f x y = true) {c x : Nat} : ∀ k, rR e c k x = true → rR f c k x = true := by
  intro k
  induction k generalizing x with
  | zero => intro q; exact q
  | succ k ih =>
    intro q
    rw [rR_s, Bool.or_eq_true] at q ⊢
    rcases q with q | q
    · exact Or.inl (ih q)
    · rw [nx_t] at q ⊢
      obtain ⟨y, hy, q1, q2⟩ := q
      exact Or.inr ⟨y, hy, ih q1, h y x q2⟩
def wU (a : gMem) (m : Nat) : gMem := gw a 43 0 m (nb false)
section
variable {a v : gMem} {m : Nat}
theorem wU_k (k : Nat) (h : k ≠ 43 := by decide) : wU a m k = a k := gk k h
theorem wU_43 (k : Nat) : wU a m 43 0 k = if k = m then nb false else a 43 0 k := by
  unfold wU
  by_cases q : k = m
  · rw [if_pos q, q, gw_same]
  · rw [if_neg q, gw_ne _ _ (by omega)]
theorem wU_sd (k : Nat) : sd (wU a m) k = if k = m then false else sd a k := by
  unfold sd
  rw [wU_43]
  split
  · exact nb_1 false
  · rfl
theorem jo_eq {x y k : Nat} (h : (x = m1 a m ∧ y = m2 a m) ∨ (x = m2 a m ∧ y = m1 a m)) (q : joins a x y k = true) : joins a (m1 a k) (m2 a k) m = true ∧ joins a (m1 a m) (m2 a m) k = true := by
  unfold joins at q ⊢
  simp only [Bool.or_eq_true, Bool.and_eq_true, beq_iff_eq] at q ⊢
  omega
theorem wU_ed (hm : m < nm a) (hs : sd a m = true) (hW : WF a) : ed (wU a m) = ifp (ed a) (m1 a m) (m2 a m) false := by
  funext x y
  have h9 := hW.2.2.2.2.2.2.2.2.1
  have ej : joins (wU a m) = joins a := jo_c (wU_k 36) (wU_k 37)
  have e0 : ed (wU a m) x y = an (nm a) (fun k => sd (wU a m) k && joins a x y k) := by
    unfold ed
    rw [nm_c (a := a) (by rw [wU_k 7]), ej]
  rw [e0]
  by_cases q : (x = m1 a m ∧ y = m2 a m) ∨ (x = m2 a m ∧ y = m1 a m)
  · rw [ifp_new q, an_f]
    intro k hk
    rw [wU_sd]
    by_cases r : k = m
    · rw [if_pos r, Bool.false_and]
    · rw [if_neg r]
      apply bf
      intro s
      rw [Bool.and_eq_true] at s
      have j := jo_eq q s.2
      rcases Nat.lt_or_gt_of_ne r with r | r
      · rw [h9 k m r hm s.1 hs] at j
        cases j.1
      · rw [h9 m k r hk hs s.1] at j
        cases j.2
  · rw [ifp_old q]
    unfold ed
    apply an_cong
    intro k hk
    rw [wU_sd]
    by_cases r : k = m
    · have : joins a x y k = false := by
        apply bf
        intro s
        apply q
        unfold joins at s
        rw [r] at s
        simpa using s
      rw [this, Bool.and_false, Bool.and_false]
    · rw [if_neg r]
theorem W_un (hm : m < nm a) (hs : sd a m = true) (hW : WF a) : WF (wU a m) := by
  have e7 : wU a m 7 = a 7 := wU_k 7
  have n : nc (wU a m) = nc a := nc_c (by rw [e7])
  have o : nm (wU a m) = nm a := nm_c (by rw [e7])
  have s : ns (wU a m) = ns a := ns_c (by rw [e7])
  refine ⟨W1c e7 hW, W2c s (wU_k 30) hW, W3c s n (wU_k 31) hW, W4c (wU_k 32) hW, W5c (ln_c (wU_k 32) (by rw [e7])) (wU_k 42) hW, W6c n (wU_k 33) hW, W7c (wU_k 34) hW, ?_, ?_, ?_, W11c n (wU_k 45) hW, W12c (np_c (by rw [e7])) (wU_k 44) hW⟩
  · intro k hk
    rw [o] at hk
    have old := hW.2.2.2.2.2.2.2.1 k hk
    rw [n, m1_c (wU_k 36), m2_c (wU_k 37), wU_k 36, wU_k 37, wU_43, wU_sd]
    refine ⟨old.1, old.2.1, old.2.2.1, old.2.2.2.1, old.2.2.2.2.1, ?_⟩
    by_cases q : k = m
    · rw [if_pos q, if_pos q]
    · rw [if_neg q, if_neg q]; exact old.2.2.2.2.2
  · intro k l hkl hl s1 s2
    rw [o] at hl
    have t : ∀ k, sd (wU a m) k = true → sd a k = true := fun k h => by
      rw [wU_sd] at h
      by_cases q : k = m
      · rw [if_pos q] at h; cases h
      · rw [if_neg q] at h; exact h
    rw [m1_c (wU_k 36), m2_c (wU_k 37), jo_c (wU_k 36) (wU_k 37)]
    exact hW.2.2.2.2.2.2.2.2.1 k l hkl hl (t k s1) (t l s2)
  · intro x z hx hz
    have old := hW.2.2.2.2.2.2.2.2.2.1 x z hx hz
    rw [n, fb_c (wU_k 44), wU_k 44]
    refine ⟨old.1, old.2.1, fun q => ⟨(old.2.2 q).1, (old.2.2 q).2.1, ?_⟩⟩
    apply bf
    intro r
    have := cn_sub (f := ed a) (fun x y h => by
      rw [wU_ed hm hs hW] at h
      unfold ifp at h
      split at h
      · cases h
      · exact h) 16 r
    have u := (old.2.2 q).2.2
    unfold cn at u
    rw [this] at u
    cases u
theorem R_un (hm : m < nm a) (hs : sd a m = true) (hW : WF a) (hR : RC v a) : RC (gw (gw (gw v 19 0 m (nb false)) 16 1 (m1 a m) (st fun x => ed a (m1 a m) x && !(x == m2 a m))) 16 1 (m2 a m) (st fun x => ed a (m2 a m) x && !(x == m1 a m))) (wU a m) := by
  have wm := hW.2.2.2.2.2.2.2.1 m hm
  have hne : m1 a m ≠ m2 a m := wm.2.2.2.2.1
  have f1 : st (fun x => ed a (m1 a m) x && !(x == m2 a m)) = st (ed (wU a m) (m1 a m)) := st_cong fun x _ => by
    rw [wU_ed hm hs hW, ifp_c hne, an_if]
  have f2 : st (fun x => ed a (m2 a m) x && !(x == m1 a m)) = st (ed (wU a m) (m2 a m)) := st_cong fun x _ => by
    rw [wU_ed hm hs hW, ifp_d hne, an_if]
  rw [f1, f2]
  have F : ∀ k, k ≠ 19 ∧ k ≠ 16 → gw (gw (gw v 19 0 m (nb false)) 16 1 (m1 a m) (st (ed (wU a m) (m1 a m)))) 16 1 (m2 a m) (st (ed (wU a m) (m2 a m))) k = v k := fun k h => by
    rw [gk k h.2, gk k h.2, gk k h.1]
  have F19 : ∀ k, k < 30 → gw (gw (gw v 19 0 m (nb false)) 16 1 (m1 a m) (st (ed (wU a m) (m1 a m)))) 16 1 (m2 a m) (st (ed (wU a m) (m2 a m))) 19 0 k = wU a m 43 0 k := fun k hk => by
    rw [gk 19, gk 19, wU_43]
    by_cases q : k = m
    · rw [if_pos q, q, gw_same]
    · rw [if_neg q, gw_ne _ _ (by omega)]
      exact (hR.2.2.2.2.2.2.1 k hk).2.2
  have F16 : ∀ x, x < 16 → gw (gw (gw v 19 0 m (nb false)) 16 1 (m1 a m) (st (ed (wU a m) (m1 a m)))) 16 1 (m2 a m) (st (ed (wU a m) (m2 a m))) 16 1 x = st (ed (wU a m) x) ∧ gw (gw (gw v 19 0 m (nb false)) 16 1 (m1 a m) (st (ed (wU a m) (m1 a m)))) 16 1 (m2 a m) (st (ed (wU a m) (m2 a m))) 16 0 x = st (fb a x) := fun x hx => by
    have old := hR.2.2.2.2.2.2.2.1 x hx
    refine ⟨?_, by rw [gw_ne _ _ (by omega), gw_ne _ _ (by omega), gk 16]; exact old.2⟩
    by_cases q : x = m2 a m
    · rw [q, gw_same]
    · rw [gw_ne _ _ (by omega)]
      by_cases r : x = m1 a m
      · rw [r, gw_same]
      · rw [gw_ne _ _ (by omega), gk 16, old.1]
        apply st_cong
        intro z _
        rw [wU_ed hm hs hW, ifp_old (by omega)]
  generalize gw (gw (gw v 19 0 m (nb false)) 16 1 (m1 a m) (st (ed (wU a m) (m1 a m)))) 16 1 (m2 a m) (st (ed (wU a m) (m2 a m))) = w at F F19 F16
  have e7 : wU a m 7 = a 7 := wU_k 7
  have n : nc (wU a m) = nc a := nc_c (by rw [e7])
  refine ⟨by rw [e7, F 6 (by omega), F 3 (by omega), F 4 (by omega)]; exact hR.1, R2c (F 10 (by omega)) (F 12 (by omega)) (F 13 (by omega)) (wU_k 30) (wU_k 34) (wU_k 35) hR, R3c (F 2 (by omega)) (F 4 (by omega)) (wU_k 31) (wU_k 32) hR, R4c (F 23 (by omega)) n (wU_k 33) hR, R5c (F 21 (by omega)) (wU_k 42) hR, R6c (F 4 (by omega)) (F 22 (by omega)) (ln_c (wU_k 32) (by rw [e7])) (wU_k 42) hR, ?_, ?_, R9c (F 14 (by omega)) (wU_k 45) hR⟩
  · intro k hk
    have old := hR.2.2.2.2.2.2.1 k hk
    rw [F 17 (by omega), F 18 (by omega), wU_k 36, wU_k 37]
    exact ⟨old.1, old.2.1, F19 k hk⟩
  · rw [fb_c (wU_k 44)]
    exact F16
end
theorem t26 : ∀ s1 s2 s3 v, Inv v → TC_26 s1 s2 s3 v Inv := by
  rintro s1 s2 s3 v ⟨a, hR, hM, hW⟩
  have h16 := hW.1.2.2.2.1
  have h30 := hW.1.2.2.2.2.2.1
  unfold TC_26 TL_undo TX6_undo
  apply r_merge hR hW
  · intro m hm e
    have wm := hW.2.2.2.2.2.2.2.1 m hm
    have cm := hR.2.2.2.2.2.2.1 m (by omega)
    have e3 : v 19 0 m = nb (sd a m) := cm.2.2.trans wm.2.2.2.2.2
    rw [e, clI (by omega), e3, nb_0]
    refine ⟨in_nI (by omega), fun q => ?_, fun q => Or.inr ⟨rfl, ?_⟩⟩
    · have hs := bt' q
      have hR2 := R_un hm hs hW hR
      have hW2 := W_un hm hs hW
      unfold TX3_takeBack
      have g1 : gw v 19 0 m (nb false) 17 0 m = nI (m1 a m) := by rw [gk 17]; exact cm.1.trans wm.1
      have g2 : gw v 19 0 m (nb false) 18 0 m = nI (m2 a m) := by rw [gk 18]; exact cm.2.1.trans wm.2.2.1
      rw [clI (by omega), zn0, g1, g2]
      refine ⟨in_nI (by omega), in_nI (by omega), in_nI (by omega), ?_⟩
      apply R_cut (f := ed a (m1 a m)) (g := ed a (m2 a m)) (by omega) (by omega) wm.2.2.2.2.1
      · rw [gk 16]; exact (hR.2.2.2.2.2.2.2.1 _ (by omega)).1
      · rw [gk 16]; exact (hR.2.2.2.2.2.2.2.1 _ (by omega)).1
      · generalize hw0 : gw (gw (gw v 19 0 m (nb false)) 16 1 (m1 a m) (st fun x => ed a (m1 a m) x && !(x == m2 a m))) 16 1 (m2 a m) (st fun x => ed a (m2 a m) x && !(x == m1 a m)) = w0 at hR2 ⊢
        have t0 : fT v w0 := by rw [← hw0]; exact fT_w (fT_w (fT_w (fT_rf v)))
        apply r_allCards hR2 hW2
        apply r_personsWith hR2 hW2
        apply r_bitCount
        rw [pw_all hW2]
        generalize hy : nI (fb_ct (fun c => decide (cp (ed (wU a m)) c = c)) (nc (wU a m))) = y
        have hM2 : RM (gw w0 50 0 0 y) a := RM_T hM (fT_w t0)
        unfold TX7_undo
        apply m_merge hM2 hW
        · intro _ _ _
          refine ⟨fun _ => ?_, fun q => absurd rfl q⟩
          have hM3 := RM_M hM2 (T0_M _ 0)
          have e4 : T0 (gw w0 50 0 0 y) 0 43 0 m = nb (sd a m) := (hM3.2 43 (by unfold mkind; omega) m).trans wm.2.2.2.2.2
          rw [clI (by omega), e4, zn0, nb_0]
          refine ⟨in_nI (by omega), fun _ => ⟨in_nI (by omega), ?_⟩, fun s => absurd s q⟩
          have hM4 : RM (gw (T0 (gw w0 50 0 0 y) 0) 43 0 m (nb false)) (wU a m) := RM_w hM3
          apply m_personsGo hM4 hW2
          intro w hw
          rw [hy]
          apply end_mut (RC_50 hR2) (fR_M (fR_w (fR_M (fR_rf _) (T0_M _ _))) (fL_M hw)) (RM_M hM4 (fL_M hw)) hW2
          · rw [hw 7 (by omega), gk 7]; exact T0_0 _ _
          · exact gw_same _ _ _ _ _
        · intro n
          exact absurd rfl (n m hm)
    · unfold TX7_undo
      apply m_merge hM hW
      · intro _ _ _
        refine ⟨fun _ => ?_, fun q => absurd rfl q⟩
        have e4 : T0 v 0 43 0 m = nb (sd a m) := ((RM_M hM (T0_M v 0)).2 43 (by unfold mkind; omega) m).trans wm.2.2.2.2.2
        rw [clI (by omega), e4, nb_0]
        refine ⟨in_nI (by omega), fun s => absurd q s, fun _ => m_fail ?_⟩
        exact end_case (T0_0 _ _) (fun q => absurd q (by decide)) (Inv_I hR hM hW (fM_I (fM_tr (T0_M v 0) (T0_M _ _))))
      · intro n
        exact absurd rfl (n m hm)
  · intro n
    refine Or.inl ⟨rfl, ?_⟩
    unfold TX7_undo
    apply m_merge hM hW
    · intro m hm e
      exact absurd e (n m hm)
    · intro _
      exact ⟨fun q => absurd q (by decide), fun _ => end_case (T0_0 _ _) (fun q => absurd q (by decide)) (Inv_I hR hM hW (fM_I (T0_M _ _)))⟩
