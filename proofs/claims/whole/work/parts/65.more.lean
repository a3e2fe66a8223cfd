/-! ===== Answers yes or no; numbers; found ===== -/
theorem end_bool {Q : gMem → Prop} {b : Bool} {r : Int32} {w : gMem} (h7 : w 7 0 0 = r) (h50 : r = 0 → w 50 0 0 = nb b) (hq : Q w) : TX7_thrown w (fun t u => ((t = r → ((¬ r = 0 → (Q u)) ∧ (r = 0 → ((nb b = 0 → (((lg_cmp (Int32.toInt64 (u 50 0 0)) (Int32.toInt64 0)) = 0 → (Q u)) ∧ (¬ (lg_cmp (Int32.toInt64 (u 50 0 0)) (Int32.toInt64 0)) = 0 → False))) ∧ (¬ nb b = 0 → (((lg_cmp (Int32.toInt64 (u 50 0 0)) (Int32.toInt64 1)) = 0 → (Q u)) ∧ (¬ (lg_cmp (Int32.toInt64 (u 50 0 0)) (Int32.toInt64 1)) = 0 → False))))))) ∧ (¬ t = r → False))) (fun _ _ => False) := by
  unfold TX7_thrown
  refine ⟨fun _ => ⟨fun _ => hq, fun z => ⟨fun q => ⟨fun _ => hq, fun n => n ?_⟩, fun q => ⟨fun _ => hq, fun n => n ?_⟩⟩⟩, fun n => n h7⟩
  · rw [h50 z, q]; exact cmp_same _
  · rw [h50 z, bt' fun s => q ((nb_0 _).mpr s)]; exact cmp_same _
theorem t37 : ∀ s1 s2 s3 v, Inv v → TC_37 s1 s2 s3 v Inv := by
  rintro s1 s2 s3 v ⟨a, hR, hM, hW⟩
  have h16 := hW.1.2.2.2.1
  unfold TC_37 TL_isIn TX6_isIn BX6_isIn_33
  have bad : ¬ (∃ g c, g < 4 ∧ c < nc a ∧ s1 = nI g ∧ s2 = nI c) → TX7_isIn s1 s2 v (fun r2400 v2400 => (TX7_thrown v2400 (fun r2406 v2406 => ((r2406 = 1 → ((¬ (1 : Int32) = 0 → (Inv v2406)) ∧ ((1 : Int32) = 0 → ((r2400 = 0 → (((lg_cmp (Int32.toInt64 (v2406 50 0 0)) (Int32.toInt64 0)) = 0 → (Inv v2406)) ∧ (¬ (lg_cmp (Int32.toInt64 (v2406 50 0 0)) (Int32.toInt64 0)) = 0 → False))) ∧ (¬ r2400 = 0 → (((lg_cmp (Int32.toInt64 (v2406 50 0 0)) (Int32.toInt64 1)) = 0 → (Inv v2406)) ∧ (¬ (lg_cmp (Int32.toInt64 (v2406 50 0 0)) (Int32.toInt64 1)) = 0 → False))))))) ∧ (¬ r2406 = 1 → False))) (fun _ _ => False))) (fun _ _ => False) := by
    intro n
    unfold TX7_isIn
    apply m_group hM hW
    · intro g c hg hc e1 e2
      exact absurd ⟨g, c, hg, hc, e1, e2⟩ n
    · intro _
      exact ⟨fun q => absurd q (by decide), fun _ => end_bool (b := false) (T0_0 _ _) (fun q => absurd q (by decide)) (Inv_I hR hM hW (fM_I (T0_M _ _)))⟩
  apply r_group
  · intro g hg e1
    apply r_card hR hW
    · intro c hc e2
      rw [e1, e2, clI (by omega), c_gr hR hg]
      refine ⟨in_nI hg, ?_⟩
      apply r_joined (c_ed hR) (by omega)
      rw [st_and, ← an_st]
      have ref : ∀ b, b = an 16 (fun x => gr a g x && cn (ed a) c x) → TX7_isIn (nI g) (nI c) (gw v 50 0 0 (nb b)) (fun r2400 v2400 => (TX7_thrown v2400 (fun r2406 v2406 => ((r2406 = 0 → ((¬ (0 : Int32) = 0 → (Inv v2406)) ∧ ((0 : Int32) = 0 → ((r2400 = 0 → (((lg_cmp (Int32.toInt64 (v2406 50 0 0)) (Int32.toInt64 0)) = 0 → (Inv v2406)) ∧ (¬ (lg_cmp (Int32.toInt64 (v2406 50 0 0)) (Int32.toInt64 0)) = 0 → False))) ∧ (¬ r2400 = 0 → (((lg_cmp (Int32.toInt64 (v2406 50 0 0)) (Int32.toInt64 1)) = 0 → (Inv v2406)) ∧ (¬ (lg_cmp (Int32.toInt64 (v2406 50 0 0)) (Int32.toInt64 1)) = 0 → False))))))) ∧ (¬ r2406 = 0 → False))) (fun _ _ => False))) (fun _ _ => False) := by
        intro b hb
        have f1 := fI_out v (k := 50) 0 0 (nb b) (by decide)
        unfold TX7_isIn
        apply m_group (RM_I hM f1) hW
        · intro g2 c2 _ _ _ _
          refine ⟨fun _ => ?_, fun q => absurd rfl q⟩
          have f2 := fI_tr f1 (fM_I (T0_M _ 0))
          apply m_gather (RM_I hM f2) hW
          intro u hu hG
          have f3 := fM_tr (T0_M _ 0) (fL_M hu)
          rw [clI (by omega), hG c hc]
          refine ⟨in_nI (by omega), ?_⟩
          apply m_hasCard (RM_I hM (fI_tr f1 (fM_I f3))) hW hG hg hc
          rw [← hb]
          exact ⟨nb_nar _, end_bool (by rw [hu 7 (by omega)]; exact T0_0 _ _) (fun _ => o50 f3) (Inv_I hR hM hW (fI_tr f1 (fM_I f3)))⟩
        · intro n
          exact absurd ⟨g, c, hg, hc, rfl, rfl⟩ n
      refine ⟨fun q => ⟨nar0, fun _ => ref false q.symm, fun s => absurd rfl s⟩, fun q => ⟨nar1, fun s => absurd s (by decide), fun _ => ref true (bt' q).symm⟩⟩
    · intro n
      exact ⟨rfl, bad fun ⟨_, c, _, hc, _, e⟩ => n c hc e⟩
  · intro n
    exact ⟨rfl, bad fun ⟨g, _, hg, _, e, _⟩ => n g hg e⟩
theorem pw_n {a : gMem} (hW : WF a) (f : Nat → Bool) : fb_ct (pw a f) 16 = fb_ct (pw a f) (nc a) := ct_n hW.1.2.2.2.1 fun x _ hx => by
  unfold pw at hx
  rw [Bool.and_eq_true] at hx
  exact of_decide_eq_true hx.1
theorem neg_neg1 (n : Nat) : (-1 : Int32) - (-1 - nI n) = nI n := by
  rw [Int32.sub_eq_add_neg, Int32.neg_sub, Int32.add_comm, Int32.sub_add_cancel]
theorem m_found {a v : gMem} (hM : RM v a) (hW : WF a) {Q : Int32 → gMem → Prop} {X : String → gMem → Prop} {b : Bool} (h : ∀ w, fM v w → Q (nI (fb_ct (pw a (mt a b)) (nc a))) w) : TX7_found (nb b) v Q X := by
  unfold TX7_found
  apply m_finds hM hW
  · intro w i _ _ _ _ e
    have h16 := hW.1.2.2.2.1
    have := fb_ct_le (pw a (mt a b)) i
    exact absurd e.symm (neg1 (by omega))
  · intro w hw _ _
    rw [neg_neg1]
    exact h w hw
theorem r_found {a v : gMem} (hR : RC v a) (hW : WF a) {Q : Int32 → gMem → Prop} {X : String → gMem → Prop} {b : Bool} (h : Q (nI (fb_ct (pw a (mt a b)) (nc a))) v) : TX6_found (nb b) v Q X := by
  unfold TX6_found
  apply r_matches hR hW
  apply r_personsWith hR hW
  apply r_bitCount
  rw [pw_n hW]
  exact h
theorem t41 : ∀ s1 s2 s3 v, Inv v → TC_41 s1 s2 s3 v Inv := by
  rintro s1 s2 s3 v ⟨a, hR, hM, hW⟩
  unfold TC_41
  refine ⟨fun q => ?_, fun q => ?_⟩
  · apply r_found (b := false) hR hW
    refine ⟨fun _ => ?_, fun n => absurd q n⟩
    apply m_found (b := false) hM hW
    intro w hw
    exact ⟨fun _ => Inv_I hR hM hW (fM_I hw), fun n => n rfl⟩
  · apply r_found (b := true) hR hW
    refine ⟨fun n => absurd n q, fun _ => ?_⟩
    apply m_found (b := true) hM hW
    intro w hw
    exact ⟨fun _ => Inv_I hR hM hW (fM_I hw), fun n => n rfl⟩
