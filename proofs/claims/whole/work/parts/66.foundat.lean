/-! ===== foundAt, number ===== -/
theorem neg17 : ∀ n, n < 17 → ¬ (0 : Int32) ≤ -1 - nI n := by decide +kernel
theorem st_drop (p : Nat → Bool) (k : Nat) : st (fun x => p x && decide (k ≤ fb_ct p x)) &&& (st (fun x => p x && decide (k ≤ fb_ct p x)) - 1) = st (fun x => p x && decide (k + 1 ≤ fb_ct p x)) := by
  rw [st_rest]
  apply st_cong
  intro x _
  show ((p x && decide (k ≤ fb_ct p x)) && decide (∃ j, j < x ∧ (p j && decide (k ≤ fb_ct p j)) = true)) = (p x && decide (k + 1 ≤ fb_ct p x))
  cases q : p x
  · rfl
  · rw [Bool.true_and, Bool.true_and]
    by_cases r : k + 1 ≤ fb_ct p x
    · obtain ⟨i, hi, h1, h2⟩ := fb_ct_kth (p := p) (k := k) (n := x) (by omega)
      rw [decide_eq_true r, decide_eq_true (show k ≤ fb_ct p x by omega), decide_eq_true ⟨i, hi, by rw [h1, decide_eq_true (show k ≤ fb_ct p i by omega)]; rfl⟩]; rfl
    · rw [decide_eq_false r]
      apply bf
      intro s
      rw [Bool.and_eq_true] at s
      obtain ⟨j, hj, s2⟩ := of_decide_eq_true s.2
      rw [Bool.and_eq_true] at s2
      have h1 := of_decide_eq_true s2.2
      have h2 := fb_ct_mono p (m := j + 1) (n := x) (by omega)
      rw [fb_ct_succ, s2.1] at h2
      simp at h2
      omega
theorem t42 : ∀ s1 s2 s3 v, Inv v → TC_42 s1 s2 s3 v Inv := by
  rintro s1 s2 s3 v ⟨a, hR, hM, hW⟩
  have h16 := hW.1.2.2.2.1
  have go : ∀ (b : Bool) (Q : Int32 → gMem → Prop), (∀ R u, TX7_foundAt (nb b) s2 u (fun r2659 v2659 => (TX7_thrown v2659 (fun r2665 v2665 => ((r2665 = R → ((¬ R = 0 → (Inv v2665)) ∧ (R = 0 → (((lg_cmp (Int32.toInt64 (v2665 50 0 0)) (Int32.toInt64 r2659)) = 0 → (Inv v2665)) ∧ (¬ (lg_cmp (Int32.toInt64 (v2665 50 0 0)) (Int32.toInt64 r2659)) = 0 → False))))) ∧ (¬ r2665 = R → False))) (fun _ _ => False))) (fun _ _ => False) → Q R u) → TL_foundAt (nb b) s2 v Q (fun _ _ => False) := by
    intro b Q hQ
    have np : fb_ct (pw a (mt a b)) 16 = fb_ct (pw a (mt a b)) (nc a) := pw_n hW _
    have le16 := fb_ct_le (pw a (mt a b)) 16
    have bad : (∀ i, i < nc a → pw a (mt a b) i = true → ¬ s2 = nI (fb_ct (pw a (mt a b)) i)) → TX7_foundAt (nb b) s2 v (fun r2659 v2659 => (TX7_thrown v2659 (fun r2665 v2665 => ((r2665 = 1 → ((¬ (1 : Int32) = 0 → (Inv v2665)) ∧ ((1 : Int32) = 0 → (((lg_cmp (Int32.toInt64 (v2665 50 0 0)) (Int32.toInt64 r2659)) = 0 → (Inv v2665)) ∧ (¬ (lg_cmp (Int32.toInt64 (v2665 50 0 0)) (Int32.toInt64 r2659)) = 0 → False))))) ∧ (¬ r2665 = 1 → False))) (fun _ _ => False))) (fun _ _ => False) := by
      intro n
      unfold TX7_foundAt
      apply m_finds hM hW
      · intro w i _ _ hi hp e
        exact absurd e (n i hi hp)
      · intro w hw _ _
        refine ⟨fun q => absurd q (neg17 _ (by omega)), fun _ => m_fail ?_⟩
        exact end_case (T0_0 _ _) (fun q => absurd q (by decide)) (Inv_I hR hM hW (fM_I (fM_tr hw (T0_M _ _))))
    unfold TL_foundAt TX6_foundAt BX6_foundAt_22
    apply r_matches hR hW
    apply r_personsWith hR hW
    refine ⟨fun q => ⟨rfl, hQ _ _ (bad fun i hi _ e => ?_)⟩, fun q => ?_⟩
    · have := fb_ct_le (pw a (mt a b)) i
      rw [e] at q; exact nI_pos (by omega) q
    · apply r_bitCount
      obtain ⟨k, hk, e⟩ := nI_of q
      refine ⟨fun r => ?_, fun r => ⟨rfl, hQ _ _ (bad fun i hi hp e2 => r ?_)⟩⟩
      · rw [e] at r ⊢
        have r2 := (nI_ltI (by omega) (by omega)).mp r
        obtain ⟨i, hi, h1, h2⟩ := fb_ct_kth r2
        have hin : i < nc a := by
          unfold pw at h1
          rw [Bool.and_eq_true] at h1
          exact of_decide_eq_true h1.1
        have ef : fa_first (fun x => pw a (mt a b) x && decide (k ≤ fb_ct (pw a (mt a b)) x)) 16 = i := fi_is hi (by rw [h1, decide_eq_true (show k ≤ fb_ct (pw a (mt a b)) i by omega)]; rfl) fun j hj => bf fun s => by
          rw [Bool.and_eq_true] at s
          have s1 := of_decide_eq_true s.2
          have h3 := fb_ct_mono (pw a (mt a b)) (m := j + 1) (n := i) (by omega)
          rw [fb_ct_succ, s.1] at h3
          simp at h3
          omega
        unfold LX6_foundAt_36
        intro I hI
        have key : ∀ j, j ≤ k → I (st (fun x => pw a (mt a b) x && decide (j ≤ fb_ct (pw a (mt a b)) x))) (nI j) v := up_to
          (by
            apply hI
            unfold BX6_foundAt_36
            refine ⟨fun _ => ?_, fun n => absurd ((nI_leI (by omega) (by omega)).mpr (Nat.le_refl _)) n⟩
            apply r_lowest
            rw [ef, if_pos hi]
            have f1 := fI_out v (k := 50) 0 0 (nI i) (by decide)
            apply hQ
            unfold TX7_foundAt
            apply m_finds (RM_I hM f1) hW
            · intro w i2 hw _ hi2 hp e2
              have e3 := (nI_eq (by omega) (by have := fb_ct_le (pw a (mt a b)) i2; omega)).mp (e.symm.trans e2)
              have e4 : i2 = i := fb_ct_kth_one hp h1 (by omega)
              subst e4
              refine ⟨fun _ => ?_, fun n => absurd (nI_pos' (by omega)) n⟩
              exact end_case (T0_0 _ _) (fun _ => o50 (fM_tr hw (T0_M w 0))) (Inv_I hR hM hW (fI_tr f1 (fM_I (fM_tr hw (T0_M w 0)))))
            · intro w _ _ n
              exact absurd (by rw [e, h2]) (n i hin h1))
          (by
            intro j hj ih
            apply hI
            unfold BX6_foundAt_36
            rw [st_drop, nI_1]
            exact ⟨fun n => absurd ((nI_leI (by omega) (by omega)).mp n) (by omega), fun _ => ih⟩)
        have := key 0 (by omega)
        have e0 : (fun x => pw a (mt a b) x && decide (0 ≤ fb_ct (pw a (mt a b)) x)) = pw a (mt a b) := funext fun x => by rw [decide_eq_true (Nat.zero_le _), Bool.and_true]
        rw [e0] at this
        exact this
      · rw [e2]
        have h3 := fb_ct_mono (pw a (mt a b)) (m := i + 1) (n := nc a) (by omega)
        rw [fb_ct_succ, hp] at h3
        simp at h3
        exact (nI_ltI (by omega) (by omega)).mpr (by omega)
  unfold TC_42
  refine ⟨fun q => ?_, fun q => ?_⟩
  · exact go false _ fun R u h => ⟨fun _ => h, fun n => absurd q n⟩
  · exact go true _ fun R u h => ⟨fun n => absurd n q, fun _ => h⟩
