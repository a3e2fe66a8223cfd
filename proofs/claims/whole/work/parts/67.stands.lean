/-! ===== stands, number ===== -/
theorem t27 : ∀ s1 s2 s3 v, Inv v → TC_27 s1 s2 s3 v Inv := by
  rintro s1 s2 s3 v ⟨a, hR, hM, hW⟩
  have h30 := hW.1.2.2.2.2.2.1
  unfold TC_27 TL_stands TX6_stands
  apply r_merge hR hW
  · intro m hm e
    rw [e, clI (by omega)]
    have wm := hW.2.2.2.2.2.2.2.1 m hm
    have e3 : v 19 0 m = nb (sd a m) := (hR.2.2.2.2.2.2.1 m (by omega)).2.2.trans wm.2.2.2.2.2
    rw [e3]
    have ref : ∀ b, b = sd a m → TX7_stands (nI m) (gw v 50 0 0 (nb b)) (fun r1816 v1816 => (TX7_thrown v1816 (fun r1822 v1822 => ((r1822 = 0 → ((¬ (0 : Int32) = 0 → (Inv v1822)) ∧ ((0 : Int32) = 0 → ((r1816 = 0 → (((lg_cmp (Int32.toInt64 (v1822 50 0 0)) (Int32.toInt64 0)) = 0 → (Inv v1822)) ∧ (¬ (lg_cmp (Int32.toInt64 (v1822 50 0 0)) (Int32.toInt64 0)) = 0 → False))) ∧ (¬ r1816 = 0 → (((lg_cmp (Int32.toInt64 (v1822 50 0 0)) (Int32.toInt64 1)) = 0 → (Inv v1822)) ∧ (¬ (lg_cmp (Int32.toInt64 (v1822 50 0 0)) (Int32.toInt64 1)) = 0 → False))))))) ∧ (¬ r1822 = 0 → False))) (fun _ _ => False))) (fun _ _ => False) := by
      intro b hb
      have f1 := fI_out v (k := 50) 0 0 (nb b) (by decide)
      unfold TX7_stands BX7_stands_21 BX7_stands_22
      apply m_merge (RM_I hM f1) hW
      · intro _ _ _
        refine ⟨fun q => absurd rfl q, fun _ => ⟨in_nI (by omega), ?_⟩⟩
        have f2 := fI_tr f1 (fM_I (T0_M _ 0))
        have e4 : T0 (gw v 50 0 0 (nb b)) 0 43 0 m = nb (sd a m) := ((RM_I hM f2).2 43 (by unfold mkind; omega) m).trans wm.2.2.2.2.2
        have o : T0 (gw v 50 0 0 (nb b)) 0 50 0 0 = nb b := o50 (T0_M _ 0)
        rw [clI (by omega), e4, ← hb]
        refine ⟨fun q => ⟨nar0, ?_⟩, fun q => ⟨nar1, ?_⟩⟩
        · exact end_bool (b := false) (T0_0 _ _) (fun _ => by rw [o, (nb_0 _).mp q]) (Inv_I hR hM hW f2)
        · exact end_bool (b := true) (T0_0 _ _) (fun _ => by rw [o, bt' fun s => q ((nb_0 _).mpr s)]) (Inv_I hR hM hW f2)
      · intro n
        exact absurd rfl (n m hm)
    refine ⟨in_nI (by omega), nb_nar _, fun q => ?_, fun q => ?_⟩
    · exact ref false ((nb_0 _).mp q).symm
    · exact ref true (bt' fun s => q ((nb_0 _).mpr s)).symm
  · intro n
    refine ⟨rfl, ?_⟩
    unfold TX7_stands BX7_stands_21 BX7_stands_22
    apply m_merge hM hW
    · intro m hm e
      exact absurd e (n m hm)
    · intro _
      exact ⟨fun _ => ⟨nar0, end_bool (b := false) (T0_0 _ _) (fun q => absurd q (by decide)) (Inv_I hR hM hW (fM_I (T0_M _ _)))⟩, fun q => absurd q (by decide)⟩
