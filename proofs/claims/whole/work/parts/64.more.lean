/-! ===== Fields, groups, merges: questions ===== -/
theorem four1 : nI 4 - 1 = 3 := by decide
section
variable {a v : gMem} {Q : gMem → Prop} {X : String → gMem → Prop}
theorem r_field4 {x : Int32} (hy : ∀ f, f < 4 → x = nI f → Q v) (hn : (∀ f, f < 4 → ¬ x = nI f) → X "java/lang/IllegalArgumentException" v) : TX6_requireField x v Q X := by
  unfold TX6_requireField BX6_requireField_9
  rcases in_or x (n := 4) (by decide) with ⟨c, hc, e⟩ | ⟨h1, h2, _⟩
  · refine ⟨fun q => ?_, fun _ => ⟨fun _ => hy c hc e, fun q => ?_⟩⟩
    · rw [e] at q; exact absurd q (nI_pos (by omega))
    · rw [e] at q; exact absurd ((ltI (b := 4) (by omega) (by decide)).mpr hc) q
  · refine ⟨fun _ => hn h1, fun q => ⟨fun r => ?_, fun _ => hn h1⟩⟩
    rcases h2 with h2 | h2
    · exact absurd h2 q
    · exact absurd h2 (ltn r)
theorem r_group {x : Int32} (hy : ∀ f, f < 4 → x = nI f → Q v) (hn : (∀ f, f < 4 → ¬ x = nI f) → X "java/lang/IndexOutOfBoundsException" v) : TX6_requireGroup x v Q X := by
  unfold TX6_requireGroup BX6_requireGroup_9
  rcases in_or x (n := 4) (by decide) with ⟨c, hc, e⟩ | ⟨h1, h2, _⟩
  · refine ⟨fun q => ?_, fun _ => ⟨fun _ => hy c hc e, fun q => ?_⟩⟩
    · rw [e] at q; exact absurd q (nI_pos (by omega))
    · rw [e] at q; exact absurd ((ltI (b := 4) (by omega) (by decide)).mpr hc) q
  · refine ⟨fun _ => hn h1, fun q => ⟨fun r => ?_, fun _ => hn h1⟩⟩
    rcases h2 with h2 | h2
    · exact absurd h2 q
    · exact absurd h2 (ltn r)
theorem r_merge (hR : RC v a) (hW : WF a) {x : Int32} (hy : ∀ c, c < nm a → x = nI c → Q v) (hn : (∀ c, c < nm a → ¬ x = nI c) → X "java/lang/IndexOutOfBoundsException" v) : TX6_requireMerge x v Q X := by
  have h30 := hW.1.2.2.2.2.2.1
  unfold TX6_requireMerge BX6_requireMerge_15
  rw [c_nm hR hW]
  rcases in_or x (n := nm a) (by omega) with ⟨c, hc, e⟩ | ⟨h1, h2, _⟩
  · refine ⟨fun q => ?_, fun _ => ⟨fun _ => hy c hc e, fun q => ?_⟩⟩
    · rw [e] at q; exact absurd q (nI_pos (by omega))
    · rw [e] at q; exact absurd ((ltI (by omega) (by omega)).mpr hc) q
  · refine ⟨fun _ => hn h1, fun q => ⟨fun r => ?_, fun _ => hn h1⟩⟩
    rcases h2 with h2 | h2
    · exact absurd h2 q
    · exact absurd h2 (ltn r)
theorem m_in4 {w : gMem} {Q : Int32 → gMem → Prop} {f : Nat} (hf : f < 4) (h : Q 1 w) : TX7_isWithin (nI f) 0 3 w Q X :=
  m_within (fun _ _ => h) fun n => absurd (by rw [← four1]; exact in_le hf (by decide)) n
theorem m_not4 {w : gMem} {Q : Int32 → gMem → Prop} {x : Int32} (hn : ∀ f, f < 4 → ¬ x = nI f) (h : Q 0 w) : TX7_isWithin x 0 3 w Q X := by
  rcases in_or x (n := 4) (by decide) with ⟨c, hc, e⟩ | ⟨_, _, h3⟩
  · exact absurd e (hn c hc)
  · rw [four1] at h3
    exact m_within (fun q1 q2 => absurd ⟨q1, q2⟩ h3) fun _ => h
theorem m_merge (hM : RM v a) (hW : WF a) {Q : Int32 → gMem → Prop} {x : Int32} (hy : ∀ c, c < nm a → x = nI c → Q 0 (T0 v 0)) (hn : (∀ c, c < nm a → ¬ x = nI c) → Q 1 (T0 v 1)) : TX7_noMerge x v Q X := by
  have h30 := hW.1.2.2.2.2.2.1
  unfold TX7_noMerge BX7_noMerge_20 BX7_noMerge_35
  rw [m_nm hM hW]
  rcases in_or x (n := nm a) (by omega) with ⟨c, hc, e⟩ | ⟨h1, h2, h3⟩
  · apply m_within
    · intro _ _
      rw [gw_same, gw_same]
      exact ⟨fun q => absurd q (by decide), fun _ => ⟨fun _ => ⟨nar0, hy c hc e⟩, fun q => absurd rfl q⟩⟩
    · intro q
      rw [e] at q
      exact absurd (in_le hc (by omega)) q
  · apply m_within
    · intro q1 q2
      exact absurd ⟨q1, q2⟩ h3
    · intro q
      rw [gw_same, gw_same]
      exact ⟨fun _ => ⟨fun r => absurd r (by decide), fun _ => ⟨nar1, hn h1⟩⟩, fun r => absurd rfl r⟩
theorem m_group (hM : RM v a) (hW : WF a) {Q : Int32 → gMem → Prop} {x y : Int32} (hy : ∀ g c, g < 4 → c < nc a → x = nI g → y = nI c → Q 0 (T0 v 0)) (hn : ¬ (∃ g c, g < 4 ∧ c < nc a ∧ x = nI g ∧ y = nI c) → Q 1 (T0 v 1)) : TX7_noGroup x y v Q X := by
  have h16 := hW.1.2.2.2.1
  unfold TX7_noGroup BX7_noGroup_28 BX7_noGroup_29 BX7_noGroup_44
  simp only [gw_same]
  rcases in_or x (n := 4) (by decide) with ⟨g, hg, e⟩ | ⟨h1, _, _⟩
  · rw [e]
    apply m_in4 hg
    rw [m_nc hM hW]
    refine ⟨fun q => absurd q (by decide), fun _ => ?_⟩
    rcases in_or y (n := nc a) (by omega) with ⟨c, hc, e2⟩ | ⟨h1, h2, h3⟩
    · apply m_within
      · intro _ _
        exact ⟨fun q => absurd q (by decide), fun _ => ⟨fun _ => ⟨nar0, hy g c hg hc e e2⟩, fun q => absurd trivial q⟩⟩
      · intro q
        rw [e2] at q
        exact absurd (in_le hc (by omega)) q
    · apply m_within
      · intro q1 q2
        exact absurd ⟨q1, q2⟩ h3
      · intro q
        exact ⟨fun _ => ⟨fun r => absurd r (by decide), fun _ => ⟨nar1, hn fun ⟨_, c, _, hc, _, e2⟩ => h1 c hc e2⟩⟩, fun r => absurd rfl r⟩
  · apply m_not4 h1
    exact ⟨fun _ => ⟨fun r => absurd r (by decide), fun _ => ⟨nar1, hn fun ⟨g, _, hg, _, e, _⟩ => h1 g hg e⟩⟩, fun r => absurd rfl r⟩
end
theorem t33 : ∀ s1 s2 s3 v, Inv v → TC_33 s1 s2 s3 v Inv := by
  rintro s1 s2 s3 v ⟨a, hR, hM, hW⟩
  have h16 := hW.1.2.2.2.1
  unfold TC_33 TL_fieldFrom TX6_fieldFrom
  apply r_card hR hW
  · intro c hc e
    rw [e]
    apply r_field4
    · intro f hf4 e2
      rw [e2]
      apply r_joined (c_ed hR) (by omega)
      apply r_highest hR hW hf4
      by_cases r : hrK a (cn (ed a) c) f (nc a) < 16
      · rw [if_pos r]
        refine ⟨fun _ => ?_, fun q => absurd q (neg1 (by omega))⟩
        have f1 := fI_out v (k := 50) 0 0 (nI (hrK a (cn (ed a) c) f (nc a))) (by decide)
        unfold TX7_fieldFrom
        apply m_one (RM_I hM f1) hW hc
        refine ⟨fun _ => ?_, fun q => absurd rfl q⟩
        apply m_in4 hf4
        refine ⟨fun _ => ?_, fun q => absurd q (by decide)⟩
        have f2 := fI_tr f1 (fM_I (T0_M _ 0))
        apply m_gather (RM_I hM f2) hW
        intro u hu hG
        have f3 := fM_tr (T0_M _ 0) (fL_M hu)
        apply m_field (RM_I hM (fI_tr f1 (fM_I f3))) hW hG hc hf4
        · intro _
          exact end_case (by rw [hu 7 (by omega)]; exact T0_0 _ _) (fun _ => o50 f3) (Inv_I hR hM hW (fI_tr f1 (fM_I f3)))
        · intro n
          exact absurd r n
      · rw [if_neg r]
        refine ⟨fun q => absurd rfl q, fun _ => Or.inr (Or.inr ⟨rfl, ?_⟩)⟩
        unfold TX7_fieldFrom
        apply m_one hM hW hc
        refine ⟨fun _ => ?_, fun q => absurd rfl q⟩
        apply m_in4 hf4
        refine ⟨fun _ => ?_, fun q => absurd q (by decide)⟩
        apply m_gather (RM_M hM (T0_M _ 0)) hW
        intro u hu hG
        have f3 := fM_tr (T0_M v 0) (fL_M hu)
        apply m_field (RM_M hM f3) hW hG hc hf4
        · intro n
          exact absurd n r
        · intro _
          exact end_case (T0_0 _ _) (fun q => absurd q (by decide)) (Inv_I hR hM hW (fM_I (fM_tr f3 (T0_M _ _))))
    · intro n
      refine Or.inr (Or.inl ⟨rfl, ?_⟩)
      unfold TX7_fieldFrom
      apply m_one hM hW hc
      refine ⟨fun _ => ?_, fun q => absurd rfl q⟩
      apply m_not4 n
      refine ⟨fun q => absurd rfl q, fun _ => m_fail ?_⟩
      exact end_case (T0_0 _ _) (fun q => absurd q (by decide)) (Inv_I hR hM hW (fM_I (fM_tr (T0_M v 0) (T0_M _ _))))
  · intro n
    refine Or.inl ⟨rfl, ?_⟩
    unfold TX7_fieldFrom
    apply m_oneNo hM hW n
    exact ⟨fun q => absurd q (by decide), fun _ => end_case (T0_0 _ _) (fun q => absurd q (by decide)) (Inv_I hR hM hW (fM_I (T0_M _ _)))⟩
theorem c_gr {a v : gMem} (hR : RC v a) {g : Nat} (hg : g < 4) : v 14 0 g = st (gr a g) := hR.2.2.2.2.2.2.2.2 g hg
theorem t38 : ∀ s1 s2 s3 v, Inv v → TC_38 s1 s2 s3 v Inv := by
  rintro s1 s2 s3 v ⟨a, hR, hM, hW⟩
  have h16 := hW.1.2.2.2.1
  unfold TC_38 TL_personsIn TX6_personsIn
  apply r_group
  · intro g hg e
    rw [e, clI (by omega), c_gr hR hg]
    refine ⟨in_nI hg, ?_⟩
    apply r_personsWith hR hW
    apply r_bitCount
    have f1 := fI_out v (k := 50) 0 0 (nI (fb_ct (pw a (gr a g)) 16)) (by decide)
    unfold TX7_personsIn
    apply m_in4 hg
    refine ⟨fun _ => ?_, fun q => absurd q (by decide)⟩
    have f2 := fI_tr f1 (fM_I (T0_M _ 0))
    apply m_gather (RM_I hM f2) hW
    intro u hu hG
    have f3 := fM_tr (T0_M _ 0) (fL_M hu)
    apply m_persIn (RM_I hM (fI_tr f1 (fM_I f3))) hW hG hg
    exact end_case (by rw [hu 7 (by omega)]; exact T0_0 _ _) (fun _ => o50 f3) (Inv_I hR hM hW (fI_tr f1 (fM_I f3)))
  · intro n
    refine ⟨rfl, ?_⟩
    unfold TX7_personsIn
    apply m_not4 n
    refine ⟨fun q => absurd rfl q, fun _ => m_fail ?_⟩
    exact end_case (T0_0 _ _) (fun q => absurd q (by decide)) (Inv_I hR hM hW (fM_I (T0_M _ _)))
