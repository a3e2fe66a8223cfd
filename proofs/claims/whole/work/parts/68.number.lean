/-! ===== number ===== -/
theorem one3 {x : Int32} : (∃ f, 1 ≤ f ∧ f < 4 ∧ x = nI f) ∨ (∀ f, 1 ≤ f → f < 4 → ¬ x = nI f) ∧ (x < 1 ∨ 4 ≤ x) ∧ ¬ (1 ≤ x ∧ x ≤ 3) := by
  rcases in_or x (n := 4) (by decide) with ⟨f, hf4, e⟩ | ⟨h1, h2, h3⟩
  · by_cases q : f = 0
    · refine Or.inr ⟨fun g g1 g4 e2 => ?_, Or.inl ?_, fun r => ?_⟩
      · rw [e, q] at e2
        have := (eqI (by omega) (by omega)).mp e2
        omega
      · rw [e, q]; decide
      · rw [e, q] at r; exact absurd r.1 (by decide)
    · exact Or.inl ⟨f, by omega, hf4, e⟩
  · rw [four1] at h3
    refine Or.inr ⟨fun g _ g4 e2 => h1 g g4 e2, ?_, fun r => h3 ⟨?_, r.2⟩⟩
    · rcases h2 with h2 | h2
      · refine Or.inl ?_
        rw [Int32.lt_iff_toInt_lt] at h2 ⊢
        have e0 : (0 : Int32).toInt = 0 := by decide
        have e1 : (1 : Int32).toInt = 1 := by decide
        omega
      · exact Or.inr h2
    · have := r.1
      rw [Int32.le_iff_toInt_le] at this ⊢
      have e0 : (0 : Int32).toInt = 0 := by decide
      have e1 : (1 : Int32).toInt = 1 := by decide
      omega
section
variable {v : gMem} {Q : gMem → Prop} {X : String → gMem → Prop}
theorem r_numfield {x : Int32} (hy : ∀ f, 1 ≤ f → f < 4 → x = nI f → Q v) (hn : (∀ f, 1 ≤ f → f < 4 → ¬ x = nI f) → X "java/lang/IllegalArgumentException" v) : TX6_requireNumberField x v Q X := by
  unfold TX6_requireNumberField BX6_requireNumberField_10
  rcases one3 (x := x) with ⟨f, f1, f4, e⟩ | ⟨h1, h2, _⟩
  · refine ⟨fun q => ?_, fun _ => ⟨fun _ => hy f f1 f4 e, fun q => ?_⟩⟩
    · rw [e] at q; exact absurd ((ltI (b := 1) (by omega) (by decide)).mp q) (by omega)
    · rw [e] at q; exact absurd ((ltI (b := 4) (by omega) (by decide)).mpr f4) q
  · refine ⟨fun _ => hn h1, fun q => ⟨fun r => ?_, fun _ => hn h1⟩⟩
    rcases h2 with h2 | h2
    · exact absurd h2 q
    · exact absurd h2 (ltn r)
theorem m_in13 {w : gMem} {Q : Int32 → gMem → Prop} {f : Nat} (h1 : 1 ≤ f) (hf : f < 4) (h : Q 1 w) : TX7_isWithin (nI f) 1 3 w Q X :=
  m_within (fun _ _ => h) fun n => absurd ⟨(leI (a := 1) (by decide) (by omega)).mpr h1, (leI (b := 3) (by omega) (by decide)).mpr (by omega)⟩ n
theorem m_not13 {w : gMem} {Q : Int32 → gMem → Prop} {x : Int32} (hn : ∀ f, 1 ≤ f → f < 4 → ¬ x = nI f) (h : Q 0 w) : TX7_isWithin x 1 3 w Q X := by
  rcases one3 (x := x) with ⟨c, h1, hc, e⟩ | ⟨_, _, h3⟩
  · exact absurd e (hn c h1 hc)
  · exact m_within (fun q1 q2 => absurd ⟨q1, q2⟩ h3) fun _ => h
end
theorem t10 : ∀ s1 s2 s3 v, Inv v → TC_10 s1 s2 s3 v Inv := by
  rintro s1 s2 s3 v ⟨a, hR, hM, hW⟩
  have h16 := hW.1.2.2.2.1
  unfold TC_10 TL_number TX6_number
  apply r_card hR hW
  · intro c hc e
    rw [e]
    apply r_numfield
    · intro f f1 f4 e2
      rw [e2, clI (by omega), clI (by omega), c_nu hR hW hc f1 f4]
      refine ⟨in_nI (by omega), in_nI (by omega), ?_⟩
      have g1 := fI_out v (k := 50) 0 0 (nu a c f) (by decide)
      unfold TX7_number
      apply m_one (RM_I hM g1) hW hc
      refine ⟨fun _ => ?_, fun q => absurd rfl q⟩
      apply m_in13 f1 f4
      refine ⟨fun _ => ?_, fun q => absurd q (by decide)⟩
      have f2 := fI_tr g1 (fM_I (T0_M _ 0))
      rw [x4, clI (by omega), m_nu (RM_I hM f2)]
      exact ⟨in_nI (by omega), end_case (T0_0 _ _) (fun _ => o50 (T0_M _ 0)) (Inv_I hR hM hW f2)⟩
    · intro n
      refine Or.inr ⟨rfl, ?_⟩
      unfold TX7_number
      apply m_one hM hW hc
      refine ⟨fun _ => ?_, fun q => absurd rfl q⟩
      apply m_not13 n
      refine ⟨fun q => absurd rfl q, fun _ => m_fail ?_⟩
      exact end_case (T0_0 _ _) (fun q => absurd q (by decide)) (Inv_I hR hM hW (fM_I (fM_tr (T0_M v 0) (T0_M _ _))))
  · intro n
    refine Or.inl ⟨rfl, ?_⟩
    unfold TX7_number
    apply m_oneNo hM hW n
    exact ⟨fun q => absurd q (by decide), fun _ => end_case (T0_0 _ _) (fun q => absurd q (by decide)) (Inv_I hR hM hW (fM_I (T0_M _ _)))⟩
