/-! ===== What holds between the calls ===== -/
def Inv (v : gMem) : Prop := ∃ a, RC v a ∧ RM v a ∧ WF a
def fI (v w : gMem) : Prop := (∀ k, ckind k ∨ mkind k → w k = v k) ∧ ∀ j, 1 ≤ j → j ≤ 6 → w 7 0 j = v 7 0 j
theorem fI_rf (v : gMem) : fI v v := ⟨fun _ _ => rfl, fun _ _ _ => rfl⟩
theorem fI_tr {v w u : gMem} (h : fI v w) (h2 : fI w u) : fI v u := ⟨fun k hk => (h2.1 k hk).trans (h.1 k hk), fun j h3 h4 => (h2.2 j h3 h4).trans (h.2 j h3 h4)⟩
theorem fS_I {v w : gMem} (h : fS v w) : fI v w := ⟨fun k hk => h k (by unfold ckind mkind at *; omega), fun j _ _ => by rw [h 7 (Or.inr (Or.inr rfl))]⟩
theorem fM_I {v w : gMem} (h : fM v w) : fI v w := ⟨fun k hk => h.1 k (by unfold ckind mkind at *; omega), h.2⟩
theorem fI_out (v : gMem) {k : Nat} (i j : Nat) (x : Int32) (hk : 50 ≤ k) : fI v (gw v k i j x) := by
  constructor
  · intro l hl
    funext i' j'
    unfold gw
    rw [if_neg]
    rintro ⟨q, -, -⟩
    unfold ckind mkind at hl
    omega
  · intro l h1 h2
    unfold gw
    rw [if_neg]
    omega
theorem RC_I {v w a : gMem} (h : RC v a) (f : fI v w) : RC w a := RC_of h fun k hk => f.1 k (Or.inl hk)
theorem RM_I {v w a : gMem} (h : RM v a) (f : fI v w) : RM w a := ⟨fun j h1 h2 => by rw [f.2 j h1 h2, h.1 j h1 h2], fun k hk j => by rw [f.1 k (Or.inr hk), h.2 k hk j]⟩
theorem Inv_I {v w a : gMem} (h1 : RC v a) (h2 : RM v a) (h3 : WF a) (f : fI v w) : Inv w := ⟨a, RC_I h1 f, RM_I h2 f, h3⟩
theorem cmp_same (x : Int64) : lg_cmp x x = 0 := by
  unfold lg_cmp
  simp
/-- The end of a case: the reference's mark, and the answer. -/
theorem end_case {Q : gMem → Prop} {r b : Int32} {w : gMem} (h7 : w 7 0 0 = r) (h50 : r = 0 → w 50 0 0 = b) (hq : Q w) : TX7_thrown w (fun t u => ((t = r → ((¬ r = 0 → (Q u)) ∧ (r = 0 → (((lg_cmp (Int32.toInt64 (u 50 0 0)) (Int32.toInt64 b)) = 0 → (Q u)) ∧ (¬ (lg_cmp (Int32.toInt64 (u 50 0 0)) (Int32.toInt64 b)) = 0 → False))))) ∧ (¬ t = r → False))) (fun _ _ => False) := by
  unfold TX7_thrown
  refine ⟨fun _ => ⟨fun _ => hq, fun z => ⟨fun _ => hq, fun n => n ?_⟩⟩, fun n => n h7⟩
  rw [h50 z]
  exact cmp_same _
section
variable {a v : gMem} {Q : gMem → Prop} {X : String → gMem → Prop}
theorem r_card (hR : RC v a) (hW : WF a) {x : Int32} (hy : ∀ c, c < nc a → x = nI c → Q v) (hn : (∀ c, c < nc a → ¬ x = nI c) → X "java/lang/IndexOutOfBoundsException" v) : TX6_requireCard x v Q X := by
  have h16 := hW.1.2.2.2.1
  unfold TX6_requireCard BX6_requireCard_12
  rw [c_nc hR hW]
  rcases in_or x (n := nc a) (by omega) with ⟨c, hc, e⟩ | ⟨h1, h2, _⟩
  · refine ⟨fun q => ?_, fun _ => ⟨fun _ => hy c hc e, fun q => ?_⟩⟩
    · rw [e] at q; exact absurd q (nI_pos (by omega))
    · rw [e] at q; exact absurd ((ltI (by omega) (by omega)).mpr hc) q
  · refine ⟨fun _ => hn h1, fun q => ⟨fun r => ?_, fun _ => hn h1⟩⟩
    rcases h2 with h2 | h2
    · exact absurd h2 q
    · exact absurd h2 (ltn r)
theorem r_cards (hR : RC v a) (hW : WF a) {x y : Int32} (hy : ∀ c d, c < nc a → d < nc a → x = nI c → y = nI d → Q v) (hn : ¬ (∃ c d, c < nc a ∧ d < nc a ∧ x = nI c ∧ y = nI d) → X "java/lang/IndexOutOfBoundsException" v) : TX6_requireCards x y v Q X := by
  unfold TX6_requireCards
  apply r_card hR hW
  · intro c hc e
    apply r_card hR hW
    · intro d hd e2
      exact hy c d hc hd e e2
    · intro h
      exact hn fun ⟨c, d, _, hd, _, e2⟩ => h d hd e2
  · intro h
    exact hn fun ⟨c, d, hc, _, e, _⟩ => h c hc e
end
/-! ===== cards, nameLength, candidates ===== -/
theorem t3 : ∀ s1 s2 s3 v, Inv v → TC_3 s1 s2 s3 v Inv := by
  rintro s1 s2 s3 v ⟨a, hR, hM, hW⟩
  unfold TC_3 TX6_cards TX7_cards
  rw [c_nc hR hW]
  show (nI (nc a) = v 7 0 2 → _) ∧ (¬ nI (nc a) = v 7 0 2 → _)
  rw [m_nc hM hW]
  exact ⟨fun _ => ⟨a, hR, hM, hW⟩, fun n => n rfl⟩
theorem t7 : ∀ s1 s2 s3 v, Inv v → TC_7 s1 s2 s3 v Inv := by
  rintro s1 s2 s3 v ⟨a, hR, hM, hW⟩
  have h16 := hW.1.2.2.2.1
  unfold TC_7 TL_nameLength TX6_nameLength
  apply r_card hR hW
  · intro c hc e
    have hl := c_ln hR hW (i := c) (by omega)
    have f := fI_out v (k := 50) 0 0 (nI (ln a c)) (by decide)
    rw [e, clI (by omega), hl.1]
    refine ⟨in_nI (by omega), ?_⟩
    unfold TX7_nameLength BX7_nameLength_18
    apply m_noCard (RM_I hM f) hW
    · intro d hd e2
      have hcd : c = d := (eqI (by omega) (by omega)).mp e2
      refine ⟨fun _ => ⟨in_nI (by omega), ?_⟩, fun q => absurd rfl q⟩
      have f2 := fI_tr f (fM_I (T0_M _ 0))
      rw [clI (by omega), (m_ln (RM_I hM f2) hW (c := c) (by omega)).1]
      apply end_case (T0_0 _ _)
      · intro _
        unfold T0
        rw [gw_ne _ _ (by omega), gw_same]
      · exact Inv_I hR hM hW f2
    · intro h
      exact absurd rfl (h c hc)
  · intro h
    refine ⟨rfl, ?_⟩
    unfold TX7_nameLength BX7_nameLength_18
    apply m_noCard hM hW
    · intro c hc e
      exact absurd e (h c hc)
    · intro _
      refine ⟨fun q => absurd q (by decide), fun _ => ?_⟩
      apply end_case (T0_0 _ _)
      · intro q; exact absurd q (by decide)
      · exact Inv_I hR hM hW (fM_I (T0_M _ _))
theorem t14 : ∀ s1 s2 s3 v, Inv v → TC_14 s1 s2 s3 v Inv := by
  rintro s1 s2 s3 v ⟨a, hR, hM, hW⟩
  unfold TC_14
  apply r_candidates hR hW
  apply m_candidates hM hW
  intro w hw _
  exact ⟨fun _ => Inv_I hR hM hW (fM_I hw), fun n => n rfl⟩
