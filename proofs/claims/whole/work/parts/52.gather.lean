/-! ===== The labels of the class and of the reference ===== -/
theorem fM_gw (v : gMem) {k : Nat} (i j : Nat) (x : Int32) (h : (38 ≤ k ∧ k ≤ 40) ∨ (k = 7 ∧ (j = 0 ∨ 7 ≤ j))) : fM v (gw v k i j x) := by
  constructor
  · intro l hl
    funext i' j'
    unfold gw
    rw [if_neg]
    rintro ⟨q, -, -⟩
    unfold ckind mkind at hl
    omega
  · intro l h1 h2
    unfold gw
    rw [if_neg]
    omega
section
variable {a v : gMem} {X : String → gMem → Prop}
theorem r_min {w : gMem} {Q : Int32 → gMem → Prop} {x y : Nat} (hx : x < 65536) (hy : y < 65536) (h : Q (nI (min x y)) w) : TJ9_min_7cf53 (nI x) (nI y) w Q X := by
  unfold TJ9_min_7cf53 BJ9_min_7cf53_10
  refine ⟨fun n => ?_, fun n => ?_⟩
  · have := (ltI hy hx).mp n
    rw [Nat.min_eq_right (by omega)] at h; exact h
  · have : ¬ y < x := fun q => n ((ltI hy hx).mpr q)
    rw [Nat.min_eq_left (by omega)] at h; exact h
theorem lab_put {w : gMem} {k x y : Nat} {L : Nat → Nat} {n : Nat} (h : ∀ c, c < n → w k 0 c = nI (L c)) : ∀ c, c < n → gw (gw w k 0 x (nI (min (L x) (L y)))) k 0 y (nI (min (L x) (L y))) k 0 c = nI (lp x y L c) := by
  intro c hc
  unfold lp
  by_cases q : c = y
  · rw [q, gw_same, if_pos (Or.inr rfl)]
  · rw [gw_ne _ _ (by omega)]
    by_cases r : c = x
    · rw [r, gw_same, if_pos (Or.inl rfl)]
    · rw [gw_ne _ _ (by omega), h c hc, if_neg (by omega)]
theorem lp_id {L : Nat → Nat} {x y : Nat} (h : L x = L y) : lp x y L = L := by
  funext c
  unfold lp
  split
  · rename_i q
    rcases q with q | q <;> rw [q] <;> omega
  · rfl
theorem c_nm (hR : RC v a) (hW : WF a) : v 3 0 3 = nI (nm a) := by rw [hR.1.2.2.2.2.1]; exact hW.1.2.2.2.2.1
theorem r_labels (hR : RC v a) (hW : WF a) {Q : gMem → Prop} (h : ∀ w, fS v w → (∀ c, c < 16 → w 20 0 c = nI (cp (ed a) c)) → Q w) : TX3_labelByRounds v Q X := by
  have hn := hW.1.2.2.2.1
  have hm30 := hW.1.2.2.2.2.2.1
  have em : ∀ w, fS v w → w 3 0 3 = nI (nm a) := fun w hw => c_nm (RC_S hR hw) hW
  unfold TX3_labelByRounds LX3_labelByRounds_2
  intro I hI
  have key : ∀ k, k ≤ 16 → ∀ w, fS v w → (∀ c, c < k → w 20 0 c = nI c) → I (nI k) w := up_to
    (by
      intro w hw hz
      apply hI
      unfold BX3_labelByRounds_2
      refine ⟨fun _ => ?_, fun n => absurd ((le16 (by decide)).mpr (Nat.le_refl 16)) n⟩
      unfold LX3_labelByRounds_25
      intro J hJ
      have rounds : ∀ r, r ≤ 16 → ∀ b w, fS v w → (∀ c, c < 16 → w 20 0 c = nI (itr a r c)) → (b = false → ∀ c, c < 16 → itr a r c = cp (ed a) c) → J (nb b) (nI r) w := up_to
        (by
          intro b w hw hl _
          apply hJ
          unfold BX3_labelByRounds_25 BX3_labelByRounds_148
          refine ⟨fun _ => ?_, fun n => absurd ((le16 (by decide)).mpr (Nat.le_refl 16)) n⟩
          apply h w hw
          intro c hc
          rw [hl c hc, lab_16 hW hc])
        (by
          intro r hr ih b w hw hl hb
          apply hJ
          unfold BX3_labelByRounds_25 BX3_labelByRounds_148
          refine ⟨fun n => absurd ((le16 (by omega)).mp n) (by omega), fun _ => ⟨fun q => ?_, fun q => ?_⟩⟩
          · rw [nb_0] at q
            apply h w hw
            intro c hc
            rw [hl c hc, hb q c hc]
          · unfold LX3_labelByRounds_39
            intro K hK
            have hLI := LI_it hW r
            have inner : ∀ m, m ≤ nm a → ∀ w, fS v w → (∀ c, c < 16 → w 20 0 c = nI (rdK a (itr a r) m c)) → K (nb (chK a (itr a r) m)) (nI m) w := up_to
              (by
                intro w hw hl
                apply hK
                unfold BX3_labelByRounds_39
                rw [em w hw]
                refine ⟨fun _ => ?_, fun n => absurd ((leI (by omega) (by omega)).mpr (Nat.le_refl _)) n⟩
                rw [nI_1]
                apply ih _ w hw hl
                intro hc c hc16
                show rdK a (itr a r) (nm a) c = _
                rw [ch_no _ hc]
                exact lab_stop hW hLI hc hc16)
              (by
                intro m hm ih2 w hw hl
                apply hK
                have hRw := RC_S hR hw
                have wm := hW.2.2.2.2.2.2.2.1 m hm
                have hrow := hRw.2.2.2.2.2.2.1 m (by omega)
                have e1 : w 17 0 m = nI (m1 a m) := hrow.1.trans wm.1
                have e2 : w 18 0 m = nI (m2 a m) := hrow.2.1.trans wm.2.2.1
                have e3 : w 19 0 m = nb (sd a m) := hrow.2.2.trans wm.2.2.2.2.2
                have hx : m1 a m < 16 := by omega
                have hy : m2 a m < 16 := by omega
                have hL2 := LI_rd hW hLI m (by omega)
                have bx := (hL2 _ hx).1
                have by' := (hL2 _ hy).1
                have ech : chK a (itr a r) (m + 1) = (chK a (itr a r) m || (sd a m && !decide (rdK a (itr a r) m (m1 a m) = rdK a (itr a r) m (m2 a m)))) := an_s m _
                unfold BX3_labelByRounds_39 BX3_labelByRounds_136
                rw [em w hw, clI (by omega), e1, e2, e3, nI_1 m, clI (by omega), clI (by omega), hl _ hx, hl _ hy]
                refine ⟨fun n => absurd ((leI (by omega) (by omega)).mp n) (by omega), fun _ => ⟨in_nI (by omega), fun q => ?_, fun q => ⟨in_nI (by omega), in_nI (by omega), in_nI (by omega), in_nI (by omega), fun s => ?_, fun s => ⟨in_nI (by omega), in_nI (by omega), in_nI (by omega), in_nI (by omega), ?_⟩⟩⟩⟩
                · rw [nb_0] at q
                  have ih3 := ih2 w hw (by rw [rdK_s, q]; exact hl)
                  rw [ech, q, Bool.false_and, Bool.or_false] at ih3
                  exact ih3
                · rw [nb_0] at q
                  have s2 := (eqI (by omega) (by omega)).mp s
                  have ih3 := ih2 w hw (by rw [rdK_s, if_pos (bt' q), lp_id s2]; exact hl)
                  rw [ech, decide_eq_true s2, Bool.not_true, Bool.and_false, Bool.or_false] at ih3
                  exact ih3
                · rw [nb_0] at q
                  have s2 : ¬ rdK a (itr a r) m (m1 a m) = rdK a (itr a r) m (m2 a m) := fun t => s (by rw [t])
                  apply r_min (by omega) (by omega)
                  rw [e1, clI (by omega)]
                  rw [gw_ne w (k' := 18) _ (by omega), e2, clI (by omega)]
                  refine ⟨in_nI (by omega), in_nI (by omega), in_nI (by omega), in_nI (by omega), ?_⟩
                  have ih3 := ih2 (gw (gw w 20 0 (m1 a m) (nI (min (rdK a (itr a r) m (m1 a m)) (rdK a (itr a r) m (m2 a m))))) 20 0 (m2 a m) (nI (min (rdK a (itr a r) m (m1 a m)) (rdK a (itr a r) m (m2 a m))))) (fS_tr hw (fS_tr (fS_gw _ _ _ _ (not_k (by omega))) (fS_gw _ _ _ _ (not_k (by omega))))) (by rw [rdK_s, if_pos (bt' q)]; exact lab_put hl)
                  rw [ech, bt' q, decide_eq_false s2, Bool.not_false, Bool.and_true, Bool.or_true] at ih3
                  exact ih3)
            have := inner 0 (by omega) w hw hl
            have e0 : chK a (itr a r) 0 = false := an_0 _
            rw [e0] at this
            exact this)
      exact rounds 0 (by omega) true w hw hz (fun q => by cases q))
    (by
      intro k hk ih w hw hz
      apply hI
      unfold BX3_labelByRounds_2
      refine ⟨fun n => absurd ((le16 (by omega)).mp n) (by omega), fun _ => ⟨in_nI (by omega), ?_⟩⟩
      rw [clI (by omega), nI_1]
      apply ih
      · exact fS_tr hw (fS_gw _ _ _ _ (not_k (by omega)))
      · intro c hc
        by_cases q : c = k
        · rw [q, gw_same]
        · rw [gw_ne _ _ (by omega)]; exact hz c (by omega))
  exact key 0 (by omega) v (fS_rf v) fun c hc => absurd hc (Nat.not_lt_zero c)
/-! ===== The reference ===== -/
theorem m_nc (hM : RM v a) (hW : WF a) : v 7 0 2 = nI (nc a) := by rw [hM.1 2 (by omega) (by omega)]; exact hW.1.2.2.1
theorem m_nm (hM : RM v a) (hW : WF a) : v 7 0 3 = nI (nm a) := by rw [hM.1 3 (by omega) (by omega)]; exact hW.1.2.2.2.2.1
/-- The reference's labels are gathered. -/
def GA (a w : gMem) : Prop := ∀ c, c < nc a → w 38 0 c = nI (cp (ed a) c)
/-- What gathering may change. -/
def fL (v w : gMem) : Prop := ∀ k, k ≠ 38 → w k = v k
theorem fL_rf (v : gMem) : fL v v := fun _ _ => rfl
theorem fL_tr {v w u : gMem} (h : fL v w) (h2 : fL w u) : fL v u := fun k hk => (h2 k hk).trans (h k hk)
theorem fL_M {v w : gMem} (h : fL v w) : fM v w := ⟨fun k hk => h k (by unfold ckind mkind at hk; omega), fun j _ _ => by rw [h 7 (by omega)]⟩
theorem fL_gw (v : gMem) (i j : Nat) (x : Int32) : fL v (gw v 38 i j x) := by
  intro l hl
  funext i' j'
  unfold gw
  rw [if_neg]
  rintro ⟨q, -, -⟩
  exact hl q
theorem m_gather (hM : RM v a) (hW : WF a) {Q : gMem → Prop} (h : ∀ w, fL v w → GA a w → Q w) : TX7_gather v Q X := by
  have hn := hW.1.2.2.2.1
  have hm30 := hW.1.2.2.2.2.2.1
  have en : ∀ w, fL v w → w 7 0 2 = nI (nc a) := fun w hw => m_nc (RM_M hM (fL_M hw)) hW
  have em : ∀ w, fL v w → w 7 0 3 = nI (nm a) := fun w hw => m_nm (RM_M hM (fL_M hw)) hW
  unfold TX7_gather LX7_gather_2
  intro I hI
  have key : ∀ k, k ≤ nc a → ∀ w, fL v w → (∀ c, c < k → w 38 0 c = nI c) → I (nI k) w := up_to
    (by
      intro w hw hz
      apply hI
      unfold BX7_gather_2
      rw [en w hw]
      refine ⟨fun _ => ?_, fun n => absurd ((leI (by omega) (by omega)).mpr (Nat.le_refl _)) n⟩
      unfold LX7_gather_25
      intro J hJ
      have rounds : ∀ s r b w, (b = true → fb_sm (itr a r) 16 < s) → fL v w → (∀ c, c < nc a → w 38 0 c = nI (itr a r c)) → (b = false → ∀ c, c < 16 → itr a r c = cp (ed a) c) → J (nb b) w := by
        intro s
        induction s with
        | zero =>
          intro r b w hs hw hl hb
          apply hJ
          unfold BX7_gather_25
          refine ⟨fun q => ?_, fun q => ?_⟩
          · rw [nb_0] at q
            apply h w hw
            intro c hc
            rw [hl c hc, hb q c (by omega)]
          · rw [nb_0] at q
            exact absurd (hs (bt' q)) (Nat.not_lt_zero _)
        | succ s ih =>
          intro r b w hs hw hl hb
          apply hJ
          unfold BX7_gather_25
          refine ⟨fun q => ?_, fun q => ?_⟩
          · rw [nb_0] at q
            apply h w hw
            intro c hc
            rw [hl c hc, hb q c (by omega)]
          · rw [nb_0] at q
            have hs := hs (bt' q)
            unfold LX7_gather_33
            intro K hK
            have hLI := LI_it hW r
            have inner : ∀ m, m ≤ nm a → ∀ w, fL v w → (∀ c, c < nc a → w 38 0 c = nI (rdK a (itr a r) m c)) → K (nb (chK a (itr a r) m)) (nI m) w := up_to
              (by
                intro w hw hl
                apply hK
                unfold BX7_gather_33
                rw [em w hw]
                refine ⟨fun _ => ?_, fun n => absurd ((leI (by omega) (by omega)).mpr (Nat.le_refl _)) n⟩
                apply ih (r + 1) _ w ?_ hw hl
                · intro hc c hc16
                  show rdK a (itr a r) (nm a) c = _
                  rw [ch_no _ hc]
                  exact lab_stop hW hLI hc hc16
                · intro hc
                  have := ch_yes hW hc
                  show fb_sm (rdK a (itr a r) (nm a)) 16 < s
                  omega)
              (by
                intro m hm ih2 w hw hl
                apply hK
                have hMw := RM_M hM (fL_M hw)
                have wm := hW.2.2.2.2.2.2.2.1 m hm
                have e1 : w 36 0 m = nI (m1 a m) := (hMw.2 36 (by unfold mkind; omega) m).trans wm.1
                have e2 : w 37 0 m = nI (m2 a m) := (hMw.2 37 (by unfold mkind; omega) m).trans wm.2.2.1
                have e3 : w 43 0 m = nb (sd a m) := (hMw.2 43 (by unfold mkind; omega) m).trans wm.2.2.2.2.2
                have hx : m1 a m < 16 := by omega
                have hy : m2 a m < 16 := by omega
                have hL2 := LI_rd hW hLI m (by omega)
                have bx := (hL2 _ hx).1
                have by' := (hL2 _ hy).1
                have ech : chK a (itr a r) (m + 1) = (chK a (itr a r) m || (sd a m && !decide (rdK a (itr a r) m (m1 a m) = rdK a (itr a r) m (m2 a m)))) := an_s m _
                have put : sd a m = true → ¬ rdK a (itr a r) m (m1 a m) = rdK a (itr a r) m (m2 a m) → ∀ z, z = min (rdK a (itr a r) m (m1 a m)) (rdK a (itr a r) m (m2 a m)) → BX7_gather_128 J K (nI m) (nI z) w Q X := by
                  intro hsd hne z hz
                  unfold BX7_gather_128 BX7_gather_155
                  rw [clI (by omega), e1, clI (by omega), gw_ne w (k' := 37) _ (by omega), e2, clI (by omega), nI_1 m, hz]
                  refine ⟨in_nI (by omega), in_nI (by omega), in_nI (by omega), in_nI (by omega), ?_⟩
                  have ih3 := ih2 (gw (gw w 38 0 (m1 a m) (nI (min (rdK a (itr a r) m (m1 a m)) (rdK a (itr a r) m (m2 a m))))) 38 0 (m2 a m) (nI (min (rdK a (itr a r) m (m1 a m)) (rdK a (itr a r) m (m2 a m))))) (fL_tr hw (fL_tr (fL_gw _ _ _ _) (fL_gw _ _ _ _))) (by rw [rdK_s, if_pos hsd]; exact lab_put hl)
                  rw [ech, hsd, decide_eq_false hne, Bool.not_false, Bool.and_true, Bool.or_true] at ih3
                  exact ih3
                unfold BX7_gather_33 BX7_gather_155
                rw [em w hw, clI (by omega), e1, e2, e3, nI_1 m, clI (by omega), clI (by omega), hl _ wm.2.1, hl _ wm.2.2.2.1]
                refine ⟨fun n => absurd ((leI (by omega) (by omega)).mp n) (by omega), fun _ => ⟨in_nI (by omega), fun q => ?_, fun q => ⟨in_nI (by omega), in_nI (by omega), in_nI (by omega), in_nI (by omega), fun s => ⟨in_nI (by omega), in_nI (by omega), in_nI (by omega), in_nI (by omega), fun t => ⟨in_nI (by omega), in_nI (by omega), ?_⟩, fun t => ⟨in_nI (by omega), in_nI (by omega), ?_⟩⟩, fun s => ?_⟩⟩⟩
                · rw [nb_0] at q
                  have ih3 := ih2 w hw (by rw [rdK_s, q]; exact hl)
                  rw [ech, q, Bool.false_and, Bool.or_false] at ih3
                  exact ih3
                · rw [nb_0] at q
                  have s2 : ¬ rdK a (itr a r) m (m1 a m) = rdK a (itr a r) m (m2 a m) := fun t => s (by rw [t])
                  have t2 := (leI (by omega) (by omega)).mp t
                  exact put (bt' q) s2 _ (by omega)
                · rw [nb_0] at q
                  have s2 : ¬ rdK a (itr a r) m (m1 a m) = rdK a (itr a r) m (m2 a m) := fun t => s (by rw [t])
                  have t2 : ¬ rdK a (itr a r) m (m2 a m) ≤ rdK a (itr a r) m (m1 a m) := fun u => t ((leI (by omega) (by omega)).mpr u)
                  exact put (bt' q) s2 _ (by omega)
                · rw [nb_0] at q
                  have s2 := (eqI (by omega) (by omega)).mp s
                  have ih3 := ih2 w hw (by rw [rdK_s, if_pos (bt' q), lp_id s2]; exact hl)
                  rw [ech, decide_eq_true s2, Bool.not_true, Bool.and_false, Bool.or_false] at ih3
                  exact ih3)
            have := inner 0 (by omega) w hw hl
            have e0 : chK a (itr a r) 0 = false := an_0 _
            rw [e0] at this
            exact this
      exact rounds (fb_sm (itr a 0) 16 + 1) 0 true w (fun _ => Nat.lt_succ_self _) hw hz (fun q => by cases q))
    (by
      intro k hk ih w hw hz
      apply hI
      unfold BX7_gather_2
      rw [en w hw]
      refine ⟨fun n => absurd ((leI (by omega) (by omega)).mp n) (by omega), fun _ => ⟨in_nI (by omega), ?_⟩⟩
      rw [clI (by omega), nI_1]
      apply ih
      · exact fL_tr hw (fL_gw _ _ _ _)
      · intro c hc
        by_cases q : c = k
        · rw [q, gw_same]
        · rw [gw_ne _ _ (by omega)]; exact hz c (by omega))
  exact key 0 (by omega) v (fL_rf v) fun c hc => absurd hc (Nat.not_lt_zero c)
end
