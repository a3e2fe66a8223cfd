/-! ===== Rules of the reference's methods on candidates ===== -/
theorem nb_or (x y : Bool) : nb x ||| nb y = nb (x || y) := by cases x <;> cases y <;> decide
theorem GA_Q {a v w : gMem} (h : GA a v) (f : fQ v w) : GA a w := fun c hc => by rw [f.1 38 (by omega) (by omega)]; exact h c hc
section
variable {a v : gMem} {X : String → gMem → Prop}
theorem sh_both {c d f : Nat} (h1 : 1 ≤ f) : (hs a c f && (hs a d f && ag a c d f)) = sh a c d f := by
  unfold sh
  cases q : ag a c d f
  · simp
  · have e : hs a d f = hs a c f := by
      unfold ag at q
      rw [if_neg (by omega), decide_eq_true_iff] at q
      unfold hs
      rw [if_neg (by omega), if_neg (by omega), q]
    rw [e]; cases hs a c f <;> rfl
theorem m_cand (hM : RM v a) (hW : WF a) (hG : GA a v) {Q : Int32 → gMem → Prop} {c d : Nat} (hc : c < nc a) (hd : d < nc a) (h : ∀ w, fQ v w → Q (nb (cd a c d)) w) : TX7_areCandidates (nI c) (nI d) v Q X := by
  have hn := hW.1.2.2.2.1
  have hl := m_ln hM hW (c := c) (by omega)
  have hl2 := m_ln hM hW (c := d) (by omega)
  unfold TX7_areCandidates
  rw [clI (by omega), clI (by omega), hG c hc, hG d hd, hl.1, hl2.1]
  refine ⟨in_nI (by omega), in_nI (by omega), fun n => ⟨in_nI (by omega), in_nI (by omega), ?_⟩, fun n => ?_⟩
  · have ncn : cn (ed a) c d = false := bf fun q => n ((cpI hW hd hc).mpr q).symm
    apply m_sameSound hM hW (by omega) (by omega)
    intro w hw
    unfold LX7_areCandidates_39
    intro I hI
    have key : ∀ f, f ≤ 3 → 1 ≤ f → ∀ b w, fQ v w → (b || (an 3 (fun g => decide (f ≤ g) && sh a c d g))) = ky a c d → I (nb b) (nI f) w := up_to
      (by
        intro _ b w hw hb
        have hb : b = ky a c d := by
          rw [← hb, an_f.mpr fun y hy => by rw [decide_eq_false (by omega)]; rfl, Bool.or_false]
        apply hI
        unfold BX7_areCandidates_39 BX7_areCandidates_130 BX7_areCandidates_131
        refine ⟨fun _ => ⟨fun q => ?_, fun q => ?_⟩, fun n => absurd ((leI (a := 3) (b := 3) (by decide) (by decide)).mpr (Nat.le_refl 3)) n⟩
        · rw [nb_0] at q
          have := h w hw
          unfold cd at this
          rw [← hb, q] at this
          exact ⟨nar0, this⟩
        · rw [nb_0] at q
          have hk : ky a c d = true := by rw [← hb]; exact bt' q
          apply m_scoreOf (RM_M hM (fQ_M hw)) hW hc hd
          intro u hu
          have hvu := fQ_tr hw hu
          have hMu := RM_M hM (fQ_M hvu)
          rw [hMu.1 5 (by omega) (by omega)]
          refine ⟨fun r => ?_, fun r => ⟨in_nI (by omega), in_nI (by omega), ?_⟩⟩
          · have := h u hvu
            unfold cd th at this
            rw [decide_eq_false (ltn r), Bool.false_and, Bool.and_false] at this
            exact ⟨nar0, this⟩
          · have hGu := GA_Q hG hvu
            rw [clI (by omega), clI (by omega), hGu c hc, hGu d hd]
            apply m_isBarred hMu hW hGu hc hd
            · intro e
              refine ⟨fun s => absurd rfl s, fun _ => ?_⟩
              have := h u hvu
              unfold cd th mg at this
              rw [hk, decide_eq_true (nlt r), ncn, e] at this
              exact ⟨nar1, this⟩
            · intro e _ _
              refine ⟨fun _ => ?_, fun s => absurd s (by decide)⟩
              have := h _ (fQ_tr hvu (fQ_tr (fQ_gw u 0 7 (nI (b1 a c d)) (Or.inr ⟨rfl, by omega⟩)) (fQ_gw _ 0 8 (nI (b2 a c d)) (Or.inr ⟨rfl, by omega⟩))))
              unfold cd mg at this
              rw [e, Bool.not_true, Bool.and_false, Bool.and_false, Bool.and_false] at this
              exact ⟨nar0, this⟩)
      (by
        intro f hf ih h1 b w hw hb
        have hMw := RM_M hM (fQ_M hw)
        apply hI
        unfold BX7_areCandidates_39 BX7_areCandidates_81 BX7_areCandidates_82
        have ih := ih (by omega)
        have step : ∀ x, x = sh a c d f → I (nb (b || x)) (nI (f + 1)) w := fun x hx => by
          apply ih _ w hw
          rw [← hb, hx, Bool.or_assoc]
          congr 1
          rw [an_s, an_s, an_s, an_0, an_s, an_s, an_s, an_0]
          have : f = 1 ∨ f = 2 := by omega
          rcases this with e | e <;> subst e <;> simp
        refine ⟨fun n => absurd ((leI (a := 3) (by decide) (by omega)).mp n) (by omega), fun _ => ?_⟩
        rw [nI_1]
        apply m_has hMw hW hc (by omega)
        refine ⟨fun q => ?_, fun q => ?_⟩
        · rw [nb_0] at q
          have := step false (by rw [← sh_both h1, q]; rfl)
          rw [← nb_or] at this
          exact this
        · rw [nb_0] at q
          apply m_has hMw hW hd (by omega)
          refine ⟨fun r => ?_, fun r => ?_⟩
          · rw [nb_0] at r
            have := step false (by rw [← sh_both h1, r]; simp)
            rw [← nb_or] at this
            exact this
          · rw [nb_0] at r
            apply m_isSame hMw hW hc hd (by omega)
            refine ⟨fun s => ?_, fun s => ?_⟩
            · rw [nb_0] at s
              have := step false (by rw [← sh_both h1, s]; simp)
              rw [← nb_or] at this
              exact this
            · rw [nb_0] at s
              have := step true (by rw [← sh_both h1, bt' q, bt' r, bt' s]; rfl)
              rw [← nb_or] at this
              exact this)
    refine key 1 (by omega) (by omega) _ w hw ?_
    unfold ky
    rw [an_s, an_s, an_s, an_0]
    cases ss a c d <;> cases sh a c d 1 <;> cases sh a c d 2 <;> rfl
  · have ncn : cn (ed a) c d = true := (cpI hW hd hc).mp n.symm
    have := h v (fQ_rf v)
    unfold cd mg at this
    rw [ncn, Bool.not_true, Bool.false_and, Bool.and_false, Bool.and_false] at this
    exact this
theorem m_candidates (hM : RM v a) (hW : WF a) {Q : Int32 → gMem → Prop} (h : ∀ w, fM v w → w 7 0 0 = v 7 0 0 → Q (nI (tc a (nc a))) w) : TX7_candidates v Q X := by
  have hn := hW.1.2.2.2.1
  unfold TX7_candidates
  apply m_gather hM hW
  intro v0 hv0 hG
  have hM0 := RM_M hM (fL_M hv0)
  have en : ∀ w, fQ v0 w → w 7 0 2 = nI (nc a) := fun w hw => m_nc (RM_M hM0 (fQ_M hw)) hW
  unfold LX7_candidates_8
  intro I hI
  have key : ∀ k, k ≤ nc a → ∀ w, fQ v0 w → I (nI (tc a k)) (nI k) w := up_to
    (by
      intro w hw
      apply hI
      unfold BX7_candidates_8
      rw [en w hw]
      refine ⟨fun _ => h w (fM_tr (fL_M hv0) (fQ_M hw)) (by rw [hw.2 0 (by omega), hv0 7 (by omega)]), fun n => absurd ((leI (by omega) (by omega)).mpr (Nat.le_refl _)) n⟩)
    (by
      intro k hk ih w hw
      apply hI
      unfold BX7_candidates_8
      rw [en w hw]
      refine ⟨fun n => absurd ((leI (by omega) (by omega)).mp n) (by omega), fun _ => ?_⟩
      unfold LX7_candidates_20
      intro J hJ
      have inner : ∀ j, j ≤ nc a → k < j → ∀ w, fQ v0 w → J (nI (tc a k + rc a k j)) (nI j) w := up_to
        (by
          intro _ w hw
          apply hJ
          unfold BX7_candidates_20
          rw [en w hw]
          refine ⟨fun _ => ?_, fun n => absurd ((leI (by omega) (by omega)).mpr (Nat.le_refl _)) n⟩
          rw [nI_1, ← tc_s]
          exact ih w hw)
        (by
          intro j hj ih2 hkj w hw
          apply hJ
          unfold BX7_candidates_20 BX7_candidates_43
          rw [en w hw]
          refine ⟨fun n => absurd ((leI (by omega) (by omega)).mp n) (by omega), fun _ => ?_⟩
          have ih2 := ih2 (by omega)
          rw [rc_s a hkj] at ih2
          apply m_cand (RM_M hM0 (fQ_M hw)) hW (GA_Q hG hw) hk hj
          intro u hu
          have ih2 := ih2 u (fQ_tr hw hu)
          rw [nI_1 j]
          refine ⟨fun n => ?_, fun n => ?_⟩
          · rw [nb_0] at n; rw [n] at ih2
            rw [i0, nI_add]; exact ih2
          · rw [nb_0] at n; rw [bt' n] at ih2
            rw [nI_1]; exact ih2)
      have := inner (k + 1) (by omega) (by omega) w hw
      rw [rc_0, Nat.add_zero] at this
      rw [nI_1]
      exact this)
  exact key 0 (by omega) v0 (fQ_rf v0)
theorem bs_in (hW : WF a) : ∀ i, i ≤ nc a → (allB a i).1 < 16 → (allB a i).1 < nc a ∧ (allB a i).2 < nc a := by
  have hn := hW.1.2.2.2.1
  have row : ∀ s : Nat × Nat, (s.1 < 16 → s.1 < nc a ∧ s.2 < nc a) → ∀ c, c < nc a → ∀ j, j ≤ nc a → (rowB a s c j).1 < 16 → (rowB a s c j).1 < nc a ∧ (rowB a s c j).2 < nc a := by
    intro s hs c hc j
    induction j with
    | zero => intro _ h; exact hs h
    | succ j ih =>
      intro hj
      unfold rowB
      split
      · unfold stepB
        split
        · intro _; exact ⟨hc, by omega⟩
        · exact ih (by omega)
      · exact ih (by omega)
  intro i
  induction i with
  | zero => intro _ h; exact absurd (show (16 : Nat) < 16 from h) (by decide)
  | succ i ih => intro hi h; exact row _ (ih (by omega)) i (by omega) _ (Nat.le_refl _) h
def lo (s : Nat × Nat) : Int32 := if s.1 < 16 then nI s.1 else -1
def hi (s : Nat × Nat) : Int32 := if s.1 < 16 then nI s.2 else -1
theorem m_noBest (hM : RM v a) (hW : WF a) {Q : Int32 → gMem → Prop} (h1 : ∀ w, fM v w → w 7 0 0 = 0 → w 7 0 7 = nI (bs a).1 → w 7 0 8 = nI (bs a).2 → (bs a).1 < nc a → (bs a).2 < nc a → Q 0 w) (h0 : ∀ w, fM v w → w 7 0 0 = 1 → ¬ (bs a).1 < 16 → Q 1 w) : TX7_noBest v Q X := by
  have hn := hW.1.2.2.2.1
  unfold TX7_noBest
  apply m_gather hM hW
  intro v0 hv0 hG
  have hM0 := RM_M hM (fL_M hv0)
  have en : ∀ w, fQ v0 w → w 7 0 2 = nI (nc a) := fun w hw => m_nc (RM_M hM0 (fQ_M hw)) hW
  unfold LX7_noBest_10
  intro I hI
  have key : ∀ k, k ≤ nc a → ∀ w, fQ v0 w → I (lo (allB a k)) (hi (allB a k)) (nI k) w := up_to
    (by
      intro w hw
      apply hI
      unfold BX7_noBest_10
      rw [en w hw]
      refine ⟨fun _ => ?_, fun n => absurd ((leI (by omega) (by omega)).mpr (Nat.le_refl _)) n⟩
      have hin := bs_in hW (nc a) (Nat.le_refl _)
      have hvw := fM_tr (fL_M hv0) (fQ_M hw)
      have e : allB a (nc a) = bs a := rfl
      rw [e] at hin ⊢
      have f7 : ∀ x y, fM v (gw (gw w 7 0 7 x) 7 0 8 y) := fun x y => fM_tr hvw (fM_tr (fM_gw _ _ _ _ (by omega)) (fM_gw _ _ _ _ (by omega)))
      by_cases q : (bs a).1 < 16
      · have hb := hin q
        unfold BX7_noBest_102 BX7_noBest_114 lo hi
        rw [if_pos q, if_pos q]
        refine ⟨fun _ => ⟨fun _ => ⟨nar0, ?_⟩, fun r => absurd (nI_pos' (by omega)) r⟩, fun r => absurd (nI_pos' (by omega)) r⟩
        apply h1 _ (fM_tr (f7 _ _) (fM_gw _ _ _ _ (by omega))) (gw_same _ _ _ _ _)
        · rw [gw_ne _ _ (by omega), gw_ne _ _ (by omega), gw_same]
        · rw [gw_ne _ _ (by omega), gw_same]
        · exact hb.1
        · exact hb.2
      · unfold BX7_noBest_102 BX7_noBest_114 lo hi
        rw [if_neg q, if_neg q]
        refine ⟨fun r => absurd r (by decide), fun _ => ⟨fun r => absurd r (by decide), fun _ => ⟨nar1, ?_⟩⟩⟩
        exact h0 _ (fM_tr (f7 _ _) (fM_gw _ _ _ _ (by omega))) (gw_same _ _ _ _ _) q)
    (by
      intro k hk ih w hw
      apply hI
      unfold BX7_noBest_10
      rw [en w hw]
      refine ⟨fun n => absurd ((leI (by omega) (by omega)).mp n) (by omega), fun _ => ?_⟩
      unfold LX7_noBest_23
      intro J hJ
      have hin := bs_in hW k (by omega)
      have inner : ∀ j, j ≤ nc a → k < j → ∀ w, fQ v0 w → J (lo (rowB a (allB a k) k j)) (hi (rowB a (allB a k) k j)) (nI j) w := up_to
        (by
          intro _ w hw
          apply hJ
          unfold BX7_noBest_23
          rw [en w hw]
          refine ⟨fun _ => ?_, fun n => absurd ((leI (by omega) (by omega)).mpr (Nat.le_refl _)) n⟩
          rw [nI_1]
          exact ih w hw)
        (by
          intro j hj ih2 hkj w hw
          apply hJ
          unfold BX7_noBest_23 BX7_noBest_65 BX7_noBest_70
          rw [en w hw]
          refine ⟨fun n => absurd ((leI (by omega) (by omega)).mp n) (by omega), fun _ => ?_⟩
          have ih2 := ih2 (by omega)
          rw [rowB_s a _ hkj] at ih2
          have hs : (rowB a (allB a k) k j).1 < 16 → (rowB a (allB a k) k j).1 < nc a ∧ (rowB a (allB a k) k j).2 < nc a := by
            have row : ∀ j, j ≤ nc a → (rowB a (allB a k) k j).1 < 16 → (rowB a (allB a k) k j).1 < nc a ∧ (rowB a (allB a k) k j).2 < nc a := by
              intro j
              induction j with
              | zero => intro _ h; exact hin h
              | succ j ih =>
                intro hj
                unfold rowB
                split
                · unfold stepB
                  split
                  · intro _; exact ⟨hk, by omega⟩
                  · exact ih (by omega)
                · exact ih (by omega)
            exact row j (by omega)
          generalize rowB a (allB a k) k j = s at ih2 hs ⊢
          rw [nI_1 j]
          have keep : stepB a s k j = s → ∀ u, fQ v0 u → J (lo s) (hi s) (nI (j + 1)) u := fun e u hu => by rw [e] at ih2; exact ih2 u hu
          have put : stepB a s k j = (k, j) → ∀ u, fQ v0 u → J (nI k) (nI j) (nI (j + 1)) u := fun e u hu => by
            rw [e] at ih2
            have := ih2 u hu
            unfold lo hi at this
            rw [if_pos (show (k, j).1 < 16 by show k < 16; omega), if_pos (show (k, j).1 < 16 by show k < 16; omega)] at this
            exact this
          apply m_cand (RM_M hM0 (fQ_M hw)) hW (GA_Q hG hw) hk hj
          intro u hu
          have hu0 := fQ_tr hw hu
          refine ⟨fun n => ?_, fun n => ?_⟩
          · rw [nb_0] at n
            exact keep (by unfold stepB; rw [n]; rfl) u hu0
          · rw [nb_0] at n
            have n := bt' n
            refine ⟨fun q => ?_, fun q => ?_⟩
            · have q2 : ¬ s.1 < 16 := fun r => by
                unfold lo at q
                rw [if_pos r] at q
                exact nI_pos (by omega) q
              exact put (by unfold stepB; rw [n, decide_eq_false q2]; rfl) u hu0
            · have q2 : s.1 < 16 := by
                apply Classical.byContradiction
                intro r
                unfold lo at q
                rw [if_neg r] at q
                exact q (by decide)
              have hb := hs q2
              apply m_scoreOf (RM_M hM0 (fQ_M hu0)) hW hk hj
              intro x hx
              have hx0 := fQ_tr hu0 hx
              have el : lo s = nI s.1 := by unfold lo; rw [if_pos q2]
              have eh : hi s = nI s.2 := by unfold hi; rw [if_pos q2]
              rw [el, eh] at keep ⊢
              apply m_scoreOf (RM_M hM0 (fQ_M hx0)) hW hb.1 hb.2
              intro y hy
              have hy0 := fQ_tr hx0 hy
              refine ⟨fun r => ?_, fun r => ?_⟩
              · exact put (by unfold stepB; rw [n, decide_eq_true r]; simp) y hy0
              · exact keep (by unfold stepB; rw [decide_eq_false r, decide_eq_true q2]; simp) y hy0)
      have := inner (k + 1) (by omega) (by omega) w hw
      rw [rowB_0 a _ _ _ (Nat.le_refl _)] at this
      rw [nI_1]
      exact this)
  exact key 0 (by omega) v0 (fQ_rf v0)
end
