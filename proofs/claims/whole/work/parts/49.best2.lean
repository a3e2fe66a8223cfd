/-! ===== The best pair ===== -/
def stepB (a : gMem) (s : Nat × Nat) (c d : Nat) : Nat × Nat := if cd a c d && (!decide (s.1 < 16) || decide (sc a s.1 s.2 < sc a c d)) then (c, d) else s
def rowB (a : gMem) (s : Nat × Nat) (c : Nat) : Nat → Nat × Nat
  | 0 => s
  | j + 1 => if c < j then stepB a (rowB a s c j) c j else rowB a s c j
def allB (a : gMem) : Nat → Nat × Nat
  | 0 => (16, 16)
  | i + 1 => rowB a (allB a i) i (nc a)
theorem rowB_0 (a : gMem) (s : Nat × Nat) (c : Nat) : ∀ j, j ≤ c + 1 → rowB a s c j = s
  | 0, _ => rfl
  | j + 1, h => by
    unfold rowB
    rw [if_neg (by omega)]
    exact rowB_0 a s c j (by omega)
theorem rowB_s (a : gMem) (s : Nat × Nat) {c j : Nat} (h : c < j) : rowB a s c (j + 1) = stepB a (rowB a s c j) c j := if_pos h
theorem nlt {x y : Int32} (h : ¬ x < y) : y ≤ x := by
  rw [Int32.le_iff_toInt_le]
  rw [Int32.lt_iff_toInt_lt] at h
  omega
theorem nle {x y : Int32} (h : ¬ x ≤ y) : y < x := by
  rw [Int32.le_iff_toInt_le] at h
  rw [Int32.lt_iff_toInt_lt]
  omega
theorem ltn {x y : Int32} (h : x < y) : ¬ y ≤ x := by
  rw [Int32.le_iff_toInt_le]
  rw [Int32.lt_iff_toInt_lt] at h
  omega
theorem len {x y : Int32} (h : x ≤ y) : ¬ y < x := by
  rw [Int32.lt_iff_toInt_lt]
  rw [Int32.le_iff_toInt_le] at h
  omega
def BS (a w : gMem) (s : Nat × Nat) : Prop := (s.1 < 16 → w 0 0 0 = nI s.1 ∧ w 0 0 1 = nI s.2 ∧ w 0 0 2 = sc a s.1 s.2 ∧ s.1 < nc a ∧ s.2 < nc a) ∧ (¬ s.1 < 16 → w 0 0 0 = -1)
theorem neg1le {n : Nat} (h : n < 65536) : (0 : Int32) ≤ nI n := nI_pos' (by omega)
theorem ks_pos {a : gMem} (hW : WF a) {c : Nat} (hc : c < 17) : (0 : Int32) ≤ ks a c ↔ 0 < ln a c := by
  unfold ks
  by_cases q : ln a c = 0
  · rw [if_pos q]
    exact ⟨fun h => absurd h (by decide), fun h => by omega⟩
  · rw [if_neg q]
    have := ks_n hW hc (by omega)
    exact ⟨fun _ => by omega, fun _ => nI_pos' (by omega)⟩
theorem ma_n {a : gMem} (hW : WF a) {c d f : Nat} (hc : c < nc a) (h1 : 1 ≤ f) (h4 : f < 4) : (decide (kf a d f = kf a c f) && decide (0 ≤ kf a c f)) = sh a c d f := by
  unfold kf sh hs ag
  rw [if_neg (by omega), if_neg (by omega), if_neg (by omega), if_neg (by omega)]
  have e : decide ((0 : Int32) ≤ nu a c f) = !decide (nu a c f = -1) := by
    rcases hW.2.2.2.2.2.1 c hc f h1 h4 with q | ⟨r, q, hr⟩
    · rw [q]; rfl
    · rw [q, decide_eq_true (nI_pos' (by omega)), decide_eq_false (neg1 (by omega))]; rfl
  rw [e, Bool.and_comm]
  congr 1
  by_cases q : nu a d f = nu a c f
  · rw [decide_eq_true q, decide_eq_true q.symm]
  · rw [decide_eq_false q, decide_eq_false fun r => q r.symm]
theorem ma_ky {a : gMem} (hW : WF a) {c d : Nat} (hc : c < nc a) (hd : d < nc a) : ma a 3 c d = ky a c d := by
  have hn := hW.1.2.2.2.1
  have e0 : (decide (kf a d 0 = kf a c 0) && decide (0 ≤ kf a c 0)) = ss a c d := by
    unfold kf
    rw [if_pos rfl, if_pos rfl]
    have h1 := ss_ks hW (i := c) (j := d) (by omega) (by omega)
    have h2 := ks_pos hW (c := c) (by omega)
    cases q : ss a c d
    · apply bf
      intro r
      rw [Bool.and_eq_true] at r
      rw [h1.mpr ⟨h2.mp (of_decide_eq_true r.2), (of_decide_eq_true r.1).symm⟩] at q
      cases q
    · obtain ⟨q1, q2⟩ := h1.mp q
      rw [decide_eq_true q2.symm, decide_eq_true (h2.mpr q1)]; rfl
  unfold ma ky
  rw [decide_eq_true hd, Bool.true_and, an_s, an_s, an_s, an_0, e0, ma_n hW hc (by omega) (by omega), ma_n hW hc (by omega) (by omega)]
  cases ss a c d <;> cases sh a c d 1 <;> cases sh a c d 2 <;> rfl
section
variable {a v : gMem} {X : String → gMem → Prop}
theorem r_isMissing {w : gMem} {Q : Int32 → gMem → Prop} {s : Nat × Nat} (hB : BS a w s) (h : Q (nb (!decide (s.1 < 16))) w) : TX0_isMissing w Q X := by
  unfold TX0_isMissing BX0_isMissing_13
  by_cases q : s.1 < 16
  · rw [(hB.1 q).1]
    rw [decide_eq_true q] at h
    exact ⟨fun _ => ⟨nar0, h⟩, fun n => absurd n (neg1 (by omega))⟩
  · rw [hB.2 q]
    rw [decide_eq_false q] at h
    exact ⟨fun n => absurd rfl n, fun _ => ⟨nar1, h⟩⟩
theorem r_consider {w : gMem} {Q : gMem → Prop} {s : Nat × Nat} {c d : Nat} (hW : WF a) (hc : c < nc a) (hd : d < nc a) (hk : cd a c d = true) (hB : BS a w s) (h : ∀ w', fS w w' → w' 15 = w 15 → BS a w' (stepB a s c d) → Q w') : TX0_consider (sc a c d) (nI c) (nI d) w Q X := by
  have hn := hW.1.2.2.2.1
  have put : stepB a s c d = (c, d) → BX0_consider_15 (sc a c d) (nI c) (nI d) w Q X := by
    intro e
    unfold BX0_consider_15 BX0_consider_30
    apply h
    · exact fS_tr (fS_tr (fS_gw _ _ _ _ (not_k (by omega))) (fS_gw _ _ _ _ (not_k (by omega)))) (fS_gw _ _ _ _ (not_k (by omega)))
    · funext i j; rw [gw_ne _ _ (by omega), gw_ne _ _ (by omega), gw_ne _ _ (by omega)]
    · rw [e]
      refine ⟨fun _ => ⟨?_, gw_same _ _ _ _ _, ?_, hc, hd⟩, fun q => absurd (show c < 16 by omega) q⟩
      · rw [gw_ne _ _ (by omega), gw_same]
      · rw [gw_ne _ _ (by omega), gw_ne _ _ (by omega), gw_same]
  unfold TX0_consider
  apply r_isMissing hB
  refine ⟨fun n => ?_, fun n => ?_⟩
  · rw [nb_0] at n
    apply put
    unfold stepB
    rw [hk, bt' n]; rfl
  · rw [nb_0] at n
    have n2 : s.1 < 16 := by
      apply Classical.byContradiction
      intro q
      rw [decide_eq_false q] at n; cases n
    rw [(hB.1 n2).2.2.1]
    refine ⟨fun m => ?_, fun m => ?_⟩
    · unfold BX0_consider_30
      apply h _ (fS_rf w) rfl
      have e : stepB a s c d = s := by
        unfold stepB
        rw [n, decide_eq_false (len m)]
        simp
      rw [e]; exact hB
    · apply put
      unfold stepB
      rw [hk, decide_eq_true (nle m)]; simp
theorem r_offer (hR : RC v a) (hW : WF a) {w : gMem} {Q : gMem → Prop} {s : Nat × Nat} {c d : Nat} (hw : fS v w) (hc : c < nc a) (hd : d < nc a) (hk : ky a c d = true) (hB : BS a w s) (h : ∀ w', fS v w' → w' 15 = w 15 → BS a w' (stepB a s c d) → Q w') : TX6_offer (nI c) (nI d) w Q X := by
  have hn := hW.1.2.2.2.1
  have hRw := RC_S hR hw
  have skip : cd a c d = false → Q w := by
    intro e
    apply h w hw rfl
    have e2 : stepB a s c d = s := by unfold stepB; rw [e]; rfl
    rw [e2]; exact hB
  unfold TX6_offer BX6_offer_34
  apply r_scoreOf hRw hW hc hd
  rw [hRw.1.2.2.1]
  refine ⟨fun n => ?_, fun n => ?_⟩
  · apply skip
    unfold cd th
    rw [decide_eq_false (ltn n), Bool.false_and, Bool.and_false]
  · apply r_canBeMerged hRw hW hc hd
    refine ⟨fun m => ?_, fun m => ?_⟩
    · rw [nb_0] at m
      apply skip
      unfold cd
      rw [m, Bool.and_false, Bool.and_false]
    · rw [nb_0] at m
      have e : cd a c d = true := by
        unfold cd th
        rw [hk, bt' m, decide_eq_true (nlt n)]; rfl
      exact r_consider hW hc hd e hB fun w' h1 h2 h3 => h w' (fS_tr hw h1) h2 h3
theorem stepB_no {s : Nat × Nat} {c d : Nat} (h : ky a c d = false) : stepB a s c d = s := by
  unfold stepB cd
  rw [h]; rfl
theorem r_byKeys (hR : RC v a) (hW : WF a) {Q : gMem → Prop} (h : ∀ w, fS v w → BS a w (allB a (nc a)) → Q w) : TX6_findBestByKeys v Q X := by
  have hn := hW.1.2.2.2.1
  have en : ∀ w, fS v w → w 6 0 3 = nI (nc a) := fun w hw => c_nc (RC_S hR hw) hW
  unfold TX6_findBestByKeys TX0_forget
  have f0 : fS v (gw v 0 0 0 (-1)) := fS_gw _ _ _ _ (not_k (by omega))
  apply r_gatherMates (RC_S hR f0) hW
  intro w0 hw0 hm0
  have hw0' : fS v w0 := fS_tr f0 (fG_S hw0)
  have b0 : BS a w0 (16, 16) := ⟨fun q => absurd q (by decide), fun _ => by rw [hw0 0 (by omega), gw_same]⟩
  unfold LX6_findBestByKeys_13
  intro I hI
  have key : ∀ k, k ≤ nc a → ∀ w, fS v w → w 15 = w0 15 → BS a w (allB a k) → I (nI k) w := up_to
    (by
      intro w hw _ hB
      apply hI
      unfold BX6_findBestByKeys_13
      rw [en w hw]
      exact ⟨fun _ => h w hw hB, fun n => absurd ((leI (by omega) (by omega)).mpr (Nat.le_refl _)) n⟩)
    (by
      intro k hk ih w hw hm hB
      apply hI
      unfold BX6_findBestByKeys_13
      rw [en w hw]
      refine ⟨fun n => absurd ((leI (by omega) (by omega)).mp n) (by omega), fun _ => ?_⟩
      unfold LX6_findBestByKeys_25
      intro J hJ
      have inner : ∀ j, j ≤ nc a → k < j → ∀ w, fS v w → w 15 = w0 15 → BS a w (rowB a (allB a k) k j) → J (nI j) w := up_to
        (by
          intro _ w hw hm hB
          apply hJ
          unfold BX6_findBestByKeys_25
          rw [en w hw]
          refine ⟨fun _ => ?_, fun n => absurd ((leI (by omega) (by omega)).mpr (Nat.le_refl _)) n⟩
          rw [nI_1]
          exact ih w hw hm hB)
        (by
          intro j hj ih2 hkj w hw hm hB
          apply hJ
          unfold BX6_findBestByKeys_25 BX6_findBestByKeys_52
          rw [en w hw]
          have ih2 := ih2 (by omega)
          rw [rowB_s a _ hkj] at ih2
          refine ⟨fun n => absurd ((leI (by omega) (by omega)).mp n) (by omega), fun _ => ⟨in_nI (by omega), ?_⟩⟩
          rw [clI (by omega), hm, hm0 k hk]
          apply r_contains (by omega)
          rw [ma_ky hW hk hj, nI_1]
          refine ⟨fun n => ?_, fun n => ?_⟩
          · rw [nb_0] at n
            rw [stepB_no n] at ih2
            exact ih2 w hw hm hB
          · rw [nb_0] at n
            exact r_offer hR hW hw hk hj (bt' n) hB fun w' h1 h2 h3 => ih2 w' h1 (h2.trans hm) h3)
      rw [nI_1]
      exact inner (k + 1) (by omega) (by omega) w hw hm (by rw [rowB_0 a _ _ _ (Nat.le_refl _)]; exact hB))
  exact key 0 (by omega) w0 hw0' rfl b0
theorem r_byPairs (hR : RC v a) (hW : WF a) {Q : gMem → Prop} (h : ∀ w, fS v w → BS a w (allB a (nc a)) → Q w) : TX6_findBestByPairs v Q X := by
  have hn := hW.1.2.2.2.1
  have en : ∀ w, fS v w → w 6 0 3 = nI (nc a) := fun w hw => c_nc (RC_S hR hw) hW
  unfold TX6_findBestByPairs TX0_forget
  have f0 : fS v (gw v 0 0 0 (-1)) := fS_gw _ _ _ _ (not_k (by omega))
  have b0 : BS a (gw v 0 0 0 (-1)) (16, 16) := ⟨fun q => absurd q (by decide), fun _ => gw_same _ _ _ _ _⟩
  unfold LX6_findBestByPairs_9
  intro I hI
  have key : ∀ k, k ≤ nc a → ∀ w, fS v w → BS a w (allB a k) → I (nI k) w := up_to
    (by
      intro w hw hB
      apply hI
      unfold BX6_findBestByPairs_9
      rw [en w hw]
      exact ⟨fun _ => h w hw hB, fun n => absurd ((leI (by omega) (by omega)).mpr (Nat.le_refl _)) n⟩)
    (by
      intro k hk ih w hw hB
      apply hI
      unfold BX6_findBestByPairs_9
      rw [en w hw]
      refine ⟨fun n => absurd ((leI (by omega) (by omega)).mp n) (by omega), fun _ => ?_⟩
      unfold LX6_findBestByPairs_21
      intro J hJ
      have inner : ∀ j, j ≤ nc a → k < j → ∀ w, fS v w → BS a w (rowB a (allB a k) k j) → J (nI j) w := up_to
        (by
          intro _ w hw hB
          apply hJ
          unfold BX6_findBestByPairs_21
          rw [en w hw]
          refine ⟨fun _ => ?_, fun n => absurd ((leI (by omega) (by omega)).mpr (Nat.le_refl _)) n⟩
          rw [nI_1]
          exact ih w hw hB)
        (by
          intro j hj ih2 hkj w hw hB
          apply hJ
          unfold BX6_findBestByPairs_21 BX6_findBestByPairs_44
          rw [en w hw]
          have ih2 := ih2 (by omega)
          rw [rowB_s a _ hkj] at ih2
          refine ⟨fun n => absurd ((leI (by omega) (by omega)).mp n) (by omega), fun _ => ?_⟩
          apply r_sharesKey (RC_S hR hw) hW hk hj
          rw [nI_1]
          refine ⟨fun n => ?_, fun n => ?_⟩
          · rw [nb_0] at n
            rw [stepB_no n] at ih2
            exact ih2 w hw hB
          · rw [nb_0] at n
            exact r_offer hR hW hw hk hj (bt' n) hB fun w' h1 _ h3 => ih2 w' h1 h3)
      rw [nI_1]
      exact inner (k + 1) (by omega) (by omega) w hw (by rw [rowB_0 a _ _ _ (Nat.le_refl _)]; exact hB))
  exact key 0 (by omega) _ f0 b0
def bs (a : gMem) : Nat × Nat := allB a (nc a)
theorem r_requireBest {w : gMem} {Q : gMem → Prop} {s : Nat × Nat} (hB : BS a w s) (h1 : s.1 < 16 → Q w) (h2 : ¬ s.1 < 16 → X "java/util/NoSuchElementException" w) : TX6_requireBest w Q X := by
  unfold TX6_requireBest
  apply r_isMissing hB
  refine ⟨fun n => ?_, fun n => ?_⟩
  · rw [nb_0] at n
    apply h1
    apply Classical.byContradiction
    intro q
    rw [decide_eq_false q] at n; cases n
  · rw [nb_0] at n
    apply h2
    intro q
    rw [decide_eq_true q] at n; exact n rfl
end
