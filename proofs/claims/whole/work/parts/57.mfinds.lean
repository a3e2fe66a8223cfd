/-! ===== Fields, groups and search of the reference ===== -/
section
variable {a v : gMem} {X : String → gMem → Prop}
theorem m_fail {w : gMem} {Q : Int32 → gMem → Prop} {x : Int32} (h : Q 0 (T0 w x)) : TX7_fail x w Q X := h
theorem m_field (hM : RM v a) (hW : WF a) (hG : GA a v) {Q : Int32 → gMem → Prop} {c f : Nat} (hc : c < nc a) (hf4 : f < 4) (h1 : hrK a (cn (ed a) c) f (nc a) < 16 → Q (nI (hrK a (cn (ed a) c) f (nc a))) v) (h0 : ¬ hrK a (cn (ed a) c) f (nc a) < 16 → Q 0 (T0 v 3)) : LX7_fieldFrom_34 (nI c) (nI f) (-1) 0 v Q X := by
  have hn := hW.1.2.2.2.1
  have hns := hW.1.2.1
  have en := m_nc hM hW
  unfold LX7_fieldFrom_34
  intro I hI
  have key : ∀ k, k ≤ nc a → I (if hrK a (cn (ed a) c) f k < 16 then nI (hrK a (cn (ed a) c) f k) else -1) (nI k) v := up_to
    (by
      apply hI
      unfold BX7_fieldFrom_34
      rw [en]
      refine ⟨fun _ => ⟨fun q => ?_, fun q => ?_⟩, fun n => absurd ((leI (by omega) (by omega)).mpr (Nat.le_refl _)) n⟩
      · by_cases r : hrK a (cn (ed a) c) f (nc a) < 16
        · rw [if_pos r]; exact h1 r
        · rw [if_neg r] at q; exact absurd q (by decide)
      · by_cases r : hrK a (cn (ed a) c) f (nc a) < 16
        · rw [if_pos r] at q; exact absurd (nI_pos' (by omega)) q
        · exact m_fail (h0 r))
    (by
      intro k hk ih
      apply hI
      unfold BX7_fieldFrom_34 BX7_fieldFrom_99 BX7_fieldFrom_102
      rw [en, clI (a := k) (by omega), clI (a := c) (by omega), hG k hk, hG c hc, nI_1 k]
      have lt := hrK_lt a (cn (ed a) c) f k
      have e : hrK a (cn (ed a) c) f (k + 1) = if cn (ed a) c k && (hs a k f && (!decide (hrK a (cn (ed a) c) f k < 16) || decide (rk a (hrK a (cn (ed a) c) f k) < rk a k))) then k else hrK a (cn (ed a) c) f k := rfl
      rw [e] at ih
      generalize hrK a (cn (ed a) c) f k = s at ih lt ⊢
      refine ⟨fun n => absurd ((leI (by omega) (by omega)).mp n) (by omega), fun _ => ⟨in_nI (by omega), in_nI (by omega), fun q => ?_, fun q => ?_⟩⟩
      · rw [bf fun r => q ((cpI hW hk hc).mpr r), Bool.false_and, if_neg (show ¬ (false = true) by decide)] at ih
        exact ih
      · rw [(cpI hW hk hc).mp q, Bool.true_and] at ih
        apply m_has hM hW hk hf4
        refine ⟨fun r => ?_, fun r => ?_⟩
        · rw [nb_0] at r
          rw [r, Bool.false_and, if_neg (show ¬ (false = true) by decide)] at ih
          exact ih
        · rw [nb_0] at r
          rw [bt' r, Bool.true_and] at ih
          by_cases t : s < 16
          · have sk := hW.2.2.1 k hk
            have ss := hW.2.2.1 s (by omega)
            rw [if_pos t]
            rw [decide_eq_true t, Bool.not_true, Bool.false_or] at ih
            have e1 : v 31 0 k = nI (na a 31 k) := (hM.2 31 (by unfold mkind; omega) k).trans sk.1
            have e2 : v 31 0 s = nI (na a 31 s) := (hM.2 31 (by unfold mkind; omega) s).trans ss.1
            have e3 : ∀ x, v 30 0 x = a 30 0 x := fun x => hM.2 30 (by unfold mkind; omega) x
            rw [clI (by omega), e1, e2, clI (by omega), clI (by omega), e3, e3]
            refine ⟨fun u => absurd u (nI_pos (by omega)), fun _ => ⟨in_nI (by omega), in_nI (by omega), in_nI (by omega), in_nI (by omega), fun u => ?_, fun u => ?_⟩⟩
            · have u2 : ¬ rk a s < rk a k := len u
              rw [decide_eq_false u2, if_neg (show ¬ (false = true) by decide), if_pos t] at ih
              exact ih
            · have u2 : rk a s < rk a k := nle u
              rw [decide_eq_true u2, if_pos (show (true = true) from rfl), if_pos (by omega)] at ih
              exact ih
          · rw [if_neg t]
            rw [decide_eq_false t, Bool.not_false, Bool.true_or, if_pos (show (true = true) from rfl), if_pos (by omega)] at ih
            exact ⟨fun _ => ih, fun u => absurd (by decide) u⟩)
  exact key 0 (by omega)
theorem m_confl (hM : RM v a) (hW : WF a) (hG : GA a v) {Q : Int32 → gMem → Prop} {c : Nat} (hc : c < nc a) (h : Q (nI (fb_ct (dp a (cn (ed a) c)) 4)) v) : LX7_conflicts_18 (nI c) 0 0 v Q X := by
  have hn := hW.1.2.2.2.1
  unfold LX7_conflicts_18
  intro I hI
  have key : ∀ k, k ≤ 4 → I (nI (fb_ct (dp a (cn (ed a) c)) k)) (nI k) v := up_to
    (by
      apply hI
      unfold BX7_conflicts_18
      exact ⟨fun _ => h, fun n => absurd ((leI (a := 4) (b := 4) (by decide) (by decide)).mpr (Nat.le_refl _)) n⟩)
    (by
      intro k hk ih
      apply hI
      unfold BX7_conflicts_18 BX7_conflicts_43
      rw [clI (by omega), hG c hc, nI_1 k]
      rw [fb_ct_succ] at ih
      refine ⟨fun n => absurd ((leI (a := 4) (by decide) (by omega)).mp n) (by omega), fun _ => ⟨in_nI (by omega), ?_⟩⟩
      apply m_isDisputed hM hW hG hc hk
      refine ⟨fun q => ?_, fun q => ?_⟩
      · rw [nb_0] at q
        rw [q] at ih
        rw [i0, nI_add]; exact ih
      · rw [nb_0] at q
        rw [bt' q] at ih
        rw [nI_1]; exact ih)
  exact key 0 (by omega)
theorem r_confl (hR : RC v a) (hW : WF a) {Q : Int32 → gMem → Prop} {c : Nat} (h : Q (nI (fb_ct (dp a (cn (ed a) c)) 4)) v) : LX6_conflicts_19 (st (cn (ed a) c)) 0 0 v Q X := by
  unfold LX6_conflicts_19
  intro I hI
  have key : ∀ k, k ≤ 4 → I (nI (fb_ct (dp a (cn (ed a) c)) k)) (nI k) v := up_to
    (by
      apply hI
      unfold BX6_conflicts_19
      exact ⟨fun _ => h, fun n => absurd ((leI (a := 4) (b := 4) (by decide) (by decide)).mpr (Nat.le_refl _)) n⟩)
    (by
      intro k hk ih
      apply hI
      unfold BX6_conflicts_19 BX6_conflicts_38
      rw [nI_1 k]
      rw [fb_ct_succ] at ih
      refine ⟨fun n => absurd ((leI (a := 4) (by decide) (by omega)).mp n) (by omega), fun _ => ?_⟩
      apply r_disagree hR hW hk
      refine ⟨fun q => ?_, fun q => ?_⟩
      · rw [nb_0] at q
        rw [q] at ih
        exact ih
      · rw [nb_0] at q
        rw [bt' q] at ih
        rw [nI_1]; exact ih)
  exact key 0 (by omega)
theorem m_persIn (hM : RM v a) (hW : WF a) (hG : GA a v) {Q : Int32 → gMem → Prop} {g : Nat} (hg : g < 4) (h : Q (nI (fb_ct (pw a (gr a g)) 16)) v) : LX7_personsIn_28 (nI g) 0 0 v Q X := by
  have hn := hW.1.2.2.2.1
  have en := m_nc hM hW
  unfold LX7_personsIn_28
  intro I hI
  have key : ∀ k, k ≤ nc a → I (nI (fb_ct (pw a (gr a g)) k)) (nI k) v := up_to
    (by
      apply hI
      unfold BX7_personsIn_28
      rw [en]
      refine ⟨fun _ => ?_, fun n => absurd ((leI (by omega) (by omega)).mpr (Nat.le_refl _)) n⟩
      rw [← ct_n hn fun x _ hx => by
        unfold pw at hx
        rw [Bool.and_eq_true] at hx
        exact of_decide_eq_true hx.1]
      exact h)
    (by
      intro k hk ih
      apply hI
      unfold BX7_personsIn_28 BX7_personsIn_60 BX7_personsIn_61
      have le := cp_le (ed a) (c := k) (by omega)
      rw [en, clI (by omega), hG k hk, nI_1 k]
      rw [fb_ct_succ] at ih
      refine ⟨fun n => absurd ((leI (by omega) (by omega)).mp n) (by omega), fun _ => ⟨in_nI (by omega), fun q => ?_, fun q => ?_⟩⟩
      · have q2 : ¬ cp (ed a) k = k := fun r => q (by rw [r])
        have e : pw a (gr a g) k = false := by unfold pw; rw [decide_eq_false q2, Bool.false_and, Bool.and_false]
        rw [e] at ih
        rw [i0, nI_add]; exact ih
      · have q2 := (eqI (by omega) (by omega)).mp q
        have e : pw a (gr a g) k = an 16 (fun x => gr a g x && cn (ed a) k x) := by
          unfold pw
          rw [decide_eq_true hk, decide_eq_true q2, Bool.true_and, Bool.true_and]
          exact an_cong fun y _ => Bool.and_comm _ _
        have hh := m_hasCard (X := X) (v := v) (Q := fun r50 v50 => ((r50 = 0 → I (nI (fb_ct (pw a (gr a g)) k) + 0) (nI (k + 1)) v50) ∧ (¬ r50 = 0 → I (nI (fb_ct (pw a (gr a g)) k) + 1) (nI (k + 1)) v50))) hM hW hG hg hk ?_
        · rw [q2] at hh; exact hh
        · rw [← e]
          refine ⟨fun r => ?_, fun r => ?_⟩
          · rw [nb_0] at r
            rw [r] at ih
            rw [i0, nI_add]; exact ih
          · rw [nb_0] at r
            rw [bt' r] at ih
            rw [nI_1]; exact ih)
  exact key 0 (by omega)
theorem m_isFound (hM : RM v a) (hW : WF a) {Q : Int32 → gMem → Prop} {c : Nat} {b : Bool} (hc : c < nc a) (h : ∀ w, fQ v w → Q (nb (mt a b c)) w) : TX7_isFound (nI c) (nb b) v Q X := by
  have hn := hW.1.2.2.2.1
  have hl := m_ln hM hW (c := c) (by omega)
  have ht := m_ty hM hW
  unfold TX7_isFound BX7_isFound_44
  rw [clI (by omega), hl.1, ht.1]
  refine ⟨fun q => ⟨in_nI (by omega), fun r => ?_, fun r => ⟨in_nI (by omega), fun s => ?_, fun s => ?_⟩⟩, fun q => ⟨in_nI (by omega), ?_⟩⟩
  · rw [nb_0] at q
    have r2 : ln a c = 0 := (eqI (b := 0) (by omega) (by decide)).mp r
    have := h v (fQ_rf v)
    unfold mt at this
    rw [q, if_neg (by decide), decide_eq_false (show ¬ 0 < ln a c by omega), Bool.false_and, Bool.and_false] at this
    exact this
  · rw [nb_0] at q
    have r2 : ¬ ln a c = 0 := fun t => r (by rw [t]; rfl)
    have s2 := (leI (by omega) (by omega)).mp s
    have em : mt a b c = bw a c 16 := by
      unfold mt
      rw [q, if_neg (by decide), decide_eq_true (show 0 < ln a c by omega), decide_eq_true hc]; rfl
    have h := h v (fQ_rf v)
    rw [em] at h
    unfold LX7_isFound_48
    intro I hI
    have key : ∀ k, k ≤ ln a 16 → (∀ l, l < k → lt a c l = lt a 16 l) → I (nI k) v := up_to
      (by
        intro hno
        apply hI
        unfold BX7_isFound_48
        rw [ht.1]
        refine ⟨fun _ => ?_, fun n => absurd ((leI (by omega) (by omega)).mpr (Nat.le_refl _)) n⟩
        have e : bw a c 16 = true := by unfold bw; rw [decide_eq_true_iff]; exact ⟨s2, hno⟩
        rw [e] at h; exact h)
      (by
        intro k hk ih hno
        apply hI
        unfold BX7_isFound_48
        have l1 := m_lt hM hW (i := c) (k := k) (by omega) (by omega)
        have l2 := m_lt hM hW (i := 16) (k := k) (by omega) hk
        rw [ht.1, x10, show (160 : Int32) + nI k = nI (10 * 16 + k) from nI_add 160 k, clI (by omega), clI (by omega), l1.1, l2.1, nI_1 k]
        refine ⟨fun n => absurd ((leI (by omega) (by omega)).mp n) (by omega), fun _ => ⟨in_nI (by omega), in_nI (by omega), fun t => ?_, fun t => ?_⟩⟩
        · apply ih
          intro l hl
          rcases Nat.lt_or_eq_of_le (Nat.le_of_lt_succ hl) with u | u
          · exact hno l u
          · rw [u]; exact (eqI (by omega) (by omega)).mp t
        · have e : bw a c 16 = false := bf fun u => by
            unfold bw at u
            rw [decide_eq_true_iff] at u
            exact t (by rw [u.2 k hk])
          rw [e] at h; exact h)
    exact key 0 (by omega) fun l hl => absurd hl (Nat.not_lt_zero l)
  · rw [nb_0] at q
    have s2 : ¬ ln a 16 ≤ ln a c := fun t => s ((leI (by omega) (by omega)).mpr t)
    have e : bw a c 16 = false := bf fun u => by
      unfold bw at u
      rw [decide_eq_true_iff] at u
      exact s2 u.1
    have := h v (fQ_rf v)
    unfold mt at this
    rw [q, if_neg (by decide), e, Bool.and_false, Bool.and_false] at this
    exact this
  · rw [nb_0] at q
    have := m_sameSound (X := X) (v := v) (Q := fun r18 v18 => (narrow .boolean (.int r18) = .int r18 ∧ Q r18 v18)) hM hW (i := c) (j := 16) (by omega) (by omega) (fun w hw => ⟨nb_nar _, by
      have := h w hw
      unfold mt at this
      rw [bt' q, if_pos rfl, decide_eq_true hc, Bool.true_and] at this
      exact this⟩)
    exact this
theorem pw_in (hW : WF a) {b : Bool} {k : Nat} (hk : k < nc a) : an (nc a) (fun c => decide (k ≤ c) && (decide (cp (ed a) c = k) && mt a b c)) = pw a (mt a b) k := by
  have hn := hW.1.2.2.2.1
  cases q : pw a (mt a b) k
  · rw [an_f]
    intro c hc
    apply bf
    intro r
    simp only [Bool.and_eq_true, decide_eq_true_iff] at r
    obtain ⟨r1, r2, r3⟩ := r
    have e : cp (ed a) k = k := by
      have := cp_cp (ed_sy a) (c := c) (by omega)
      rw [r2] at this; exact this
    have h1 := cp_in (ed a) (c := c) (by omega)
    rw [r2] at h1
    unfold pw at q
    rw [decide_eq_true hk, decide_eq_true e, Bool.true_and, Bool.true_and, an_f] at q
    have := q c (by omega)
    rw [cn_sy (ed_sy a) (by omega) (by omega) h1, r3] at this
    cases this
  · unfold pw at q
    rw [Bool.and_eq_true, Bool.and_eq_true, an_t] at q
    obtain ⟨_, q1, y, hy, q2⟩ := q
    rw [Bool.and_eq_true] at q2
    have q1 := of_decide_eq_true q1
    have yn := cn_n hW hk q2.1
    have e : cp (ed a) y = k := by
      rw [← q1]
      exact ((cp_eq (ed_sy a) (by omega) (by omega)).mpr q2.1).symm
    have le := cp_le (ed a) (c := y) (by omega)
    rw [an_t]
    exact ⟨y, yn, by rw [decide_eq_true (show k ≤ y by omega), decide_eq_true e, q2.2]; rfl⟩
theorem m_finds (hM : RM v a) (hW : WF a) {Q : Int32 → gMem → Prop} {b : Bool} {W : Int32} (h1 : ∀ w i, fM v w → w 7 0 0 = v 7 0 0 → i < nc a → pw a (mt a b) i = true → W = nI (fb_ct (pw a (mt a b)) i) → Q (nI i) w) (h2 : ∀ w, fM v w → w 7 0 0 = v 7 0 0 → (∀ i, i < nc a → pw a (mt a b) i = true → ¬ W = nI (fb_ct (pw a (mt a b)) i)) → Q (-1 - nI (fb_ct (pw a (mt a b)) (nc a))) w) : TX7_finds (nb b) W v Q X := by
  have hn := hW.1.2.2.2.1
  unfold TX7_finds
  apply m_gather hM hW
  intro v0 hv0 hG
  have hM0 := RM_M hM (fL_M hv0)
  have en : ∀ w, fQ v0 w → w 7 0 2 = nI (nc a) := fun w hw => m_nc (RM_M hM0 (fQ_M hw)) hW
  have fw : ∀ w, fQ v0 w → fM v w ∧ w 7 0 0 = v 7 0 0 := fun w hw => ⟨fM_tr (fL_M hv0) (fQ_M hw), by rw [hw.2 0 (by omega), hv0 7 (by omega)]⟩
  unfold LX7_finds_9
  intro I hI
  have key : ∀ k, k ≤ nc a → ∀ w, fQ v0 w → (∀ i, i < k → pw a (mt a b) i = true → ¬ W = nI (fb_ct (pw a (mt a b)) i)) → I (nI (fb_ct (pw a (mt a b)) k)) (nI k) w := up_to
    (by
      intro w hw hno
      apply hI
      unfold BX7_finds_9
      rw [en w hw]
      exact ⟨fun _ => h2 w (fw w hw).1 (fw w hw).2 hno, fun n => absurd ((leI (by omega) (by omega)).mpr (Nat.le_refl _)) n⟩)
    (by
      intro k hk ih w hw hno
      apply hI
      unfold BX7_finds_9
      rw [en w hw]
      refine ⟨fun n => absurd ((leI (by omega) (by omega)).mp n) (by omega), fun _ => ?_⟩
      unfold LX7_finds_25
      intro J hJ
      have inner : ∀ j, j ≤ nc a → k ≤ j → ∀ w, fQ v0 w → J (nb (an j (fun c => decide (k ≤ c) && (decide (cp (ed a) c = k) && mt a b c)))) (nI j) w := up_to
        (by
          intro _ w hw
          apply hJ
          unfold BX7_finds_25 BX7_finds_91
          rw [en w hw, pw_in hW hk, nI_1 k]
          refine ⟨fun _ => ⟨fun q => ⟨fun r => ?_, fun r => ?_⟩, fun q => ?_⟩, fun n => absurd ((leI (by omega) (by omega)).mpr (Nat.le_refl _)) n⟩
          · rw [nb_0] at q
            have := ih w hw (fun i hi hp => by
              rcases Nat.lt_or_eq_of_le (Nat.le_of_lt_succ hi) with u | u
              · exact hno i u hp
              · rw [u]; exact fun e => r e.symm)
            rw [fb_ct_succ, bt' q] at this
            rw [nI_1]; exact this
          · rw [nb_0] at q
            exact h1 w k (fw w hw).1 (fw w hw).2 hk (bt' q) r.symm
          · rw [nb_0] at q
            have := ih w hw (fun i hi hp => by
              rcases Nat.lt_or_eq_of_le (Nat.le_of_lt_succ hi) with u | u
              · exact hno i u hp
              · rw [u] at hp; rw [q] at hp; cases hp)
            rw [fb_ct_succ, q] at this
            exact this)
        (by
          intro j hj ih2 hkj w hw
          apply hJ
          unfold BX7_finds_25 BX7_finds_62 BX7_finds_63
          have hGw := GA_Q hG hw
          have le := cp_le (ed a) (c := j) (by omega)
          rw [en w hw, clI (by omega), hGw j hj, nI_1 j]
          have ih2 := ih2 (by omega)
          rw [an_s, decide_eq_true hkj, Bool.true_and, ← nb_or] at ih2
          refine ⟨fun n => absurd ((leI (by omega) (by omega)).mp n) (by omega), fun _ => ⟨in_nI (by omega), fun q => ?_, fun q => ?_⟩⟩
          · have q2 : ¬ cp (ed a) j = k := fun r => q (by rw [r])
            rw [decide_eq_false q2, Bool.false_and] at ih2
            exact ih2 w hw
          · have q2 := (eqI (by omega) (by omega)).mp q
            rw [decide_eq_true q2, Bool.true_and] at ih2
            apply m_isFound (RM_M hM0 (fQ_M hw)) hW hj
            intro u hu
            have ih2 := ih2 u (fQ_tr hw hu)
            refine ⟨fun r => ?_, fun r => ?_⟩
            · rw [nb_0] at r; rw [r] at ih2; exact ih2
            · rw [nb_0] at r; rw [bt' r] at ih2; exact ih2)
      have := inner k (by omega) (Nat.le_refl _) w hw
      have e : an k (fun c => decide (k ≤ c) && (decide (cp (ed a) c = k) && mt a b c)) = false := an_f.mpr fun y hy => by rw [decide_eq_false (by omega), Bool.false_and]
      rw [e] at this
      exact this)
  exact key 0 (by omega) v0 (fQ_rf v0) fun i hi => absurd hi (Nat.not_lt_zero i)
end
