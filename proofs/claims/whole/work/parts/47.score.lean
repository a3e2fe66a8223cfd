/-! ===== Rules of the class's methods on scores and candidates ===== -/
section
variable {a v : gMem} {Q : Int32 → gMem → Prop} {X : String → gMem → Prop}
theorem in0 : vp_in 0 4 := in_nI (c := 0) (n := 4) (by decide)
theorem cl0 : (0 : Int32).toNatClampNeg = 0 := clI (a := 0) (by decide)
theorem r_floorDiv {w : Int32} (h : Q (hf w) v) : TJ9_floorDiv_7cf53 w 2 v Q X := by
  unfold TJ9_floorDiv_7cf53 BJ9_floorDiv_7cf53_21
  unfold hf at h
  refine ⟨by decide, fun n => ?_, fun n => ⟨fun m => ?_, fun m => ?_⟩⟩
  · rw [if_pos n] at h; exact h
  · rw [if_neg n, if_pos m] at h; exact h
  · rw [if_neg n, if_neg m] at h; exact h
theorem r_fieldScore (hR : RC v a) (hW : WF a) {c d f : Nat} (hc : c < nc a) (hd : d < nc a) (hf : f < 4) (h : Q (fs a c d f) v) : TX6_fieldScore c d (nI f) v Q X := by
  have := hW.1.2.2.2.1
  unfold TX6_fieldScore BX6_fieldScore_16 BX6_fieldScore_63
  unfold fs at h
  apply r_has hR hW hc hf
  refine ⟨fun n => ?_, fun n => ?_⟩
  · rw [nb_0] at n; rw [n] at h; exact h
  · rw [nb_0] at n
    rw [bt' n, Bool.true_and] at h
    apply r_has hR hW hd hf
    refine ⟨fun n => ?_, fun n => ?_⟩
    · rw [nb_0] at n
      rw [if_pos (bt' n)] at h
      apply r_agrees hR hW hc hd hf
      refine ⟨fun n => ?_, fun n => ?_⟩
      · rw [nb_0] at n
        rw [n, if_neg (by decide)] at h
        refine ⟨fun q => ?_, fun q => ?_⟩
        · have q2 : ¬ (f = 0 ∧ ss a c d = true) := fun r => q (by rw [r.1]; rfl)
          rw [if_neg q2] at h
          refine ⟨in_nI hf, ?_⟩
          rw [clI (by omega), (hR.2.1 f hf).2.2]
          exact h
        · have q2 : f = 0 := (eqI (b := 0) (by omega) (by decide)).mp q
          subst q2
          apply r_soundsLike hR hW (by omega) (by omega)
          refine ⟨fun r => ?_, fun r => ?_⟩
          · rw [nb_0] at r
            rw [if_neg (by rw [r]; simp)] at h
            refine ⟨in_nI hf, ?_⟩
            rw [clI (by omega), (hR.2.1 0 hf).2.2]
            exact h
          · rw [nb_0] at r
            rw [if_pos ⟨rfl, bt' r⟩] at h
            refine ⟨in0, ?_⟩
            rw [cl0, (hR.2.1 0 hf).2.1]
            exact r_floorDiv h
      · rw [nb_0] at n
        rw [if_pos (bt' n)] at h
        refine ⟨in_nI hf, ?_⟩
        rw [clI (by omega), (hR.2.1 f hf).2.1]
        exact h
    · rw [nb_0] at n
      rw [n, if_neg (by decide)] at h; exact h
theorem r_scoreOf (hR : RC v a) (hW : WF a) {c d : Nat} (hc : c < nc a) (hd : d < nc a) (h : Q (sc a c d) v) : TX6_scoreOf (nI c) (nI d) v Q X := by
  have := hW.1.2.2.2.1
  unfold TX6_scoreOf LX6_scoreOf_5
  intro I hI
  have key : ∀ k, k ≤ 4 → I (scK a c d k) (nI k) v := up_to
    (by
      apply hI
      unfold BX6_scoreOf_5
      exact ⟨fun _ => h, fun n => absurd ((leI (a := 4) (b := 4) (by decide) (by decide)).mpr (Nat.le_refl 4)) n⟩)
    (by
      intro k hk ih
      apply hI
      unfold BX6_scoreOf_5
      refine ⟨fun n => absurd ((leI (a := 4) (by decide) (by omega)).mp n) (by omega), fun _ => ⟨in_nI (by omega), in_nI (by omega), ?_⟩⟩
      rw [clI (by omega), clI (by omega)]
      apply r_fieldScore hR hW hc hd hk
      rw [nI_1]
      exact ih)
  exact key 0 (by omega)
theorem r_sharesNumber (hR : RC v a) (hW : WF a) {c d f : Nat} (hc : c < nc a) (hd : d < nc a) (hf : f < 4) (h : Q (nb (sh a c d f)) v) : TX6_sharesNumber (nI c) (nI d) (nI f) v Q X := by
  have := hW.1.2.2.2.1
  unfold TX6_sharesNumber BX6_sharesNumber_36 BX6_sharesNumber_37
  unfold sh at h
  refine ⟨in_nI (by omega), ?_⟩
  rw [clI (by omega)]
  apply r_has hR hW hc hf
  refine ⟨fun n => ?_, fun n => ?_⟩
  · rw [nb_0] at n; rw [n] at h; exact ⟨nar0, h⟩
  · rw [nb_0] at n
    rw [bt' n, Bool.true_and] at h
    refine ⟨in_nI (by omega), in_nI (by omega), ?_⟩
    rw [clI (a := d) (by omega)]
    apply r_agrees hR hW hc hd hf
    refine ⟨fun n => ?_, fun n => ?_⟩
    · rw [nb_0] at n; rw [n] at h; exact ⟨nar0, h⟩
    · rw [nb_0] at n; rw [bt' n] at h; exact ⟨nar1, h⟩
theorem r_sharesKey (hR : RC v a) (hW : WF a) {c d : Nat} (hc : c < nc a) (hd : d < nc a) (h : Q (nb (ky a c d)) v) : TX6_sharesKey (nI c) (nI d) v Q X := by
  have := hW.1.2.2.2.1
  unfold TX6_sharesKey BX6_sharesKey_44 BX6_sharesKey_49
  unfold ky at h
  apply r_sharesNumber (f := 1) hR hW hc hd (by decide)
  refine ⟨fun n => ?_, fun n => ?_⟩
  · rw [nb_0] at n; rw [bt' n] at h; exact ⟨nar1, h⟩
  · rw [nb_0] at n
    rw [n, Bool.false_or] at h
    apply r_sharesNumber (f := 2) hR hW hc hd (by decide)
    refine ⟨fun n => ?_, fun n => ?_⟩
    · rw [nb_0] at n; rw [bt' n] at h; exact ⟨nar1, h⟩
    · rw [nb_0] at n
      rw [n, Bool.false_or] at h
      refine ⟨in_nI (by omega), in_nI (by omega), ?_⟩
      rw [clI (by omega), clI (by omega)]
      apply r_soundsLike hR hW (by omega) (by omega)
      refine ⟨fun n => ?_, fun n => ?_⟩
      · rw [nb_0] at n; rw [n] at h; exact ⟨nar0, h⟩
      · rw [nb_0] at n; rw [bt' n] at h; exact ⟨nar1, h⟩
theorem c_ed (hR : RC v a) : ∀ y, y < 16 → v 16 1 y = st (ed a y) := fun y hy => (hR.2.2.2.2.2.2.2.1 y hy).1
theorem c_fb (hR : RC v a) : ∀ y, y < 16 → v 16 0 y = st (fb a y) := fun y hy => (hR.2.2.2.2.2.2.2.1 y hy).2
theorem ed_sy (a : gMem) (x y : Nat) : ed a x y = ed a y x := by
  unfold ed
  apply an_cong
  intro m _
  congr 1
  unfold joins
  rw [Bool.or_comm]
  congr 1 <;> rw [Bool.and_comm]
theorem fb_sy (hW : WF a) {c d : Nat} (hc : c < 16) (hd : d < 16) : fb a c d = fb a d c := (hW.2.2.2.2.2.2.2.2.2.1 c d hc hd).2.1
/-- Being barred goes both ways. -/
theorem bd_sy (hW : WF a) (c d : Nat) : bd a c d = an 16 (fun x => nx (fb a) (cn (ed a) c) x && cn (ed a) d x) := by
  unfold bd br
  cases q : an 16 (fun x => nx (fb a) (cn (ed a) c) x && cn (ed a) d x)
  · rw [an_f] at q ⊢
    intro x hx
    cases r : cn (ed a) c x
    · rfl
    · rw [Bool.true_and]
      apply bf
      intro s
      rw [nx_t] at s
      obtain ⟨y, hy, s1, s2⟩ := s
      have := q y hy
      rw [s1, Bool.and_true] at this
      rw [nx_t.mpr ⟨x, hx, r, by rw [fb_sy hW hx hy]; exact s2⟩] at this
      cases this
  · rw [an_t] at q ⊢
    obtain ⟨y, hy, q⟩ := q
    rw [Bool.and_eq_true, nx_t] at q
    obtain ⟨⟨x, hx, q1, q2⟩, q3⟩ := q
    refine ⟨x, hx, ?_⟩
    rw [q1, Bool.true_and, nx_t]
    exact ⟨y, hy, q3, by rw [fb_sy hW hy hx]; exact q2⟩
theorem an_st (p : Nat → Bool) : an 16 p = false ↔ st p = 0 := by rw [an_f, st_0]
/-- Two persons share no card just where their cards are not one person. -/
theorem cn_dis (a : gMem) {c d : Nat} (hc : c < 16) (hd : d < 16) : an 16 (fun x => cn (ed a) c x && cn (ed a) d x) = cn (ed a) c d := by
  cases q : cn (ed a) c d
  · rw [an_f]
    intro x hx
    apply bf
    intro r
    rw [Bool.and_eq_true] at r
    rw [cn_tr hc hx hd r.1 (cn_sy (ed_sy a) hd hx r.2)] at q
    cases q
  · rw [an_t]
    exact ⟨d, hd, by rw [q, cn_rf _ hd]; rfl⟩
theorem r_canBeMerged (hR : RC v a) (hW : WF a) {c d : Nat} (hc : c < nc a) (hd : d < nc a) (h : Q (nb (mg a c d)) v) : TX6_canBeMerged (nI c) (nI d) v Q X := by
  have := hW.1.2.2.2.1
  unfold TX6_canBeMerged BX6_canBeMerged_44 BX6_canBeMerged_45
  unfold mg at h
  rw [bd_sy hW] at h
  apply r_joined (c_ed hR) (by omega)
  apply r_joined (c_ed hR) (by omega)
  rw [st_and, ← an_st, cn_dis a (by omega) (by omega)]
  refine ⟨fun n => ?_, fun n => ?_⟩
  · rw [bt' n] at h; exact ⟨nar0, h⟩
  · rw [n, Bool.not_false, Bool.true_and] at h
    apply r_poa (c_fb hR)
    rw [st_and, ← an_st]
    refine ⟨fun n => ?_, fun n => ?_⟩
    · rw [bt' n] at h; exact ⟨nar0, h⟩
    · rw [n] at h; exact ⟨nar1, h⟩
/-! ===== The number of candidates ===== -/
def rc (a : gMem) (c j : Nat) : Nat := fb_ct (fun d => decide (c < d) && cd a c d) j
def tc (a : gMem) (i : Nat) : Nat := fb_sm (fun c => rc a c (nc a)) i
theorem rc_0 (a : gMem) (c : Nat) : rc a c (c + 1) = 0 := fb_ct_zero.mpr fun k hk => by rw [decide_eq_false (by omega), Bool.false_and]
theorem rc_s (a : gMem) {c j : Nat} (h : c < j) : rc a c (j + 1) = rc a c j + if cd a c j then 1 else 0 := by
  unfold rc
  rw [fb_ct_succ, decide_eq_true h, Bool.true_and]
theorem tc_s (a : gMem) (i : Nat) : tc a (i + 1) = tc a i + rc a i (nc a) := rfl
theorem c_nc (hR : RC v a) (hW : WF a) : v 6 0 3 = nI (nc a) := by rw [hR.1.2.1]; exact hW.1.2.2.1
theorem r_candidates (hR : RC v a) (hW : WF a) (h : Q (nI (tc a (nc a))) v) : TX6_candidates v Q X := by
  have hn := hW.1.2.2.2.1
  have e3 := c_nc hR hW
  unfold TX6_candidates LX6_candidates_4
  intro I hI
  have key : ∀ k, k ≤ nc a → I (nI (tc a k)) (nI k) v := up_to
    (by
      apply hI
      unfold BX6_candidates_4
      rw [e3]
      exact ⟨fun _ => h, fun n => absurd ((leI (by omega) (by omega)).mpr (Nat.le_refl _)) n⟩)
    (by
      intro k hk ih
      apply hI
      unfold BX6_candidates_4
      rw [e3]
      refine ⟨fun n => absurd ((leI (by omega) (by omega)).mp n) (by omega), fun _ => ?_⟩
      unfold LX6_candidates_16
      intro J hJ
      have inner : ∀ j, j ≤ nc a → k < j → J (nI (tc a k + rc a k j)) (nI j) v := up_to
        (by
          intro _
          apply hJ
          unfold BX6_candidates_16
          rw [e3]
          refine ⟨fun _ => ?_, fun n => absurd ((leI (by omega) (by omega)).mpr (Nat.le_refl _)) n⟩
          rw [nI_1, ← tc_s]
          exact ih)
        (by
          intro j hj ih2 hkj
          apply hJ
          unfold BX6_candidates_16 BX6_candidates_58
          rw [e3]
          refine ⟨fun n => absurd ((leI (by omega) (by omega)).mp n) (by omega), fun _ => ?_⟩
          have ih2 := ih2 (by omega)
          rw [rc_s a hkj] at ih2
          unfold cd at ih2
          apply r_sharesKey hR hW hk hj
          rw [nI_1 j]
          refine ⟨fun n => ?_, fun n => ?_⟩
          · rw [nb_0] at n; rw [n] at ih2; exact ih2
          · rw [nb_0] at n
            rw [bt' n, Bool.true_and] at ih2
            apply r_scoreOf hR hW hk hj
            rw [hR.1.2.2.1]
            refine ⟨fun n => ?_, fun n => ?_⟩
            · have n2 : ¬ th a ≤ sc a k j := fun q => by
                unfold th at q
                rw [Int32.le_iff_toInt_le] at q
                rw [Int32.lt_iff_toInt_lt] at n
                omega
              rw [decide_eq_false n2] at ih2; exact ih2
            · have n2 : th a ≤ sc a k j := by
                unfold th
                rw [Int32.le_iff_toInt_le]
                rw [Int32.lt_iff_toInt_lt] at n
                omega
              rw [decide_eq_true n2, Bool.true_and] at ih2
              apply r_canBeMerged hR hW hk hj
              refine ⟨fun n => ?_, fun n => ?_⟩
              · rw [nb_0] at n; rw [n] at ih2; exact ih2
              · rw [nb_0] at n; rw [bt' n] at ih2; rw [nI_1]; exact ih2)
      have := inner (k + 1) (by omega) (by omega)
      rw [rc_0, Nat.add_zero] at this
      rw [nI_1]
      exact this)
  exact key 0 (by omega)
end
