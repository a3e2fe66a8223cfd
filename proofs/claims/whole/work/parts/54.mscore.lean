/-! ===== Rules of the reference's methods on scores, bars and candidates ===== -/
theorem hf_all : ∀ k, k < 19 → hf (nI k - 9) = if 0 ≤ nI k - 9 then (nI k - 9) / 2 else -((1 - (nI k - 9)) / 2) := by decide +kernel
theorem hf_m {w : Int32} (h1 : -9 ≤ w) (h2 : w ≤ 9) : hf w = if 0 ≤ w then w / 2 else -((1 - w) / 2) := by
  have e : ∃ k, k < 19 ∧ w = nI k - 9 := by
    rw [Int32.le_iff_toInt_le] at h1 h2
    have e1 : (-9 : Int32).toInt = -9 := by decide
    have e2 : (9 : Int32).toInt = 9 := by decide
    refine ⟨(w.toInt + 9).toNat, by omega, ?_⟩
    apply Int32.toInt_inj.mp
    rw [fb_subI]
    · rw [nI_toInt (by omega), e2]; omega
    · rw [nI_toInt (by omega), e2]; omega
    · rw [nI_toInt (by omega), e2]; omega
  obtain ⟨k, hk, rfl⟩ := e
  exact hf_all k hk
theorem i0 : (0 : Int32) = nI 0 := rfl
section
variable {a v : gMem} {X : String → gMem → Prop}
theorem m_nu (hM : RM v a) (c f : Nat) : v 33 0 (4 * c + f) = nu a c f := hM.2 33 (by unfold mkind; omega) _
theorem m_has (hM : RM v a) (hW : WF a) {Q : Int32 → gMem → Prop} {c f : Nat} (hc : c < nc a) (hf : f < 4) (h : Q (nb (hs a c f)) v) : TX7_has (nI c) (nI f) v Q X := by
  have hn := hW.1.2.2.2.1
  have hl := m_ln hM hW (c := c) (by omega)
  unfold TX7_has BX7_has_39
  unfold hs at h
  rw [x4, clI (by omega), m_nu hM, clI (by omega), hl.1]
  refine ⟨fun n => ⟨in_nI (by omega), fun q => ?_, fun q => ?_⟩, fun n => ⟨in_nI (by omega), fun q => ?_, fun q => ?_⟩⟩
  · have n2 : ¬ f = 0 := fun q => n (by rw [q]; rfl)
    rw [if_neg n2] at h
    rcases hW.2.2.2.2.2.1 c hc f (by omega) hf with r | ⟨r, r1, r2⟩
    · rw [decide_eq_true r] at h; exact ⟨nar0, h⟩
    · rw [r1] at q; exact absurd q (nI_pos (by omega))
  · have n2 : ¬ f = 0 := fun q => n (by rw [q]; rfl)
    rw [if_neg n2] at h
    have r : ¬ nu a c f = -1 := fun s => q (by rw [s]; decide)
    rw [decide_eq_false r] at h; exact ⟨nar1, h⟩
  · have n2 : f = 0 := (eqI (b := 0) (by omega) (by decide)).mp n
    rw [if_pos n2] at h
    have q2 := (leI (b := 0) (by omega) (by decide)).mp q
    rw [decide_eq_false (by omega)] at h; exact ⟨nar0, h⟩
  · have n2 : f = 0 := (eqI (b := 0) (by omega) (by decide)).mp n
    rw [if_pos n2] at h
    have q2 : ¬ ln a c ≤ 0 := fun r => q ((leI (b := 0) (by omega) (by decide)).mpr r)
    rw [decide_eq_true (by omega)] at h; exact ⟨nar1, h⟩
theorem m_isSame (hM : RM v a) (hW : WF a) {Q : Int32 → gMem → Prop} {c d f : Nat} (hc : c < nc a) (hd : d < nc a) (hf : f < 4) (h : Q (nb (ag a c d f)) v) : TX7_isSame (nI c) (nI d) (nI f) v Q X := by
  have hn := hW.1.2.2.2.1
  have hl := m_ln hM hW (c := c) (by omega)
  have hl2 := m_ln hM hW (c := d) (by omega)
  unfold TX7_isSame BX7_isSame_32
  rw [x4, x4, clI (by omega), clI (by omega), clI (by omega), clI (by omega), m_nu hM, m_nu hM, hl.1, hl2.1]
  refine ⟨fun n => ⟨in_nI (by omega), in_nI (by omega), fun q => ?_, fun q => ?_⟩, fun n => ⟨in_nI (by omega), in_nI (by omega), fun q => ?_, fun q => ?_⟩⟩
  · have n2 := (leI (b := 0) (by omega) (by decide)).mp n
    have n3 : f = 0 := by omega
    rw [n3] at h
    have q2 := (eqI (by omega) (by omega)).mp q
    unfold LX7_isSame_53
    intro I hI
    have key : ∀ k, k ≤ ln a c → (∀ l, l < k → lt a c l = lt a d l) → I (nI k) v := up_to
      (by
        intro hno
        apply hI
        unfold BX7_isSame_53
        rw [clI (a := c) (by omega), hl.1]
        refine ⟨in_nI (by omega), fun _ => ?_, fun n => absurd ((leI (by omega) (by omega)).mpr (Nat.le_refl _)) n⟩
        have e : ag a c d 0 = true := by unfold ag; rw [if_pos rfl, decide_eq_true_iff]; exact ⟨q2, hno⟩
        rw [e] at h; exact h)
      (by
        intro k hk ih hno
        apply hI
        unfold BX7_isSame_53
        rw [clI (a := c) (by omega), hl.1, x10, x10, clI (by omega), clI (by omega)]
        have l1 := m_lt hM hW (i := c) (k := k) (by omega) hk
        have l2 := m_lt hM hW (i := d) (k := k) (by omega) (by omega)
        rw [l1.1, l2.1, nI_1]
        refine ⟨in_nI (by omega), fun n => absurd ((leI (by omega) (by omega)).mp n) (by omega), fun _ => ⟨in_nI (by omega), in_nI (by omega), fun r => ?_, fun r => ?_⟩⟩
        · apply ih
          intro l hl
          rcases Nat.lt_or_eq_of_le (Nat.le_of_lt_succ hl) with t | t
          · exact hno l t
          · rw [t]; exact (eqI (by omega) (by omega)).mp r
        · have e : ag a c d 0 = false := bf fun t => by
            unfold ag at t
            rw [if_pos rfl, decide_eq_true_iff] at t
            exact r (by rw [t.2 k hk])
          rw [e] at h; exact h)
    exact key 0 (by omega) fun l hl => absurd hl (Nat.not_lt_zero l)
  · have n2 := (leI (b := 0) (by omega) (by decide)).mp n
    have n3 : f = 0 := by omega
    rw [n3] at h
    have e : ag a c d 0 = false := bf fun t => by
      unfold ag at t
      rw [if_pos rfl, decide_eq_true_iff] at t
      exact q (by rw [t.1])
    rw [e] at h; exact h
  · have n2 : ¬ f ≤ 0 := fun r => n ((leI (b := 0) (by omega) (by decide)).mpr r)
    unfold ag at h
    rw [if_neg (by omega), decide_eq_false q] at h; exact ⟨nar0, h⟩
  · have n2 : ¬ f ≤ 0 := fun r => n ((leI (b := 0) (by omega) (by decide)).mpr r)
    unfold ag at h
    rw [if_neg (by omega), decide_eq_true q] at h; exact ⟨nar1, h⟩
theorem m_scoreOf (hM : RM v a) (hW : WF a) {Q : Int32 → gMem → Prop} {c d : Nat} (hc : c < nc a) (hd : d < nc a) (h : ∀ w, fQ v w → Q (sc a c d) w) : TX7_scoreOf (nI c) (nI d) v Q X := by
  have hn := hW.1.2.2.2.1
  unfold TX7_scoreOf LX7_scoreOf_5
  intro I hI
  have key : ∀ k, k ≤ 4 → ∀ w, fQ v w → I (scK a c d k) (nI k) w := up_to
    (by
      intro w hw
      apply hI
      unfold BX7_scoreOf_5
      exact ⟨fun _ => h w hw, fun n => absurd ((leI (a := 4) (b := 4) (by decide) (by decide)).mpr (Nat.le_refl 4)) n⟩)
    (by
      intro f hf4 ih w hw
      apply hI
      unfold BX7_scoreOf_5 BX7_scoreOf_121 BX7_scoreOf_116 BX7_scoreOf_131
      have hMw := RM_M hM (fQ_M hw)
      have r34 : ∀ u, fQ v u → u 34 0 f = a 34 0 f := fun u hu => (RM_M hM (fQ_M hu)).2 34 (by unfold mkind; omega) f
      have r35 : ∀ u, fQ v u → u 35 0 f = a 35 0 f := fun u hu => (RM_M hM (fQ_M hu)).2 35 (by unfold mkind; omega) f
      have ih : ∀ u, fQ v u → I (scK a c d f + fs a c d f) (nI (f + 1)) u := ih
      have skip : fs a c d f = 0 → I (scK a c d f) (nI (f + 1)) w := fun e => by
        have := ih w hw
        rw [e, Int32.add_zero] at this
        exact this
      refine ⟨fun n => absurd ((leI (a := 4) (by decide) (by omega)).mp n) (by omega), fun _ => ?_⟩
      rw [nI_1, clI (by omega)]
      apply m_has hMw hW hc hf4
      refine ⟨fun n => ?_, fun n => ?_⟩
      · rw [nb_0] at n
        exact skip (by unfold fs; rw [n]; rfl)
      · rw [nb_0] at n
        have n := bt' n
        apply m_has hMw hW hd hf4
        refine ⟨fun m => ?_, fun m => ?_⟩
        · rw [nb_0] at m
          have m := bt' m
          apply m_isSame hMw hW hc hd hf4
          refine ⟨fun q => ?_, fun q => ⟨in_nI hf4, ?_⟩⟩
          · rw [nb_0] at q
            have other : ∀ u, fQ v u → ¬ (f = 0 ∧ ss a c d = true) → I (scK a c d f + u 35 0 f) (nI (f + 1)) u := fun u hu hno => by
              have := ih u hu
              have e : fs a c d f = a 35 0 f := by
                unfold fs
                rw [n, m, q, if_pos (by decide), if_neg (by decide), if_neg hno]
              rw [e] at this
              rw [r35 u hu]
              exact this
            refine ⟨fun r => ⟨in_nI hf4, other w hw fun s => r (by rw [s.1]; rfl)⟩, fun r => ⟨in_nI (by omega), in_nI (by omega), ?_⟩⟩
            have r2 : f = 0 := (eqI (b := 0) (by omega) (by decide)).mp r
            subst r2
            have hl := m_ln hMw hW (c := c) (by omega)
            have hl2 := m_ln hMw hW (c := d) (by omega)
            rw [clI (by omega), clI (by omega), hl.1, hl2.1]
            apply m_sameSound hMw hW (by omega) (by omega)
            intro u hu
            have hvu := fQ_tr hw hu
            refine ⟨fun s => ?_, fun s => ⟨in_nI hf4, ?_⟩⟩
            · rw [nb_0] at s
              exact ⟨in_nI hf4, other u hvu fun t => by rw [s] at t; exact absurd t.2 (by decide)⟩
            · rw [nb_0] at s
              have wr := hW.2.2.2.2.2.2.1 0 hf4
              have hh := hf_m wr.1 wr.2
              rw [show (0 : Int32).toNatClampNeg = 0 from cl0, r34 u hvu]
              have := ih u hvu
              have e : fs a c d 0 = hf (a 34 0 0) := by
                unfold fs
                rw [n, m, q, if_pos (by decide), if_neg (by decide), if_pos ⟨rfl, bt' s⟩]
              rw [e, hh] at this
              refine ⟨fun t => ⟨in_nI hf4, by decide, ?_⟩, fun t => ⟨in_nI hf4, by decide, ?_⟩⟩
              · rw [if_pos t] at this; exact this
              · rw [if_neg t] at this; exact this
          · rw [nb_0] at q
            have := ih w hw
            have e : fs a c d f = a 34 0 f := by
              unfold fs
              rw [n, m, bt' q, if_pos (by decide), if_pos rfl]
            rw [e] at this
            rw [r34 w hw]
            exact this
        · rw [nb_0] at m
          exact skip (by unfold fs; rw [n, m]; rfl))
  exact key 0 (by omega) v (fQ_rf v)
theorem m_isPair (hM : RM v a) (hW : WF a) {Q : Int32 → gMem → Prop} {c d : Nat} (hc : c < 16) (hd : d < 16) (h : Q (nb (fb a c d)) v) : TX7_isPair (nI c) (nI d) v Q X := by
  unfold TX7_isPair
  rw [x16, clI (by omega), hM.2 44 (by unfold mkind; omega), (hW.2.2.2.2.2.2.2.2.2.1 c d hc hd).1]
  exact ⟨in_nI (by omega), nb_nar _, h⟩
def b1 (a : gMem) (c d : Nat) : Nat := fa_first (br a c d) 16
def b2 (a : gMem) (c d : Nat) : Nat := fa_first (fun y => fb a (b1 a c d) y && cn (ed a) d y) 16
theorem cpI (hW : WF a) {x c : Nat} (hx : x < nc a) (hc : c < nc a) : nI (cp (ed a) x) = nI (cp (ed a) c) ↔ cn (ed a) c x = true := by
  have hn := hW.1.2.2.2.1
  have l1 := cp_le (ed a) (c := x) (by omega)
  have l2 := cp_le (ed a) (c := c) (by omega)
  rw [eqI (by omega) (by omega), cp_eq (ed_sy a) (by omega) (by omega)]
  exact ⟨fun h => cn_sy (ed_sy a) (by omega) (by omega) h, fun h => cn_sy (ed_sy a) (by omega) (by omega) h⟩
theorem m_isBarred (hM : RM v a) (hW : WF a) (hG : GA a v) {Q : Int32 → gMem → Prop} {c d : Nat} (hc : c < nc a) (hd : d < nc a) (h0 : bd a c d = false → Q 0 v) (h1 : bd a c d = true → b1 a c d < nc a → b2 a c d < nc a → Q 1 (gw (gw v 7 0 7 (nI (b1 a c d))) 7 0 8 (nI (b2 a c d)))) : TX7_isBarred (nI (cp (ed a) c)) (nI (cp (ed a) d)) v Q X := by
  have hn := hW.1.2.2.2.1
  have en := m_nc hM hW
  have hit : ∀ x y, x < 16 → y < 16 → (cn (ed a) c x = true ∧ cn (ed a) d y = true ∧ fb a x y = true) → br a c d x = true := by
    intro x y hx hy ⟨q1, q2, q3⟩
    unfold br
    rw [q1, Bool.true_and, nx_t]
    exact ⟨y, hy, q2, by rw [fb_sy hW hy hx]; exact q3⟩
  unfold TX7_isBarred LX7_isBarred_2
  intro I hI
  have key : ∀ x, x ≤ nc a → (∀ j, j < x → br a c d j = false) → I (nI x) v := up_to
    (by
      intro hno
      apply hI
      unfold BX7_isBarred_2
      rw [en]
      refine ⟨fun _ => ?_, fun n => absurd ((leI (by omega) (by omega)).mpr (Nat.le_refl _)) n⟩
      apply h0
      unfold bd
      rw [an_f]
      intro x hx
      apply bf
      intro q
      have q2 := q
      unfold br at q2
      rw [Bool.and_eq_true] at q2
      rw [hno x (cn_n hW hc q2.1)] at q
      cases q)
    (by
      intro x hx ih hno
      apply hI
      unfold BX7_isBarred_2
      rw [en]
      refine ⟨fun n => absurd ((leI (by omega) (by omega)).mp n) (by omega), fun _ => ?_⟩
      unfold LX7_isBarred_13
      intro J hJ
      have inner : ∀ y, y ≤ nc a → (∀ j, j < y → ¬ (cn (ed a) c x = true ∧ cn (ed a) d j = true ∧ fb a x j = true)) → J (nI y) v := up_to
        (by
          intro hno2
          apply hJ
          unfold BX7_isBarred_13
          rw [en]
          refine ⟨fun _ => ?_, fun n => absurd ((leI (by omega) (by omega)).mpr (Nat.le_refl _)) n⟩
          rw [nI_1]
          apply ih
          intro j hj
          rcases Nat.lt_or_eq_of_le (Nat.le_of_lt_succ hj) with t | t
          · exact hno j t
          · rw [t]
            apply bf
            intro q
            unfold br at q
            rw [Bool.and_eq_true, nx_t] at q
            obtain ⟨q1, y, hy, q2, q3⟩ := q
            exact hno2 y (cn_n hW hd q2) ⟨q1, q2, by rw [fb_sy hW (by omega) hy]; exact q3⟩)
        (by
          intro y hy ih2 hno2
          apply hJ
          unfold BX7_isBarred_13 BX7_isBarred_69
          rw [en, clI (by omega), clI (by omega), hG x hx, hG y hy, nI_1 y]
          have skip : ¬ (cn (ed a) c x = true ∧ cn (ed a) d y = true ∧ fb a x y = true) → J (nI (y + 1)) v := fun q => by
            apply ih2
            intro j hj
            rcases Nat.lt_or_eq_of_le (Nat.le_of_lt_succ hj) with t | t
            · exact hno2 j t
            · rw [t]; exact q
          refine ⟨fun n => absurd ((leI (by omega) (by omega)).mp n) (by omega), fun _ => ⟨in_nI (by omega), fun q => ?_, fun q => ⟨in_nI (by omega), fun r => ?_, fun r => ?_⟩⟩⟩
          · exact skip fun s => q ((cpI hW hx hc).mpr s.1)
          · exact skip fun s => r ((cpI hW hy hd).mpr s.2.1)
          · apply m_isPair hM hW (by omega) (by omega)
            refine ⟨fun s => ?_, fun s => ?_⟩
            · rw [nb_0] at s
              have q2 := (cpI hW hx hc).mp q
              have r2 := (cpI hW hy hd).mp r
              have hb := hit x y (by omega) (by omega) ⟨q2, r2, bt' s⟩
              have e1 : b1 a c d = x := fi_is (by omega) hb hno
              have e2 : b2 a c d = y := by
                unfold b2
                rw [e1]
                refine fi_is (by omega) (by rw [bt' s, r2]; rfl) fun j hj => bf fun t => ?_
                rw [Bool.and_eq_true] at t
                exact hno2 j hj ⟨q2, t.2, t.1⟩
              have := h1 (by unfold bd; rw [an_t]; exact ⟨x, by omega, hb⟩) (by omega) (by omega)
              rw [e1, e2] at this
              exact this
            · rw [nb_0] at s
              exact skip fun t => by rw [s] at t; exact absurd t.2.2 (by decide))
      exact inner 0 (by omega) fun j hj => absurd hj (Nat.not_lt_zero j))
  exact key 0 (by omega) fun j hj => absurd hj (Nat.not_lt_zero j)
end
