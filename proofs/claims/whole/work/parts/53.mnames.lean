/-! ===== Rules of the reference's methods on names and scores ===== -/
/-- What the reference's sounds and bars may change. -/
def fQ (v w : gMem) : Prop := (∀ k, k ≠ 40 → k ≠ 7 → w k = v k) ∧ ∀ j, j < 7 → w 7 0 j = v 7 0 j
theorem fQ_rf (v : gMem) : fQ v v := ⟨fun _ _ _ => rfl, fun _ _ => rfl⟩
theorem fQ_tr {v w u : gMem} (h : fQ v w) (h2 : fQ w u) : fQ v u := ⟨fun k h3 h4 => (h2.1 k h3 h4).trans (h.1 k h3 h4), fun j hj => (h2.2 j hj).trans (h.2 j hj)⟩
theorem fQ_M {v w : gMem} (h : fQ v w) : fM v w := ⟨fun k hk => h.1 k (by unfold ckind mkind at hk; omega) (by unfold ckind mkind at hk; omega), fun j _ _ => h.2 j (by omega)⟩
theorem fQ_gw (v : gMem) {k : Nat} (i j : Nat) (x : Int32) (h : k = 40 ∨ (k = 7 ∧ 7 ≤ j)) : fQ v (gw v k i j x) := by
  constructor
  · intro l h1 h2
    funext i' j'
    unfold gw
    rw [if_neg]
    rintro ⟨q, -, -⟩
    omega
  · intro l hl
    unfold gw
    rw [if_neg]
    omega
/-- What laying one sound may change. -/
def fO (i : Nat) (v w : gMem) : Prop := ∀ k j, ¬ (k = 40 ∧ j = i) → w k j = v k j
theorem fO_rf (i : Nat) (v : gMem) : fO i v v := fun _ _ _ => rfl
theorem fO_tr {i : Nat} {v w u : gMem} (h : fO i v w) (h2 : fO i w u) : fO i v u := fun k j hk => (h2 k j hk).trans (h k j hk)
theorem fO_Q {i : Nat} {v w : gMem} (h : fO i v w) : fQ v w := ⟨fun k h1 _ => funext fun j => h k j (by omega), fun j _ => by rw [h 7 0 (by omega)]⟩
theorem fO_gw (i : Nat) (v : gMem) (j : Nat) (x : Int32) : fO i v (gw v 40 i j x) := by
  intro l i' h
  funext j'
  unfold gw
  rw [if_neg]
  rintro ⟨q, r, -⟩
  exact h ⟨q, r⟩
theorem eqL {x k : Nat} (hx : x < 65536) (hk : k < 65536) (y : Int32) (hy : y = nI k) : (nI x = y) = (x = k) := by
  subst hy
  exact propext (eqI hx hk)
section
variable {a v : gMem} {X : String → gMem → Prop}
theorem m_digit {w : gMem} {Q : Int32 → gMem → Prop} {x : Nat} (hx : x < 65536) (h : Q (nI (dg x)) w) : TX7_digit (nI x) w Q X := by
  unfold TX7_digit BX7_digit_24 BX7_digit_74 BX7_digit_88 BX7_digit_110 BX7_digit_124
  simp only [eqL hx (k := 98) (by decide) 98 rfl, eqL hx (k := 102) (by decide) 102 rfl, eqL hx (k := 112) (by decide) 112 rfl, eqL hx (k := 118) (by decide) 118 rfl, eqL hx (k := 99) (by decide) 99 rfl, eqL hx (k := 103) (by decide) 103 rfl, eqL hx (k := 106) (by decide) 106 rfl, eqL hx (k := 107) (by decide) 107 rfl, eqL hx (k := 113) (by decide) 113 rfl, eqL hx (k := 115) (by decide) 115 rfl, eqL hx (k := 120) (by decide) 120 rfl, eqL hx (k := 122) (by decide) 122 rfl, eqL hx (k := 100) (by decide) 100 rfl, eqL hx (k := 116) (by decide) 116 rfl, eqL hx (k := 108) (by decide) 108 rfl, eqL hx (k := 109) (by decide) 109 rfl, eqL hx (k := 110) (by decide) 110 rfl, eqL hx (k := 114) (by decide) 114 rfl]
  repeat' (apply And.intro <;> intro _)
  all_goals
    refine fa_post (P := fun r => Q r w) ?_ h
    unfold dg
    repeat' split
    all_goals first | rfl | (exfalso; omega)
theorem r_digitOf {w : gMem} {Q : Int32 → gMem → Prop} {x : Nat} (hx : x < 65536) (h : Q (nI (48 + dg x)) w) : TX4_digitOf (nI x) w Q X := by
  unfold TX4_digitOf BX4_digitOf_134 BX4_digitOf_116 BX4_digitOf_119 BX4_digitOf_122 BX4_digitOf_128
  rw [nI_toInt (by omega)]
  refine ⟨fun _ => ?_, fun _ => ?_, fun _ => ?_, fun _ => ?_, fun _ => ?_, fun _ => ?_, fun _ => ?_, fun _ => ?_⟩
  all_goals
    refine fa_post (P := fun r => Q r w) ?_ h
    unfold dg
    repeat' split
    all_goals first | rfl | (exfalso; omega)
theorem m_ln (hM : RM v a) (hW : WF a) {c : Nat} (hc : c < 16) : v 32 0 c = nI (ln a c) ∧ ln a c ≤ 10 := by
  unfold ln
  rw [if_neg (by omega), hM.2 32 (by unfold mkind; omega)]
  exact hW.2.2.2.1 c hc
theorem m_ty (hM : RM v a) (hW : WF a) : v 7 0 6 = nI (ln a 16) ∧ ln a 16 ≤ 10 := by
  unfold ln
  rw [if_pos rfl, hM.1 6 (by omega) (by omega)]
  exact ⟨hW.1.2.2.2.2.2.2.2.2.1, hW.1.2.2.2.2.2.2.2.2.2⟩
theorem ln_le (hW : WF a) {i : Nat} (hi : i < 17) : ln a i ≤ 10 := by
  unfold ln
  split
  · exact hW.1.2.2.2.2.2.2.2.2.2
  · exact (hW.2.2.2.1 i (by omega)).2
theorem m_lt (hM : RM v a) (hW : WF a) {i k : Nat} (hi : i < 17) (hk : k < ln a i) : v 42 0 (10 * i + k) = nI (lt a i k) ∧ 97 ≤ lt a i k ∧ lt a i k ≤ 122 := by
  rw [hM.2 42 (by unfold mkind; omega)]
  exact hW.2.2.2.2.1 i hi k hk
theorem x10 (c k : Nat) : (10 : Int32) * nI c + nI k = nI (10 * c + k) := by
  rw [show (10 : Int32) = nI 10 from rfl, nI_mul, nI_add]
theorem x4 (c k : Nat) : (4 : Int32) * nI c + nI k = nI (4 * c + k) := by
  rw [show (4 : Int32) = nI 4 from rfl, nI_mul, nI_add]
theorem x16 (c k : Nat) : (16 : Int32) * nI c + nI k = nI (16 * c + k) := by
  rw [show (16 : Int32) = nI 16 from rfl, nI_mul, nI_add]
theorem sn_stop (l : Nat → Nat) {k : Nat} (h1 : 1 ≤ k) (h : sn l k = 4) : ∀ d, sn l (k + d) = 4 ∧ sr l (k + d) = sr l k
  | 0 => ⟨h, rfl⟩
  | d + 1 => by
    have ih := sn_stop l h1 h d
    have e1 : sn l (k + d + 1) = sn l (k + d) := by
      show (if k + d = 0 then 1 else if _ then _ else _) = _
      rw [if_neg (by omega), if_neg (by omega)]
    have e2 : sr l (k + d + 1) = sr l (k + d) := by
      funext x
      show (if k + d = 0 then _ else if _ then _ else _) = _
      rw [if_neg (by omega), if_neg (by omega)]
    exact ⟨by rw [← Nat.add_assoc, e1]; exact ih.1, by rw [← Nat.add_assoc, e2]; exact ih.2⟩
theorem m_sounds (hM : RM v a) (hW : WF a) {i3 i : Nat} (hi : i < 17) {Q : Int32 → gMem → Prop} (h : ∀ w, fO i3 v w → (∀ k, k < 4 → w 40 i3 k = nI (sr (lt a i) (ln a i) k)) → Q (nI (sn (lt a i) (ln a i))) w) : TX7_sounds i3 (nI i) (nI (ln a i)) v Q X := by
  have hl := ln_le hW hi
  have hMw : ∀ w, fO i3 v w → RM w a := fun w hw => RM_M hM (fQ_M (fO_Q hw))
  unfold TX7_sounds LX7_sounds_3
  intro I hI
  have key : ∀ k, k ≤ 4 → ∀ w, fO i3 v w → (∀ j, j < k → w 40 i3 j = 0) → I (nI k) w := up_to
    (by
      intro w hw hz
      apply hI
      unfold BX7_sounds_3
      refine ⟨fun _ => ⟨fun n => ?_, fun n => ?_⟩, fun n => absurd ((leI (a := 4) (b := 4) (by decide) (by decide)).mpr (Nat.le_refl 4)) n⟩
      · have n2 : ¬ ln a i = 0 := fun q => n (by rw [q]; rfl)
        have e10 : (10 : Int32) * nI i = nI (10 * i) := by rw [show (10 : Int32) = nI 10 from rfl, nI_mul]
        rw [e10, clI (by omega), show (0 : Int32) = nI 0 from rfl, clI (by omega)]
        have l0 := m_lt (hMw w hw) hW hi (k := 0) (by omega)
        rw [Nat.add_zero] at l0
        rw [l0.1]
        refine ⟨in_nI (by omega), in_nI (by omega), ?_⟩
        unfold LX7_sounds_44
        intro J hJ
        have loop : ∀ k, k ≤ ln a i → 1 ≤ k → ∀ w, fO i3 v w → (∀ j, j < 4 → w 40 i3 j = nI (sr (lt a i) k j)) → J (nI (sn (lt a i) k)) (nI k) w := up_to
          (by
            intro _ w hw hr
            apply hJ
            unfold BX7_sounds_44 BX7_sounds_118
            exact ⟨fun _ => h w hw hr, fun n => absurd ((leI (by omega) (by omega)).mpr (Nat.le_refl _)) n⟩)
          (by
            intro k hk ih h1 w hw hr
            apply hJ
            have s4 := sn_le (lt a i) k
            have es : sn (lt a i) (k + 1) = if sn (lt a i) k < 4 ∧ dg (lt a i k) ≠ 0 ∧ dg (lt a i k) ≠ dg (lt a i (k - 1)) then sn (lt a i) k + 1 else sn (lt a i) k := by
              show (if k = 0 then 1 else _) = _
              rw [if_neg (by omega)]
            have er : ∀ j, sr (lt a i) (k + 1) j = if sn (lt a i) k < 4 ∧ dg (lt a i k) ≠ 0 ∧ dg (lt a i k) ≠ dg (lt a i (k - 1)) then (if j = sn (lt a i) k then dg (lt a i k) else sr (lt a i) k j) else sr (lt a i) k j := by
              intro j
              show (if k = 0 then _ else _) = _
              rw [if_neg (by omega)]
            have keep : ¬ (sn (lt a i) k < 4 ∧ dg (lt a i k) ≠ 0 ∧ dg (lt a i k) ≠ dg (lt a i (k - 1))) → J (nI (sn (lt a i) k)) (nI (k + 1)) w := by
              intro hno
              have := ih (by omega) w hw (fun j hj => by rw [er, if_neg hno]; exact hr j hj)
              rw [es, if_neg hno] at this
              exact this
            unfold BX7_sounds_44 BX7_sounds_118 BX7_sounds_112
            rw [x10, clI (by omega)]
            have lk := m_lt (hMw w hw) hW hi (k := k) hk
            have ep : nI (10 * i + k) - 1 = nI (10 * i + (k - 1)) := by
              rw [show 10 * i + k = (10 * i + (k - 1)) + 1 by omega, nI_pred]
            have lq := m_lt (hMw w hw) hW hi (k := k - 1) (by omega)
            rw [lk.1, ep, clI (by omega), nI_1 k]
            refine ⟨fun n => absurd ((leI (by omega) (by omega)).mp n) (by omega), fun _ => ⟨fun n => ?_, fun n => ⟨in_nI (by omega), ?_⟩⟩⟩
            · have n2 := (leI (a := 4) (by omega) (by omega)).mp n
              have st4 := sn_stop (lt a i) h1 (by omega) (ln a i - k)
              rw [show k + (ln a i - k) = ln a i by omega] at st4
              have := h w hw (fun j hj => by rw [st4.2]; exact hr j hj)
              rw [st4.1] at this
              rw [show sn (lt a i) k = 4 by omega]
              exact this
            · have n2 : ¬ 4 ≤ sn (lt a i) k := fun q => n ((leI (a := 4) (by omega) (by omega)).mpr q)
              apply m_digit (by omega)
              have d1 := dg_le (lt a i k)
              have d2 := dg_le (lt a i (k - 1))
              refine ⟨fun q => ?_, fun q => ⟨in_nI (by omega), ?_⟩⟩
              · have q2 : dg (lt a i k) = 0 := (eqI (b := 0) (by omega) (by decide)).mp q
                exact keep fun r => r.2.1 q2
              · have q2 : ¬ dg (lt a i k) = 0 := fun r => q (by rw [r]; rfl)
                rw [lq.1]
                apply m_digit (by omega)
                refine ⟨fun r => ⟨in_nI (by omega), ?_⟩, fun r => ?_⟩
                · have hyes : sn (lt a i) k < 4 ∧ dg (lt a i k) ≠ 0 ∧ dg (lt a i k) ≠ dg (lt a i (k - 1)) := ⟨by omega, q2, fun s => r (by rw [s])⟩
                  rw [nI_1, clI (by omega)]
                  have := ih (by omega) (gw w 40 i3 (sn (lt a i) k) (nI (dg (lt a i k)))) (fO_tr hw (fO_gw _ _ _ _)) (fun j hj => by
                    rw [er, if_pos hyes]
                    by_cases s : j = sn (lt a i) k
                    · rw [s, gw_same, if_pos rfl]
                    · rw [gw_ne _ _ (by omega), if_neg s]; exact hr j hj)
                  rw [es, if_pos hyes] at this
                  exact this
                · have r2 := (eqI (by omega) (by omega)).mp r
                  exact keep fun s => s.2.2 r2)
        exact loop 1 (by omega) (by omega) (gw w 40 i3 0 (nI (lt a i 0))) (fO_tr hw (fO_gw _ _ _ _)) (fun j hj => by
          show _ = nI (if 0 = 0 then (if j = 0 then lt a i 0 else 0) else _)
          rw [if_pos rfl]
          by_cases s : j = 0
          · rw [s, gw_same, if_pos rfl]
          · rw [gw_ne _ _ (by omega), if_neg s]; exact hz j hj)
      · have n2 : ln a i = 0 := (eqI (b := 0) (by omega) (by decide)).mp n
        have := h w hw (fun k hk => by rw [n2]; exact hz k hk)
        rw [n2] at this
        exact this)
    (by
      intro k hk ih w hw hz
      apply hI
      unfold BX7_sounds_3
      refine ⟨fun n => absurd ((leI (a := 4) (by decide) (by omega)).mp n) (by omega), fun _ => ⟨in_nI (by omega), ?_⟩⟩
      rw [nI_1, clI (by omega)]
      exact ih _ (fO_tr hw (fO_gw _ _ _ _)) (fun j hj => by
        by_cases s : j = k
        · rw [s, gw_same]
        · rw [gw_ne _ _ (by omega)]; exact hz j (by omega)))
  exact key 0 (by omega) v (fO_rf i3 v) fun j hj => absurd hj (Nat.not_lt_zero j)
theorem m_sameSound (hM : RM v a) (hW : WF a) {i j : Nat} (hi : i < 17) (hj : j < 17) {Q : Int32 → gMem → Prop} (h : ∀ w, fQ v w → Q (nb (ss a i j)) w) : TX7_isSameSound (nI i) (nI (ln a i)) (nI j) (nI (ln a j)) v Q X := by
  have s4 := sn_le (lt a i) (ln a i)
  have s42 := sn_le (lt a j) (ln a j)
  have hl := ln_le hW hi
  unfold TX7_isSameSound BX7_isSameSound_33
  apply m_sounds hM hW hi
  intro w hw hr
  refine ⟨fun n => ?_, fun n => ?_⟩
  · have n2 : sn (lt a i) (ln a i) = 0 := (eqI (b := 0) (by omega) (by decide)).mp n
    have e : ss a i j = false := bf fun q => by
      unfold ss at q
      rw [decide_eq_true_iff] at q
      obtain ⟨p, hp⟩ : ∃ p, ln a i = p + 1 := ⟨ln a i - 1, by omega⟩
      rw [hp] at n2
      have := sn_ge (lt a i) p
      omega
    have := h w (fO_Q hw)
    rw [e] at this
    exact this
  · have n2 : ¬ sn (lt a i) (ln a i) = 0 := fun q => n (by rw [q]; rfl)
    have hpos : 0 < ln a i := by
      apply Nat.pos_of_ne_zero
      intro q
      rw [q] at n2
      exact n2 rfl
    apply m_sounds (RM_M hM (fQ_M (fO_Q hw))) hW hj
    intro u hu hr2
    have hvu := fQ_tr (fO_Q hw) (fO_Q hu)
    refine ⟨fun q => ?_, fun q => ?_⟩
    · have q2 := (eqI (by omega) (by omega)).mp q
      unfold LX7_isSameSound_38
      intro I hI
      have key : ∀ k, k ≤ sn (lt a i) (ln a i) → (∀ l, l < k → sr (lt a i) (ln a i) l = sr (lt a j) (ln a j) l) → I (nI k) u := up_to
        (by
          intro hn
          apply hI
          unfold BX7_isSameSound_38
          refine ⟨fun _ => ?_, fun n => absurd ((leI (by omega) (by omega)).mpr (Nat.le_refl _)) n⟩
          have e : ss a i j = true := by
            unfold ss
            rw [decide_eq_true_iff]
            exact ⟨hpos, q2.symm, hn⟩
          have := h u hvu
          rw [e] at this
          exact this)
        (by
          intro k hk ih hn
          apply hI
          unfold BX7_isSameSound_38
          have b1 : sr (lt a i) (ln a i) k < 65536 := by
            by_cases c : k = 0
            · obtain ⟨p, hp⟩ : ∃ p, ln a i = p + 1 := ⟨ln a i - 1, by omega⟩
              have := (m_lt hM hW hi (k := 0) hpos).2
              rw [c, hp, sr_0]; omega
            · have := sr_le (lt a i) (ln a i) k (by omega); omega
          have b2 : sr (lt a j) (ln a j) k < 65536 := by
            by_cases c : k = 0
            · have : 0 < ln a j := by
                apply Nat.pos_of_ne_zero
                intro r
                rw [r] at q2
                have e0 : sn (lt a j) 0 = 0 := rfl
                omega
              obtain ⟨p, hp⟩ : ∃ p, ln a j = p + 1 := ⟨ln a j - 1, by omega⟩
              have := (m_lt hM hW hj (k := 0) this).2
              rw [c, hp, sr_0]; omega
            · have := sr_le (lt a j) (ln a j) k (by omega); omega
          rw [clI (by omega), hr2 k (by omega), hu 40 0 (by omega), hr k (by omega), nI_1]
          refine ⟨fun n => absurd ((leI (by omega) (by omega)).mp n) (by omega), fun _ => ⟨in_nI (by omega), in_nI (by omega), fun r => ?_, fun r => ?_⟩⟩
          · apply ih
            intro l hl
            rcases Nat.lt_or_eq_of_le (Nat.le_of_lt_succ hl) with t | t
            · exact hn l t
            · rw [t]; exact (eqI b1 b2).mp r
          · have e : ss a i j = false := bf fun t => by
              unfold ss at t
              rw [decide_eq_true_iff] at t
              exact r (by rw [t.2.2 k hk])
            have := h u hvu
            rw [e] at this
            exact this)
      exact key 0 (by omega) fun l hl => absurd hl (Nat.not_lt_zero l)
    · have e : ss a i j = false := bf fun t => by
        unfold ss at t
        rw [decide_eq_true_iff] at t
        exact q (by rw [t.2.1])
      have := h u hvu
      rw [e] at this
      exact this
end
