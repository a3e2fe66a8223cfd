/-! ===== Rules of the reference's methods on persons ===== -/
section
variable {a v : gMem} {X : String → gMem → Prop}
theorem m_within {w : gMem} {Q : Int32 → gMem → Prop} {x l h : Int32} (hy : l ≤ x → x ≤ h → Q 1 w) (hn : ¬ (l ≤ x ∧ x ≤ h) → Q 0 w) : TX7_isWithin x l h w Q X := by
  unfold TX7_isWithin BX7_isWithin_14 BX7_isWithin_15
  refine ⟨fun n => ⟨nar0, hn fun q => len q.1 n⟩, fun n => ⟨fun m => ⟨nar0, hn fun q => len q.2 m⟩, fun m => ⟨nar1, hy (nlt n) (nlt m)⟩⟩⟩
theorem in_or (x : Int32) {n : Nat} (hn : n < 65536) : (∃ c, c < n ∧ x = nI c) ∨ (∀ c, c < n → ¬ x = nI c) ∧ (x < 0 ∨ nI n ≤ x) ∧ ¬ (0 ≤ x ∧ x ≤ nI n - 1) := by
  by_cases h : x < 0
  · refine Or.inr ⟨fun c hc e => ?_, Or.inl h, fun q => ltn h q.1⟩
    rw [e] at h; exact nI_pos (by omega) h
  · obtain ⟨j, hj, e⟩ := nI_of h
    by_cases q : j < n
    · exact Or.inl ⟨j, q, e⟩
    · refine Or.inr ⟨fun c hc e2 => ?_, Or.inr ?_, fun r => ?_⟩
      · rw [e] at e2
        have := (nI_eq (by omega) (by omega)).mp e2
        omega
      · rw [e]; exact (nI_leI (by omega) (by omega)).mpr (by omega)
      · cases n with
        | zero =>
          have e3 : nI 0 - 1 = -1 := by decide
          rw [e, e3] at r
          exact absurd r.2 (by
            intro s
            rw [Int32.le_iff_toInt_le, nI_toInt (by omega)] at s
            have e4 : (-1 : Int32).toInt = -1 := by decide
            omega)
        | succ m =>
          rw [nI_pred, e] at r
          have := (nI_leI (by omega) (by omega)).mp r.2
          omega
theorem in_le {c n : Nat} (h : c < n) (hn : n < 65536) : (0 : Int32) ≤ nI c ∧ nI c ≤ nI n - 1 := by
  refine ⟨nI_pos' (by omega), ?_⟩
  obtain ⟨m, rfl⟩ : ∃ m, n = m + 1 := ⟨n - 1, by omega⟩
  rw [nI_pred]
  exact (nI_leI (by omega) (by omega)).mpr (by omega)
def T0 (w : gMem) (x : Int32) : gMem := gw w 7 0 0 x
theorem T0_M (w : gMem) (x : Int32) : fM w (T0 w x) := fM_gw _ _ _ _ (by omega)
theorem T0_0 (w : gMem) (x : Int32) : T0 w x 7 0 0 = x := gw_same _ _ _ _ _
theorem m_noCard (hM : RM v a) (hW : WF a) {Q : Int32 → gMem → Prop} {x : Int32} (hy : ∀ c, c < nc a → x = nI c → Q 0 (T0 v 0)) (hn : (∀ c, c < nc a → ¬ x = nI c) → Q 1 (T0 v 1)) : TX7_noCard x v Q X := by
  have h16 := hW.1.2.2.2.1
  unfold TX7_noCard BX7_noCard_20 BX7_noCard_35
  rw [m_nc hM hW]
  rcases in_or x (n := nc a) (by omega) with ⟨c, hc, e⟩ | ⟨h1, h2, h3⟩
  · apply m_within
    · intro _ _
      rw [gw_same, gw_same]
      exact ⟨fun q => absurd q (by decide), fun _ => ⟨fun _ => ⟨nar0, hy c hc e⟩, fun q => absurd rfl q⟩⟩
    · intro q
      rw [e] at q
      exact absurd (in_le hc (by omega)) q
  · apply m_within
    · intro q1 q2
      exact absurd ⟨q1, q2⟩ h3
    · intro q
      rw [gw_same, gw_same]
      exact ⟨fun _ => ⟨fun r => absurd r (by decide), fun _ => ⟨nar1, hn h1⟩⟩, fun r => absurd rfl r⟩
theorem m_noCards (hM : RM v a) (hW : WF a) {Q : Int32 → gMem → Prop} {x y : Int32} (hy : ∀ c d, c < nc a → d < nc a → x = nI c → y = nI d → ∀ w, fM v w → w 7 0 0 = 0 → Q 0 w) (hn : ¬ (∃ c d, c < nc a ∧ d < nc a ∧ x = nI c ∧ y = nI d) → ∀ w, fM v w → w 7 0 0 = 1 → Q 1 w) : TX7_noCards x y v Q X := by
  unfold TX7_noCards BX7_noCards_16 BX7_noCards_21
  apply m_noCard hM hW
  · intro c hc e
    refine ⟨fun q => absurd rfl q, fun _ => ?_⟩
    apply m_noCard (RM_M hM (T0_M _ _)) hW
    · intro d hd e2
      exact ⟨fun _ => ⟨nar0, hy c d hc hd e e2 _ (fM_tr (T0_M _ _) (T0_M _ _)) (T0_0 _ _)⟩, fun q => absurd rfl q⟩
    · intro h
      exact ⟨fun q => absurd q (by decide), fun _ => ⟨nar1, hn (fun ⟨c, d, _, hd, _, e2⟩ => h d hd e2) _ (fM_tr (T0_M _ _) (T0_M _ _)) (T0_0 _ _)⟩⟩
  · intro h
    exact ⟨fun _ => ⟨nar1, hn (fun ⟨c, d, hc, _, e, _⟩ => h c hc e) _ (T0_M _ _) (T0_0 _ _)⟩, fun q => absurd q (by decide)⟩
/-- A count of the cards: the loops of the reference. -/
theorem m_sizeOf (hM : RM v a) (hW : WF a) (hG : GA a v) {Q : Int32 → gMem → Prop} {c : Nat} (hc : c < nc a) (h : Q (nI (fb_ct (cn (ed a) c) 16)) v) : TX7_sizeOf (nI (cp (ed a) c)) v Q X := by
  have hn := hW.1.2.2.2.1
  have en := m_nc hM hW
  unfold TX7_sizeOf LX7_sizeOf_4
  intro I hI
  have key : ∀ k, k ≤ nc a → I (nI (fb_ct (cn (ed a) c) k)) (nI k) v := up_to
    (by
      apply hI
      unfold BX7_sizeOf_4
      rw [en]
      refine ⟨fun _ => ?_, fun n => absurd ((leI (by omega) (by omega)).mpr (Nat.le_refl _)) n⟩
      rw [← ct_n hn fun x _ hx => cn_n hW hc hx]
      exact h)
    (by
      intro k hk ih
      apply hI
      unfold BX7_sizeOf_4 BX7_sizeOf_28
      rw [en, clI (by omega), hG k hk, nI_1 k, i0, nI_add, nI_1]
      rw [fb_ct_succ] at ih
      refine ⟨fun n => absurd ((leI (by omega) (by omega)).mp n) (by omega), fun _ => ⟨in_nI (by omega), fun q => ?_, fun q => ?_⟩⟩
      · have e : cn (ed a) c k = false := bf fun r => q ((cpI hW hk hc).mpr r)
        rw [e] at ih; exact ih
      · rw [(cpI hW hk hc).mp q] at ih; exact ih)
  exact key 0 (by omega)
theorem m_personsGo (hM : RM v a) (hW : WF a) {Q : Int32 → gMem → Prop} (h : ∀ w, fL v w → Q (nI (fb_ct (fun c => decide (cp (ed a) c = c)) (nc a))) w) : TX7_persons v Q X := by
  have hn := hW.1.2.2.2.1
  unfold TX7_persons
  apply m_gather hM hW
  intro w hw hG
  have en := m_nc (RM_M hM (fL_M hw)) hW
  unfold LX7_persons_8
  intro I hI
  have key : ∀ k, k ≤ nc a → I (nI (fb_ct (fun c => decide (cp (ed a) c = c)) k)) (nI k) w := up_to
    (by
      apply hI
      unfold BX7_persons_8
      rw [en]
      exact ⟨fun _ => h w hw, fun n => absurd ((leI (by omega) (by omega)).mpr (Nat.le_refl _)) n⟩)
    (by
      intro k hk ih
      apply hI
      unfold BX7_persons_8 BX7_persons_32
      have le := cp_le (ed a) (c := k) (by omega)
      rw [en, clI (by omega), hG k hk, nI_1 k, i0, nI_add, nI_1]
      rw [fb_ct_succ] at ih
      refine ⟨fun n => absurd ((leI (by omega) (by omega)).mp n) (by omega), fun _ => ⟨in_nI (by omega), fun q => ?_, fun q => ?_⟩⟩
      · have q2 : ¬ cp (ed a) k = k := fun r => q (by rw [r])
        rw [decide_eq_false q2] at ih; exact ih
      · have q2 := (eqI (by omega) (by omega)).mp q
        rw [decide_eq_true q2] at ih; exact ih)
  exact key 0 (by omega)
/-- The class counts the same persons. -/
theorem pw_all (hW : WF a) : fb_ct (pw a (fun x => decide (x < nc a))) 16 = fb_ct (fun c => decide (cp (ed a) c = c)) (nc a) := by
  have hn := hW.1.2.2.2.1
  rw [ct_n hn fun x _ hx => by
    unfold pw at hx
    rw [Bool.and_eq_true] at hx
    exact of_decide_eq_true hx.1]
  apply fb_ct_cong
  intro k hk
  unfold pw
  rw [decide_eq_true hk, Bool.true_and, an_t.mpr ⟨k, by omega, by rw [cn_rf _ (by omega)]; show (true && decide (k < nc a)) = true; rw [decide_eq_true hk]; rfl⟩, Bool.and_true]
theorem m_isDisputed (hM : RM v a) (hW : WF a) (hG : GA a v) {Q : Int32 → gMem → Prop} {c f : Nat} (hc : c < nc a) (hf4 : f < 4) (h : Q (nb (dp a (cn (ed a) c) f)) v) : TX7_isDisputed (nI (cp (ed a) c)) (nI f) v Q X := by
  have hn := hW.1.2.2.2.1
  have en := m_nc hM hW
  have no : ∀ x y, ¬ ((cn (ed a) c x = true ∧ cn (ed a) c y = true) ∧ (hs a x f = true ∧ hs a y f = true) ∧ ag a x y f = false) ↔ ((cn (ed a) c x && cn (ed a) c y) && ((hs a x f && hs a y f) && !ag a x y f)) = false := by
    intro x y
    cases cn (ed a) c x <;> cases cn (ed a) c y <;> cases hs a x f <;> cases hs a y f <;> cases ag a x y f <;> simp
  unfold TX7_isDisputed LX7_isDisputed_2
  intro I hI
  have key : ∀ x, x ≤ nc a → (∀ i, i < x → ∀ y, y < i → ((cn (ed a) c i && cn (ed a) c y) && ((hs a i f && hs a y f) && !ag a i y f)) = false) → I (nI x) v := up_to
    (by
      intro hno
      apply hI
      unfold BX7_isDisputed_2
      rw [en]
      refine ⟨fun _ => ?_, fun n => absurd ((leI (by omega) (by omega)).mpr (Nat.le_refl _)) n⟩
      have e : dp a (cn (ed a) c) f = false := by
        unfold dp
        rw [an_f]
        intro x hx
        rw [an_f]
        exact hno x hx
      rw [e] at h; exact h)
    (by
      intro x hx ih hno
      apply hI
      unfold BX7_isDisputed_2
      rw [en]
      refine ⟨fun n => absurd ((leI (by omega) (by omega)).mp n) (by omega), fun _ => ?_⟩
      unfold LX7_isDisputed_13
      intro J hJ
      have inner : ∀ y, y ≤ x → (∀ j, j < y → ((cn (ed a) c x && cn (ed a) c j) && ((hs a x f && hs a j f) && !ag a x j f)) = false) → J (nI y) v := up_to
        (by
          intro hno2
          apply hJ
          unfold BX7_isDisputed_13
          refine ⟨fun _ => ?_, fun n => absurd ((leI (by omega) (by omega)).mpr (Nat.le_refl _)) n⟩
          rw [nI_1]
          apply ih
          intro i hi y hy
          rcases Nat.lt_or_eq_of_le (Nat.le_of_lt_succ hi) with t | t
          · exact hno i t y hy
          · rw [t] at hy ⊢; exact hno2 y hy)
        (by
          intro y hy ih2 hno2
          apply hJ
          unfold BX7_isDisputed_13 BX7_isDisputed_72
          rw [clI (by omega), clI (by omega), hG x hx, hG y (by omega), nI_1 y]
          have skip : ((cn (ed a) c x && cn (ed a) c y) && ((hs a x f && hs a y f) && !ag a x y f)) = false → J (nI (y + 1)) v := fun q => by
            apply ih2
            intro j hj
            rcases Nat.lt_or_eq_of_le (Nat.le_of_lt_succ hj) with t | t
            · exact hno2 j t
            · rw [t]; exact q
          refine ⟨fun n => absurd ((leI (by omega) (by omega)).mp n) (by omega), fun _ => ⟨in_nI (by omega), fun q => ?_, fun q => ⟨in_nI (by omega), fun r => ?_, fun r => ?_⟩⟩⟩
          · exact skip (by rw [bf fun s => q ((cpI hW hx hc).mpr s)]; rfl)
          · exact skip (by rw [show cn (ed a) c y = false from bf fun s => r ((cpI hW (by omega) hc).mpr s), Bool.and_false]; rfl)
          · have q2 := (cpI hW hx hc).mp q
            have r2 := (cpI hW (x := y) (by omega) hc).mp r
            apply m_has hM hW hx hf4
            refine ⟨fun s => ?_, fun s => ?_⟩
            · rw [nb_0] at s
              exact skip (by rw [s, Bool.false_and, Bool.false_and, Bool.and_false])
            · rw [nb_0] at s
              apply m_has hM hW (by omega) hf4
              refine ⟨fun t => ?_, fun t => ?_⟩
              · rw [nb_0] at t
                exact skip (by rw [t, Bool.and_false, Bool.false_and, Bool.and_false])
              · rw [nb_0] at t
                apply m_isSame hM hW hx (by omega) hf4
                refine ⟨fun u => ?_, fun u => ?_⟩
                · rw [nb_0] at u
                  exact skip (by rw [bt' u, Bool.not_true, Bool.and_false, Bool.and_false])
                · rw [nb_0] at u
                  have e : dp a (cn (ed a) c) f = true := by
                    unfold dp
                    rw [an_t]
                    refine ⟨x, hx, ?_⟩
                    rw [an_t]
                    exact ⟨y, hy, by rw [q2, r2, bt' s, bt' t, u]; rfl⟩
                  rw [e] at h; exact h)
      exact inner 0 (by omega) fun j hj => absurd hj (Nat.not_lt_zero j))
  exact key 0 (by omega) fun j hj => absurd hj (Nat.not_lt_zero j)
theorem m_gr (hM : RM v a) (hW : WF a) {g c : Nat} (hg : g < 4) (hc : c < 16) : v 45 0 (16 * g + c) = nb (gr a g c) := by
  rw [hM.2 45 (by unfold mkind; omega)]
  exact (hW.2.2.2.2.2.2.2.2.2.2.1 g c hg hc).1
theorem m_cardsIn (hM : RM v a) (hW : WF a) {Q : Int32 → gMem → Prop} {g : Nat} (hg : g < 4) (h : Q (nI (fb_ct (gr a g) 16)) v) : TX7_cardsIn (nI g) v Q X := by
  have hn := hW.1.2.2.2.1
  have en := m_nc hM hW
  unfold TX7_cardsIn LX7_cardsIn_4
  intro I hI
  have key : ∀ k, k ≤ nc a → I (nI (fb_ct (gr a g) k)) (nI k) v := up_to
    (by
      apply hI
      unfold BX7_cardsIn_4
      rw [en]
      refine ⟨fun _ => ?_, fun n => absurd ((leI (by omega) (by omega)).mpr (Nat.le_refl _)) n⟩
      rw [← ct_n hn fun x hx hy => (hW.2.2.2.2.2.2.2.2.2.2.1 g x hg hx).2 hy]
      exact h)
    (by
      intro k hk ih
      apply hI
      unfold BX7_cardsIn_4 BX7_cardsIn_32
      rw [en, x16, clI (by omega), m_gr hM hW hg (by omega), nI_1 k, i0, nI_add, nI_1]
      rw [fb_ct_succ] at ih
      refine ⟨fun n => absurd ((leI (by omega) (by omega)).mp n) (by omega), fun _ => ⟨in_nI (by omega), fun q => ?_, fun q => ?_⟩⟩
      · have q2 := (nb_0 _).mp q
        rw [q2] at ih; exact ih
      · have q2 : gr a g k = true := bt' fun r => q ((nb_0 _).mpr r)
        rw [q2] at ih; exact ih)
  exact key 0 (by omega)
theorem m_hasCard (hM : RM v a) (hW : WF a) (hG : GA a v) {Q : Int32 → gMem → Prop} {g c : Nat} (hg : g < 4) (hc : c < nc a) (h : Q (nb (an 16 (fun x => gr a g x && cn (ed a) c x))) v) : TX7_hasCard (nI g) (nI (cp (ed a) c)) v Q X := by
  have hn := hW.1.2.2.2.1
  have en := m_nc hM hW
  rw [an_n hn fun x _ hx => cn_n hW hc (by rw [Bool.and_eq_true] at hx; exact hx.2)] at h
  unfold TX7_hasCard LX7_hasCard_2
  intro I hI
  have key : ∀ k, k ≤ nc a → (∀ j, j < k → (gr a g j && cn (ed a) c j) = false) → I (nI k) v := up_to
    (by
      intro hno
      apply hI
      unfold BX7_hasCard_2
      rw [en]
      refine ⟨fun _ => ?_, fun n => absurd ((leI (by omega) (by omega)).mpr (Nat.le_refl _)) n⟩
      rw [an_f.mpr hno] at h; exact h)
    (by
      intro k hk ih hno
      apply hI
      unfold BX7_hasCard_2 BX7_hasCard_36
      rw [en, clI (by omega), hG k hk, x16, clI (by omega), m_gr hM hW hg (by omega), nI_1 k]
      have skip : (gr a g k && cn (ed a) c k) = false → I (nI (k + 1)) v := fun q => by
        apply ih
        intro j hj
        rcases Nat.lt_or_eq_of_le (Nat.le_of_lt_succ hj) with t | t
        · exact hno j t
        · rw [t]; exact q
      refine ⟨fun n => absurd ((leI (by omega) (by omega)).mp n) (by omega), fun _ => ⟨in_nI (by omega), fun q => ?_, fun q => ⟨in_nI (by omega), fun r => ?_, fun r => ?_⟩⟩⟩
      · exact skip (by rw [bf fun s => q ((cpI hW hk hc).mpr s), Bool.and_false])
      · exact skip (by rw [(nb_0 _).mp r, Bool.false_and])
      · have r2 : gr a g k = true := bt' fun s => r ((nb_0 _).mpr s)
        rw [an_t.mpr ⟨k, hk, by rw [r2, (cpI hW hk hc).mp q]; rfl⟩] at h
        exact h)
  exact key 0 (by omega) fun j hj => absurd hj (Nat.not_lt_zero j)
end
