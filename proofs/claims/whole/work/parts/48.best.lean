/-! ===== Rules of the class's methods on keys and the best pair ===== -/
theorem fS_gw (v : gMem) {k : Nat} (i j : Nat) (x : Int32) (h : ¬ (ckind k ∨ 26 ≤ k ∨ k = 7)) : fS v (gw v k i j x) := by
  intro l hl
  funext i' j'
  unfold gw
  rw [if_neg]
  rintro ⟨q, -, -⟩
  rw [q] at hl
  exact h hl
theorem gw_same (v : gMem) (k i j : Nat) (x : Int32) : gw v k i j x k i j = x := by unfold gw; rw [if_pos ⟨rfl, rfl, rfl⟩]
theorem gw_ne (v : gMem) {k i j k' i' j' : Nat} (x : Int32) (h : ¬ (k' = k ∧ i' = i ∧ j' = j)) : gw v k i j x k' i' j' = v k' i' j' := by unfold gw; rw [if_neg h]
theorem not_k {k : Nat} (h : k = 0 ∨ k = 1 ∨ k = 15 ∨ k = 20 ∨ k = 24 ∨ k = 25) : ¬ (ckind k ∨ 26 ≤ k ∨ k = 7) := by unfold ckind; omega
/-- What the gathering of mates may change. -/
def fG (v w : gMem) : Prop := ∀ k, ¬ (k = 1 ∨ k = 15 ∨ k = 24 ∨ k = 25) → w k = v k
theorem fG_rf (v : gMem) : fG v v := fun _ _ => rfl
theorem fG_tr {v w u : gMem} (h : fG v w) (h2 : fG w u) : fG v u := fun k hk => (h2 k hk).trans (h k hk)
theorem fG_S {v w : gMem} (h : fG v w) : fS v w := fun k hk => h k (by unfold ckind at hk; omega)
theorem fG_gw (v : gMem) {k : Nat} (i j : Nat) (x : Int32) (h : k = 1 ∨ k = 15 ∨ k = 24 ∨ k = 25) : fG v (gw v k i j x) := by
  intro l hl
  funext i' j'
  unfold gw
  rw [if_neg]
  rintro ⟨q, -, -⟩
  rw [q] at hl
  exact hl h
def kf (a : gMem) (c f : Nat) : Int32 := if f = 0 then ks a c else nu a c f
def fp (w : gMem) (q : Nat) (y : Int32) : Nat := fa_first (fun p => decide (w 24 0 p = y)) q
section
variable {a v : gMem} {X : String → gMem → Prop}
theorem r_placeOf {w : gMem} {Q : Int32 → gMem → Prop} {q : Nat} (hq : q ≤ 16) (hw : w 1 0 2 = nI q) {y : Int32} (h : Q (nI (fp w q y)) w) : TX1_placeOf y w Q X := by
  unfold TX1_placeOf LX1_placeOf_2
  intro I hI
  have key : ∀ k, k ≤ q → (∀ p, p < k → ¬ w 24 0 p = y) → I (nI k) w := up_to
    (by
      intro hn
      apply hI
      unfold BX1_placeOf_2
      rw [hw]
      refine ⟨fun _ => ?_, fun n => absurd ((leI (by omega) (by omega)).mpr (Nat.le_refl _)) n⟩
      have e : fp w q y = q := by
        rcases Nat.lt_or_eq_of_le (fa_first_le (fun p => decide (w 24 0 p = y)) q) with r | r
        · have := fa_first_yes _ _ r
          exact absurd (of_decide_eq_true this) (hn _ r)
        · exact r
      rw [e] at h; exact h)
    (by
      intro k hk ih hn
      apply hI
      unfold BX1_placeOf_2
      rw [hw]
      refine ⟨fun n => absurd ((leI (by omega) (by omega)).mp n) (by omega), fun _ => ⟨in_nI (by omega), ?_⟩⟩
      rw [clI (by omega), nI_1]
      refine ⟨fun r => ih fun p hp => ?_, fun r => ?_⟩
      · rcases Nat.lt_or_eq_of_le (Nat.le_of_lt_succ hp) with s | s
        · exact hn p s
        · rw [s]; exact r
      · have e : fp w q y = k := fi_is hk (decide_eq_true r) fun j hj => decide_eq_false (hn j hj)
        rw [e] at h; exact h)
  exact key 0 (by omega) fun p hp => absurd hp (Nat.not_lt_zero p)
def ho (a : gMem) (f j : Nat) (y : Int32) (d : Nat) : Bool := decide (d < j) && decide (kf a d f = y)
/-- The buckets after the cards before j. -/
def BK (a w : gMem) (f j : Nat) : Prop := ∃ q, q ≤ j ∧ w 1 0 2 = nI q ∧ (∀ p, p < q → 0 ≤ w 24 0 p ∧ w 25 0 p = st (ho a f j (w 24 0 p))) ∧ (∀ p r, p < r → r < q → ¬ w 24 0 p = w 24 0 r) ∧ ∀ d, d < j → 0 ≤ kf a d f → ∃ p, p < q ∧ w 24 0 p = kf a d f
theorem ho_s (a : gMem) {f j : Nat} {y : Int32} (h : ¬ kf a j f = y) : st (ho a f (j + 1) y) = st (ho a f j y) := st_cong fun d _ => by
  unfold ho
  by_cases q : d = j
  · rw [q, decide_eq_false h, Bool.and_false, Bool.and_false]
  · by_cases r : d < j
    · rw [decide_eq_true r, decide_eq_true (by omega)]
    · rw [decide_eq_false r, decide_eq_false (by omega)]
theorem ho_in (a : gMem) {f j : Nat} {y : Int32} (h : kf a j f = y) : (fun d => ho a f j y d || d == j) = ho a f (j + 1) y := by
  funext d
  unfold ho
  by_cases q : d = j
  · rw [q, show decide (j < j) = false from decide_eq_false (by omega), show decide (j < j + 1) = true from decide_eq_true (by omega), show decide (kf a j f = y) = true from decide_eq_true h]; simp
  · have e : (d == j) = false := by simp [q]
    have e2 : decide (d < j) = decide (d < j + 1) := by
      by_cases r : d < j
      · rw [decide_eq_true r, decide_eq_true (show d < j + 1 by omega)]
      · rw [decide_eq_false r, decide_eq_false (show ¬ d < j + 1 by omega)]
    rw [e, Bool.or_false, e2]
theorem r_put {w : gMem} {Q : gMem → Prop} {f j : Nat} (hj : j < 16) (hB : BK a w f j) (h : ∀ w', fG w w' → w' 15 = w 15 → BK a w' f (j + 1) → Q w') : TX1_put (kf a j f) (nI j) w Q X := by
  obtain ⟨q, hq, h1, h2, h3, h4⟩ := hB
  have fle := fa_first_le (fun p => decide (w 24 0 p = kf a j f)) q
  have fno := fa_first_no (fun p => decide (w 24 0 p = kf a j f)) q
  have fye := fa_first_yes (fun p => decide (w 24 0 p = kf a j f)) q
  unfold TX1_put
  apply r_placeOf (q := q) (by omega) h1
  have hfp : fp w q (kf a j f) = fa_first (fun p => decide (w 24 0 p = kf a j f)) q := rfl
  rw [← hfp] at fle fno fye
  generalize hp : fp w q (kf a j f) = p at *
  -- what is left when the place is one that was there
  have old : p < q → BX1_put_51 (nI j) (nI p) w Q X := by
    intro pq
    have hk : w 24 0 p = kf a j f := of_decide_eq_true (fye pq)
    unfold BX1_put_51 BX1_put_71
    rw [h1]
    refine ⟨fun n => absurd ((leI (by omega) (by omega)).mp n) (by omega), fun _ => ⟨in_nI (by omega), in_nI (by omega), ?_⟩⟩
    rw [clI (by omega), (h2 p pq).2, st_one hj, st_or, hk, ho_in a rfl]
    apply h
    · exact fG_gw _ _ _ _ (by omega)
    · funext i' j'; rw [gw_ne _ _ (by omega)]
    · refine ⟨q, by omega, ?_, fun r hr => ?_, fun r s h5 h6 => ?_, fun d hd h5 => ?_⟩
      · rw [gw_ne _ _ (by omega)]; exact h1
      · rw [gw_ne _ (k := 25) (k' := 24) _ (by omega)]
        refine ⟨(h2 r hr).1, ?_⟩
        by_cases c : r = p
        · rw [c, gw_same, hk]
        · rw [gw_ne _ _ (by omega), (h2 r hr).2]
          refine (ho_s a ?_).symm
          rw [← hk]
          intro s
          rcases Nat.lt_or_gt_of_ne c with u | u
          · exact h3 r p u pq s.symm
          · exact h3 p r u hr s
      · rw [gw_ne _ (k := 25) (k' := 24) _ (by omega), gw_ne _ (k := 25) (k' := 24) _ (by omega)]
        exact h3 r s h5 h6
      · rcases Nat.lt_or_eq_of_le (Nat.le_of_lt_succ hd) with u | u
        · obtain ⟨r, hr, hr2⟩ := h4 d u h5
          exact ⟨r, hr, by rw [gw_ne _ (k := 25) (k' := 24) _ (by omega)]; exact hr2⟩
        · exact ⟨p, pq, by rw [gw_ne _ (k := 25) (k' := 24) _ (by omega), u]; exact hk⟩
  refine ⟨fun n => ?_, fun n => ⟨fun m => ?_, fun m => ⟨fun l => ?_, fun l => ?_⟩⟩⟩
  · apply old
    rw [h1] at n
    rcases Nat.lt_or_eq_of_le fle with u | u
    · exact u
    · exact absurd (by rw [u]) n
  · rw [h1] at n
    have pq : p = q := (eqI (by omega) (by omega)).mp n
    have hneg : ¬ (0 : Int32) ≤ kf a j f := fun s => by
      rw [Int32.le_iff_toInt_le] at s
      rw [Int32.lt_iff_toInt_lt] at m
      omega
    unfold BX1_put_51 BX1_put_71
    rw [h1]
    refine ⟨fun _ => ?_, fun s => absurd ((leI (by omega) (by omega)).mpr (by omega)) s⟩
    apply h
    · exact fG_rf w
    · rfl
    · refine ⟨q, by omega, h1, fun r hr => ⟨(h2 r hr).1, ?_⟩, h3, fun d hd h5 => ?_⟩
      · rw [(h2 r hr).2]
        refine (ho_s a ?_).symm
        intro s
        have := (h2 r hr).1
        rw [← s] at this
        exact hneg this
      · rcases Nat.lt_or_eq_of_le (Nat.le_of_lt_succ hd) with u | u
        · exact h4 d u h5
        · rw [u] at h5; exact absurd h5 hneg
  · rw [h1] at l
    exact absurd ((leI (a := 16) (by omega) (by omega)).mp l) (by omega)
  · rw [h1] at n
    have pq : p = q := (eqI (by omega) (by omega)).mp n
    have hnn : (0 : Int32) ≤ kf a j f := by
      rw [Int32.le_iff_toInt_le]
      rw [Int32.lt_iff_toInt_lt] at m
      omega
    have hnew : ∀ r, r < q → ¬ w 24 0 r = kf a j f := fun r hr => of_decide_eq_false (fno r (by omega))
    refine ⟨in_nI (by omega), in_nI (by omega), ?_⟩
    unfold BX1_put_51 BX1_put_71
    rw [clI (by omega)]
    rw [gw_ne (gw w 24 0 p (kf a j f)) _ (show ¬ (1 = 25 ∧ 0 = 0 ∧ 2 = p) by omega), gw_ne w _ (show ¬ (1 = 24 ∧ 0 = 0 ∧ 2 = p) by omega), h1, nI_1]
    rw [gw_same]
    refine ⟨fun s => absurd ((leI (by omega) (by omega)).mp s) (by omega), fun _ => ⟨in_nI (by omega), in_nI (by omega), ?_⟩⟩
    rw [gw_ne _ _ (show ¬ (25 = 1 ∧ 0 = 0 ∧ p = 2) by omega), gw_same]
    have z : (0 : Int32) ||| (1 <<< (nI j &&& 31)) = st (ho a f (j + 1) (kf a j f)) := by
      rw [st_one hj, ← st_none, st_or]
      apply st_cong
      intro d _
      show (d == j) = _
      unfold ho
      by_cases c : d = j
      · rw [c, decide_eq_true (by omega), decide_eq_true rfl]; simp
      · have e : (d == j) = false := by simp [c]
        rw [e]
        symm
        apply bf
        intro s
        rw [Bool.and_eq_true] at s
        have s1 := of_decide_eq_true s.1
        have s2 := of_decide_eq_true s.2
        obtain ⟨r, hr, hr2⟩ := h4 d (by omega) (by rw [s2]; exact hnn)
        exact hnew r hr (by rw [hr2, s2])
    rw [z]
    have g24 : ∀ r x, gw (gw (gw (gw w 24 0 p (kf a j f)) 25 0 p 0) 1 0 2 (nI (q + 1))) 25 0 p x 24 0 r = if r = p then kf a j f else w 24 0 r := by
      intro r x
      rw [gw_ne _ _ (by omega), gw_ne _ _ (by omega), gw_ne _ _ (by omega)]
      by_cases c : r = p
      · rw [c, gw_same, if_pos rfl]
      · rw [gw_ne _ _ (by omega), if_neg c]
    apply h
    · refine fG_tr (fG_tr (fG_tr (fG_gw _ _ _ _ (by omega)) (fG_gw _ _ _ _ (by omega))) (fG_gw _ _ _ _ (by omega))) (fG_gw _ _ _ _ (by omega))
    · funext i' j'
      rw [gw_ne _ _ (by omega), gw_ne _ _ (by omega), gw_ne _ _ (by omega), gw_ne _ _ (by omega)]
    · refine ⟨q + 1, by omega, ?_, fun r hr => ?_, fun r s h5 h6 => ?_, fun d hd h5 => ?_⟩
      · rw [gw_ne _ _ (by omega), gw_same]
      · rw [g24]
        by_cases c : r = p
        · rw [if_pos c, c, gw_same]; exact ⟨hnn, rfl⟩
        · rw [if_neg c, gw_ne _ _ (by omega), gw_ne _ _ (by omega), gw_ne _ _ (by omega), gw_ne _ _ (by omega)]
          refine ⟨(h2 r (by omega)).1, ?_⟩
          rw [(h2 r (by omega)).2]
          exact (ho_s a fun s => hnew r (by omega) s.symm).symm
      · rw [g24, g24, if_neg (by omega)]
        by_cases c : s = p
        · rw [if_pos c]; exact hnew r (by omega)
        · rw [if_neg c]; exact h3 r s h5 (by omega)
      · rcases Nat.lt_or_eq_of_le (Nat.le_of_lt_succ hd) with u | u
        · obtain ⟨r, hr, hr2⟩ := h4 d u h5
          exact ⟨r, by omega, by rw [g24, if_neg (by omega)]; exact hr2⟩
        · exact ⟨p, by omega, by rw [g24, if_pos rfl, u]⟩
theorem r_holdersOf {w : gMem} {Q : Int32 → gMem → Prop} {f j : Nat} (hj : j ≤ 16) (hB : BK a w f j) {y : Int32} (h : Q (st (fun d => ho a f j y d && decide (0 ≤ y))) w) : TX1_holdersOf y w Q X := by
  obtain ⟨q, hq, h1, h2, h3, h4⟩ := hB
  have fle := fa_first_le (fun p => decide (w 24 0 p = y)) q
  have fno := fa_first_no (fun p => decide (w 24 0 p = y)) q
  have fye := fa_first_yes (fun p => decide (w 24 0 p = y)) q
  unfold TX1_holdersOf BX1_holdersOf_24
  apply r_placeOf (q := q) (by omega) h1
  have hfp : fp w q y = fa_first (fun p => decide (w 24 0 p = y)) q := rfl
  rw [← hfp] at fle fno fye
  generalize hp : fp w q y = p at *
  rw [h1]
  refine ⟨fun n => ?_, fun n => ?_⟩
  · have n2 := (leI (by omega) (by omega)).mp n
    have e : st (fun d => ho a f j y d && decide (0 ≤ y)) = 0 := (st_0 _).mpr fun d _ => bf fun s => by
      rw [Bool.and_eq_true] at s
      unfold ho at s
      rw [Bool.and_eq_true] at s
      have s1 := of_decide_eq_true s.1.1
      have s2 := of_decide_eq_true s.1.2
      have s3 := of_decide_eq_true s.2
      obtain ⟨r, hr, hr2⟩ := h4 d s1 (by rw [s2]; exact s3)
      exact of_decide_eq_false (fno r (by omega)) (by rw [hr2, s2])
    rw [e] at h; exact h
  · have n2 : p < q := Nat.not_le.mp fun s => n ((leI (by omega) (by omega)).mpr s)
    refine ⟨in_nI (by omega), ?_⟩
    have hk : w 24 0 p = y := of_decide_eq_true (fye n2)
    have h5 := h2 p n2
    rw [hk] at h5
    rw [clI (by omega), h5.2]
    have e : (fun d => ho a f j y d && decide (0 ≤ y)) = ho a f j y := funext fun d => by rw [decide_eq_true h5.1, Bool.and_true]
    rw [e] at h; exact h
def ma (a : gMem) (f c d : Nat) : Bool := decide (d < nc a) && an f (fun g => decide (kf a d g = kf a c g) && decide (0 ≤ kf a c g))
theorem r_gatherMates (hR : RC v a) (hW : WF a) {Q : gMem → Prop} (h : ∀ w, fG v w → (∀ c, c < nc a → w 15 0 c = st (ma a 3 c)) → Q w) : TX6_gatherMates v Q X := by
  have hn := hW.1.2.2.2.1
  have en : ∀ w, fG v w → w 6 0 3 = nI (nc a) := fun w hw => c_nc (RC_S hR (fG_S hw)) hW
  unfold TX6_gatherMates LX6_gatherMates_2
  intro I hI
  have key : ∀ k, k ≤ nc a → ∀ w, fG v w → (∀ c, c < k → w 15 0 c = 0) → I (nI k) w := up_to
    (by
      intro w hw hz
      apply hI
      unfold BX6_gatherMates_2
      rw [en w hw]
      refine ⟨fun _ => ?_, fun n => absurd ((leI (by omega) (by omega)).mpr (Nat.le_refl _)) n⟩
      unfold LX6_gatherMates_25
      intro J hJ
      have fld : ∀ f, f ≤ 3 → ∀ w, fG v w → (∀ c, c < nc a → w 15 0 c = st (ma a f c)) → J (nI f) w := up_to
        (by
          intro w hw hm
          apply hJ
          unfold BX6_gatherMates_25
          exact ⟨fun _ => h w hw hm, fun n => absurd ((ltI (a := 2) (b := 3) (by decide) (by decide)).mpr (by decide)) n⟩)
        (by
          intro f hf ihf w hw hm
          apply hJ
          unfold BX6_gatherMates_25
          refine ⟨fun n => absurd ((ltI (a := 2) (by decide) (by omega)).mp n) (by omega), fun _ => ?_⟩
          unfold TX1_empty LX6_gatherMates_39
          intro K hK
          have hw0 : fG v (gw w 1 0 2 0) := fG_tr hw (fG_gw _ _ _ _ (by omega))
          have hm0 : ∀ c, c < nc a → gw w 1 0 2 0 15 0 c = st (ma a f c) := fun c hc => by rw [gw_ne _ _ (by omega)]; exact hm c hc
          have puts : ∀ k, k ≤ nc a → ∀ w, fG v w → (∀ c, c < nc a → w 15 0 c = st (ma a f c)) → BK a w f k → K (nI k) w := up_to
            (by
              intro w hw hm hB
              apply hK
              unfold BX6_gatherMates_39
              rw [en w hw]
              refine ⟨fun _ => ?_, fun n => absurd ((leI (by omega) (by omega)).mpr (Nat.le_refl _)) n⟩
              unfold LX6_gatherMates_73
              intro M hM
              have last : ∀ k, k ≤ nc a → ∀ w, fG v w → (∀ c, c < nc a → w 15 0 c = st (ma a (if c < k then f + 1 else f) c)) → BK a w f (nc a) → M (nI k) w := up_to
                (by
                  intro w hw hm hB
                  apply hM
                  unfold BX6_gatherMates_73
                  rw [en w hw]
                  refine ⟨fun _ => ?_, fun n => absurd ((leI (by omega) (by omega)).mpr (Nat.le_refl _)) n⟩
                  rw [nI_1]
                  apply ihf w hw
                  intro c hc
                  rw [hm c hc, if_pos hc])
                (by
                  intro k hk ih w hw hm hB
                  apply hM
                  unfold BX6_gatherMates_73
                  rw [en w hw]
                  refine ⟨fun n => absurd ((leI (by omega) (by omega)).mp n) (by omega), fun _ => ⟨in_nI (by omega), in_nI (by omega), ?_⟩⟩
                  rw [clI (by omega)]
                  apply r_key (RC_S hR (fG_S hw)) hW hk (by omega)
                  apply r_holdersOf hn hB
                  refine ⟨in_nI (by omega), ?_⟩
                  rw [nI_1, hm k hk, if_neg (by omega), st_or]
                  have e : (fun d => ma a f k d || (ho a f (nc a) (if f = 0 then ks a k else nu a k f) d && decide (0 ≤ (if f = 0 then ks a k else nu a k f)))) = ma a (f + 1) k := by
                    funext d
                    show (ma a f k d || (ho a f (nc a) (kf a k f) d && decide (0 ≤ kf a k f))) = _
                    unfold ma ho
                    rw [an_s, Bool.and_assoc, ← Bool.and_or_distrib_left]
                  rw [e]
                  apply ih
                  · exact fG_tr hw (fG_gw _ _ _ _ (by omega))
                  · intro c hc
                    by_cases q : c = k
                    · rw [q, gw_same, if_pos (by omega)]
                    · rw [gw_ne _ _ (by omega), hm c hc]
                      by_cases r : c < k
                      · rw [if_pos r, if_pos (by omega)]
                      · rw [if_neg r, if_neg (by omega)]
                  · obtain ⟨q, hB⟩ := hB
                    refine ⟨q, ?_⟩
                    have e1 : ∀ p x, gw w 15 0 k x 24 0 p = w 24 0 p := fun p x => gw_ne _ _ (by omega)
                    have e2 : ∀ p x, gw w 15 0 k x 25 0 p = w 25 0 p := fun p x => gw_ne _ _ (by omega)
                    have e3 : ∀ x, gw w 15 0 k x 1 0 2 = w 1 0 2 := fun x => gw_ne _ _ (by omega)
                    simp only [e1, e2, e3]
                    exact hB)
              apply last 0 (by omega) w hw
              · intro c hc; rw [hm c hc, if_neg (by omega)]
              · exact hB)
            (by
              intro k hk ih w hw hm hB
              apply hK
              unfold BX6_gatherMates_39
              rw [en w hw]
              refine ⟨fun n => absurd ((leI (by omega) (by omega)).mp n) (by omega), fun _ => ⟨in_nI (by omega), ?_⟩⟩
              rw [clI (by omega)]
              apply r_key (RC_S hR (fG_S hw)) hW hk (by omega)
              rw [nI_1]
              apply r_put (f := f) (by omega) hB
              intro w' h1 h2 h3
              apply ih w' (fG_tr hw h1)
              · intro c hc; rw [h2]; exact hm c hc
              · exact h3)
          apply puts 0 (by omega) _ hw0 hm0
          refine ⟨0, Nat.le_refl 0, gw_same _ _ _ _ _, fun p hp => absurd hp (Nat.not_lt_zero p), fun p r _ h6 => absurd h6 (Nat.not_lt_zero r), fun d hd => absurd hd (Nat.not_lt_zero d)⟩)
      apply fld 0 (by omega) w hw
      intro c hc
      rw [hz c hc]
      symm
      rw [st_0]
      intro d _
      unfold ma
      rw [an_0, Bool.and_false])
    (by
      intro k hk ih w hw hz
      apply hI
      unfold BX6_gatherMates_2
      rw [en w hw]
      refine ⟨fun n => absurd ((leI (by omega) (by omega)).mp n) (by omega), fun _ => ⟨in_nI (by omega), ?_⟩⟩
      rw [clI (by omega), nI_1]
      apply ih
      · exact fG_tr hw (fG_gw _ _ _ _ (by omega))
      · intro c hc
        by_cases q : c = k
        · rw [q, gw_same]
        · rw [gw_ne _ _ (by omega)]; exact hz c (by omega))
  exact key 0 (by omega) v (fG_rf v) fun c hc => absurd hc (Nat.not_lt_zero c)
end
