/-! ===== Rules of the class's methods on persons ===== -/
section
variable {a v : gMem} {Q : Int32 → gMem → Prop} {X : String → gMem → Prop}
theorem ed_n (hW : WF a) {x y : Nat} (h : ed a x y = true) : x < nc a ∧ y < nc a := by
  unfold ed at h
  rw [an_t] at h
  obtain ⟨m, hm, h⟩ := h
  rw [Bool.and_eq_true] at h
  have w := hW.2.2.2.2.2.2.2.1 m hm
  have h2 := h.2
  unfold joins at h2
  simp only [Bool.or_eq_true, Bool.and_eq_true, beq_iff_eq] at h2
  rcases h2 with ⟨p, q⟩ | ⟨p, q⟩
  · rw [p, q]; exact ⟨w.2.1, w.2.2.2.1⟩
  · rw [p, q]; exact ⟨w.2.2.2.1, w.2.1⟩
theorem cn_n (hW : WF a) {c x : Nat} (hc : c < nc a) (h : cn (ed a) c x = true) : x < nc a := cn_in (fun _ _ => ed_n hW) hc h
theorem ct_n {p : Nat → Bool} {n : Nat} (hn : n ≤ 16) (h : ∀ x, x < 16 → p x = true → x < n) : fb_ct p 16 = fb_ct p n := by
  obtain ⟨d, hd⟩ : ∃ d, 16 = n + d := ⟨16 - n, by omega⟩
  rw [hd, fb_ct_split]
  have : fb_ct (fun k => p (n + k)) d = 0 := fb_ct_zero.mpr fun k hk => bf fun q => by have := h (n + k) (by omega) q; omega
  omega
theorem an_n {p : Nat → Bool} {n : Nat} (hn : n ≤ 16) (h : ∀ x, x < 16 → p x = true → x < n) : an 16 p = an n p := by
  cases q : an n p
  · rw [an_f] at q ⊢
    intro y hy
    apply bf
    intro r
    rw [q y (h y hy r)] at r; cases r
  · rw [an_t] at q ⊢
    obtain ⟨y, hy, q⟩ := q
    exact ⟨y, by omega, q⟩
theorem r_bars (hR : RC v a) (hW : WF a) {c d : Nat} (hc : c < nc a) (hd : d < nc a) (h : Q (st (br a c d)) v) : TX6_barsBetween (nI c) (nI d) v Q X := by
  have hn := hW.1.2.2.2.1
  unfold TX6_barsBetween
  apply r_joined (c_ed hR) (by omega)
  apply r_joined (c_ed hR) (by omega)
  apply r_poa (c_fb hR)
  rw [st_and]
  exact h
theorem r_isOne (hR : RC v a) (hW : WF a) {c d : Nat} (hc : c < nc a) (hd : d < nc a) (h : Q (nb (cn (ed a) c d)) v) : TX6_isOnePerson (nI c) (nI d) v Q X := by
  have hn := hW.1.2.2.2.1
  unfold TX6_isOnePerson
  apply r_joined (c_ed hR) (by omega)
  apply r_contains (by omega)
  first | exact h | exact ⟨nb_nar _, h⟩
theorem r_holds (hR : RC v a) (hW : WF a) {c d : Nat} (hc : c < nc a) (hd : d < nc a) (h : Q (nb (fb a c d)) v) : TX5_holds 0 (nI c) (nI d) v Q X := by
  have hn := hW.1.2.2.2.1
  unfold TX5_holds
  refine ⟨in_nI (by omega), ?_⟩
  rw [clI (by omega), c_fb hR c (by omega)]
  apply r_contains (by omega)
  exact ⟨nb_nar _, h⟩
def pw (a : gMem) (f : Nat → Bool) (x : Nat) : Bool := decide (x < nc a) && (decide (cp (ed a) x = x) && an 16 (fun y => cn (ed a) x y && f y))
theorem seen (hW : WF a) {k : Nat} (hk : k < nc a) : an k (fun c => cn (ed a) c k) = !decide (cp (ed a) k = k) := by
  have hn := hW.1.2.2.2.1
  have le := cp_le (ed a) (c := k) (by omega)
  cases q : an k (fun c => cn (ed a) c k)
  · rw [an_f] at q
    by_cases r : cp (ed a) k = k
    · rw [decide_eq_true r]; rfl
    · have h1 := cp_in (ed a) (c := k) (by omega)
      have h2 := cn_sy (ed_sy a) (by omega) (by omega) h1
      rw [q _ (by omega)] at h2; cases h2
  · rw [an_t] at q
    obtain ⟨y, hy, q⟩ := q
    have h1 := cp_min (by omega) (cn_sy (ed_sy a) (by omega) (by omega) q)
    rw [decide_eq_false (by omega)]; rfl
theorem r_personsWith (hR : RC v a) (hW : WF a) {f : Nat → Bool} (h : Q (st (pw a f)) v) : TX6_personsWith (st f) v Q X := by
  have hn := hW.1.2.2.2.1
  have e3 := c_nc hR hW
  unfold TX6_personsWith LX6_personsWith_7
  intro I hI
  have key : ∀ k, k ≤ nc a → I (st (fun x => decide (x < k) && pw a f x)) (st (fun x => an k (fun c => cn (ed a) c x))) (nI k) v := up_to
    (by
      apply hI
      unfold BX6_personsWith_7
      rw [e3]
      refine ⟨fun _ => ?_, fun n => absurd ((leI (by omega) (by omega)).mpr (Nat.le_refl _)) n⟩
      have e : (fun x => decide (x < nc a) && pw a f x) = pw a f := by
        funext x; unfold pw; rw [← Bool.and_assoc, Bool.and_self]
      rw [e]; exact h)
    (by
      intro k hk ih
      apply hI
      unfold BX6_personsWith_7 BX6_personsWith_55
      rw [e3]
      refine ⟨fun n => absurd ((leI (by omega) (by omega)).mp n) (by omega), fun _ => ?_⟩
      have ep : pw a f k = true → st (fun x => decide (x < k + 1) && pw a f x) = st (fun x => (decide (x < k) && pw a f x) || x == k) := fun hp => st_cong fun x _ => by
        rcases Nat.lt_trichotomy x k with c | c | c
        · rw [decide_eq_true c, decide_eq_true (show x < k + 1 by omega), show (x == k) = false by simp; omega]; simp
        · rw [c, hp, decide_eq_true (show k < k + 1 by omega)]; simp
        · rw [decide_eq_false (show ¬ x < k by omega), decide_eq_false (show ¬ x < k + 1 by omega), show (x == k) = false by simp; omega]; rfl
      have en : pw a f k = false → st (fun x => decide (x < k + 1) && pw a f x) = st (fun x => decide (x < k) && pw a f x) := fun hp => st_cong fun x _ => by
        by_cases c : x = k
        · rw [c, hp, Bool.and_false, Bool.and_false]
        · by_cases r : x < k
          · rw [decide_eq_true r, decide_eq_true (show x < k + 1 by omega)]
          · rw [decide_eq_false r, decide_eq_false (show ¬ x < k + 1 by omega)]
      apply r_contains (by omega)
      rw [nI_1, seen hW hk]
      refine ⟨fun n => ?_, fun n => ?_⟩
      · rw [nb_0] at n
        have n2 : ¬ cp (ed a) k = k := fun q => by rw [decide_eq_true q] at n; exact n rfl
        rw [en (by unfold pw; rw [decide_eq_false n2]; simp)] at ih
        have es : st (fun x => an (k + 1) (fun c => cn (ed a) c x)) = st (fun x => an k (fun c => cn (ed a) c x)) := st_cong fun x hx => by
          rw [an_s]
          cases q : cn (ed a) k x
          · rw [Bool.or_false]
          · rw [Bool.or_true]
            symm
            rw [an_t]
            have le := cp_le (ed a) (c := k) (by omega)
            exact ⟨cp (ed a) k, by omega, cn_tr (by omega) (by omega) hx (cn_sy (ed_sy a) (by omega) (by omega) (cp_in (ed a) (c := k) (by omega))) q⟩
        rw [es] at ih
        exact ih
      · rw [nb_0] at n
        have n2 : cp (ed a) k = k := by
          apply Classical.byContradiction
          intro q
          rw [decide_eq_false q] at n; cases n
        apply r_joined (c_ed hR) (by omega)
        rw [st_and, st_or]
        have es : (fun x => an (k + 1) (fun c => cn (ed a) c x)) = (fun x => an k (fun c => cn (ed a) c x) || cn (ed a) k x) := funext fun x => an_s k _
        rw [es] at ih
        refine ⟨fun m => ?_, fun m => ?_⟩
        · rw [← an_st] at m
          rw [en (by unfold pw; rw [m]; simp)] at ih
          exact ih
        · have m2 : an 16 (fun y => cn (ed a) k y && f y) = true := bt' fun q => m (by rw [← an_st]; exact q)
          rw [ep (by unfold pw; rw [m2, decide_eq_true n2, decide_eq_true hk]; rfl)] at ih
          rw [st_one (by omega), st_or]
          exact ih)
  have := key 0 (by omega)
  have z1 : st (fun x => decide (x < 0) && pw a f x) = 0 := (st_0 _).mpr fun x _ => by rw [decide_eq_false (Nat.not_lt_zero x)]; rfl
  have z2 : st (fun x => an 0 (fun c => cn (ed a) c x)) = 0 := (st_0 _).mpr fun x _ => an_0 _
  rw [z1, z2] at this
  exact this
theorem r_allCards (hR : RC v a) (hW : WF a) (h : Q (st (fun x => decide (x < nc a))) v) : TX6_allCards v Q X := by
  have hn := hW.1.2.2.2.1
  unfold TX6_allCards
  rw [c_nc hR hW, st_all _ (by omega)]
  exact h
def rk (a : gMem) (d : Nat) : Int32 := a 30 0 (na a 31 d)
def hrK (a : gMem) (g : Nat → Bool) (f : Nat) : Nat → Nat
  | 0 => 16
  | k + 1 => if g k && (hs a k f && (!decide (hrK a g f k < 16) || decide (rk a (hrK a g f k) < rk a k))) then k else hrK a g f k
theorem hrK_lt (a : gMem) (g : Nat → Bool) (f : Nat) : ∀ k, hrK a g f k < k ∨ hrK a g f k = 16
  | 0 => Or.inr rfl
  | k + 1 => by
    have := hrK_lt a g f k
    unfold hrK
    split <;> omega
theorem r_highest (hR : RC v a) (hW : WF a) {g : Nat → Bool} {f : Nat} (hf : f < 4) (h : Q (if hrK a g f (nc a) < 16 then nI (hrK a g f (nc a)) else -1) v) : TX6_highestRanked (st g) (nI f) v Q X := by
  have hn := hW.1.2.2.2.1
  have e3 := c_nc hR hW
  unfold TX6_highestRanked LX6_highestRanked_8
  intro I hI
  have key : ∀ k, k ≤ nc a → I (if hrK a g f k < 16 then nI (hrK a g f k) else -1) (if hrK a g f k < 16 then rk a (hrK a g f k) else 0) (nI k) v := up_to
    (by
      apply hI
      unfold BX6_highestRanked_8
      rw [e3]
      exact ⟨fun _ => h, fun n => absurd ((leI (by omega) (by omega)).mpr (Nat.le_refl _)) n⟩)
    (by
      intro k hk ih
      apply hI
      unfold BX6_highestRanked_8 BX6_highestRanked_80
      rw [e3]
      refine ⟨fun n => absurd ((leI (by omega) (by omega)).mp n) (by omega), fun _ => ?_⟩
      have keep : hrK a g f (k + 1) = hrK a g f k → I (if hrK a g f k < 16 then nI (hrK a g f k) else -1) (if hrK a g f k < 16 then rk a (hrK a g f k) else 0) (nI (k + 1)) v := fun e => by
        rw [e] at ih; exact ih
      apply r_contains (by omega)
      rw [nI_1]
      refine ⟨fun n => ?_, fun n => ?_⟩
      · rw [nb_0] at n
        apply keep
        show (if g k && _ then k else hrK a g f k) = _
        rw [n]; rfl
      · rw [nb_0] at n
        have n := bt' n
        refine ⟨in_nI (by omega), ?_⟩
        rw [clI (by omega)]
        apply r_has hR hW hk hf
        refine ⟨fun m => ?_, fun m => ?_⟩
        · rw [nb_0] at m
          apply keep
          show (if g k && (hs a k f && _) then k else hrK a g f k) = _
          rw [m, Bool.false_and, Bool.and_false]; rfl
        · rw [nb_0] at m
          have m := bt' m
          have hsrc := hW.2.2.1 k hk
          have es : v 2 k 0 = nI (na a 31 k) := by rw [(hR.2.2.1 k (by omega)).1]; exact hsrc.1
          have hns := hW.1.2.1
          have er : v 10 0 (na a 31 k) = rk a k := (hR.2.1 _ (by omega)).1
          rw [es, clI (by omega), er]
          refine ⟨in_nI (by omega), in_nI (by omega), fun q => ?_, fun q => ⟨in_nI (by omega), in_nI (by omega), ?_⟩⟩
          · apply keep
            show (if g k && (hs a k f && _) then k else hrK a g f k) = _
            by_cases c : hrK a g f k < 16
            · rw [if_pos c] at q
              rw [decide_eq_true c, decide_eq_false (len q)]; simp
            · rw [if_neg c] at q
              obtain ⟨r, h1, h2, h3⟩ := hW.2.1 _ hsrc.2
              unfold rk at q
              rw [h1] at q
              exact absurd q (nI_nle (by omega) (by omega))
          · have e : hrK a g f (k + 1) = k := by
              show (if g k && (hs a k f && _) then k else hrK a g f k) = _
              by_cases c : hrK a g f k < 16
              · rw [if_pos c] at q
                rw [n, m, decide_eq_true (nle q)]; simp
              · rw [n, m, decide_eq_false c]; rfl
            rw [e, if_pos (by omega), if_pos (by omega)] at ih
            exact ih)
  exact key 0 (by omega)
def dp (a : gMem) (g : Nat → Bool) (f : Nat) : Bool := an (nc a) (fun x => an x (fun y => (g x && g y) && ((hs a x f && hs a y f) && !ag a x y f)))
theorem ag_tr {x y z f : Nat} (h1 : ag a x y f = true) (h2 : ag a x z f = true) : ag a y z f = true := by
  unfold ag at h1 h2 ⊢
  by_cases q : f = 0
  · rw [if_pos q, decide_eq_true_iff] at h1 h2 ⊢
    exact ⟨by omega, fun k hk => by rw [← h1.2 k (by omega), h2.2 k (by omega)]⟩
  · rw [if_neg q, decide_eq_true_iff] at h1 h2 ⊢
    rw [← h1, h2]
theorem ag_sy (x y f : Nat) : ag a x y f = ag a y x f := by
  have key : ∀ x y, ag a x y f = true → ag a y x f = true := by
    intro x y h
    unfold ag at h ⊢
    by_cases q : f = 0
    · rw [if_pos q, decide_eq_true_iff] at h ⊢
      exact ⟨h.1.symm, fun k hk => (h.2 k (by omega)).symm⟩
    · rw [if_neg q, decide_eq_true_iff] at h ⊢
      exact h.symm
  cases q : ag a y x f
  · apply bf; intro r; rw [key _ _ r] at q; cases q
  · exact key _ _ q
theorem r_disagree (hR : RC v a) (hW : WF a) {g : Nat → Bool} {f : Nat} (hf : f < 4) (h : Q (nb (dp a g f)) v) : TX6_disagree (st g) (nI f) v Q X := by
  have hn := hW.1.2.2.2.1
  have e3 := c_nc hR hW
  unfold TX6_disagree LX6_disagree_5
  intro I hI
  have key : ∀ k, k ≤ nc a → ∀ s, (s < k ∨ s = 16) → (s = 16 → ∀ j, j < k → ¬ (g j = true ∧ hs a j f = true)) → (s < k → g s = true ∧ hs a s f = true ∧ ∀ j, j < k → g j = true → hs a j f = true → ag a s j f = true) → I (if s < 16 then nI s else -1) (nI k) v := up_to
    (by
      intro s hs1 hs2 hs3
      apply hI
      unfold BX6_disagree_5
      rw [e3]
      refine ⟨fun _ => ?_, fun n => absurd ((leI (by omega) (by omega)).mpr (Nat.le_refl _)) n⟩
      have e : dp a g f = false := bf fun q => by
        unfold dp at q
        rw [an_t] at q
        obtain ⟨x, hx, q⟩ := q
        rw [an_t] at q
        obtain ⟨y, hy, q⟩ := q
        simp only [Bool.and_eq_true, Bool.not_eq_true'] at q
        obtain ⟨⟨q1, q2⟩, ⟨q3, q4⟩, q5⟩ := q
        rcases hs1 with c | c
        · obtain ⟨h1, h2, h3⟩ := hs3 c
          rw [ag_tr (h3 x (by omega) q1 q3) (h3 y (by omega) q2 q4)] at q5
          cases q5
        · exact hs2 c x (by omega) ⟨q1, q3⟩
      rw [e] at h; exact h)
    (by
      intro k hk ih s hs1 hs2 hs3
      apply hI
      unfold BX6_disagree_5 BX6_disagree_70
      rw [e3]
      refine ⟨fun n => absurd ((leI (by omega) (by omega)).mp n) (by omega), fun _ => ?_⟩
      have skip : ¬ (g k = true ∧ hs a k f = true) → I (if s < 16 then nI s else -1) (nI (k + 1)) v := fun hno => by
        apply ih s (by omega)
        · intro c j hj
          rcases Nat.lt_or_eq_of_le (Nat.le_of_lt_succ hj) with r | r
          · exact hs2 c j r
          · rw [r]; exact hno
        · intro c
          have c2 : s < k := by omega
          obtain ⟨h1, h2, h3⟩ := hs3 c2
          refine ⟨h1, h2, fun j hj g1 g2 => ?_⟩
          rcases Nat.lt_or_eq_of_le (Nat.le_of_lt_succ hj) with r | r
          · exact h3 j r g1 g2
          · rw [r] at g1 g2; exact absurd ⟨g1, g2⟩ hno
      apply r_contains (by omega)
      rw [nI_1]
      refine ⟨fun n => ?_, fun n => ?_⟩
      · rw [nb_0] at n
        exact skip fun q => by rw [q.1] at n; cases n
      · rw [nb_0] at n
        have n := bt' n
        refine ⟨in_nI (by omega), ?_⟩
        rw [clI (by omega)]
        apply r_has hR hW hk hf
        refine ⟨fun m => ?_, fun m => ?_⟩
        · rw [nb_0] at m
          exact skip fun q => by rw [q.2] at m; cases m
        · rw [nb_0] at m
          have m := bt' m
          by_cases c : s < 16
          · rw [if_pos c]
            have c2 : s < k := by omega
            obtain ⟨h1, h2, h3⟩ := hs3 c2
            refine ⟨fun _ => ⟨in_nI (by omega), in_nI (by omega), ?_⟩, fun q => absurd q (neg1 (by omega))⟩
            rw [clI (by omega)]
            apply r_agrees hR hW (by omega) hk hf
            refine ⟨fun q => ?_, fun q => ?_⟩
            · rw [nb_0] at q
              have q := bt' q
              have := ih s (by omega) (fun r => by omega) (fun _ => ⟨h1, h2, fun j hj g1 g2 => by
                rcases Nat.lt_or_eq_of_le (Nat.le_of_lt_succ hj) with r | r
                · exact h3 j r g1 g2
                · rw [r]; exact q⟩)
              rw [if_pos c] at this
              exact this
            · rw [nb_0] at q
              have e : dp a g f = true := by
                unfold dp
                rw [an_t]
                refine ⟨k, hk, ?_⟩
                rw [an_t]
                exact ⟨s, c2, by rw [n, m, h1, h2, ag_sy k s f, q]; rfl⟩
              rw [e] at h; exact h
          · rw [if_neg c]
            have c2 : s = 16 := by omega
            refine ⟨fun q => absurd rfl q, fun _ => ?_⟩
            have := ih k (by omega) (fun r => by omega) (fun _ => ⟨n, m, fun j hj g1 g2 => by
              rcases Nat.lt_or_eq_of_le (Nat.le_of_lt_succ hj) with r | r
              · exact absurd ⟨g1, g2⟩ (hs2 c2 j r)
              · rw [r]
                unfold ag
                split <;> simp⟩)
            rw [if_pos (by omega)] at this
            exact this)
  exact key 0 (by omega) 16 (Or.inr rfl) (fun _ j hj => absurd hj (Nat.not_lt_zero j)) (fun c => absurd c (by decide))
def mt (a : gMem) (b : Bool) (x : Nat) : Bool := decide (x < nc a) && (if b then ss a x 16 else (decide (0 < ln a x) && bw a x 16))
theorem r_matches (hR : RC v a) (hW : WF a) {b : Bool} (h : Q (st (mt a b)) v) : TX6_matches (nb b) v Q X := by
  have hn := hW.1.2.2.2.1
  have e3 := c_nc hR hW
  unfold TX6_matches LX6_matches_4
  intro I hI
  have key : ∀ k, k ≤ nc a → I (st (fun x => decide (x < k) && mt a b x)) (nI k) v := up_to
    (by
      apply hI
      unfold BX6_matches_4
      rw [e3]
      refine ⟨fun _ => ?_, fun n => absurd ((leI (by omega) (by omega)).mpr (Nat.le_refl _)) n⟩
      have e : (fun x => decide (x < nc a) && mt a b x) = mt a b := by
        funext x; unfold mt; rw [← Bool.and_assoc, Bool.and_self]
      rw [e]; exact h)
    (by
      intro k hk ih
      apply hI
      unfold BX6_matches_4 BX6_matches_62 BX6_matches_68
      rw [e3]
      have ep : mt a b k = true → st (fun x => decide (x < k + 1) && mt a b x) = st (fun x => decide (x < k) && mt a b x) ||| (1 <<< (nI k &&& 31)) := fun hp => by
        rw [st_one (by omega), st_or]
        exact st_cong fun x _ => by
          rcases Nat.lt_trichotomy x k with c | c | c
          · rw [decide_eq_true c, decide_eq_true (show x < k + 1 by omega), show (x == k) = false by simp; omega]; simp
          · rw [c, hp, decide_eq_true (show k < k + 1 by omega)]; simp
          · rw [decide_eq_false (show ¬ x < k by omega), decide_eq_false (show ¬ x < k + 1 by omega), show (x == k) = false by simp; omega]; rfl
      have en : mt a b k = false → st (fun x => decide (x < k + 1) && mt a b x) = st (fun x => decide (x < k) && mt a b x) := fun hp => st_cong fun x _ => by
        by_cases c : x = k
        · rw [c, hp, Bool.and_false, Bool.and_false]
        · by_cases r : x < k
          · rw [decide_eq_true r, decide_eq_true (show x < k + 1 by omega)]
          · rw [decide_eq_false r, decide_eq_false (show ¬ x < k + 1 by omega)]
      have yes : mt a b k = true → I (st (fun x => decide (x < k) && mt a b x) ||| (1 <<< (nI k &&& 31))) (nI (k + 1)) v := fun hp => by rw [ep hp] at ih; exact ih
      have no : mt a b k = false → I (st (fun x => decide (x < k) && mt a b x)) (nI (k + 1)) v := fun hp => by rw [en hp] at ih; exact ih
      have hl := c_ln hR hW (i := k) (by omega)
      refine ⟨fun n => absurd ((leI (by omega) (by omega)).mp n) (by omega), fun _ => ⟨in_nI (by omega), fun q => ?_, fun q => ?_⟩⟩
      · rw [nb_0] at q
        rw [clI (by omega), hl.1, nI_1]
        have em : mt a b k = (decide (0 < ln a k) && bw a k 16) := by unfold mt; rw [decide_eq_true hk, q]; rfl
        refine ⟨fun r => ?_, fun r => ?_⟩
        · have r2 := (leI (b := 0) (by omega) (by decide)).mp r
          exact no (by rw [em, decide_eq_false (by omega)]; rfl)
        · have r2 : ¬ ln a k ≤ 0 := fun s => r ((leI (b := 0) (by omega) (by decide)).mpr s)
          have em2 : mt a b k = bw a k 16 := by rw [em, decide_eq_true (by omega)]; rfl
          apply r_beginsWith hR hW (by omega) (by omega)
          refine ⟨fun s => ?_, fun s => ?_⟩
          · rw [nb_0] at s; exact no (by rw [em2, s])
          · rw [nb_0] at s; exact yes (by rw [em2, bt' s])
      · rw [nb_0] at q
        rw [clI (by omega), nI_1]
        have em : mt a b k = ss a k 16 := by unfold mt; rw [decide_eq_true hk, bt' q]; rfl
        apply r_soundsLike hR hW (by omega) (by omega)
        refine ⟨fun s => ?_, fun s => ?_⟩
        · rw [nb_0] at s; exact no (by rw [em, s])
        · rw [nb_0] at s; exact yes (by rw [em, bt' s]))
  have := key 0 (by omega)
  have z1 : st (fun x => decide (x < 0) && mt a b x) = 0 := (st_0 _).mpr fun x _ => by rw [decide_eq_false (Nat.not_lt_zero x)]; rfl
  rw [z1] at this
  exact this
end
