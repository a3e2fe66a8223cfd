/-! ===== Rules of the class's methods on links ===== -/
theorem up_to {n : Nat} {P : Nat → Prop} (h0 : P n) (hs : ∀ i, i < n → P (i + 1) → P i) : ∀ i, i ≤ n → P i := by
  intro i hi
  obtain ⟨d, rfl⟩ : ∃ d, n = i + d := ⟨n - i, by omega⟩
  induction d generalizing i with
  | zero => exact h0
  | succ d ih => exact hs i (by omega) (ih (i + 1) (by rwa [show i + 1 + d = i + (d + 1) by omega]) (fun j hj => hs j (by omega)) (by omega))
theorem in_nI {c n : Nat} (h : c < n) (hn : n < 2 ^ 31 := by decide) : vp_in (nI c) n := nI_in h hn
theorem lit30 : (30 : Int32) = nI 30 := rfl
theorem le16 {k : Nat} (h : k < 65536) : (16 : Int32) ≤ nI k ↔ 16 ≤ k := nI_leI (a := 16) (by decide) (by omega)
theorem leI {a b : Nat} (ha : a < 65536) (hb : b < 65536) : nI a ≤ nI b ↔ a ≤ b := nI_leI (by omega) (by omega)
theorem ltI {a b : Nat} (ha : a < 65536) (hb : b < 65536) : nI a < nI b ↔ a < b := nI_ltI (by omega) (by omega)
theorem eqI {a b : Nat} (ha : a < 65536) (hb : b < 65536) : nI a = nI b ↔ a = b := nI_eq (by omega) (by omega)
theorem clI {a : Nat} (ha : a < 65536) : (nI a).toNatClampNeg = a := nI_clamp (by omega)
theorem neg1 {a : Nat} (ha : a < 65536) : ¬ nI a = -1 := by
  intro h
  have := congrArg Int32.toInt h
  rw [nI_toInt (by omega)] at this
  have e : (-1 : Int32).toInt = -1 := by decide
  omega
theorem r_contains {f : Nat → Bool} {c : Nat} {v : gMem} {Q : Int32 → gMem → Prop} {X : String → gMem → Prop} (hc : c < 16) (h : Q (nb (f c)) v) : TX6_contains (st f) (nI c) v Q X := by
  unfold TX6_contains BX6_contains_13
  rw [st_has f hc]
  cases q : f c
  · rw [q] at h; exact ⟨fun _ => ⟨nb_nar false, h⟩, fun n => absurd rfl n⟩
  · rw [q] at h; exact ⟨fun n => absurd n (by decide), fun _ => ⟨nb_nar true, h⟩⟩
theorem r_poa {e : Nat → Nat → Bool} {f : Nat → Bool} {i0 : Nat} {v : gMem} {Q : Int32 → gMem → Prop} {X : String → gMem → Prop} (hv : ∀ y, y < 16 → v 16 i0 y = st (e y)) (h : Q (st (nx e f)) v) : TX5_partnersOfAll i0 (st f) v Q X := by
  unfold TX5_partnersOfAll LX5_partnersOfAll_4
  intro I hI
  have key : ∀ k, k ≤ 16 → I (st (fun x => an k (fun y => f y && e y x))) (nI k) v := up_to
    (by
      apply hI
      unfold BX5_partnersOfAll_4
      refine ⟨fun _ => h, fun n => absurd ((le16 (by decide)).mpr (Nat.le_refl 16)) n⟩)
    (by
      intro k hk ih
      apply hI
      unfold BX5_partnersOfAll_4 BX5_partnersOfAll_27
      refine ⟨fun n => absurd ((le16 (by omega)).mp n) (by omega), fun _ => ?_⟩
      apply r_contains hk
      rw [nI_1]
      have e1 : (fun x => an (k + 1) (fun y => f y && e y x)) = (fun x => an k (fun y => f y && e y x) || (f k && e k x)) := funext fun x => an_s k _
      rw [e1] at ih
      refine ⟨fun n => ?_, fun n => ?_⟩
      · rw [nb_0] at n
        simp only [n, Bool.false_and, Bool.or_false] at ih
        exact ih
      · have n2 : f k = true := by
          cases q : f k
          · exact absurd ((nb_0 _).mpr q) n
          · rfl
        refine ⟨in_nI hk, ?_⟩
        rw [clI (by omega), hv k hk, st_or]
        simp only [n2, Bool.true_and] at ih
        exact ih)
  have := key 0 (by omega)
  have e0 : (fun x => an 0 (fun y => f y && e y x)) = (fun _ => false) := funext fun x => an_0 _
  rw [e0, st_none] at this
  exact this
def fr (e : Nat → Nat → Bool) (c : Nat) : Nat → Nat → Bool
  | 0 => fun x => x == c
  | k + 1 => fun x => rR e c (k + 1) x && !rR e c k x
theorem fr_nx (e : Nat → Nat → Bool) (c k : Nat) : (fun x => nx e (fr e c k) x && !rR e c k x) = fr e c (k + 1) := by
  funext x
  show _ = (rR e c (k + 1) x && !rR e c k x)
  rw [rR_s]
  cases q : rR e c k x
  · simp only [Bool.not_false, Bool.and_true, Bool.false_or]
    cases k with
    | zero => rfl
    | succ k =>
      cases r : nx e (rR e c (k + 1)) x
      · cases s : nx e (fr e c (k + 1)) x
        · rfl
        · rw [nx_t] at s
          obtain ⟨y, hy, h1, h2⟩ := s
          have h1 : (rR e c (k + 1) y && !rR e c k y) = true := h1
          rw [Bool.and_eq_true] at h1
          rw [nx_t.mpr ⟨y, hy, h1.1, h2⟩] at r
          cases r
      · rw [nx_t] at r ⊢
        obtain ⟨y, hy, h1, h2⟩ := r
        refine ⟨y, hy, ?_, h2⟩
        show (rR e c (k + 1) y && !rR e c k y) = true
        cases s : rR e c k y
        · rw [h1]; rfl
        · rw [rR_edge s hy h2] at q; cases q
  · simp
theorem rR_fr (e : Nat → Nat → Bool) (c k : Nat) : (fun x => rR e c k x || fr e c (k + 1) x) = rR e c (k + 1) := by
  funext x
  show (rR e c k x || (rR e c (k + 1) x && !rR e c k x)) = _
  cases q : rR e c k x
  · simp
  · rw [rR_up q]; rfl
theorem r_joined {e : Nat → Nat → Bool} {c : Nat} {v : gMem} {Q : Int32 → gMem → Prop} {X : String → gMem → Prop} (hv : ∀ y, y < 16 → v 16 1 y = st (e y)) (hc : c < 16) (h : Q (st (cn e c)) v) : TX3_joinedWith (nI c) v Q X := by
  unfold TX3_joinedWith LX3_joinedWith_9
  intro I hI
  have key : ∀ k, k ≤ 16 → I (st (rR e c k)) (st (fr e c k)) (nI k) v := up_to
    (by
      apply hI
      unfold BX3_joinedWith_9 BX3_joinedWith_43
      exact ⟨fun _ => h, fun n => absurd ((le16 (by decide)).mpr (Nat.le_refl 16)) n⟩)
    (by
      intro k hk ih
      apply hI
      unfold BX3_joinedWith_9 BX3_joinedWith_43
      refine ⟨fun n => absurd ((le16 (by omega)).mp n) (by omega), fun _ => ⟨fun n => ?_, fun n => ?_⟩⟩
      · rw [st_0] at n
        cases k with
        | zero => have := n c hc
                  have e2 : fr e c 0 c = (c == c) := rfl
                  rw [e2] at this; simp at this
        | succ k =>
          have hs : ∀ x, x < 16 → rR e c (k + 1) x = rR e c k x := by
            intro x hx
            have := n x hx
            have e2 : fr e c (k + 1) x = (rR e c (k + 1) x && !rR e c k x) := rfl
            rw [e2] at this
            cases q : rR e c k x
            · rw [q] at this; simpa using this
            · exact rR_up q
          have e3 : st (cn e c) = st (rR e c (k + 1)) := st_cong fun x hx => by rw [rR_at (by omega) hs hx, hs x hx]
          rw [e3] at h
          exact h
      · apply r_poa hv
        rw [st_sub, fr_nx, st_or, rR_fr, nI_1]
        exact ih)
  have := key 0 (by omega)
  rw [st_one hc]
  exact this
def ds (e : Nat → Nat → Bool) (c d : Nat) : Nat := fa_first (fun k => rR e c k d) 16
theorem ds_cn {e : Nat → Nat → Bool} {c d : Nat} (hc : c < 16) (hd : d < 16) : ds e c d < 16 ↔ cn e c d = true := by
  constructor
  · intro h
    exact cn_any hc hd (fa_first_yes (fun k => rR e c k d) 16 h)
  · intro h
    rw [cn_15 e hc hd] at h
    have := fi_at (p := fun k => rR e c k d) (n := 16) (by decide) h
    unfold ds
    omega
theorem r_distance {e : Nat → Nat → Bool} {c d : Nat} {v : gMem} {Q : Int32 → gMem → Prop} {X : String → gMem → Prop} (hv : ∀ y, y < 16 → v 16 1 y = st (e y)) (hc : c < 16) (hd : d < 16) (h : Q (if ds e c d < 16 then nI (ds e c d) else -1) v) : TX3_distance (nI c) (nI d) v Q X := by
  unfold TX3_distance LX3_distance_7
  intro I hI
  have key : ∀ k, k ≤ 16 → (∀ j, j < k → rR e c j d = false) → I (st (rR e c k)) (nI k) v := up_to
    (by
      intro hn
      apply hI
      unfold BX3_distance_7
      refine ⟨fun _ => ?_, fun n => absurd ((le16 (by decide)).mpr (Nat.le_refl 16)) n⟩
      have : ¬ ds e c d < 16 := by
        intro q
        have := fa_first_yes (fun k => rR e c k d) 16 q
        have := hn _ q
        rename_i a
        exact absurd (this.symm.trans a) (by decide)
      rw [if_neg this] at h
      exact h)
    (by
      intro k hk ih hn
      apply hI
      unfold BX3_distance_7
      refine ⟨fun n => absurd ((le16 (by omega)).mp n) (by omega), fun _ => ?_⟩
      apply r_contains hd
      refine ⟨fun n => ?_, fun n => ?_⟩
      · rw [nb_0] at n
        apply r_poa hv
        rw [st_or, nI_1]
        exact ih (fun j hj => by
          rcases Nat.lt_or_eq_of_le (Nat.le_of_lt_succ hj) with q | q
          · exact hn j q
          · rw [q]; exact n)
      · have n2 : rR e c k d = true := by
          cases q : rR e c k d
          · exact absurd ((nb_0 _).mpr q) n
          · rfl
        have e3 : ds e c d = k := fi_is hk n2 hn
        rw [e3, if_pos hk] at h
        exact h)
  have := key 0 (by omega) (fun j hj => absurd hj (Nat.not_lt_zero j))
  rw [st_one hc]
  exact this
theorem r_lowest {f : Nat → Bool} {v : gMem} {Q : Int32 → gMem → Prop} {X : String → gMem → Prop} (h : Q (if fa_first f 16 < 16 then nI (fa_first f 16) else -1) v) : TX6_lowestOf (st f) v Q X := by
  unfold TX6_lowestOf LX6_lowestOf_2
  intro I hI
  have key : ∀ k, k ≤ 16 → (∀ j, j < k → f j = false) → I (nI k) v := up_to
    (by
      intro hn
      apply hI
      unfold BX6_lowestOf_2
      refine ⟨fun _ => ?_, fun n => absurd ((le16 (by decide)).mpr (Nat.le_refl 16)) n⟩
      have : ¬ fa_first f 16 < 16 := by
        intro q
        have a := fa_first_yes f 16 q
        exact absurd ((hn _ q).symm.trans a) (by decide)
      rw [if_neg this] at h
      exact h)
    (by
      intro k hk ih hn
      apply hI
      unfold BX6_lowestOf_2
      refine ⟨fun n => absurd ((le16 (by omega)).mp n) (by omega), fun _ => ?_⟩
      apply r_contains hk
      refine ⟨fun n => ?_, fun n => ?_⟩
      · rw [nb_0] at n
        rw [nI_1]
        exact ih (fun j hj => by
          rcases Nat.lt_or_eq_of_le (Nat.le_of_lt_succ hj) with q | q
          · exact hn j q
          · rw [q]; exact n)
      · have n2 : f k = true := by
          cases q : f k
          · exact absurd ((nb_0 _).mpr q) n
          · rfl
        have e3 : fa_first f 16 = k := fi_is hk n2 hn
        rw [e3, if_pos hk] at h
        exact h)
  exact key 0 (by omega) (fun j hj => absurd hj (Nat.not_lt_zero j))
