/-! ===== What is reached over a relation of cards ===== -/
def an (n : Nat) (p : Nat → Bool) : Bool := decide (∃ y, y < n ∧ p y = true)
theorem an_t {n : Nat} {p : Nat → Bool} : an n p = true ↔ ∃ y, y < n ∧ p y = true := by unfold an; rw [decide_eq_true_iff]
theorem an_f {n : Nat} {p : Nat → Bool} : an n p = false ↔ ∀ y, y < n → p y = false := by
  unfold an
  rw [decide_eq_false_iff_not]
  constructor
  · intro h y hy
    cases q : p y
    · rfl
    · exact absurd ⟨y, hy, q⟩ h
  · rintro h ⟨y, hy, q⟩
    rw [h y hy] at q; cases q
theorem an_cong {n : Nat} {p q : Nat → Bool} (h : ∀ y, y < n → p y = q y) : an n p = an n q := by
  cases e : an n q
  · rw [an_f] at e ⊢; intro y hy; rw [h y hy, e y hy]
  · rw [an_t] at e ⊢; obtain ⟨y, hy, e⟩ := e; exact ⟨y, hy, by rw [h y hy, e]⟩
theorem an_0 (p : Nat → Bool) : an 0 p = false := an_f.mpr fun y hy => absurd hy (Nat.not_lt_zero y)
theorem an_s (n : Nat) (p : Nat → Bool) : an (n + 1) p = (an n p || p n) := by
  cases e : an n p
  · cases q : p n
    · simp; rw [an_f] at e ⊢
      intro y hy
      rcases Nat.lt_or_eq_of_le (Nat.le_of_lt_succ hy) with h | h
      · exact e y h
      · rw [h, q]
    · simp; rw [an_t]; exact ⟨n, by omega, q⟩
  · simp; rw [an_t] at e ⊢; obtain ⟨y, hy, e⟩ := e; exact ⟨y, by omega, e⟩
def nx (e : Nat → Nat → Bool) (f : Nat → Bool) (x : Nat) : Bool := an 16 (fun y => f y && e y x)
theorem nx_t {e : Nat → Nat → Bool} {f : Nat → Bool} {x : Nat} : nx e f x = true ↔ ∃ y, y < 16 ∧ f y = true ∧ e y x = true := by
  unfold nx
  rw [an_t]
  simp only [Bool.and_eq_true]
theorem nx_cong {e : Nat → Nat → Bool} {f g : Nat → Bool} (h : ∀ c, c < 16 → f c = g c) (x : Nat) : nx e f x = nx e g x := an_cong fun y hy => by rw [h y hy]
def rR (e : Nat → Nat → Bool) (c : Nat) : Nat → Nat → Bool
  | 0 => fun x => x == c
  | k + 1 => fun x => rR e c k x || nx e (rR e c k) x
theorem rR_0 (e : Nat → Nat → Bool) (c x : Nat) : rR e c 0 x = (x == c) := rfl
theorem rR_s (e : Nat → Nat → Bool) (c k x : Nat) : rR e c (k + 1) x = (rR e c k x || nx e (rR e c k) x) := rfl
theorem rR_up {e : Nat → Nat → Bool} {c k x : Nat} (h : rR e c k x = true) : rR e c (k + 1) x = true := by rw [rR_s, h]; rfl
theorem rR_mono {e : Nat → Nat → Bool} {c k x : Nat} (h : rR e c k x = true) : ∀ l, rR e c (k + l) x = true
  | 0 => h
  | l + 1 => rR_up (rR_mono h l)
theorem rR_le {e : Nat → Nat → Bool} {c k l x : Nat} (hl : k ≤ l) (h : rR e c k x = true) : rR e c l x = true := by
  have := rR_mono h (l - k)
  rwa [show k + (l - k) = l by omega] at this
theorem rR_edge {e : Nat → Nat → Bool} {c k x y : Nat} (h : rR e c k y = true) (hy : y < 16) (he : e y x = true) : rR e c (k + 1) x = true := by
  rw [rR_s, nx_t.mpr ⟨y, hy, h, he⟩, Bool.or_true]
theorem rR_stay {e : Nat → Nat → Bool} {c k : Nat} (h : ∀ x, x < 16 → rR e c (k + 1) x = rR e c k x) : ∀ l x, x < 16 → rR e c (k + l) x = rR e c k x
  | 0, _, _ => rfl
  | l + 1, x, hx => by
    have ih := rR_stay h l
    show rR e c (k + l + 1) x = _
    rw [rR_s, ih x hx, nx_cong ih x, ← rR_s, h x hx]
theorem rR_grow {e : Nat → Nat → Bool} {c : Nat} (hc : c < 16) : ∀ k, (∀ j, j < k → ¬ ∀ x, x < 16 → rR e c (j + 1) x = rR e c j x) → k + 1 ≤ fb_ct (rR e c k) 16
  | 0, _ => fb_ct_pos.mpr ⟨c, hc, by rw [rR_0]; simp⟩
  | k + 1, h => by
    have ih := rR_grow hc k fun j hj => h j (by omega)
    have hk := h k (by omega)
    obtain ⟨x, hx⟩ := Classical.not_forall.mp hk
    obtain ⟨hx, hn⟩ := Classical.not_imp.mp hx
    have h0 : rR e c k x = false := by
      cases q : rR e c k x
      · rfl
      · exact absurd (by rw [q, rR_up q]) hn
    have h1 : rR e c (k + 1) x = true := by
      cases q : rR e c (k + 1) x
      · exact absurd (by rw [q, h0]) hn
      · rfl
    have u := fb_ct_upd (rR e c k) true hx
    have le : fb_ct (fun y => if y = x then true else rR e c k y) 16 ≤ fb_ct (rR e c (k + 1)) 16 := fb_ct_sub fun y _ hy => by
      by_cases q : y = x
      · rw [q]; exact h1
      · rw [if_neg q] at hy; exact rR_up hy
    rw [h0, if_neg (by decide : ¬ (false = true)), if_pos rfl] at u
    omega
theorem rR_stop (e : Nat → Nat → Bool) {c : Nat} (hc : c < 16) : ∃ k, k < 16 ∧ ∀ x, x < 16 → rR e c (k + 1) x = rR e c k x := by
  apply Classical.byContradiction
  intro h
  have := rR_grow (e := e) hc 16 fun j hj q => h ⟨j, hj, q⟩
  have := fb_ct_le (rR e c 16) 16
  omega
def cn (e : Nat → Nat → Bool) (c : Nat) : Nat → Bool := rR e c 16
theorem rR_at {e : Nat → Nat → Bool} {c k : Nat} (hk : k ≤ 16) (h : ∀ x, x < 16 → rR e c (k + 1) x = rR e c k x) {x : Nat} (hx : x < 16) : cn e c x = rR e c k x := by
  have := rR_stay h (16 - k) x hx
  rwa [show k + (16 - k) = 16 by omega] at this
theorem cn_15 (e : Nat → Nat → Bool) {c x : Nat} (hc : c < 16) (hx : x < 16) : cn e c x = rR e c 15 x := by
  obtain ⟨k, hk, h⟩ := rR_stop e hc
  rw [rR_at (by omega) h hx]
  have := rR_stay h (15 - k) x hx
  rw [show k + (15 - k) = 15 by omega] at this
  exact this.symm
theorem cn_any {e : Nat → Nat → Bool} {c x : Nat} (hc : c < 16) (hx : x < 16) {k : Nat} (h : rR e c k x = true) : cn e c x = true := by
  obtain ⟨j, hj, hs⟩ := rR_stop e hc
  rw [rR_at (by omega) hs hx]
  by_cases q : k ≤ j
  · exact rR_le q h
  · have := rR_stay hs (k - j) x hx
    rw [show j + (k - j) = k by omega] at this
    rw [← this]; exact h
theorem cn_rf (e : Nat → Nat → Bool) {c : Nat} (hc : c < 16) : cn e c c = true := cn_any hc hc (k := 0) (by rw [rR_0]; simp)
theorem cn_edge {e : Nat → Nat → Bool} {c x y : Nat} (hc : c < 16) (hx : x < 16) (hy : y < 16) (h : cn e c y = true) (he : e y x = true) : cn e c x = true :=
  cn_any hc hx (rR_edge h hy he)
theorem cn_tr {e : Nat → Nat → Bool} {a b x : Nat} (ha : a < 16) (hb : b < 16) (hx : x < 16) (h1 : cn e a b = true) (h2 : cn e b x = true) : cn e a x = true := by
  have key : ∀ k x, x < 16 → rR e b k x = true → cn e a x = true := by
    intro k
    induction k with
    | zero => intro x hx h; rw [rR_0] at h; have : x = b := by simpa using h
              rw [this]; exact h1
    | succ k ih =>
      intro x hx h
      rw [rR_s] at h
      cases q : rR e b k x
      · rw [q, Bool.false_or, nx_t] at h
        obtain ⟨y, hy, h3, h4⟩ := h
        exact cn_edge ha hx hy (ih y hy h3) h4
      · exact ih x hx q
  exact key 16 x hx h2
theorem cn_sy {e : Nat → Nat → Bool} (hs : ∀ a b, e a b = e b a) {a x : Nat} (ha : a < 16) (hx : x < 16) (h : cn e a x = true) : cn e x a = true := by
  have key : ∀ k x, x < 16 → rR e a k x = true → cn e x a = true := by
    intro k
    induction k with
    | zero => intro x hx h; rw [rR_0] at h; have : x = a := by simpa using h
              rw [this]; exact cn_rf e ha
    | succ k ih =>
      intro x hx h
      rw [rR_s] at h
      cases q : rR e a k x
      · rw [q, Bool.false_or, nx_t] at h
        obtain ⟨y, hy, h3, h4⟩ := h
        have h5 : cn e x y = true := cn_edge hx hy hx (cn_rf e hx) (by rw [hs]; exact h4)
        exact cn_tr hx hy ha h5 (ih y hy h3)
      · exact ih x hx q
  exact key 16 x hx h
theorem cn_in {e : Nat → Nat → Bool} {n : Nat} (hn : ∀ a b, e a b = true → a < n ∧ b < n) {c x : Nat} (hc : c < n) (h : cn e c x = true) : x < n := by
  have key : ∀ k x, rR e c k x = true → x < n := by
    intro k
    induction k with
    | zero => intro x h; rw [rR_0] at h; have : x = c := by simpa using h
              omega
    | succ k ih =>
      intro x h
      rw [rR_s] at h
      cases q : rR e c k x
      · rw [q, Bool.false_or, nx_t] at h
        obtain ⟨y, hy, h3, h4⟩ := h
        exact (hn _ _ h4).2
      · exact ih x q
  exact key 16 x h
/-! ===== The lowest card of a person ===== -/
def cp (e : Nat → Nat → Bool) (c : Nat) : Nat := fa_first (cn e c) 16
theorem fi_at {p : Nat → Bool} {n i : Nat} (hi : i < n) (h : p i = true) : fa_first p n ≤ i := by
  apply Nat.not_lt.mp
  intro q
  have := fa_first_no p n i q
  rw [h] at this; cases this
theorem fi_is {p : Nat → Bool} {n i : Nat} (hi : i < n) (h : p i = true) (h2 : ∀ j, j < i → p j = false) : fa_first p n = i := by
  have h1 := fi_at hi h
  rcases Nat.lt_or_eq_of_le h1 with q | q
  · have h3 := fa_first_yes p n (by omega)
    rw [h2 _ q] at h3; cases h3
  · exact q
theorem cp_le (e : Nat → Nat → Bool) {c : Nat} (hc : c < 16) : cp e c ≤ c := fi_at hc (cn_rf e hc)
theorem cp_in (e : Nat → Nat → Bool) {c : Nat} (hc : c < 16) : cn e c (cp e c) = true := fa_first_yes _ _ (Nat.lt_of_le_of_lt (cp_le e hc) hc)
theorem cp_min {e : Nat → Nat → Bool} {c x : Nat} (hx : x < 16) (h : cn e c x = true) : cp e c ≤ x := fi_at hx h
theorem cp_eq {e : Nat → Nat → Bool} (hs : ∀ a b, e a b = e b a) {a b : Nat} (ha : a < 16) (hb : b < 16) : cp e a = cp e b ↔ cn e a b = true := by
  have la := cp_le e ha
  have lb := cp_le e hb
  constructor
  · intro h
    have h1 := cp_in e ha
    have h2 := cp_in e hb
    rw [h] at h1
    exact cn_tr ha (by omega) hb h1 (cn_sy hs hb (by omega) h2)
  · intro h
    apply Nat.le_antisymm
    · exact cp_min (by omega) (cn_tr ha hb (by omega) h (cp_in e hb))
    · exact cp_min (by omega) (cn_tr hb ha (by omega) (cn_sy hs ha hb h) (cp_in e ha))
theorem cp_cp {e : Nat → Nat → Bool} (hs : ∀ a b, e a b = e b a) {c : Nat} (hc : c < 16) : cp e (cp e c) = cp e c := by
  have := cp_le e hc
  exact ((cp_eq hs hc (by omega)).mpr (cp_in e hc)).symm
theorem cn_cong {e e2 : Nat → Nat → Bool} (h : ∀ a b, e a b = e2 a b) : e = e2 := funext fun a => funext fun b => h a b
