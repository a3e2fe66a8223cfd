/-! ===== What is promised: the state a is the reference's rows ===== -/
def na (a : gMem) (k j : Nat) : Nat := (a k 0 j).toNatClampNeg
def ns (a : gMem) : Nat := na a 7 1
def nc (a : gMem) : Nat := na a 7 2
def nm (a : gMem) : Nat := na a 7 3
def np (a : gMem) : Nat := na a 7 4
def ty (a : gMem) : Nat := na a 7 6
def th (a : gMem) : Int32 := a 7 0 5
def ln (a : gMem) (i : Nat) : Nat := if i = 16 then ty a else na a 32 i
def lt (a : gMem) (i k : Nat) : Nat := na a 42 (10 * i + k)
def nu (a : gMem) (c f : Nat) : Int32 := a 33 0 (4 * c + f)
def m1 (a : gMem) (m : Nat) : Nat := na a 36 m
def m2 (a : gMem) (m : Nat) : Nat := na a 37 m
def sd (a : gMem) (m : Nat) : Bool := decide (a 43 0 m = 1)
def fb (a : gMem) (c d : Nat) : Bool := decide (a 44 0 (16 * c + d) = 1)
def gr (a : gMem) (g c : Nat) : Bool := decide (a 45 0 (16 * g + c) = 1)
def joins (a : gMem) (x y m : Nat) : Bool := (x == m1 a m && y == m2 a m) || (x == m2 a m && y == m1 a m)
def ed (a : gMem) (x y : Nat) : Bool := an (nm a) (fun m => sd a m && joins a x y m)
def dg (x : Nat) : Nat :=
  if x = 98 ∨ x = 102 ∨ x = 112 ∨ x = 118 then 1
  else if x = 99 ∨ x = 103 ∨ x = 106 ∨ x = 107 ∨ x = 113 ∨ x = 115 ∨ x = 120 ∨ x = 122 then 2
  else if x = 100 ∨ x = 116 then 3
  else if x = 108 then 4
  else if x = 109 ∨ x = 110 then 5
  else if x = 114 then 6
  else 0
/-- The number of signs of a sound, and its signs. -/
def sn (l : Nat → Nat) : Nat → Nat
  | 0 => 0
  | n + 1 => if n = 0 then 1 else if sn l n < 4 ∧ dg (l n) ≠ 0 ∧ dg (l n) ≠ dg (l (n - 1)) then sn l n + 1 else sn l n
def sr (l : Nat → Nat) : Nat → Nat → Nat
  | 0, _ => 0
  | n + 1, k => if n = 0 then (if k = 0 then l 0 else 0) else if sn l n < 4 ∧ dg (l n) ≠ 0 ∧ dg (l n) ≠ dg (l (n - 1)) then (if k = sn l n then dg (l n) else sr l n k) else sr l n k
def sg (l : Nat → Nat) (n k : Nat) : Nat := if k = 0 then sr l n 0 else 48 + sr l n k
def ss (a : gMem) (i j : Nat) : Bool := decide (0 < ln a i ∧ sn (lt a i) (ln a i) = sn (lt a j) (ln a j) ∧ ∀ k, k < sn (lt a i) (ln a i) → sr (lt a i) (ln a i) k = sr (lt a j) (ln a j) k)
def hs (a : gMem) (c f : Nat) : Bool := if f = 0 then decide (0 < ln a c) else !decide (nu a c f = -1)
def ag (a : gMem) (c d f : Nat) : Bool := if f = 0 then decide (ln a c = ln a d ∧ ∀ k, k < ln a c → lt a c k = lt a d k) else decide (nu a c f = nu a d f)
def hf (w : Int32) : Int32 := if 0 ≤ w ^^^ 2 then w / 2 else if w / 2 * 2 = w then w / 2 else w / 2 - 1
def fs (a : gMem) (c d f : Nat) : Int32 :=
  if hs a c f && hs a d f then (if ag a c d f then a 34 0 f else if f = 0 ∧ ss a c d = true then hf (a 34 0 0) else a 35 0 f) else 0
def scK (a : gMem) (c d : Nat) : Nat → Int32
  | 0 => 0
  | k + 1 => scK a c d k + fs a c d k
def sc (a : gMem) (c d : Nat) : Int32 := scK a c d 4
def sh (a : gMem) (c d f : Nat) : Bool := hs a c f && ag a c d f
def ky (a : gMem) (c d : Nat) : Bool := sh a c d 1 || sh a c d 2 || ss a c d
def br (a : gMem) (c d : Nat) : Nat → Bool := fun x => cn (ed a) c x && nx (fb a) (cn (ed a) d) x
def bd (a : gMem) (c d : Nat) : Bool := an 16 (br a c d)
def mg (a : gMem) (c d : Nat) : Bool := !cn (ed a) c d && !bd a c d
def cd (a : gMem) (c d : Nat) : Bool := ky a c d && (decide (th a ≤ sc a c d) && mg a c d)
/-! ===== The state is well made ===== -/
/-- Twice the number of pairs. -/
def pr (e : Nat → Nat → Bool) : Nat → Nat
  | 0 => 0
  | c + 1 => pr e c + fb_ct (e c) 16
def WF (a : gMem) : Prop :=
  (a 7 0 1 = nI (ns a) ∧ ns a ≤ 4 ∧ a 7 0 2 = nI (nc a) ∧ nc a ≤ 16 ∧ a 7 0 3 = nI (nm a) ∧ nm a ≤ 30 ∧ a 7 0 4 = nI (np a) ∧ np a ≤ 12 ∧ a 7 0 6 = nI (ty a) ∧ ty a ≤ 10) ∧
  (∀ i, i < ns a → ∃ r, a 30 0 i = nI r ∧ 1 ≤ r ∧ r ≤ 9) ∧
  (∀ c, c < nc a → a 31 0 c = nI (na a 31 c) ∧ na a 31 c < ns a) ∧
  (∀ c, c < 16 → a 32 0 c = nI (na a 32 c) ∧ na a 32 c ≤ 10) ∧
  (∀ i, i < 17 → ∀ k, k < ln a i → a 42 0 (10 * i + k) = nI (lt a i k) ∧ 97 ≤ lt a i k ∧ lt a i k ≤ 122) ∧
  (∀ c, c < nc a → ∀ f, 1 ≤ f → f < 4 → nu a c f = -1 ∨ ∃ r, nu a c f = nI r ∧ r ≤ 999) ∧
  (∀ f, f < 4 → (-9 ≤ a 34 0 f ∧ a 34 0 f ≤ 9)) ∧
  (∀ m, m < nm a → a 36 0 m = nI (m1 a m) ∧ m1 a m < nc a ∧ a 37 0 m = nI (m2 a m) ∧ m2 a m < nc a ∧ m1 a m ≠ m2 a m ∧ a 43 0 m = nb (sd a m)) ∧
  (∀ m l, m < l → l < nm a → sd a m = true → sd a l = true → joins a (m1 a m) (m2 a m) l = false) ∧
  (∀ c d, c < 16 → d < 16 → a 44 0 (16 * c + d) = nb (fb a c d) ∧ fb a c d = fb a d c ∧ (fb a c d = true → c < nc a ∧ d < nc a ∧ cn (ed a) c d = false)) ∧
  (∀ g c, g < 4 → c < 16 → a 45 0 (16 * g + c) = nb (gr a g c) ∧ (gr a g c = true → c < nc a)) ∧
  pr (fb a) 16 = 2 * np a
/-! ===== The class's rows ===== -/
def RC (v a : gMem) : Prop :=
  (v 6 0 1 = a 7 0 1 ∧ v 6 0 3 = a 7 0 2 ∧ v 6 0 6 = a 7 0 5 ∧ v 6 0 8 = a 7 0 4 ∧ v 3 0 3 = a 7 0 3 ∧ v 4 16 1 = a 7 0 6) ∧
  (∀ i, i < 4 → v 10 0 i = a 30 0 i ∧ v 12 0 i = a 34 0 i ∧ v 13 0 i = a 35 0 i) ∧
  (∀ c, c < 16 → v 2 c 0 = a 31 0 c ∧ v 4 c 1 = a 32 0 c) ∧
  (∀ c, c < 16 → ∀ f, 1 ≤ f → f < 4 → v 23 c f = if c < nc a then nu a c f else -1) ∧
  (∀ i, i < 17 → ∀ k, k < 10 → v 21 i k = a 42 0 (10 * i + k)) ∧
  (∀ i, i < 17 → v 4 i 3 = nI (sn (lt a i) (ln a i)) ∧ ∀ k, k < sn (lt a i) (ln a i) → v 22 i k = nI (sg (lt a i) (ln a i) k)) ∧
  (∀ m, m < 30 → v 17 0 m = a 36 0 m ∧ v 18 0 m = a 37 0 m ∧ v 19 0 m = a 43 0 m) ∧
  (∀ c, c < 16 → v 16 1 c = st (ed a c) ∧ v 16 0 c = st (fb a c)) ∧
  (∀ g, g < 4 → v 14 0 g = st (gr a g))
/-! ===== The reference's rows ===== -/
def mkind (k : Nat) : Prop := (30 ≤ k ∧ k ≤ 37) ∨ (42 ≤ k ∧ k ≤ 45)
def RM (v a : gMem) : Prop := (∀ j, 1 ≤ j → j ≤ 6 → v 7 0 j = a 7 0 j) ∧ ∀ k, mkind k → ∀ j, v k 0 j = a k 0 j
def ckind (k : Nat) : Prop := (2 ≤ k ∧ k ≤ 6) ∨ (10 ≤ k ∧ k ≤ 14) ∨ (16 ≤ k ∧ k ≤ 19) ∨ (21 ≤ k ∧ k ≤ 23)
/-- What a question may change: notes of the class, and notes of the reference. -/
def fS (v w : gMem) : Prop := ∀ k, ckind k ∨ 26 ≤ k ∨ k = 7 → w k = v k
def fM (v w : gMem) : Prop := (∀ k, ckind k ∨ mkind k ∨ 50 ≤ k → w k = v k) ∧ ∀ j, 1 ≤ j → j ≤ 6 → w 7 0 j = v 7 0 j
theorem fS_rf (v : gMem) : fS v v := fun _ _ => rfl
theorem fS_tr {v w u : gMem} (h : fS v w) (h2 : fS w u) : fS v u := fun k hk => (h2 k hk).trans (h k hk)
theorem fM_rf (v : gMem) : fM v v := ⟨fun _ _ => rfl, fun _ _ _ => rfl⟩
theorem fM_tr {v w u : gMem} (h : fM v w) (h2 : fM w u) : fM v u := ⟨fun k hk => (h2.1 k hk).trans (h.1 k hk), fun j h3 h4 => (h2.2 j h3 h4).trans (h.2 j h3 h4)⟩
theorem RC_of {v w a : gMem} (h : RC v a) (f : ∀ k, ckind k → w k = v k) : RC w a := by
  unfold RC at h ⊢
  have e : ∀ k, ckind k → ∀ i j, w k i j = v k i j := fun k hk i j => by rw [f k hk]
  simp only [e 2 (by unfold ckind; omega), e 3 (by unfold ckind; omega), e 4 (by unfold ckind; omega), e 6 (by unfold ckind; omega), e 10 (by unfold ckind; omega), e 12 (by unfold ckind; omega), e 13 (by unfold ckind; omega), e 14 (by unfold ckind; omega), e 16 (by unfold ckind; omega), e 17 (by unfold ckind; omega), e 18 (by unfold ckind; omega), e 19 (by unfold ckind; omega), e 21 (by unfold ckind; omega), e 22 (by unfold ckind; omega), e 23 (by unfold ckind; omega)]
  exact h
theorem RC_S {v w a : gMem} (h : RC v a) (f : fS v w) : RC w a := RC_of h fun k hk => f k (Or.inl hk)
theorem RC_M {v w a : gMem} (h : RC v a) (f : fM v w) : RC w a := RC_of h fun k hk => f.1 k (Or.inl hk)
theorem RM_S {v w a : gMem} (h : RM v a) (f : fS v w) : RM w a := ⟨fun j h1 h2 => by rw [f 7 (Or.inr (Or.inr rfl)), h.1 j h1 h2], fun k hk j => by rw [f k (Or.inr (Or.inl (by unfold mkind at hk; omega))), h.2 k hk j]⟩
theorem RM_M {v w a : gMem} (h : RM v a) (f : fM v w) : RM w a := ⟨fun j h1 h2 => by rw [f.2 j h1 h2, h.1 j h1 h2], fun k hk j => by rw [f.1 k (Or.inr (Or.inl hk)), h.2 k hk j]⟩
