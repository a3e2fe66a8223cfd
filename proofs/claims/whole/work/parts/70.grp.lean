/-! ===== When a part of the state changes ===== -/
theorem gk {v : gMem} {k i j : Nat} {x : Int32} (k' : Nat) (h : k' ≠ k := by decide) : gw v k i j x k' = v k' := by
  funext i' j'
  exact gw_ne _ _ (fun q => h q.1)
theorem ns_c {a b : gMem} (k : b 7 0 1 = a 7 0 1) : ns b = ns a := by unfold ns na; rw [k]
theorem nc_c {a b : gMem} (k : b 7 0 2 = a 7 0 2) : nc b = nc a := by unfold nc na; rw [k]
theorem nm_c {a b : gMem} (k : b 7 0 3 = a 7 0 3) : nm b = nm a := by unfold nm na; rw [k]
theorem np_c {a b : gMem} (k : b 7 0 4 = a 7 0 4) : np b = np a := by unfold np na; rw [k]
theorem ty_c {a b : gMem} (k : b 7 0 6 = a 7 0 6) : ty b = ty a := by unfold ty na; rw [k]
theorem ln_c {a b : gMem} (k : b 32 = a 32) (t : b 7 0 6 = a 7 0 6) : ln b = ln a := by funext i; unfold ln ty na; rw [k, t]
theorem lt_c {a b : gMem} (k : b 42 = a 42) : lt b = lt a := by funext i j; unfold lt na; rw [k]
theorem nu_c {a b : gMem} (k : b 33 = a 33) : nu b = nu a := by funext i j; unfold nu; rw [k]
theorem m1_c {a b : gMem} (k : b 36 = a 36) : m1 b = m1 a := by funext i; unfold m1 na; rw [k]
theorem m2_c {a b : gMem} (k : b 37 = a 37) : m2 b = m2 a := by funext i; unfold m2 na; rw [k]
theorem sd_c {a b : gMem} (k : b 43 = a 43) : sd b = sd a := by funext i; unfold sd; rw [k]
theorem jo_c {a b : gMem} (k : b 36 = a 36) (l : b 37 = a 37) : joins b = joins a := by funext x y m; unfold joins; rw [m1_c k, m2_c l]
theorem ed_c {a b : gMem} (n : b 7 0 3 = a 7 0 3) (k : b 36 = a 36) (l : b 37 = a 37) (m : b 43 = a 43) : ed b = ed a := by
  funext x y
  unfold ed
  rw [nm_c n, sd_c m, jo_c k l]
theorem fb_c {a b : gMem} (k : b 44 = a 44) : fb b = fb a := by funext i j; unfold fb; rw [k]
theorem gr_c {a b : gMem} (k : b 45 = a 45) : gr b = gr a := by funext i j; unfold gr; rw [k]
section
variable {a b v w : gMem}
theorem W1c (k : b 7 = a 7) (h : WF a) : (b 7 0 1 = nI (ns b) ∧ ns b ≤ 4 ∧ b 7 0 2 = nI (nc b) ∧ nc b ≤ 16 ∧ b 7 0 3 = nI (nm b) ∧ nm b ≤ 30 ∧ b 7 0 4 = nI (np b) ∧ np b ≤ 12 ∧ b 7 0 6 = nI (ty b) ∧ ty b ≤ 10) := by
  rw [ns_c (a := a) (by rw [k]), nc_c (a := a) (by rw [k]), nm_c (a := a) (by rw [k]), np_c (a := a) (by rw [k]), ty_c (a := a) (by rw [k]), k]
  exact h.1
theorem W2c (n : ns b = ns a) (k : b 30 = a 30) (h : WF a) : ∀ i, i < ns b → ∃ r, b 30 0 i = nI r ∧ 1 ≤ r ∧ r ≤ 9 := by
  rw [n, k]; exact h.2.1
theorem W3c (n : ns b = ns a) (m : nc b = nc a) (k : b 31 = a 31) (h : WF a) : ∀ c, c < nc b → b 31 0 c = nI (na b 31 c) ∧ na b 31 c < ns b := by
  unfold na
  rw [n, m, k]; exact h.2.2.1
theorem W4c (k : b 32 = a 32) (h : WF a) : ∀ c, c < 16 → b 32 0 c = nI (na b 32 c) ∧ na b 32 c ≤ 10 := by
  unfold na
  rw [k]; exact h.2.2.2.1
theorem W5c (n : ln b = ln a) (k : b 42 = a 42) (h : WF a) : ∀ i, i < 17 → ∀ k, k < ln b i → b 42 0 (10 * i + k) = nI (lt b i k) ∧ 97 ≤ lt b i k ∧ lt b i k ≤ 122 := by
  rw [n, lt_c k, k]; exact h.2.2.2.2.1
theorem W6c (n : nc b = nc a) (k : b 33 = a 33) (h : WF a) : ∀ c, c < nc b → ∀ f, 1 ≤ f → f < 4 → nu b c f = -1 ∨ ∃ r, nu b c f = nI r ∧ r ≤ 999 := by
  rw [n, nu_c k]; exact h.2.2.2.2.2.1
theorem W7c (k : b 34 = a 34) (h : WF a) : ∀ f, f < 4 → (-9 ≤ b 34 0 f ∧ b 34 0 f ≤ 9) := by
  rw [k]; exact h.2.2.2.2.2.2.1
theorem W8c (n : nc b = nc a) (m : nm b = nm a) (k : b 36 = a 36) (l : b 37 = a 37) (o : b 43 = a 43) (h : WF a) : ∀ m, m < nm b → b 36 0 m = nI (m1 b m) ∧ m1 b m < nc b ∧ b 37 0 m = nI (m2 b m) ∧ m2 b m < nc b ∧ m1 b m ≠ m2 b m ∧ b 43 0 m = nb (sd b m) := by
  rw [n, m, m1_c k, m2_c l, sd_c o, k, l, o]; exact h.2.2.2.2.2.2.2.1
theorem W9c (m : nm b = nm a) (k : b 36 = a 36) (l : b 37 = a 37) (o : b 43 = a 43) (h : WF a) : ∀ m l, m < l → l < nm b → sd b m = true → sd b l = true → joins b (m1 b m) (m2 b m) l = false := by
  rw [m, m1_c k, m2_c l, sd_c o, jo_c k l]; exact h.2.2.2.2.2.2.2.2.1
theorem W10c (n : nc b = nc a) (e : ed b = ed a) (k : b 44 = a 44) (h : WF a) : ∀ c d, c < 16 → d < 16 → b 44 0 (16 * c + d) = nb (fb b c d) ∧ fb b c d = fb b d c ∧ (fb b c d = true → c < nc b ∧ d < nc b ∧ cn (ed b) c d = false) := by
  rw [n, e, fb_c k, k]; exact h.2.2.2.2.2.2.2.2.2.1
theorem W11c (n : nc b = nc a) (k : b 45 = a 45) (h : WF a) : ∀ g c, g < 4 → c < 16 → b 45 0 (16 * g + c) = nb (gr b g c) ∧ (gr b g c = true → c < nc b) := by
  rw [n, gr_c k, k]; exact h.2.2.2.2.2.2.2.2.2.2.1
theorem W12c (n : np b = np a) (k : b 44 = a 44) (h : WF a) : pr (fb b) 16 = 2 * np b := by
  rw [n, fb_c k]; exact h.2.2.2.2.2.2.2.2.2.2.2
theorem R2c (p : w 10 = v 10) (q : w 12 = v 12) (r : w 13 = v 13) (k : b 30 = a 30) (l : b 34 = a 34) (o : b 35 = a 35) (h : RC v a) : ∀ i, i < 4 → w 10 0 i = b 30 0 i ∧ w 12 0 i = b 34 0 i ∧ w 13 0 i = b 35 0 i := by
  rw [p, q, r, k, l, o]; exact h.2.1
theorem R3c (p : w 2 = v 2) (q : w 4 = v 4) (k : b 31 = a 31) (l : b 32 = a 32) (h : RC v a) : ∀ c, c < 16 → w 2 c 0 = b 31 0 c ∧ w 4 c 1 = b 32 0 c := by
  rw [p, q, k, l]; exact h.2.2.1
theorem R4c (p : w 23 = v 23) (n : nc b = nc a) (k : b 33 = a 33) (h : RC v a) : ∀ c, c < 16 → ∀ f, 1 ≤ f → f < 4 → w 23 c f = if c < nc b then nu b c f else -1 := by
  rw [p, n, nu_c k]; exact h.2.2.2.1
theorem R5c (p : w 21 = v 21) (k : b 42 = a 42) (h : RC v a) : ∀ i, i < 17 → ∀ k, k < 10 → w 21 i k = b 42 0 (10 * i + k) := by
  rw [p, k]; exact h.2.2.2.2.1
theorem R6c (p : w 4 = v 4) (q : w 22 = v 22) (n : ln b = ln a) (k : b 42 = a 42) (h : RC v a) : ∀ i, i < 17 → w 4 i 3 = nI (sn (lt b i) (ln b i)) ∧ ∀ k, k < sn (lt b i) (ln b i) → w 22 i k = nI (sg (lt b i) (ln b i) k) := by
  rw [p, q, n, lt_c k]; exact h.2.2.2.2.2.1
theorem R7c (p : w 17 = v 17) (q : w 18 = v 18) (r : w 19 = v 19) (k : b 36 = a 36) (l : b 37 = a 37) (o : b 43 = a 43) (h : RC v a) : ∀ m, m < 30 → w 17 0 m = b 36 0 m ∧ w 18 0 m = b 37 0 m ∧ w 19 0 m = b 43 0 m := by
  rw [p, q, r, k, l, o]; exact h.2.2.2.2.2.2.1
theorem R8c (p : w 16 = v 16) (e : ed b = ed a) (k : b 44 = a 44) (h : RC v a) : ∀ c, c < 16 → w 16 1 c = st (ed b c) ∧ w 16 0 c = st (fb b c) := by
  rw [p, e, fb_c k]; exact h.2.2.2.2.2.2.2.1
theorem R9c (p : w 14 = v 14) (k : b 45 = a 45) (h : RC v a) : ∀ g, g < 4 → w 14 0 g = st (gr b g) := by
  rw [p, gr_c k]; exact h.2.2.2.2.2.2.2.2
end
/-! ===== The reference's writes behind the class's ===== -/
def fR (u w : gMem) : Prop := ∀ k, ckind k ∨ k = 50 → w k = u k
def fT (v u : gMem) : Prop := ∀ k, mkind k ∨ k = 7 → u k = v k
theorem fR_rf (u : gMem) : fR u u := fun _ _ => rfl
theorem fR_w {u w : gMem} {k i j : Nat} {x : Int32} (h : fR u w) (hk : (30 ≤ k ∧ k < 50) ∨ k = 7 := by omega) : fR u (gw w k i j x) := fun l hl => (gk l (by unfold ckind at hl; omega)).trans (h l hl)
theorem fR_M {u w x : gMem} (h : fR u w) (f : fM w x) : fR u x := fun l hl => (f.1 l (hl.elim Or.inl fun e => Or.inr (Or.inr (by omega)))).trans (h l hl)
theorem fT_rf (u : gMem) : fT u u := fun _ _ => rfl
theorem fT_w {v u : gMem} {k i j : Nat} {x : Int32} (h : fT v u) (hk : k < 7 ∨ (10 ≤ k ∧ k < 30) ∨ k = 50 := by omega) : fT v (gw u k i j x) := fun l hl => (gk l (by unfold mkind at hl; omega)).trans (h l hl)
theorem fT_S {v u w : gMem} (h : fT v u) (f : fS u w) : fT v w := fun l hl => (f l (by unfold mkind at hl; omega)).trans (h l hl)
theorem RM_T {v u a : gMem} (h : RM v a) (f : fT v u) : RM u a := ⟨fun j h1 h2 => by rw [f 7 (Or.inr rfl), h.1 j h1 h2], fun k hk j => by rw [f k (Or.inl hk), h.2 k hk j]⟩
theorem RM_w {v a : gMem} {k j : Nat} {x : Int32} (h : RM v a) : RM (gw v k 0 j x) (gw a k 0 j x) := by
  constructor
  · intro l h1 h2
    unfold gw
    split
    · rfl
    · exact h.1 l h1 h2
  · intro l hl m
    unfold gw
    split
    · rfl
    · exact h.2 l hl m
theorem RM_0 {v a : gMem} {x : Int32} (h : RM v a) : RM (gw v 7 0 0 x) a := RM_M h (T0_M v x)
theorem RC_50 {v a : gMem} {x : Int32} (h : RC v a) : RC (gw v 50 0 0 x) a := RC_I h (fI_out v 0 0 x (by decide))
theorem end_mut {b u w : gMem} {y : Int32} (hR : RC u b) (f : fR u w) (hM : RM w b) (hW : WF b) (h7 : w 7 0 0 = 0) (h50 : u 50 0 0 = y) : TX7_thrown w (fun t z => ((t = 0 → ((¬ (0 : Int32) = 0 → (Inv z)) ∧ ((0 : Int32) = 0 → (((lg_cmp (Int32.toInt64 (z 50 0 0)) (Int32.toInt64 y)) = 0 → (Inv z)) ∧ (¬ (lg_cmp (Int32.toInt64 (z 50 0 0)) (Int32.toInt64 y)) = 0 → False))))) ∧ (¬ t = 0 → False))) (fun _ _ => False) :=
  end_case h7 (fun _ => by rw [f 50 (Or.inr rfl)]; exact h50) ⟨b, RC_of hR fun k hk => f k (Or.inl hk), hM, hW⟩
/-! ===== setThreshold ===== -/
theorem W_th {a : gMem} {x : Int32} (hW : WF a) : WF (gw a 7 0 5 x) :=
  have e : ∀ j, j ≠ 5 → gw a 7 0 5 x 7 0 j = a 7 0 j := fun j h => gw_ne _ _ (by omega)
  have n : nc (gw a 7 0 5 x) = nc a := nc_c (e 2 (by decide))
  have m : nm (gw a 7 0 5 x) = nm a := nm_c (e 3 (by decide))
  have s : ns (gw a 7 0 5 x) = ns a := ns_c (e 1 (by decide))
  ⟨by rw [s, n, m, np_c (e 4 (by decide)), ty_c (e 6 (by decide)), e 1 (by decide), e 2 (by decide), e 3 (by decide), e 4 (by decide), e 6 (by decide)]; exact hW.1, W2c s (gk 30) hW, W3c s n (gk 31) hW, W4c (gk 32) hW, W5c (ln_c (gk 32) (e 6 (by decide))) (gk 42) hW, W6c n (gk 33) hW, W7c (gk 34) hW, W8c n m (gk 36) (gk 37) (gk 43) hW, W9c m (gk 36) (gk 37) (gk 43) hW, W10c n (ed_c (e 3 (by decide)) (gk 36) (gk 37) (gk 43)) (gk 44) hW, W11c n (gk 45) hW, W12c (np_c (e 4 (by decide))) (gk 44) hW⟩
theorem R_th {v a : gMem} {x : Int32} (hR : RC v a) : RC (gw v 6 0 6 x) (gw a 7 0 5 x) :=
  have e : ∀ j, j ≠ 5 → gw a 7 0 5 x 7 0 j = a 7 0 j := fun j h => gw_ne _ _ (by omega)
  have f : ∀ j, j ≠ 6 → gw v 6 0 6 x 6 0 j = v 6 0 j := fun j h => gw_ne _ _ (by omega)
  have n : nc (gw a 7 0 5 x) = nc a := nc_c (e 2 (by decide))
  ⟨by rw [e 1 (by decide), e 2 (by decide), e 3 (by decide), e 4 (by decide), e 6 (by decide), f 1 (by decide), f 3 (by decide), f 8 (by decide), gw_same, gw_same, gk 3, gk 4]; exact ⟨hR.1.1, hR.1.2.1, rfl, hR.1.2.2.2⟩, R2c (gk 10) (gk 12) (gk 13) (gk 30) (gk 34) (gk 35) hR, R3c (gk 2) (gk 4) (gk 31) (gk 32) hR, R4c (gk 23) n (gk 33) hR, R5c (gk 21) (gk 42) hR, R6c (gk 4) (gk 22) (ln_c (gk 32) (e 6 (by decide))) (gk 42) hR, R7c (gk 17) (gk 18) (gk 19) (gk 36) (gk 37) (gk 43) hR, R8c (gk 16) (ed_c (e 3 (by decide)) (gk 36) (gk 37) (gk 43)) (gk 44) hR, R9c (gk 14) (gk 45) hR⟩
theorem t12 : ∀ s1 s2 s3 v, Inv v → TC_12 s1 s2 s3 v Inv := by
  rintro s1 s2 s3 v ⟨a, hR, hM, hW⟩
  unfold TC_12 TL_setThreshold TX6_setThreshold BX6_setThreshold_12
  have bad : ¬ (-40 ≤ s1 ∧ s1 ≤ 40) → TX7_setThreshold s1 v (fun r995 v995 => (TX7_thrown v995 (fun r1001 v1001 => ((r1001 = 1 → ((¬ (1 : Int32) = 0 → (Inv v1001)) ∧ ((1 : Int32) = 0 → (((lg_cmp (Int32.toInt64 (v1001 50 0 0)) (Int32.toInt64 r995)) = 0 → (Inv v1001)) ∧ (¬ (lg_cmp (Int32.toInt64 (v1001 50 0 0)) (Int32.toInt64 r995)) = 0 → False))))) ∧ (¬ r1001 = 1 → False))) (fun _ _ => False))) (fun _ _ => False) := by
    intro n
    unfold TX7_setThreshold
    apply m_within
    · intro q1 q2
      exact absurd ⟨q1, q2⟩ n
    · intro _
      refine ⟨fun q => absurd rfl q, fun _ => m_fail ?_⟩
      exact end_case (T0_0 _ _) (fun q => absurd q (by decide)) (Inv_I hR hM hW (fM_I (T0_M _ _)))
  refine ⟨fun q => ⟨rfl, bad fun r => ltn q r.1⟩, fun p => ⟨fun q => ?_, fun q => ⟨rfl, bad fun r => q r.2⟩⟩⟩
  unfold TX7_setThreshold
  apply m_within
  · intro _ _
    refine ⟨fun _ => ?_, fun q => absurd q (by decide)⟩
    have t : fT v (gw (gw v 6 0 6 s1) 50 0 0 (v 6 0 6)) := fT_w (fT_w (fT_rf v))
    have hM2 := RM_T hM t
    apply end_mut (RC_50 (R_th (x := s1) hR)) (fR_w (fR_w (fR_rf _))) (RM_w (RM_0 hM2)) (W_th hW)
    · rw [gw_ne _ _ (by omega), gw_same]
    · rw [gw_same, gw_ne _ _ (by omega), hM2.1 5 (by omega) (by omega)]
      exact hR.1.2.2.1
  · intro n
    exact absurd ⟨nlt p, q⟩ n
