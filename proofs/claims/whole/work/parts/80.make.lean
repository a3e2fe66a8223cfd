/-! ===== Merges made ===== -/
theorem ifp_old {e : Nat → Nat → Bool} {c d : Nat} {t : Bool} {x z : Nat} (h : ¬ ((x = c ∧ z = d) ∨ (x = d ∧ z = c))) : ifp e c d t x z = e x z := if_neg h
theorem ifp_new {e : Nat → Nat → Bool} {c d : Nat} {t : Bool} {x z : Nat} (h : (x = c ∧ z = d) ∨ (x = d ∧ z = c)) : ifp e c d t x z = t := if_pos h
/-- One more link: what is reached. -/
theorem cn_new {e : Nat → Nat → Bool} {c d x : Nat} (hc : c < 16) (hd : d < 16) (hx : x < 16) : ∀ k y, y < 16 → rR (ifp e c d true) x k y = true → cn e x y = true ∨ (cn e x c = true ∧ cn e d y = true) ∨ (cn e x d = true ∧ cn e c y = true)
  | 0, y, hy, h => by
    rw [rR_0] at h
    have : y = x := by simpa using h
    rw [this]
    exact Or.inl (cn_rf e hx)
  | k + 1, y, hy, h => by
    rw [rR_s, Bool.or_eq_true] at h
    rcases h with h | h
    · exact cn_new hc hd hx k y hy h
    · rw [nx_t] at h
      obtain ⟨z, hz, h1, h2⟩ := h
      have ih := cn_new hc hd hx k z hz h1
      by_cases q : (z = c ∧ y = d) ∨ (z = d ∧ y = c)
      · rcases q with q | q
        · rw [q.2]
          rw [q.1] at ih
          rcases ih with ih | ih | ih
          · exact Or.inr (Or.inl ⟨ih, cn_rf e hd⟩)
          · exact Or.inr (Or.inl ⟨ih.1, cn_rf e hd⟩)
          · exact Or.inl ih.1
        · rw [q.2]
          rw [q.1] at ih
          rcases ih with ih | ih | ih
          · exact Or.inr (Or.inr ⟨ih, cn_rf e hc⟩)
          · exact Or.inl ih.1
          · exact Or.inr (Or.inr ⟨ih.1, cn_rf e hc⟩)
      · rw [ifp_old q] at h2
        rcases ih with ih | ih | ih
        · exact Or.inl (cn_edge hx hy hz ih h2)
        · exact Or.inr (Or.inl ⟨ih.1, cn_edge hd hy hz ih.2 h2⟩)
        · exact Or.inr (Or.inr ⟨ih.1, cn_edge hc hy hz ih.2 h2⟩)
theorem bd_yes {a : gMem} {c d x y : Nat} (hx : x < 16) (hy : y < 16) (h1 : cn (ed a) c x = true) (h2 : cn (ed a) d y = true) (h3 : fb a y x = true) : bd a c d = true := by
  unfold bd br
  rw [an_t]
  refine ⟨x, hx, ?_⟩
  rw [h1, Bool.true_and, nx_t]
  exact ⟨y, hy, h2, h3⟩
def wM (a : gMem) (c d : Nat) : gMem := gw (gw (gw (gw a 36 0 (nm a) (nI c)) 37 0 (nm a) (nI d)) 43 0 (nm a) (nb true)) 7 0 3 (nI (nm a + 1))
section
variable {a v : gMem} {c d : Nat}
theorem wM_k (k : Nat) (h1 : k ≠ 36 := by decide) (h2 : k ≠ 37 := by decide) (h3 : k ≠ 43 := by decide) (h4 : k ≠ 7 := by decide) : wM a c d k = a k := (((gk k h4).trans (gk k h3)).trans (gk k h2)).trans (gk k h1)
theorem wM_7 (j : Nat) (h : j ≠ 3 := by decide) : wM a c d 7 0 j = a 7 0 j := by
  unfold wM
  rw [gw_ne _ _ (by omega), gk 7, gk 7, gk 7]
theorem wM_3 : wM a c d 7 0 3 = nI (nm a + 1) := gw_same _ _ _ _ _
theorem wM_nm (h : nm a < 30) : nm (wM a c d) = nm a + 1 := by
  unfold nm na
  rw [wM_3]
  exact clI (by have := h; unfold nm na at this; omega)
theorem wM_36 (k : Nat) : wM a c d 36 0 k = if k = nm a then nI c else a 36 0 k := by
  unfold wM
  rw [gk 36, gk 36, gk 36]
  by_cases q : k = nm a
  · rw [if_pos q, q, gw_same]
  · rw [if_neg q, gw_ne _ _ (by omega)]
theorem wM_37 (k : Nat) : wM a c d 37 0 k = if k = nm a then nI d else a 37 0 k := by
  unfold wM
  rw [gk 37, gk 37]
  by_cases q : k = nm a
  · rw [if_pos q, q, gw_same]
  · rw [if_neg q, gw_ne _ _ (by omega), gk 37]
theorem wM_43 (k : Nat) : wM a c d 43 0 k = if k = nm a then nb true else a 43 0 k := by
  unfold wM
  rw [gk 43]
  by_cases q : k = nm a
  · rw [if_pos q, q, gw_same]
  · rw [if_neg q, gw_ne _ _ (by omega), gk 43, gk 43]
theorem wM_m1 (hc : c < 16) (k : Nat) : m1 (wM a c d) k = if k = nm a then c else m1 a k := by
  unfold m1 na
  rw [wM_36]
  split
  · exact clI (by omega)
  · rfl
theorem wM_m2 (hd : d < 16) (k : Nat) : m2 (wM a c d) k = if k = nm a then d else m2 a k := by
  unfold m2 na
  rw [wM_37]
  split
  · exact clI (by omega)
  · rfl
theorem wM_sd (k : Nat) : sd (wM a c d) k = if k = nm a then true else sd a k := by
  unfold sd
  rw [wM_43]
  split
  · exact nb_1 true
  · rfl
theorem wM_jo (hc : c < 16) (hd : d < 16) (x y : Nat) {k : Nat} (hk : k < nm a) : joins (wM a c d) x y k = joins a x y k := by
  unfold joins
  rw [wM_m1 hc, wM_m2 hd, if_neg (by omega), if_neg (by omega)]
theorem wM_jn (hc : c < 16) (hd : d < 16) (x y : Nat) : joins (wM a c d) x y (nm a) = ((x == c && y == d) || (x == d && y == c)) := by
  unfold joins
  rw [wM_m1 hc, wM_m2 hd, if_pos rfl, if_pos rfl]
theorem wM_ed (hc : c < 16) (hd : d < 16) (hm : nm a < 30) : ed (wM a c d) = ifp (ed a) c d true := by
  funext x y
  unfold ed
  rw [wM_nm hm, an_s, wM_sd, if_pos rfl, wM_jn hc hd, Bool.true_and]
  have e : an (nm a) (fun m => sd (wM a c d) m && joins (wM a c d) x y m) = an (nm a) (fun m => sd a m && joins a x y m) := an_cong fun k hk => by
    rw [wM_sd, if_neg (by omega), wM_jo hc hd x y hk]
  rw [e]
  by_cases q : (x = c ∧ y = d) ∨ (x = d ∧ y = c)
  · rw [ifp_new q]
    rcases q with q | q
    · rw [q.1, q.2]; simp
    · rw [q.1, q.2]; simp
  · rw [ifp_old q]
    have : ((x == c && y == d) || (x == d && y == c)) = false := by
      apply bf
      intro r
      apply q
      simpa using r
    rw [this, Bool.or_false]
theorem jo_no (hk : ∀ m, m < nm a → sd a m = true → m1 a m < 16 ∧ m2 a m < 16) (hc : c < 16) (hn : cn (ed a) c d = false) {k : Nat} (h : k < nm a) (hs : sd a k = true) : ((m1 a k == c && m2 a k == d) || (m1 a k == d && m2 a k == c)) = false := by
  apply bf
  intro q
  have hb := hk k h hs
  have he : ed a c d = true := by
    unfold ed
    rw [an_t]
    refine ⟨k, h, ?_⟩
    rw [hs, Bool.true_and]
    unfold joins
    simp at q ⊢
    omega
  have hd : d < 16 := by simp at q; omega
  rw [cn_edge hc hd hc (cn_rf _ hc) he] at hn
  cases hn
theorem W_mk (hc : c < nc a) (hd : d < nc a) (hm : nm a < 30) (hn : cn (ed a) c d = false) (hb : bd a c d = false) (hW : WF a) : WF (wM a c d) := by
  have h16 := hW.1.2.2.2.1
  have n : nc (wM a c d) = nc a := nc_c (wM_7 2)
  have s : ns (wM a c d) = ns a := ns_c (wM_7 1)
  have p : np (wM a c d) = np a := np_c (wM_7 4)
  have y : ty (wM a c d) = ty a := ty_c (wM_7 6)
  have hcd : c ≠ d := fun q => by
    rw [q, cn_rf _ (by omega)] at hn
    cases hn
  have mb : ∀ m, m < nm a → sd a m = true → m1 a m < 16 ∧ m2 a m < 16 := fun m hm' _ => by
    have := hW.2.2.2.2.2.2.2.1 m hm'
    omega
  refine ⟨by rw [n, wM_nm hm, s, y, p, wM_3, wM_7 1, wM_7 2, wM_7 4, wM_7 6]; exact ⟨hW.1.1, hW.1.2.1, hW.1.2.2.1, hW.1.2.2.2.1, rfl, by omega, hW.1.2.2.2.2.2.2⟩, W2c s (wM_k 30) hW, W3c s n (wM_k 31) hW, W4c (wM_k 32) hW, W5c (ln_c (wM_k 32) (wM_7 6)) (wM_k 42) hW, W6c n (wM_k 33) hW, W7c (wM_k 34) hW, ?_, ?_, ?_, W11c n (wM_k 45) hW, W12c p (wM_k 44) hW⟩
  · intro k hk
    rw [wM_nm hm] at hk
    rw [wM_m1 (by omega), wM_m2 (by omega), wM_36, wM_37, wM_43, wM_sd, n]
    by_cases q : k = nm a
    · rw [if_pos q, if_pos q, if_pos q, if_pos q, if_pos q, if_pos q]
      exact ⟨rfl, hc, rfl, hd, hcd, rfl⟩
    · rw [if_neg q, if_neg q, if_neg q, if_neg q, if_neg q, if_neg q]
      exact hW.2.2.2.2.2.2.2.1 k (by omega)
  · intro k l hkl hl s1 s2
    rw [wM_nm hm] at hl
    rw [wM_sd, if_neg (by omega)] at s1
    rw [wM_m1 (by omega), wM_m2 (by omega), if_neg (by omega), if_neg (by omega)]
    by_cases q : l = nm a
    · rw [q, wM_jn (by omega) (by omega)]
      exact jo_no mb (by omega) hn (by omega) s1
    · rw [wM_jo (by omega) (by omega) _ _ (by omega)]
      rw [wM_sd, if_neg q] at s2
      exact hW.2.2.2.2.2.2.2.2.1 k l hkl (by omega) s1 s2
  · intro x z hx hz
    have old := hW.2.2.2.2.2.2.2.2.2.1 x z hx hz
    rw [n, fb_c (wM_k 44), wM_k 44, wM_ed (by omega) (by omega) hm]
    refine ⟨old.1, old.2.1, fun q => ⟨(old.2.2 q).1, (old.2.2 q).2.1, ?_⟩⟩
    apply bf
    intro r
    have hf : fb a z x = true := by rw [← old.2.1]; exact q
    rcases cn_new (c := c) (d := d) (by omega) (by omega) hx 16 z hz r with u | u | u
    · rw [(old.2.2 q).2.2] at u; cases u
    · rw [bd_yes hx hz (cn_sy (ed_sy a) hx (by omega) u.1) u.2 hf] at hb
      cases hb
    · rw [bd_yes hz hx u.2 (cn_sy (ed_sy a) hx (by omega) u.1) q] at hb
      cases hb
theorem R_mk (hc : c < 16) (hd : d < 16) (hcd : c ≠ d) (hm : nm a < 30) (hR : RC v a) : RC (gw (gw (gw (gw (gw (gw v 17 0 (nm a) (nI c)) 18 0 (nm a) (nI d)) 19 0 (nm a) (nb true)) 16 1 c (st fun x => ed a c x || x == d)) 16 1 d (st fun x => ed a d x || x == c)) 3 0 3 (nI (nm a + 1))) (wM a c d) := by
  have f1 : st (fun x => ed a c x || x == d) = st (ed (wM a c d) c) := st_cong fun x _ => by
    rw [wM_ed hc hd hm, ifp_c hcd, or_if]
  have f2 : st (fun x => ed a d x || x == c) = st (ed (wM a c d) d) := st_cong fun x _ => by
    rw [wM_ed hc hd hm, ifp_d hcd, or_if]
  rw [f1, f2]
  have F : ∀ k, k ≠ 17 → k ≠ 18 → k ≠ 19 → k ≠ 16 → k ≠ 3 → gw (gw (gw (gw (gw (gw v 17 0 (nm a) (nI c)) 18 0 (nm a) (nI d)) 19 0 (nm a) (nb true)) 16 1 c (st (ed (wM a c d) c))) 16 1 d (st (ed (wM a c d) d))) 3 0 3 (nI (nm a + 1)) k = v k := fun k a1 a2 a3 a4 a5 => by
    rw [gk k a5, gk k a4, gk k a4, gk k a3, gk k a2, gk k a1]
  have F3 : gw (gw (gw (gw (gw (gw v 17 0 (nm a) (nI c)) 18 0 (nm a) (nI d)) 19 0 (nm a) (nb true)) 16 1 c (st (ed (wM a c d) c))) 16 1 d (st (ed (wM a c d) d))) 3 0 3 (nI (nm a + 1)) 3 0 3 = nI (nm a + 1) := gw_same _ _ _ _ _
  have F7 : ∀ k, k < 30 → gw (gw (gw (gw (gw (gw v 17 0 (nm a) (nI c)) 18 0 (nm a) (nI d)) 19 0 (nm a) (nb true)) 16 1 c (st (ed (wM a c d) c))) 16 1 d (st (ed (wM a c d) d))) 3 0 3 (nI (nm a + 1)) 17 0 k = wM a c d 36 0 k ∧ gw (gw (gw (gw (gw (gw v 17 0 (nm a) (nI c)) 18 0 (nm a) (nI d)) 19 0 (nm a) (nb true)) 16 1 c (st (ed (wM a c d) c))) 16 1 d (st (ed (wM a c d) d))) 3 0 3 (nI (nm a + 1)) 18 0 k = wM a c d 37 0 k ∧ gw (gw (gw (gw (gw (gw v 17 0 (nm a) (nI c)) 18 0 (nm a) (nI d)) 19 0 (nm a) (nb true)) 16 1 c (st (ed (wM a c d) c))) 16 1 d (st (ed (wM a c d) d))) 3 0 3 (nI (nm a + 1)) 19 0 k = wM a c d 43 0 k := fun k hk => by
    have old := hR.2.2.2.2.2.2.1 k hk
    rw [wM_36, wM_37, wM_43, gk 17, gk 17, gk 17, gk 17, gk 17, gk 18, gk 18, gk 18, gk 18, gk 19, gk 19, gk 19]
    by_cases q : k = nm a
    · rw [if_pos q, if_pos q, if_pos q, q, gw_same, gw_same, gw_same]
      exact ⟨rfl, rfl, rfl⟩
    · rw [if_neg q, if_neg q, if_neg q, gw_ne _ _ (by omega), gw_ne _ _ (by omega), gw_ne _ _ (by omega), gw_ne _ _ (by omega), gw_ne _ _ (by omega), gw_ne _ _ (by omega)]
      exact old
  have F16 : ∀ x, x < 16 → gw (gw (gw (gw (gw (gw v 17 0 (nm a) (nI c)) 18 0 (nm a) (nI d)) 19 0 (nm a) (nb true)) 16 1 c (st (ed (wM a c d) c))) 16 1 d (st (ed (wM a c d) d))) 3 0 3 (nI (nm a + 1)) 16 1 x = st (ed (wM a c d) x) ∧ gw (gw (gw (gw (gw (gw v 17 0 (nm a) (nI c)) 18 0 (nm a) (nI d)) 19 0 (nm a) (nb true)) 16 1 c (st (ed (wM a c d) c))) 16 1 d (st (ed (wM a c d) d))) 3 0 3 (nI (nm a + 1)) 16 0 x = st (fb a x) := fun x hx => by
    have old := hR.2.2.2.2.2.2.2.1 x hx
    rw [gk 16]
    refine ⟨?_, by rw [gw_ne _ _ (by omega), gw_ne _ _ (by omega), gk 16, gk 16, gk 16]; exact old.2⟩
    by_cases q : x = d
    · rw [q, gw_same]
    · rw [gw_ne _ _ (by omega)]
      by_cases r : x = c
      · rw [r, gw_same]
      · rw [gw_ne _ _ (by omega), gk 16, gk 16, gk 16, old.1]
        apply st_cong
        intro z _
        rw [wM_ed hc hd hm, ifp_old (by omega)]
  generalize gw (gw (gw (gw (gw (gw v 17 0 (nm a) (nI c)) 18 0 (nm a) (nI d)) 19 0 (nm a) (nb true)) 16 1 c (st (ed (wM a c d) c))) 16 1 d (st (ed (wM a c d) d))) 3 0 3 (nI (nm a + 1)) = w at F F3 F7 F16
  have G : ∀ k, k ≠ 17 ∧ k ≠ 18 ∧ k ≠ 19 ∧ k ≠ 16 ∧ k ≠ 3 → w k = v k := fun k h => F k h.1 h.2.1 h.2.2.1 h.2.2.2.1 h.2.2.2.2
  have n : nc (wM a c d) = nc a := nc_c (wM_7 2)
  have w4 : w 4 = v 4 := G 4 (by omega)
  refine ⟨by rw [F3, wM_3, wM_7 1, wM_7 2, wM_7 4, wM_7 5, wM_7 6, G 6 (by omega), w4]; exact ⟨hR.1.1, hR.1.2.1, hR.1.2.2.1, hR.1.2.2.2.1, rfl, hR.1.2.2.2.2.2⟩, R2c (G 10 (by omega)) (G 12 (by omega)) (G 13 (by omega)) (wM_k 30) (wM_k 34) (wM_k 35) hR, R3c (G 2 (by omega)) w4 (wM_k 31) (wM_k 32) hR, R4c (G 23 (by omega)) n (wM_k 33) hR, R5c (G 21 (by omega)) (wM_k 42) hR, R6c w4 (G 22 (by omega)) (ln_c (wM_k 32) (wM_7 6)) (wM_k 42) hR, F7, ?_, R9c (G 14 (by omega)) (wM_k 45) hR⟩
  rw [fb_c (wM_k 44)]
  exact F16
theorem r_full {Q : Int32 → gMem → Prop} {X : String → gMem → Prop} (hR : RC v a) (hW : WF a) (h0 : nm a < 30 → Q 0 v) (h1 : nm a = 30 → Q 1 v) : TX3_isFull v Q X := by
  have h30 := hW.1.2.2.2.2.2.1
  unfold TX3_isFull BX3_isFull_14
  rw [c_nm hR hW]
  refine ⟨fun q => ⟨nar0, h0 ((ltI (b := 30) (by omega) (by decide)).mp q)⟩, fun q => ⟨nar1, h1 ?_⟩⟩
  have : ¬ nm a < 30 := fun u => q ((ltI (b := 30) (by omega) (by decide)).mpr u)
  omega
theorem r_make {Q : Int32 → gMem → Prop} {X : String → gMem → Prop} (hR : RC v a) (hW : WF a) (hc : c < nc a) (hd : d < nc a) (hcd : c ≠ d) (hm : nm a < 30) (h : Q (nI (nm a)) (gw (gw (gw (gw (gw (gw v 17 0 (nm a) (nI c)) 18 0 (nm a) (nI d)) 19 0 (nm a) (nb true)) 16 1 c (st fun x => ed a c x || x == d)) 16 1 d (st fun x => ed a d x || x == c)) 3 0 3 (nI (nm a + 1)))) : TX3_make (nI c) (nI d) v Q X := by
  have h16 := hW.1.2.2.2.1
  unfold TX3_make
  apply r_full hR hW
  · intro _
    have e3 := c_nm hR hW
    have g1 : gw v 17 0 (nm a) (nI c) 3 0 3 = nI (nm a) := by rw [gk 3]; exact e3
    have g2 : gw (gw v 17 0 (nm a) (nI c)) 18 0 (nm a) (nI d) 3 0 3 = nI (nm a) := by rw [gk 3]; exact g1
    rw [e3, clI (by omega), g1, clI (by omega), g2, clI (by omega), zn1]
    refine ⟨fun _ => ⟨in_nI hm, in_nI hm, in_nI hm, ?_⟩, fun q => absurd rfl q⟩
    apply R_tie (f := ed a c) (g := ed a d) (by omega) (by omega) hcd
    · rw [gk 16, gk 16, gk 16]; exact (hR.2.2.2.2.2.2.2.1 c (by omega)).1
    · rw [gk 16, gk 16, gk 16]; exact (hR.2.2.2.2.2.2.2.1 d (by omega)).1
    · rw [gw_same, gk 3, gk 3, gk 3, gk 3, gk 3, e3, nI_1, nI_pred]
      exact h
  · intro q
    omega
theorem m_makes {Q : Int32 → gMem → Prop} {X : String → gMem → Prop} (hM : RM v a) (hW : WF a) (hm : nm a < 30) (h : Q (nI (nm a)) (gw (gw (gw (gw v 36 0 (nm a) (nI c)) 37 0 (nm a) (nI d)) 43 0 (nm a) (nb true)) 7 0 3 (nI (nm a + 1)))) : TX7_makes (nI c) (nI d) v Q X := by
  unfold TX7_makes
  have e3 := m_nm hM hW
  have g1 : gw v 36 0 (nm a) (nI c) 7 0 3 = nI (nm a) := by rw [gk 7]; exact e3
  have g2 : gw (gw v 36 0 (nm a) (nI c)) 37 0 (nm a) (nI d) 7 0 3 = nI (nm a) := by rw [gk 7]; exact g1
  have g3 : gw (gw (gw v 36 0 (nm a) (nI c)) 37 0 (nm a) (nI d)) 43 0 (nm a) (nb true) 7 0 3 = nI (nm a) := by rw [gk 7]; exact g2
  rw [e3, clI (by omega), g1, clI (by omega), g2, clI (by omega), zn1, g3, nI_1]
  exact ⟨in_nI hm, in_nI hm, in_nI hm, h⟩
end
