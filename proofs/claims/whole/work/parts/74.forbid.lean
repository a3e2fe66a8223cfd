/-! ===== forbid, allow ===== -/
theorem cn_sw {a : gMem} {c d : Nat} (hc : c < 16) (hd : d < 16) : cn (ed a) d c = cn (ed a) c d := by
  cases q : cn (ed a) c d
  · apply bf
    intro r
    rw [cn_sy (ed_sy a) hd hc r] at q; cases q
  · exact cn_sy (ed_sy a) hc hd q
/-- The same relation but for one pair. -/
def ifp (e : Nat → Nat → Bool) (c d : Nat) (t : Bool) (x z : Nat) : Bool := if (x = c ∧ z = d) ∨ (x = d ∧ z = c) then t else e x z
theorem ift (c n A : Nat) : (if c < n + 1 then A else 0) = (if c < n then A else 0) + (if n = c then A else 0) := by
  by_cases q : c < n
  · rw [if_pos q, if_pos (show c < n + 1 by omega), if_neg (show ¬ n = c by omega)]; rfl
  · by_cases r : n = c
    · rw [if_neg q, if_pos (show c < n + 1 by omega), if_pos r]; omega
    · rw [if_neg q, if_neg (show ¬ c < n + 1 by omega), if_neg r]
theorem pr_upd {e e2 : Nat → Nat → Bool} {c d : Nat} {t : Bool} (hc : c < 16) (hd : d < 16) (hcd : c ≠ d) (h : ∀ x z, x < 16 → z < 16 → e2 x z = ifp e c d t x z) (h1 : e c d = !t) (h2 : e d c = !t) : ∀ n, n ≤ 16 → pr e2 n + (if c < n then (if t then 0 else 1) else 0) + (if d < n then (if t then 0 else 1) else 0) = pr e n + (if c < n then (if t then 1 else 0) else 0) + (if d < n then (if t then 1 else 0) else 0)
  | 0, _ => rfl
  | n + 1, hn => by
    have ih := pr_upd hc hd hcd h h1 h2 n (by omega)
    have row : fb_ct (e2 n) 16 + (if n = c then (if t then 0 else 1) else 0) + (if n = d then (if t then 0 else 1) else 0) = fb_ct (e n) 16 + (if n = c then (if t then 1 else 0) else 0) + (if n = d then (if t then 1 else 0) else 0) := by
      by_cases q : n = c
      · have u := fb_ct_upd (e c) t (i := d) (n := 16) hd
        have ex : fb_ct (e2 c) 16 = fb_ct (fun k => if k = d then t else e c k) 16 := fb_ct_cong fun k hk => by
          rw [h c k hc hk]
          unfold ifp
          by_cases r : k = d
          · rw [if_pos (Or.inl ⟨rfl, r⟩), if_pos r]
          · rw [if_neg (show ¬ ((c = c ∧ k = d) ∨ (c = d ∧ k = c)) by omega), if_neg r]
        rw [h1] at u
        have nd : ¬ n = d := by omega
        rw [if_pos q, if_pos q, if_neg nd, if_neg nd, q, ex]
        cases t <;> simpa using u
      · by_cases r : n = d
        · have u := fb_ct_upd (e d) t (i := c) (n := 16) hc
          have ex : fb_ct (e2 d) 16 = fb_ct (fun k => if k = c then t else e d k) 16 := fb_ct_cong fun k hk => by
            rw [h d k hd hk]
            unfold ifp
            by_cases r : k = c
            · rw [if_pos (Or.inr ⟨rfl, r⟩), if_pos r]
            · rw [if_neg (show ¬ ((d = c ∧ k = d) ∨ (d = d ∧ k = c)) by omega), if_neg r]
          rw [h2] at u
          rw [if_neg q, if_neg q, if_pos r, if_pos r, r, ex]
          cases t <;> simpa using u
        · rw [if_neg q, if_neg q, if_neg r, if_neg r]
          have ex : fb_ct (e2 n) 16 = fb_ct (e n) 16 := fb_ct_cong fun k hk => by
            rw [h n k (by omega) hk]
            unfold ifp
            rw [if_neg (show ¬ ((n = c ∧ k = d) ∨ (n = d ∧ k = c)) by omega)]
          rw [ex]
    have p2 : pr e2 (n + 1) = pr e2 n + fb_ct (e2 n) 16 := rfl
    have p1 : pr e (n + 1) = pr e n + fb_ct (e n) 16 := rfl
    rw [p1, p2, ift c n, ift d n, ift c n, ift d n]
    omega
def wf (a : gMem) (c d : Nat) (t : Bool) (y : Int32) : gMem := gw (gw (gw a 44 0 (16 * c + d) (nb t)) 44 0 (16 * d + c) (nb t)) 7 0 4 y
theorem wf_44 {a : gMem} {c d : Nat} {t : Bool} {y : Int32} (hc : c < 16) (hd : d < 16) {x z : Nat} (hz : z < 16) : wf a c d t y 44 0 (16 * x + z) = if (x = c ∧ z = d) ∨ (x = d ∧ z = c) then nb t else a 44 0 (16 * x + z) := by
  unfold wf
  rw [gk 44]
  by_cases q : x = d ∧ z = c
  · rw [q.1, q.2, gw_same, if_pos (Or.inr ⟨rfl, rfl⟩)]
  · rw [gw_ne _ _ (by omega)]
    by_cases r : x = c ∧ z = d
    · rw [r.1, r.2, gw_same, if_pos (Or.inl ⟨rfl, rfl⟩)]
    · rw [gw_ne _ _ (by omega), if_neg (by omega)]
theorem wf_fb {a : gMem} {c d : Nat} {t : Bool} {y : Int32} (hc : c < 16) (hd : d < 16) {x z : Nat} (hz : z < 16) : fb (wf a c d t y) x z = ifp (fb a) c d t x z := by
  unfold fb ifp
  rw [wf_44 hc hd hz]
  split
  · exact nb_1 t
  · rfl
theorem wf_k {a : gMem} {c d : Nat} {t : Bool} {y : Int32} (k : Nat) (h1 : k ≠ 44 := by decide) (h2 : k ≠ 7 := by decide) : wf a c d t y k = a k := ((gk k h2).trans (gk k h1)).trans (gk k h1)
theorem wf_7 {a : gMem} {c d : Nat} {t : Bool} {y : Int32} (j : Nat) (h : j ≠ 4 := by decide) : wf a c d t y 7 0 j = a 7 0 j := by
  unfold wf
  rw [gw_ne _ _ (by omega), gk 7, gk 7]
theorem W_44 {a : gMem} {c d p : Nat} {t : Bool} (hc : c < nc a) (hd : d < nc a) (hcd : c ≠ d) (hn : t = true → cn (ed a) c d = false) (hf : fb a c d = !t) (hp : p ≤ 12) (hpp : p + (if t then 0 else 1) = np a + (if t then 1 else 0)) (hW : WF a) : WF (wf a c d t (nI p)) := by
  have h16 := hW.1.2.2.2.1
  have n : nc (wf a c d t (nI p)) = nc a := nc_c (wf_7 2)
  have m : nm (wf a c d t (nI p)) = nm a := nm_c (wf_7 3)
  have s : ns (wf a c d t (nI p)) = ns a := ns_c (wf_7 1)
  have y : ty (wf a c d t (nI p)) = ty a := ty_c (wf_7 6)
  have e4 : wf a c d t (nI p) 7 0 4 = nI p := gw_same _ _ _ _ _
  have np' : np (wf a c d t (nI p)) = p := by
    unfold np na
    rw [e4]; exact clI (by omega)
  have ee : ed (wf a c d t (nI p)) = ed a := ed_c (wf_7 3) (wf_k 36) (wf_k 37) (wf_k 43)
  have hfs : fb a d c = !t := by rw [← hf]; exact ((hW.2.2.2.2.2.2.2.2.2.1 c d (by omega) (by omega)).2.1).symm
  refine ⟨by rw [n, m, s, y, np', e4, wf_7 1, wf_7 2, wf_7 3, wf_7 6]; exact ⟨hW.1.1, hW.1.2.1, hW.1.2.2.1, hW.1.2.2.2.1, hW.1.2.2.2.2.1, hW.1.2.2.2.2.2.1, rfl, hp, hW.1.2.2.2.2.2.2.2.2⟩, W2c s (wf_k 30) hW, W3c s n (wf_k 31) hW, W4c (wf_k 32) hW, W5c (ln_c (wf_k 32) (wf_7 6)) (wf_k 42) hW, W6c n (wf_k 33) hW, W7c (wf_k 34) hW, W8c n m (wf_k 36) (wf_k 37) (wf_k 43) hW, W9c m (wf_k 36) (wf_k 37) (wf_k 43) hW, ?_, W11c n (wf_k 45) hW, ?_⟩
  · intro x z hx hz
    rw [wf_44 (by omega) (by omega) hz, wf_fb (by omega) (by omega) hz, wf_fb (by omega) (by omega) hx, n, ee]
    have old := hW.2.2.2.2.2.2.2.2.2.1 x z hx hz
    unfold ifp
    by_cases q : (x = c ∧ z = d) ∨ (x = d ∧ z = c)
    · rw [if_pos q, if_pos q, if_pos (by omega)]
      refine ⟨rfl, rfl, fun r => ?_⟩
      rcases q with q | q
      · rw [q.1, q.2]; exact ⟨hc, hd, hn r⟩
      · rw [q.1, q.2]; exact ⟨hd, hc, by rw [cn_sw (by omega) (by omega)]; exact hn r⟩
    · rw [if_neg q, if_neg q, if_neg (by omega)]
      exact old
  · rw [np']
    have u := pr_upd (e := fb a) (e2 := fb (wf a c d t (nI p))) (t := t) (c := c) (d := d) (by omega) (by omega) hcd (fun x z _ hz => wf_fb (by omega) (by omega) hz) hf hfs 16 (Nat.le_refl _)
    rw [if_pos (show c < 16 by omega), if_pos (show d < 16 by omega), if_pos (show c < 16 by omega), if_pos (show d < 16 by omega), hW.2.2.2.2.2.2.2.2.2.2.2] at u
    omega
theorem R_44 {v a : gMem} {c d : Nat} {t : Bool} {y : Int32} (hc : c < 16) (hd : d < 16) (hcd : c ≠ d) (hR : RC v a) : RC (gw (gw (gw v 16 0 c (st (fb (wf a c d t y) c))) 16 0 d (st (fb (wf a c d t y) d))) 6 0 8 y) (wf a c d t y) := by
  have F : ∀ k, k ≠ 16 → k ≠ 6 → gw (gw (gw v 16 0 c (st (fb (wf a c d t y) c))) 16 0 d (st (fb (wf a c d t y) d))) 6 0 8 y k = v k := fun k p q => ((gk k q).trans (gk k p)).trans (gk k p)
  have F6 : ∀ j, j ≠ 8 → gw (gw (gw v 16 0 c (st (fb (wf a c d t y) c))) 16 0 d (st (fb (wf a c d t y) d))) 6 0 8 y 6 0 j = v 6 0 j := fun j h => by rw [gw_ne _ _ (by omega), gk 6, gk 6]
  have F8 : gw (gw (gw v 16 0 c (st (fb (wf a c d t y) c))) 16 0 d (st (fb (wf a c d t y) d))) 6 0 8 y 6 0 8 = y := gw_same _ _ _ _ _
  have F16 : ∀ x, x < 16 → gw (gw (gw v 16 0 c (st (fb (wf a c d t y) c))) 16 0 d (st (fb (wf a c d t y) d))) 6 0 8 y 16 1 x = st (ed a x) ∧ gw (gw (gw v 16 0 c (st (fb (wf a c d t y) c))) 16 0 d (st (fb (wf a c d t y) d))) 6 0 8 y 16 0 x = st (fb (wf a c d t y) x) := by
    intro x hx
    have old := hR.2.2.2.2.2.2.2.1 x hx
    rw [gk 16]
    refine ⟨by rw [gw_ne _ _ (by omega), gw_ne _ _ (by omega)]; exact old.1, ?_⟩
    by_cases q : x = d
    · rw [q, gw_same]
    · rw [gw_ne _ _ (by omega)]
      by_cases r : x = c
      · rw [r, gw_same]
      · rw [gw_ne _ _ (by omega), old.2]
        apply st_cong
        intro z hz
        rw [wf_fb hc hd hz]
        unfold ifp
        rw [if_neg (by omega)]
  generalize gw (gw (gw v 16 0 c (st (fb (wf a c d t y) c))) 16 0 d (st (fb (wf a c d t y) d))) 6 0 8 y = w at F F6 F8 F16
  have n : nc (wf a c d t y) = nc a := nc_c (wf_7 2)
  have e4 : wf a c d t y 7 0 4 = y := gw_same _ _ _ _ _
  have ee : ed (wf a c d t y) = ed a := ed_c (wf_7 3) (wf_k 36) (wf_k 37) (wf_k 43)
  have w4 : w 4 = v 4 := F 4 (by decide) (by decide)
  refine ⟨by rw [e4, wf_7 1, wf_7 2, wf_7 3, wf_7 5, wf_7 6, F6 1 (by decide), F6 3 (by decide), F6 6 (by decide), F8, F 3 (by decide) (by decide), w4]; exact ⟨hR.1.1, hR.1.2.1, hR.1.2.2.1, rfl, hR.1.2.2.2.2⟩, R2c (F 10 (by decide) (by decide)) (F 12 (by decide) (by decide)) (F 13 (by decide) (by decide)) (wf_k 30) (wf_k 34) (wf_k 35) hR, R3c (F 2 (by decide) (by decide)) w4 (wf_k 31) (wf_k 32) hR, R4c (F 23 (by decide) (by decide)) n (wf_k 33) hR, R5c (F 21 (by decide) (by decide)) (wf_k 42) hR, R6c w4 (F 22 (by decide) (by decide)) (ln_c (wf_k 32) (wf_7 6)) (wf_k 42) hR, R7c (F 17 (by decide) (by decide)) (F 18 (by decide) (by decide)) (F 19 (by decide) (by decide)) (wf_k 36) (wf_k 37) (wf_k 43) hR, ?_, R9c (F 14 (by decide) (by decide)) (wf_k 45) hR⟩
  rw [ee]
  exact F16
theorem R_tie {v : gMem} {Q : gMem → Prop} {X : String → gMem → Prop} {i c d : Nat} {f g : Nat → Bool} (hc : c < 16) (hd : d < 16) (hcd : c ≠ d) (h1 : v 16 i c = st f) (h2 : v 16 i d = st g) (h : Q (gw (gw v 16 i c (st fun x => f x || x == d)) 16 i d (st fun x => g x || x == c))) : TX5_tie i (nI c) (nI d) v Q X := by
  unfold TX5_tie
  rw [clI (by omega), clI (by omega), gw_ne (v := v) (k := 16) (i := i) (j := c) (k' := 16) (i' := i) (j' := d) _ (by omega), h1, h2, st_one hc, st_one hd, st_or, st_or]
  exact ⟨in_nI hc, in_nI hc, in_nI hd, in_nI hd, h⟩
theorem R_cut {v : gMem} {Q : gMem → Prop} {X : String → gMem → Prop} {i c d : Nat} {f g : Nat → Bool} (hc : c < 16) (hd : d < 16) (hcd : c ≠ d) (h1 : v 16 i c = st f) (h2 : v 16 i d = st g) (h : Q (gw (gw v 16 i c (st fun x => f x && !(x == d))) 16 i d (st fun x => g x && !(x == c)))) : TX5_cut i (nI c) (nI d) v Q X := by
  unfold TX5_cut
  rw [clI (by omega), clI (by omega), gw_ne (v := v) (k := 16) (i := i) (j := c) (k' := 16) (i' := i) (j' := d) _ (by omega), h1, h2, st_one hc, st_one hd, st_sub, st_sub]
  exact ⟨in_nI hc, in_nI hc, in_nI hd, in_nI hd, h⟩
theorem ifp_c {e : Nat → Nat → Bool} {c d : Nat} {t : Bool} (hcd : c ≠ d) (x : Nat) : ifp e c d t c x = if x = d then t else e c x := by
  unfold ifp
  by_cases q : x = d
  · rw [if_pos (Or.inl ⟨rfl, q⟩), if_pos q]
  · rw [if_neg (by omega), if_neg q]
theorem ifp_d {e : Nat → Nat → Bool} {c d : Nat} {t : Bool} (hcd : c ≠ d) (x : Nat) : ifp e c d t d x = if x = c then t else e d x := by
  unfold ifp
  by_cases q : x = c
  · rw [if_pos (Or.inr ⟨rfl, q⟩), if_pos q]
  · rw [if_neg (by omega), if_neg q]
theorem or_if {p : Bool} {x d : Nat} : (p || x == d) = if x = d then true else p := by
  by_cases q : x = d
  · rw [if_pos q, q]; simp
  · rw [if_neg q, show (x == d) = false by simpa using q, Bool.or_false]
theorem an_if {p : Bool} {x d : Nat} : (p && !(x == d)) = if x = d then false else p := by
  by_cases q : x = d
  · rw [if_pos q, q]; simp
  · rw [if_neg q, show (x == d) = false by simpa using q]; simp
theorem c_np {v a : gMem} (hR : RC v a) (hW : WF a) : v 6 0 8 = nI (np a) := by rw [hR.1.2.2.2.1]; exact hW.1.2.2.2.2.2.2.1
theorem m_np {v a : gMem} (hM : RM v a) (hW : WF a) : v 7 0 4 = nI (np a) := by rw [hM.1 4 (by omega) (by omega)]; exact hW.1.2.2.2.2.2.2.1
theorem m_forbid {v a : gMem} {X : String → gMem → Prop} (hM : RM v a) (hW : WF a) {Q : Int32 → gMem → Prop} {c d : Nat} (hc : c < nc a) (hd : d < nc a) (n : ¬ nI c = nI d) (h3 : cn (ed a) c d = true → ∀ w, fM v w → Q 0 (T0 w 3)) (h4 : cn (ed a) c d = false → (fb a c d = true ∨ np a = 12) → ∀ w, fM v w → Q 0 (T0 w 4)) (h0 : cn (ed a) c d = false → fb a c d = false → ¬ np a = 12 → ∀ w, fM v w → w 7 0 0 = 0 → Q (nI (np a + 1)) (gw (gw (gw w 44 0 (16 * c + d) (nb true)) 44 0 (16 * d + c) (nb true)) 7 0 4 (nI (np a + 1)))) : TX7_forbid (nI c) (nI d) v Q X := by
  have h16 := hW.1.2.2.2.1
  have h12 := hW.1.2.2.2.2.2.2.2.1
  unfold TX7_forbid BX7_forbid_65
  apply m_two hM hW hc hd
  intro u hu u7
  refine ⟨fun _ => ⟨fun _ => ?_, fun q => absurd q n⟩, fun q => absurd rfl q⟩
  apply m_gather (RM_M hM hu) hW
  intro w hw hG
  have hf := fM_tr hu (fL_M hw)
  have hMw := RM_M hM hf
  have w7 : w 7 0 0 = 0 := by rw [hw 7 (by omega)]; exact u7
  rw [clI (by omega), clI (by omega), GA_ne hW hG hc hd]
  refine ⟨in_nI (by omega), in_nI (by omega), fun s => ?_, fun s => m_fail (h3 s w hf)⟩
  have s2 := bf s
  apply m_isPair hMw hW (by omega) (by omega)
  rw [nb_0]
  refine ⟨fun r => m_fail (h4 s2 (Or.inl (bt' r)) w hf), fun r => ?_⟩
  rw [m_np hMw hW]
  refine ⟨fun q => ?_, fun q => m_fail (h4 s2 (Or.inr ((eqI (b := 12) (by omega) (by decide)).mp q)) w hf)⟩
  rw [x16, x16, clI (by omega), clI (by omega), zn1, gk 7, gk 7, m_np hMw hW, nI_1]
  exact ⟨in_nI (by omega), in_nI (by omega), h0 s2 r (fun e => q (by rw [e]; rfl)) w hf w7⟩
theorem t19 : ∀ s1 s2 s3 v, Inv v → TC_19 s1 s2 s3 v Inv := by
  rintro s1 s2 s3 v ⟨a, hR, hM, hW⟩
  have h16 := hW.1.2.2.2.1
  have h12 := hW.1.2.2.2.2.2.2.2.1
  unfold TC_19 TL_forbid TX6_forbid BX6_forbid_52
  apply r_cards hR hW
  · intro c d hc hd e1 e2
    rw [e1, e2]
    unfold TX6_requireTwo
    refine ⟨fun n => ?_, fun n => Or.inr (Or.inl ⟨rfl, ?_⟩)⟩
    · have hcd : c ≠ d := fun q => n (by rw [q])
      have bad : ∀ {w : gMem} {r : Int32} {y : Int32}, ¬ r = 0 → fM v w → TX7_thrown (T0 w r) (fun t z => ((t = r → ((¬ r = 0 → (Inv z)) ∧ (r = 0 → (((lg_cmp (Int32.toInt64 (z 50 0 0)) (Int32.toInt64 y)) = 0 → (Inv z)) ∧ (¬ (lg_cmp (Int32.toInt64 (z 50 0 0)) (Int32.toInt64 y)) = 0 → False))))) ∧ (¬ t = r → False))) (fun _ _ => False) := fun hr hw =>
        end_case (T0_0 _ _) (fun q => absurd q hr) (Inv_I hR hM hW (fM_I (fM_tr hw (T0_M _ _))))
      apply r_isOne hR hW hc hd
      rw [nb_0]
      refine ⟨fun q => ?_, fun q => Or.inr (Or.inr (Or.inl ⟨rfl, ?_⟩))⟩
      · apply r_holds hR hW hc hd
        rw [nb_0]
        refine ⟨fun r => Or.inr (Or.inr (Or.inr ⟨rfl, ?_⟩)), fun r => ?_⟩
        · apply m_forbid hM hW hc hd n
          · intro s; rw [q] at s; cases s
          · intro _ _ w hw
            exact bad (by decide) hw
          · intro _ s; exact absurd s r
        · rw [c_np hR hW]
          refine ⟨fun s => ?_, fun s => Or.inr (Or.inr (Or.inr ⟨rfl, ?_⟩))⟩
          · have hlt : np a < 12 := (ltI (b := 12) (by omega) (by decide)).mp s
            apply R_tie (f := fb a c) (g := fb a d) (by omega) (by omega) hcd (hR.2.2.2.2.2.2.2.1 c (by omega)).2 (hR.2.2.2.2.2.2.2.1 d (by omega)).2
            have e8 : gw (gw v 16 0 c (st fun x => fb a c x || x == d)) 16 0 d (st fun x => fb a d x || x == c) 6 0 8 + 1 = nI (np a + 1) := by
              rw [gk 6, gk 6, c_np hR hW, nI_1]
            rw [e8, gw_same]
            have f1 : st (fun x => fb a c x || x == d) = st (fb (wf a c d true (nI (np a + 1))) c) := st_cong fun x hx => by
              rw [wf_fb (by omega) (by omega) hx, ifp_c hcd, or_if]
            have f2 : st (fun x => fb a d x || x == c) = st (fb (wf a c d true (nI (np a + 1))) d) := st_cong fun x hx => by
              rw [wf_fb (by omega) (by omega) hx, ifp_d hcd, or_if]
            rw [f1, f2]
            have hR2 := R_44 (t := true) (y := nI (np a + 1)) (c := c) (d := d) (by omega) (by omega) hcd hR
            have hW2 : WF (wf a c d true (nI (np a + 1))) := W_44 hc hd hcd (fun _ => q) r (by omega) rfl hW
            generalize hw0 : gw (gw (gw v 16 0 c (st (fb (wf a c d true (nI (np a + 1))) c))) 16 0 d (st (fb (wf a c d true (nI (np a + 1))) d))) 6 0 8 (nI (np a + 1)) = w0 at hR2 ⊢
            have t0 : fT v w0 := by rw [← hw0]; exact fT_w (fT_w (fT_w (fT_rf v)))
            have hM2 : RM (gw w0 50 0 0 (nI (np a + 1))) a := RM_T hM (fT_w t0)
            apply m_forbid hM2 hW hc hd n
            · intro s; rw [q] at s; cases s
            · intro _ s
              rcases s with s | s
              · rw [r] at s; cases s
              · omega
            · intro _ _ _ w hw w7
              apply end_mut (RC_50 hR2) (fR_w (fR_w (fR_w (fR_M (fR_rf _) hw)))) (RM_w (RM_w (RM_w (RM_M hM2 hw)))) hW2
              · rw [gw_ne _ _ (by omega), gk 7, gk 7]; exact w7
              · exact gw_same _ _ _ _ _
          · have hge : np a = 12 := by
              have : ¬ np a < 12 := fun u => s ((ltI (b := 12) (by omega) (by decide)).mpr u)
              omega
            apply m_forbid hM hW hc hd n
            · intro s; rw [q] at s; cases s
            · intro _ _ w hw
              exact bad (by decide) hw
            · intro _ _ s; exact absurd hge s
      · apply m_forbid hM hW hc hd n
        · intro _ w hw
          exact bad (by decide) hw
        · intro s; exact absurd s q
        · intro s; exact absurd s q
    · unfold TX7_forbid
      apply m_two hM hW hc hd
      intro u hu _
      refine ⟨fun _ => ⟨fun q => absurd n q, fun _ => m_fail ?_⟩, fun q => absurd rfl q⟩
      exact end_case (T0_0 _ _) (fun q => absurd q (by decide)) (Inv_I hR hM hW (fM_I (fM_tr hu (T0_M _ _))))
  · intro n
    refine Or.inl ⟨rfl, ?_⟩
    unfold TX7_forbid
    apply m_twoNo hM hW n
    intro u hu u7
    exact ⟨fun q => absurd q (by decide), fun _ => end_case u7 (fun q => absurd q (by decide)) (Inv_I hR hM hW (fM_I hu))⟩
theorem t20 : ∀ s1 s2 s3 v, Inv v → TC_20 s1 s2 s3 v Inv := by
  rintro s1 s2 s3 v ⟨a, hR, hM, hW⟩
  have h16 := hW.1.2.2.2.1
  have h12 := hW.1.2.2.2.2.2.2.2.1
  unfold TC_20 TL_allow TX6_allow
  apply r_cards hR hW
  · intro c d hc hd e1 e2
    rw [e1, e2]
    apply r_holds hR hW hc hd
    rw [nb_0]
    refine ⟨fun r => ?_, fun r => Or.inr ⟨rfl, ?_⟩⟩
    · have r2 := bt' r
      have hcd : c ≠ d := fun q => by
        have := ((hW.2.2.2.2.2.2.2.2.2.1 c d (by omega) (by omega)).2.2 r2).2.2
        rw [q, cn_rf _ (by omega)] at this
        cases this
      have hfs : fb a d c = true := by rw [fb_sy hW (by omega) (by omega)]; exact r2
      have hp : 1 ≤ np a := by
        have u := pr_upd (e := fb a) (e2 := ifp (fb a) c d false) (t := false) (c := c) (d := d) (by omega) (by omega) hcd (fun _ _ _ _ => rfl) r2 hfs 16 (Nat.le_refl _)
        rw [if_pos (show c < 16 by omega), if_pos (show d < 16 by omega), if_pos (show c < 16 by omega), if_pos (show d < 16 by omega), hW.2.2.2.2.2.2.2.2.2.2.2] at u
        simp only [Bool.false_eq_true, if_false] at u
        omega
      apply R_cut (f := fb a c) (g := fb a d) (by omega) (by omega) hcd (hR.2.2.2.2.2.2.2.1 c (by omega)).2 (hR.2.2.2.2.2.2.2.1 d (by omega)).2
      have e8 : gw (gw v 16 0 c (st fun x => fb a c x && !(x == d))) 16 0 d (st fun x => fb a d x && !(x == c)) 6 0 8 - 1 = nI (np a - 1) := by
        rw [gk 6, gk 6, c_np hR hW]
        exact nI_subN (a := np a) (b := 1) hp
      rw [e8, gw_same]
      have f1 : st (fun x => fb a c x && !(x == d)) = st (fb (wf a c d false (nI (np a - 1))) c) := st_cong fun x hx => by
        rw [wf_fb (by omega) (by omega) hx, ifp_c hcd, an_if]
      have f2 : st (fun x => fb a d x && !(x == c)) = st (fb (wf a c d false (nI (np a - 1))) d) := st_cong fun x hx => by
        rw [wf_fb (by omega) (by omega) hx, ifp_d hcd, an_if]
      rw [f1, f2]
      have hR2 := R_44 (t := false) (y := nI (np a - 1)) (c := c) (d := d) (by omega) (by omega) hcd hR
      have hW2 : WF (wf a c d false (nI (np a - 1))) := W_44 hc hd hcd (fun q => absurd q (by decide)) r2 (by omega) (by show np a - 1 + 1 = np a; omega) hW
      generalize hw0 : gw (gw (gw v 16 0 c (st (fb (wf a c d false (nI (np a - 1))) c))) 16 0 d (st (fb (wf a c d false (nI (np a - 1))) d))) 6 0 8 (nI (np a - 1)) = w0 at hR2 ⊢
      have t0 : fT v w0 := by rw [← hw0]; exact fT_w (fT_w (fT_w (fT_rf v)))
      have hM2 : RM (gw w0 50 0 0 (nI (np a - 1))) a := RM_T hM (fT_w t0)
      unfold TX7_allow
      apply m_two hM2 hW hc hd
      intro u hu u7
      have hMu := RM_M hM2 hu
      refine ⟨fun _ => ?_, fun q => absurd rfl q⟩
      apply m_isPair hMu hW (by omega) (by omega)
      rw [nb_0]
      refine ⟨fun _ => ?_, fun s => absurd s r⟩
      have e9 : nI (np a) - 1 = nI (np a - 1) := nI_subN (a := np a) (b := 1) hp
      rw [x16, x16, clI (by omega), clI (by omega), zn0, gk 7, gk 7, m_np hMu hW, e9]
      refine ⟨in_nI (by omega), in_nI (by omega), ?_⟩
      apply end_mut (RC_50 hR2) (fR_w (fR_w (fR_w (fR_M (fR_rf _) hu)))) (RM_w (RM_w (RM_w hMu))) hW2
      · rw [gw_ne _ _ (by omega), gk 7, gk 7]; exact u7
      · exact gw_same _ _ _ _ _
    · unfold TX7_allow
      apply m_two hM hW hc hd
      intro u hu _
      refine ⟨fun _ => ?_, fun q => absurd rfl q⟩
      apply m_isPair (RM_M hM hu) hW (by omega) (by omega)
      rw [nb_0]
      refine ⟨fun s => absurd r s, fun _ => m_fail ?_⟩
      exact end_case (T0_0 _ _) (fun q => absurd q (by decide)) (Inv_I hR hM hW (fM_I (fM_tr hu (T0_M _ _))))
  · intro n
    refine Or.inl ⟨rfl, ?_⟩
    unfold TX7_allow
    apply m_twoNo hM hW n
    intro u hu u7
    exact ⟨fun q => absurd q (by decide), fun _ => end_case u7 (fun q => absurd q (by decide)) (Inv_I hR hM hW (fM_I hu))⟩
