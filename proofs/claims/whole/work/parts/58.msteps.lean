/-! ===== Steps of the reference ===== -/
def fv (e : Nat → Nat → Bool) (c s : Nat) (p : Nat → Bool) (x : Nat) : Int32 := if rR e c s x then nI (ds e c x) else if p x then nI (s + 1) else -1
theorem ds_le {e : Nat → Nat → Bool} {c s x : Nat} (hs : s < 16) (h : rR e c s x = true) : ds e c x ≤ s := fi_at (p := fun k => rR e c k x) hs h
theorem ds_at {e : Nat → Nat → Bool} {c s x : Nat} (hs : s < 16) (h : rR e c s x = true) : rR e c (ds e c x) x = true := fa_first_yes (fun k => rR e c k x) 16 (Nat.lt_of_le_of_lt (ds_le hs h) hs)
section
variable {a v : gMem} {X : String → gMem → Prop}
/-- One merge, one way: from y to z. -/
theorem far_one {e : Nat → Nat → Bool} {c s y z : Nat} {p : Nat → Bool} (hs : s < 16) (hy : y < 16) (he : e y z = true) (hp : ∀ x, rR e c s x = true → p x = true) :
    ((fv e c s p y = nI s ∧ ¬ 0 ≤ fv e c s p z) → rR e c s y = true ∧ p z = false) ∧ (¬ (fv e c s p y = nI s ∧ ¬ 0 ≤ fv e c s p z) → ∀ x, (p x || (x == z && rR e c s y)) = p x) := by
  have neg : ∀ x, ¬ 0 ≤ fv e c s p x → p x = false := by
    intro x h
    apply bf
    intro q
    apply h
    unfold fv
    split
    · rename_i r
      have := ds_le hs r
      exact nI_pos' (by omega)
    · exact nI_pos' (by omega)
  have pos : ∀ x, 0 ≤ fv e c s p x → p x = true := by
    intro x h
    apply bt'
    intro q
    unfold fv at h
    rw [if_neg (fun r => by rw [hp x r] at q; cases q), q, if_neg (by decide)] at h
    exact absurd h (by decide)
  constructor
  · rintro ⟨h1, h2⟩
    refine ⟨?_, neg z h2⟩
    apply bt'
    intro q
    unfold fv at h1
    rw [q, if_neg (by decide)] at h1
    split at h1
    · have := (eqI (by omega) (by omega)).mp h1
      omega
    · exact neg1 (by omega) h1.symm
  · intro h x
    cases q : p x
    · rw [Bool.false_or]
      apply bf
      intro r
      rw [Bool.and_eq_true] at r
      have xz : x = z := by simpa using r.1
      rw [xz] at q
      have f2 : ¬ 0 ≤ fv e c s p z := fun t => by rw [pos z t] at q; cases q
      apply h
      refine ⟨?_, f2⟩
      unfold fv
      rw [if_pos r.2]
      have l1 := ds_le hs r.2
      rcases Nat.lt_or_eq_of_le l1 with t | t
      · have h3 := rR_edge (ds_at hs r.2) hy he
        have h4 := hp z (rR_le (by omega) h3)
        rw [h4] at q; cases q
      · rw [t]
    · rfl
def pK (a : gMem) (c s m x : Nat) : Bool := rR (ed a) c s x || an m (fun l => sd a l && ((x == m2 a l && rR (ed a) c s (m1 a l)) || (x == m1 a l && rR (ed a) c s (m2 a l))))
theorem pK_all (hW : WF a) {c s x : Nat} : pK a c s (nm a) x = rR (ed a) c (s + 1) x := by
  have hn := hW.1.2.2.2.1
  rw [rR_s]
  unfold pK
  congr 1
  cases q : nx (ed a) (rR (ed a) c s) x
  · rw [an_f]
    intro l hl
    apply bf
    intro r
    rw [Bool.and_eq_true, Bool.or_eq_true, Bool.and_eq_true, Bool.and_eq_true] at r
    have w := hW.2.2.2.2.2.2.2.1 l hl
    have he := sd_ed hl r.1
    have : nx (ed a) (rR (ed a) c s) x = true := by
      rw [nx_t]
      rcases r.2 with ⟨r1, r2⟩ | ⟨r1, r2⟩
      · have : x = m2 a l := by simpa using r1
        exact ⟨m1 a l, by omega, r2, by rw [this]; exact he⟩
      · have : x = m1 a l := by simpa using r1
        exact ⟨m2 a l, by omega, r2, by rw [this, ed_sy]; exact he⟩
    rw [this] at q; cases q
  · rw [nx_t] at q
    obtain ⟨y, hy, q1, q2⟩ := q
    unfold ed at q2
    rw [an_t] at q2
    obtain ⟨l, hl, q2⟩ := q2
    rw [an_t]
    refine ⟨l, hl, ?_⟩
    rw [Bool.and_eq_true] at q2
    have h2 := q2.2
    unfold joins at h2
    simp only [Bool.or_eq_true, Bool.and_eq_true, beq_iff_eq] at h2
    rw [q2.1, Bool.true_and]
    rcases h2 with ⟨p, r⟩ | ⟨p, r⟩
    · rw [r, ← p, q1]; simp
    · rw [r, ← p, q1]; simp
theorem pK_s (a : gMem) (c s m x : Nat) : pK a c s (m + 1) x = (pK a c s m x || (sd a m && ((x == m2 a m && rR (ed a) c s (m1 a m)) || (x == m1 a m && rR (ed a) c s (m2 a m))))) := by
  unfold pK
  rw [an_s, Bool.or_assoc]
theorem fv_put {w : gMem} {e : Nat → Nat → Bool} {c s y z n : Nat} {p : Nat → Bool} (h : ∀ x, x < n → w 39 0 x = fv e c s p x) (hp : ∀ x, rR e c s x = true → p x = true) (hz : p z = false) (hy : rR e c s y = true) : ∀ x, x < n → gw w 39 0 z (nI (s + 1)) 39 0 x = fv e c s (fun x => p x || (x == z && rR e c s y)) x := by
  intro x hx
  by_cases q : x = z
  · rw [q, gw_same]
    unfold fv
    rw [if_neg (fun r => by rw [hp z r] at hz; cases hz), hy]
    simp
  · rw [gw_ne _ _ (by omega), h x hx]
    unfold fv
    have : (x == z) = false := by simp [q]
    simp only [this, Bool.false_and, Bool.or_false]
theorem m_steps (hM : RM v a) (hW : WF a) {Q : Int32 → gMem → Prop} {c d : Nat} (hc : c < nc a) (hd : d < nc a) (h1 : ∀ w, fM v w → w 7 0 0 = v 7 0 0 → ds (ed a) c d < 16 → Q (nI (ds (ed a) c d)) w) (h0 : ∀ w, fM v w → ¬ ds (ed a) c d < 16 → Q 0 (T0 w 2)) : LX7_steps_13 (nI c) (nI d) 0 v Q X := by
  have hn := hW.1.2.2.2.1
  have hm30 := hW.1.2.2.2.2.2.1
  have fF : ∀ w x y, fM v w → w 7 0 0 = v 7 0 0 → fM v (gw w 39 0 x y) ∧ gw w 39 0 x y 7 0 0 = v 7 0 0 := fun w x y hw h7 => ⟨fM_tr hw (fM_gw _ _ _ _ (by omega)), by rw [gw_ne _ _ (by omega)]; exact h7⟩
  unfold LX7_steps_13
  intro I hI
  have key : ∀ k, k ≤ nc a → ∀ w, fM v w → w 7 0 0 = v 7 0 0 → (∀ x, x < k → w 39 0 x = -1) → I (nI k) w := up_to
    (by
      intro w hw h7 hz
      apply hI
      unfold BX7_steps_13
      rw [m_nc (RM_M hM hw) hW]
      refine ⟨fun _ => ⟨in_nI (by omega), ?_⟩, fun n => absurd ((leI (by omega) (by omega)).mpr (Nat.le_refl _)) n⟩
      rw [clI (by omega)]
      unfold LX7_steps_46
      intro J hJ
      have last : ∀ s b w, s ≤ 16 → fM v w → w 7 0 0 = v 7 0 0 → (∀ x, x < nc a → w 39 0 x = if rR (ed a) c s x then nI (ds (ed a) c x) else -1) → (rR (ed a) c s d = true → ds (ed a) c d < 16) → (b = false ∨ 0 ≤ w 39 0 d) → (b = false → rR (ed a) c s d = cn (ed a) c d) → BX7_steps_198 (nI d) w Q X := by
        intro s b w hs hw h7 hr hds hb hst
        unfold BX7_steps_198
        rw [clI (by omega), hr d hd]
        refine ⟨in_nI (by omega), fun q => ⟨in_nI (by omega), ?_⟩, fun q => ?_⟩
        · by_cases r : rR (ed a) c s d = true
          · rw [if_pos r]; exact h1 w hw h7 (hds r)
          · rw [if_neg r] at q; exact absurd q (by decide)
        · apply m_fail
          apply h0 w hw
          intro r
          have hcn := (ds_cn (e := ed a) (c := c) (d := d) (by omega) (by omega)).mp r
          have hneg : ¬ rR (ed a) c s d = true := fun t => by
            rw [if_pos t] at q
            exact q (nI_pos' (by omega))
          rcases hb with t | t
          · rw [hst t] at hneg; exact hneg hcn
          · rw [hr d hd] at t; exact q t
      have ds16 : ∀ s, s ≤ 16 → rR (ed a) c s d = true → ds (ed a) c d < 16 := fun s hs h => (ds_cn (by omega) (by omega)).mpr (rR_le hs h)
      have rounds : ∀ s, s ≤ 16 → ∀ b w, fM v w → w 7 0 0 = v 7 0 0 → (∀ x, x < nc a → w 39 0 x = if rR (ed a) c s x then nI (ds (ed a) c x) else -1) → (b = false → rR (ed a) c s d = cn (ed a) c d) → (s = 16 → b = false) → J (nb b) (nI s) w := up_to
        (by
          intro b w hw h7 hr hst hb
          apply hJ
          unfold BX7_steps_46
          have hb := hb rfl
          exact ⟨fun _ => last 16 b w (Nat.le_refl _) hw h7 hr (ds16 16 (Nat.le_refl _)) (Or.inl hb) hst, fun q => absurd ((nb_0 _).mpr hb) q⟩)
        (by
          intro s hs ih b w hw h7 hr hst _
          apply hJ
          unfold BX7_steps_46
          rw [clI (by omega)]
          refine ⟨fun q => last s b w (by omega) hw h7 hr (ds16 s (by omega)) (Or.inl ((nb_0 _).mp q)) hst, fun q => ⟨in_nI (by omega), fun r => last s b w (by omega) hw h7 hr (ds16 s (by omega)) (Or.inr r) hst, fun r => ?_⟩⟩
          unfold LX7_steps_64
          intro K hK
          have inner : ∀ m, m ≤ nm a → ∀ w, fM v w → w 7 0 0 = v 7 0 0 → (∀ x, x < nc a → w 39 0 x = fv (ed a) c s (pK a c s m) x) → K (nb (an (nc a) (fun x => pK a c s m x && !rR (ed a) c s x))) (nI m) w := up_to
            (by
              intro w hw h7 hr
              apply hK
              unfold BX7_steps_64
              rw [m_nm (RM_M hM hw) hW, nI_1 s]
              refine ⟨fun _ => ?_, fun n => absurd ((leI (by omega) (by omega)).mpr (Nat.le_refl _)) n⟩
              apply ih _ w hw h7
              · intro x hx
                rw [hr x hx]
                unfold fv
                rw [pK_all hW]
                by_cases t : rR (ed a) c s x = true
                · rw [if_pos t, if_pos (rR_up t)]
                · rw [if_neg t]
                  by_cases u : rR (ed a) c (s + 1) x = true
                  · rw [if_pos u, if_pos u]
                    have e6 : ds (ed a) c x = s + 1 := by
                      rcases Nat.lt_or_eq_of_le (show s + 1 ≤ 16 by omega) with y | y
                      · refine fi_is y u fun j hj => bf fun z => t (rR_le (by omega) z)
                      · have : rR (ed a) c s x = true := by
                          have e15 := cn_15 (ed a) (c := c) (x := x) (by omega) (by omega)
                          have es : s = 15 := by omega
                          subst es
                          rw [← e15]; exact u
                        exact absurd this t
                    rw [e6]
                  · rw [if_neg u, if_neg u]
              · intro e
                rw [an_f] at e
                have hst2 : ∀ x, x < 16 → rR (ed a) c (s + 1) x = rR (ed a) c s x := by
                  intro x hx
                  cases t : rR (ed a) c s x
                  · apply bf
                    intro u
                    have hxn : x < nc a := by
                      have : cn (ed a) c x = true := cn_any (by omega) hx u
                      exact cn_n hW hc this
                    have := e x hxn
                    rw [pK_all hW, u, t] at this
                    cases this
                  · exact rR_up t
                rw [hst2 d (by omega)]
                exact (rR_at (by omega) hst2 (by omega)).symm
              · intro e
                rw [an_f]
                intro x hx
                rw [pK_all hW]
                have es : s = 15 := by omega
                subst es
                have e15 := cn_15 (ed a) (c := c) (x := x) (by omega) (by omega)
                show (cn (ed a) c x && _) = false
                rw [e15]
                cases rR (ed a) c 15 x <;> rfl)
            (by
              intro m hm ih2 w hw h7 hr
              apply hK
              have hMw := RM_M hM hw
              have wm := hW.2.2.2.2.2.2.2.1 m hm
              have e1 : ∀ u, fM v u → u 36 0 m = nI (m1 a m) := fun u hu => ((RM_M hM hu).2 36 (by unfold mkind; omega) m).trans wm.1
              have e2 : ∀ u, fM v u → u 37 0 m = nI (m2 a m) := fun u hu => ((RM_M hM hu).2 37 (by unfold mkind; omega) m).trans wm.2.2.1
              have e3 : w 43 0 m = nb (sd a m) := (hMw.2 43 (by unfold mkind; omega) m).trans wm.2.2.2.2.2
              have hp0 : ∀ x, rR (ed a) c s x = true → pK a c s m x = true := fun x hx => by unfold pK; rw [hx]; rfl
              have fin : ∀ (g : Nat → Bool) u, fM v u → u 7 0 0 = v 7 0 0 → (∀ x, x < nc a → u 39 0 x = fv (ed a) c s g x) → (∀ x, g x = pK a c s (m + 1) x) → K (nb (an (nc a) (fun x => g x && !rR (ed a) c s x))) (nI (m + 1)) u := by
                intro g u hu hu7 hr2 hg
                have e : g = pK a c s (m + 1) := funext hg
                rw [e] at hr2 ⊢
                exact ih2 u hu hu7 hr2
              unfold BX7_steps_64
              rw [m_nm hMw hW, clI (by omega), e1 w hw, e2 w hw, e3, clI (by omega), clI (by omega), hr _ wm.2.1, hr _ wm.2.2.2.1]
              refine ⟨fun n => absurd ((leI (by omega) (by omega)).mp n) (by omega), fun _ => ⟨in_nI (by omega), fun t => ?_, fun t => ?_⟩⟩
              · have hsd : sd a m = true := bt' fun u => t ((nb_0 _).mpr u)
                have he := sd_ed hm hsd
                have he2 : ed a (m2 a m) (m1 a m) = true := by rw [ed_sy]; exact he
                -- the second way, from any state after the first
                have second : ∀ (g : Nat → Bool) u, fM v u → u 7 0 0 = v 7 0 0 → (∀ x, x < nc a → u 39 0 x = fv (ed a) c s g x) → (∀ x, rR (ed a) c s x = true → g x = true) → (∀ x, (g x || (x == m1 a m && rR (ed a) c s (m2 a m))) = pK a c s (m + 1) x) → BX7_steps_136 J K (nI d) (nb (an (nc a) (fun x => g x && !rR (ed a) c s x))) (nI s) (nI m) u Q X := by
                  intro g u hu hu7 hr2 hg hall
                  obtain ⟨f1, f2⟩ := far_one (e := ed a) (c := c) (s := s) (y := m2 a m) (z := m1 a m) (p := g) hs (by omega) he2 hg
                  unfold BX7_steps_136 BX7_steps_186
                  rw [clI (by omega), e1 u hu, e2 u hu, clI (by omega), clI (by omega), hr2 _ wm.2.1, hr2 _ wm.2.2.2.1, nI_1 m]
                  have same : ¬ (fv (ed a) c s g (m2 a m) = nI s ∧ ¬ 0 ≤ fv (ed a) c s g (m1 a m)) → K (nb (an (nc a) (fun x => g x && !rR (ed a) c s x))) (nI (m + 1)) u := fun hno =>
                    fin g u hu hu7 hr2 fun x => by rw [← hall x, f2 hno x]
                  refine ⟨in_nI (by omega), in_nI (by omega), fun y => same fun z => y z.1, fun y => ⟨in_nI (by omega), in_nI (by omega), fun z => same fun i => i.2 z, fun z => ⟨in_nI (by omega), in_nI (by omega), ?_⟩⟩⟩
                  have hyes := f1 ⟨y, z⟩
                  have hf := fF u (m1 a m) (nI (s + 1)) hu hu7
                  have := fin _ _ hf.1 hf.2 (fv_put hr2 hg hyes.2 hyes.1) hall
                  rw [an_t.mpr ⟨m1 a m, wm.2.1, by
                    have e5 : rR (ed a) c s (m1 a m) = false := bf fun i => by rw [hg _ i] at hyes; exact absurd hyes.2 (by decide)
                    rw [hyes.1, e5]; simp⟩] at this
                  rw [nI_1 s]
                  exact this
                obtain ⟨f1, f2⟩ := far_one (e := ed a) (c := c) (s := s) (y := m1 a m) (z := m2 a m) (p := pK a c s m) hs (by omega) he hp0
                have all2 : ∀ x, ((pK a c s m x || (x == m2 a m && rR (ed a) c s (m1 a m))) || (x == m1 a m && rR (ed a) c s (m2 a m))) = pK a c s (m + 1) x := fun x => by rw [pK_s, hsd, Bool.true_and, Bool.or_assoc]
                have same : ¬ (fv (ed a) c s (pK a c s m) (m1 a m) = nI s ∧ ¬ 0 ≤ fv (ed a) c s (pK a c s m) (m2 a m)) → BX7_steps_136 J K (nI d) (nb (an (nc a) (fun x => pK a c s m x && !rR (ed a) c s x))) (nI s) (nI m) w Q X := fun hno =>
                  second _ w hw h7 hr hp0 fun x => by rw [← all2 x, f2 hno x]
                refine ⟨in_nI (by omega), in_nI (by omega), fun y => same fun z => y z.1, fun y => ⟨in_nI (by omega), in_nI (by omega), fun z => same fun i => i.2 z, fun z => ⟨in_nI (by omega), in_nI (by omega), ?_⟩⟩⟩
                have hyes := f1 ⟨y, z⟩
                have hf := fF w (m2 a m) (nI (s + 1)) hw h7
                have := second _ _ hf.1 hf.2 (fv_put hr hp0 hyes.2 hyes.1) (fun x hx => by show (_ || _) = true; rw [hp0 x hx]; rfl) all2
                rw [an_t.mpr ⟨m2 a m, wm.2.2.2.1, by
                  have e5 : rR (ed a) c s (m2 a m) = false := bf fun i => by rw [hp0 _ i] at hyes; exact absurd hyes.2 (by decide)
                  rw [hyes.1, e5]; simp⟩] at this
                rw [nI_1 s]
                exact this
              · unfold BX7_steps_186
                rw [nI_1 m]
                exact fin _ w hw h7 hr fun x => by rw [pK_s, (nb_0 _).mp t, Bool.false_and, Bool.or_false])
          have p0 : ∀ x, pK a c s 0 x = rR (ed a) c s x := fun x => by unfold pK; rw [an_0, Bool.or_false]
          have := inner 0 (by omega) w hw h7 (fun x hx => by
            rw [hr x hx]
            unfold fv
            rw [p0]
            split
            · rfl
            · rfl)
          rw [an_f.mpr fun x _ => by rw [p0]; cases rR (ed a) c s x <;> rfl] at this
          exact this)
      have hf := fF w c 0 hw h7
      apply rounds 0 (by omega) true _ hf.1 hf.2
      · intro x hx
        rw [rR_0]
        by_cases q : x = c
        · rw [q, gw_same]
          have e : ds (ed a) c c = 0 := fi_is (by omega) (by rw [rR_0]; simp) fun j hj => absurd hj (Nat.not_lt_zero j)
          rw [e]; simp; rfl
        · rw [gw_ne _ _ (by omega), hz x hx]; simp [q]
      · intro q; cases q
      · intro q; cases q)
    (by
      intro k hk ih w hw h7 hz
      apply hI
      unfold BX7_steps_13
      rw [m_nc (RM_M hM hw) hW, clI (a := k) (by omega), nI_1]
      refine ⟨fun n => absurd ((leI (by omega) (by omega)).mp n) (by omega), fun _ => ⟨in_nI (by omega), ?_⟩⟩
      have hf := fF w k (-1) hw h7
      apply ih _ hf.1 hf.2
      intro x hx
      by_cases q : x = k
      · rw [q, gw_same]
      · rw [gw_ne _ _ (by omega)]; exact hz x (by omega))
  exact key 0 (by omega) v (fM_rf v) rfl fun x hx => absurd hx (Nat.not_lt_zero x)
end
