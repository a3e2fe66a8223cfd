/-! ===== Labels of persons, by rounds ===== -/
def lp (x y : Nat) (L : Nat → Nat) : Nat → Nat := fun c => if c = x ∨ c = y then min (L x) (L y) else L c
def rdK (a : gMem) (L : Nat → Nat) : Nat → Nat → Nat
  | 0 => L
  | m + 1 => if sd a m then lp (m1 a m) (m2 a m) (rdK a L m) else rdK a L m
def itr (a : gMem) : Nat → Nat → Nat
  | 0 => fun c => c
  | k + 1 => rdK a (itr a k) (nm a)
def chK (a : gMem) (L : Nat → Nat) (m : Nat) : Bool := an m (fun l => sd a l && !decide (rdK a L l (m1 a l) = rdK a L l (m2 a l)))
def LI (a : gMem) (L : Nat → Nat) : Prop := ∀ c, c < 16 → L c ≤ c ∧ cn (ed a) c (L c) = true
theorem lp_le (x y : Nat) (L : Nat → Nat) (c : Nat) : lp x y L c ≤ L c := by
  unfold lp
  split
  · rename_i h
    rcases h with h | h <;> rw [h] <;> omega
  · omega
theorem rdK_s (a : gMem) (L : Nat → Nat) (m : Nat) : rdK a L (m + 1) = if sd a m then lp (m1 a m) (m2 a m) (rdK a L m) else rdK a L m := rfl
theorem rdK_st (a : gMem) (L : Nat → Nat) (m c : Nat) : rdK a L (m + 1) c ≤ rdK a L m c := by
  rw [rdK_s]
  split
  · exact lp_le _ _ _ _
  · omega
theorem rdK_mo (a : gMem) (L : Nat → Nat) (m c : Nat) : ∀ d, rdK a L (m + d) c ≤ rdK a L m c
  | 0 => Nat.le_refl _
  | d + 1 => Nat.le_trans (rdK_st a L (m + d) c) (rdK_mo a L m c d)
theorem rdK_le (a : gMem) (L : Nat → Nat) {m l : Nat} (h : m ≤ l) (c : Nat) : rdK a L l c ≤ rdK a L m c := by
  have := rdK_mo a L m c (l - m)
  rwa [show m + (l - m) = l by omega] at this
theorem sm_lt {f g : Nat → Nat} : ∀ {n : Nat}, (∀ k, k < n → f k ≤ g k) → (∃ k, k < n ∧ f k < g k) → fb_sm f n < fb_sm g n
  | 0, _, ⟨_, h, _⟩ => absurd h (Nat.not_lt_zero _)
  | n + 1, h, ⟨k, hk, hl⟩ => by
    rw [fb_sm_succ, fb_sm_succ]
    have h1 := h n (by omega)
    rcases Nat.lt_or_eq_of_le (Nat.le_of_lt_succ hk) with r | r
    · have := sm_lt (n := n) (fun k hk => h k (by omega)) ⟨k, r, hl⟩
      omega
    · have := fb_sm_le (f := f) (g := g) (n := n) fun k hk => h k (by omega)
      rw [r] at hl
      omega
section
variable {a : gMem}
theorem sd_ed {m : Nat} (hm : m < nm a) (hs : sd a m = true) : ed a (m1 a m) (m2 a m) = true := by
  unfold ed
  rw [an_t]
  exact ⟨m, hm, by rw [hs]; unfold joins; simp⟩
theorem LI_rd (hW : WF a) {L : Nat → Nat} (h : LI a L) : ∀ m, m ≤ nm a → LI a (rdK a L m)
  | 0, _ => h
  | m + 1, hm => by
    have ih := LI_rd hW h m (by omega)
    have w := hW.2.2.2.2.2.2.2.1 m (by omega)
    have hn := hW.1.2.2.2.1
    rw [rdK_s]
    split
    · rename_i hs
      have he := sd_ed (a := a) (m := m) (by omega) hs
      have x16 : m1 a m < 16 := by omega
      have y16 : m2 a m < 16 := by omega
      have cxy : cn (ed a) (m1 a m) (m2 a m) = true := cn_edge x16 y16 x16 (cn_rf _ x16) he
      have cyx := cn_sy (ed_sy a) x16 y16 cxy
      have hx := ih _ x16
      have hy := ih _ y16
      intro c hc
      refine ⟨Nat.le_trans (lp_le _ _ _ c) (ih c hc).1, ?_⟩
      unfold lp
      split
      · rename_i hcc
        rcases Nat.le_total (rdK a L m (m1 a m)) (rdK a L m (m2 a m)) with q | q
        · rw [Nat.min_eq_left q]
          rcases hcc with r | r <;> rw [r]
          · exact hx.2
          · exact cn_tr y16 x16 (by omega) cyx hx.2
        · rw [Nat.min_eq_right q]
          rcases hcc with r | r <;> rw [r]
          · exact cn_tr x16 y16 (by omega) cxy hy.2
          · exact hy.2
      · exact (ih c hc).2
    · exact ih
theorem LI_it (hW : WF a) : ∀ k, LI a (itr a k)
  | 0 => fun c hc => ⟨Nat.le_refl _, cn_rf _ hc⟩
  | k + 1 => LI_rd hW (LI_it hW k) _ (Nat.le_refl _)
theorem LI_cp {L : Nat → Nat} (h : LI a L) {c : Nat} (hc : c < 16) : cp (ed a) c ≤ L c := cp_min (Nat.lt_of_le_of_lt (h c hc).1 hc) (h c hc).2
theorem ch_no {L : Nat → Nat} : ∀ m, chK a L m = false → rdK a L m = L
  | 0, _ => rfl
  | m + 1, h => by
    unfold chK at h
    rw [an_s, Bool.or_eq_false_iff] at h
    have ih := ch_no m h.1
    rw [rdK_s]
    split
    · rename_i hs
      have h2 := h.2
      rw [hs, Bool.true_and, Bool.not_eq_false', decide_eq_true_iff, ih] at h2
      rw [ih]
      funext c
      unfold lp
      split
      · rename_i q
        rcases q with q | q <;> rw [q] <;> omega
      · rfl
    · exact ih
theorem ch_same {L : Nat → Nat} {m l : Nat} (h : chK a L m = false) (hl : l < m) (hs : sd a l = true) : L (m1 a l) = L (m2 a l) := by
  have h2 := h
  unfold chK at h2
  rw [an_f] at h2
  have h3 := h2 l hl
  have h4 : chK a L l = false := by
    unfold chK
    rw [an_f]
    intro y hy
    exact h2 y (by omega)
  rw [hs, Bool.true_and, Bool.not_eq_false', decide_eq_true_iff, ch_no l h4] at h3
  exact h3
theorem ch_yes (hW : WF a) {L : Nat → Nat} (h : chK a L (nm a) = true) : fb_sm (rdK a L (nm a)) 16 < fb_sm L 16 := by
  unfold chK at h
  rw [an_t] at h
  obtain ⟨l, hl, h⟩ := h
  rw [Bool.and_eq_true, Bool.not_eq_true', decide_eq_false_iff_not] at h
  have w := hW.2.2.2.2.2.2.2.1 l hl
  have hn := hW.1.2.2.2.1
  apply sm_lt
  · intro k _
    exact rdK_le a L (m := 0) (by omega) k
  · have e := rdK_s a L l
    rw [if_pos h.1] at e
    rcases Nat.lt_or_gt_of_ne h.2 with q | q
    · refine ⟨m2 a l, by omega, ?_⟩
      have h1 := rdK_le a L (m := l + 1) (l := nm a) (by omega) (m2 a l)
      have h2 := rdK_le a L (m := 0) (l := l) (by omega) (m2 a l)
      have h3 : rdK a L (l + 1) (m2 a l) = rdK a L l (m1 a l) := by
        rw [e]; unfold lp; rw [if_pos (Or.inr rfl)]; omega
      have h4 : rdK a L 0 = L := rfl
      rw [h4] at h2
      omega
    · refine ⟨m1 a l, by omega, ?_⟩
      have h1 := rdK_le a L (m := l + 1) (l := nm a) (by omega) (m1 a l)
      have h2 := rdK_le a L (m := 0) (l := l) (by omega) (m1 a l)
      have h3 : rdK a L (l + 1) (m1 a l) = rdK a L l (m2 a l) := by
        rw [e]; unfold lp; rw [if_pos (Or.inl rfl)]; omega
      have h4 : rdK a L 0 = L := rfl
      rw [h4] at h2
      omega
/-- Labels that no merge changes are the persons' numbers. -/
theorem lab_stop (hW : WF a) {L : Nat → Nat} (hL : LI a L) (h : chK a L (nm a) = false) {c : Nat} (hc : c < 16) : L c = cp (ed a) c := by
  have hn := hW.1.2.2.2.1
  have he : ∀ x y, ed a x y = true → L x = L y := by
    intro x y q
    unfold ed at q
    rw [an_t] at q
    obtain ⟨m, hm, q⟩ := q
    rw [Bool.and_eq_true] at q
    have h1 := ch_same h hm q.1
    have h2 := q.2
    unfold joins at h2
    simp only [Bool.or_eq_true, Bool.and_eq_true, beq_iff_eq] at h2
    rcases h2 with ⟨r, s⟩ | ⟨r, s⟩
    · rw [r, s]; exact h1
    · rw [r, s]; exact h1.symm
  have hk : ∀ k x, rR (ed a) c k x = true → L x = L c := by
    intro k
    induction k with
    | zero => intro x q; rw [rR_0] at q; have : x = c := by simpa using q
              rw [this]
    | succ k ih =>
      intro x q
      rw [rR_s] at q
      cases r : rR (ed a) c k x
      · rw [r, Bool.false_or, nx_t] at q
        obtain ⟨y, _, h3, h4⟩ := q
        rw [← he y x h4]
        exact ih y h3
      · exact ih x r
  have h1 := hk 16 _ (cp_in (ed a) hc)
  have le := cp_le (ed a) hc
  have h2 := (hL (cp (ed a) c) (by omega)).1
  have h3 := LI_cp hL hc
  omega
/-- After 16 rounds the labels are the persons' numbers. -/
theorem lab_16 (hW : WF a) {c : Nat} (hc : c < 16) : itr a 16 c = cp (ed a) c := by
  have hn := hW.1.2.2.2.1
  have le := cp_le (ed a) hc
  have key : ∀ k x, x < 16 → rR (ed a) (cp (ed a) c) k x = true → itr a k x ≤ cp (ed a) c := by
    intro k
    induction k with
    | zero => intro x _ q; rw [rR_0] at q; have : x = cp (ed a) c := by simpa using q
              rw [this]; exact Nat.le_refl _
    | succ k ih =>
      intro x hx q
      rw [rR_s] at q
      have h0 := rdK_le a (itr a k) (m := 0) (l := nm a) (by omega) x
      cases r : rR (ed a) (cp (ed a) c) k x
      · rw [r, Bool.false_or, nx_t] at q
        obtain ⟨y, hy, h3, h4⟩ := q
        have h5 := ih y hy h3
        unfold ed at h4
        rw [an_t] at h4
        obtain ⟨m, hm, h4⟩ := h4
        rw [Bool.and_eq_true] at h4
        have h6 := h4.2
        unfold joins at h6
        simp only [Bool.or_eq_true, Bool.and_eq_true, beq_iff_eq] at h6
        have e := rdK_s a (itr a k) m
        rw [if_pos h4.1] at e
        have h7 := rdK_le a (itr a k) (m := m + 1) (l := nm a) (by omega) x
        have h8 := rdK_le a (itr a k) (m := 0) (l := m) (by omega) y
        have h9 : rdK a (itr a k) 0 = itr a k := rfl
        rw [h9] at h8
        have h10 : rdK a (itr a k) (m + 1) x ≤ rdK a (itr a k) m y := by
          rw [e]
          unfold lp
          rcases h6 with ⟨r, s⟩ | ⟨r, s⟩
          · rw [if_pos (Or.inr s), ← r]; omega
          · rw [if_pos (Or.inl s), ← r]; omega
        show rdK a (itr a k) (nm a) x ≤ _
        omega
      · have := ih x hx r
        have h9 : rdK a (itr a k) 0 = itr a k := rfl
        rw [h9] at h0
        show rdK a (itr a k) (nm a) x ≤ _
        omega
  have h1 := key 16 c hc (cn_sy (ed_sy a) hc (by omega) (cp_in (ed a) hc))
  have h2 := LI_cp (LI_it hW 16) hc
  omega
end
