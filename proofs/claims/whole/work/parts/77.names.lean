/-! ===== Names that change ===== -/
theorem sn_cg {l m : Nat → Nat} : ∀ n, (∀ k, k < n → l k = m k) → sn l n = sn m n
  | 0, _ => rfl
  | n + 1, h => by
    have ih := sn_cg n (fun k hk => h k (by omega))
    unfold sn
    rw [ih, h n (by omega)]
    by_cases q : n = 0
    · rw [if_pos q, if_pos q]
    · rw [if_neg q, if_neg q, h (n - 1) (by omega)]
theorem sr_cg {l m : Nat → Nat} (k : Nat) : ∀ n, (∀ k, k < n → l k = m k) → sr l n k = sr m n k
  | 0, _ => rfl
  | n + 1, h => by
    have ih := sr_cg k n (fun k hk => h k (by omega))
    have i2 := sn_cg n (fun k hk => h k (by omega))
    unfold sr
    rw [ih, i2, h n (by omega)]
    by_cases q : n = 0
    · rw [if_pos q, if_pos q, h 0 (by omega)]
    · rw [if_neg q, if_neg q, h (n - 1) (by omega)]
theorem sg_cg {l m : Nat → Nat} (k n : Nat) (h : ∀ k, k < n → l k = m k) : sg l n k = sg m n k := by
  unfold sg
  rw [sr_cg 0 n h, sr_cg k n h]
theorem sn_s (l : Nat → Nat) {n : Nat} (h : n ≠ 0) : sn l (n + 1) = if sn l n < 4 ∧ dg (l n) ≠ 0 ∧ dg (l n) ≠ dg (l (n - 1)) then sn l n + 1 else sn l n := by
  rw [sn, if_neg h]
theorem sr_s (l : Nat → Nat) {n : Nat} (k : Nat) (h : n ≠ 0) : sr l (n + 1) k = if sn l n < 4 ∧ dg (l n) ≠ 0 ∧ dg (l n) ≠ dg (l (n - 1)) then (if k = sn l n then dg (l n) else sr l n k) else sr l n k := by
  rw [sr, if_neg h]
theorem vn_c {n : Nat} (h : n < 65536) : vp_nar .char (nI n) = nI n := by
  unfold vp_nar
  rw [nar_c h]
/-- What changing the name i may change. -/
def fN (i : Nat) (v w : gMem) : Prop := ∀ k j, ¬ ((k = 4 ∨ k = 21 ∨ k = 22) ∧ j = i) → w k j = v k j
theorem fN_rf (i : Nat) (v : gMem) : fN i v v := fun _ _ _ => rfl
theorem fN_tr {i : Nat} {v w u : gMem} (h : fN i v w) (h2 : fN i w u) : fN i v u := fun k j hk => (h2 k j hk).trans (h k j hk)
theorem fN_gw (i : Nat) (v : gMem) {k : Nat} (j : Nat) (x : Int32) (h : k = 4 ∨ k = 21 ∨ k = 22 := by omega) : fN i v (gw v k i j x) := by
  intro l i' q
  funext j'
  exact gw_ne _ _ (fun r => q ⟨by omega, r.2.1⟩)
theorem fN_k {i : Nat} {v w : gMem} (h : fN i v w) (k : Nat) (h1 : k ≠ 4 := by decide) (h2 : k ≠ 21 := by decide) (h3 : k ≠ 22 := by decide) : w k = v k := funext fun j => h k j (by omega)
theorem fN_T {i : Nat} {v w : gMem} (h : fN i v w) : fT v w := fun k hk => fN_k h k (by unfold mkind at hk; omega) (by unfold mkind at hk; omega) (by unfold mkind at hk; omega)
/-- The name i has n letters l, and its sound. -/
def Nm (v : gMem) (i : Nat) (l : Nat → Nat) (n : Nat) : Prop := v 4 i 1 = nI n ∧ v 4 i 3 = nI (sn l n) ∧ (∀ k, k < n → v 21 i k = nI (l k)) ∧ ∀ k, k < sn l n → v 22 i k = nI (sg l n k)
section
variable {v : gMem} {Q : gMem → Prop} {X : String → gMem → Prop}
theorem r_extend {i s : Nat} {d : Int32} (h : v 4 i 3 = nI s) (hs : s ≤ 4) (h4 : s = 4 → Q v) (h3 : s < 4 → Q (gw (gw v 22 i s (vp_nar .char d)) 4 i 3 (nI (s + 1)))) : TX4_extendSound i d v Q X := by
  unfold TX4_extendSound BX4_extendSound_28
  rw [gk 4, h]
  refine ⟨fun q => h4 ?_, fun q => ?_⟩
  · have := (leI (a := 4) (by decide) (by omega)).mp q
    omega
  · have : s < 4 := by
      apply Classical.byContradiction
      intro r
      exact q ((leI (a := 4) (by decide) (by omega)).mpr (by omega))
    rw [clI (by omega), nI_1]
    exact ⟨in_nI this, h3 this⟩
theorem r_append {i n : Nat} {l : Nat → Nat} (hN : Nm v i l n) (hn : n < 10) (hl : ∀ k, k ≤ n → l k < 65536) (h : ∀ w, fN i v w → Nm w i l (n + 1) → (∀ k, k ≠ n → w 21 i k = v 21 i k) → Q w) : TX4_append i (nI (l n)) v Q X := by
  have fin : ∀ V : gMem, fN i v V → V 4 i 1 = nI n → V 21 = v 21 → V 4 i 3 = nI (sn l (n + 1)) → (∀ k, k < sn l (n + 1) → V 22 i k = nI (sg l (n + 1) k)) → BX4_append_59 i (nI (l n)) V Q X := by
    intro V hf h1 h2 h3 h4
    unfold BX4_append_59
    rw [gk 4, h1, clI (by omega), vn_c (hl n (by omega)), nI_1]
    refine ⟨in_nI hn, h _ (fN_tr hf (fN_tr (fN_gw i _ _ _) (fN_gw i _ _ _))) ⟨gw_same _ _ _ _ _, ?_, ?_, ?_⟩ ?_⟩
    · rw [gw_ne _ _ (by omega), gk 4]; exact h3
    · intro k hk
      rw [gk 21]
      by_cases q : k = n
      · rw [q, gw_same]
      · rw [gw_ne _ _ (by omega), h2]
        exact hN.2.2.1 k (by omega)
    · intro k hk
      rw [gk 22, gk 22]
      exact h4 k hk
    · intro k hk
      rw [gk 21, gw_ne _ _ (by omega), h2]
  unfold TX4_append
  rw [hN.1]
  refine ⟨fun _ => ?_, fun q => absurd ((ltI (b := 10) (by omega) (by decide)).mpr hn) q⟩
  apply r_digitOf (hl n (by omega))
  show (¬ v 4 i 1 = 0 → _) ∧ (v 4 i 1 = 0 → _)
  rw [hN.1]
  by_cases q0 : n = 0
  · subst q0
    refine ⟨fun q => absurd rfl q, fun _ => ?_⟩
    apply r_extend (s := 0) hN.2.1 (by omega)
    · intro q; cases q
    · intro _
      apply fin
      · exact fN_tr (fN_gw i _ _ _) (fN_gw i _ _ _)
      · rw [gw_ne _ _ (by omega), gk 4]; exact hN.1
      · rw [gk 21, gk 21]
      · exact gw_same _ _ _ _ _
      · intro k hk
        have hk0 : k = 0 := by
          have : sn l (0 + 1) = 1 := rfl
          omega
        subst hk0
        rw [gk 22, gw_same, vn_c (hl 0 (by omega))]
        rfl
  · have hz : ¬ nI n = 0 := fun r => q0 ((eqI (b := 0) (by omega) (by decide)).mp r)
    refine ⟨fun _ => ?_, fun q => absurd q hz⟩
    have d1 := dg_le (l n)
    have d2 := dg_le (l (n - 1))
    have keep : ¬ (sn l n < 4 ∧ dg (l n) ≠ 0 ∧ dg (l n) ≠ dg (l (n - 1))) → BX4_append_59 i (nI (l n)) v Q X := by
      intro r
      apply fin v (fN_rf i v) hN.1 rfl
      · rw [sn_s l q0, if_neg r]; exact hN.2.1
      · intro k hk
        rw [sn_s l q0, if_neg r] at hk
        rw [hN.2.2.2 k hk]
        unfold sg
        rw [sr_s l 0 q0, sr_s l k q0, if_neg r, if_neg r]
    refine ⟨fun q => keep fun r => r.2.1 ?_, fun q => ?_⟩
    · have := (eqI (b := 48) (by omega) (by decide)).mp q
      omega
    · have em : nI n - 1 = nI (n - 1) := nI_subN (a := n) (b := 1) (by omega)
      rw [em, clI (by omega), hN.2.2.1 (n - 1) (by omega)]
      refine ⟨in_nI (by omega), ?_⟩
      apply r_digitOf (hl (n - 1) (by omega))
      refine ⟨fun r => keep fun s => s.2.2 ?_, fun r => ?_⟩
      · have := (eqI (by omega) (by omega)).mp r
        omega
      · have n1 : dg (l n) ≠ 0 := fun s => q (by rw [s]; rfl)
        have n2 : dg (l n) ≠ dg (l (n - 1)) := fun s => r (by rw [s])
        have s4 := sn_le l n
        apply r_extend hN.2.1 s4
        · intro s
          exact keep fun t => by omega
        · intro s
          apply fin
          · exact fN_tr (fN_gw i _ _ _) (fN_gw i _ _ _)
          · rw [gw_ne _ _ (by omega), gk 4]; exact hN.1
          · rw [gk 21, gk 21]
          · rw [gw_same, sn_s l q0, if_pos ⟨s, n1, n2⟩]
          · intro k hk
            have g1 : 1 ≤ sn l n := by
              obtain ⟨m, rfl⟩ : ∃ m, n = m + 1 := ⟨n - 1, by omega⟩
              exact sn_ge l m
            rw [sn_s l q0, if_pos ⟨s, n1, n2⟩] at hk
            rw [gk 22]
            unfold sg
            have hc : sn l n < 4 ∧ dg (l n) ≠ 0 ∧ dg (l n) ≠ dg (l (n - 1)) := ⟨s, n1, n2⟩
            have e0 : sr l (n + 1) 0 = sr l n 0 := by rw [sr_s l 0 q0, if_pos hc, if_neg (show ¬ 0 = sn l n by omega)]
            have ek : sr l (n + 1) k = if k = sn l n then dg (l n) else sr l n k := by rw [sr_s l k q0, if_pos hc]
            rw [e0, ek]
            by_cases e : k = sn l n
            · rw [e, gw_same, vn_c (by omega), if_neg (show ¬ sn l n = 0 by omega), if_pos rfl]
            · rw [gw_ne _ _ (by omega), hN.2.2.2 k (by omega), if_neg e]
              unfold sg
              rfl
end
/-! ===== The state with one name changed ===== -/
section
variable {a b v w : gMem}
theorem W_nm (E : ∀ k, k ≠ 32 → k ≠ 42 → k ≠ 7 → b k = a k) (E7 : ∀ j, j ≠ 6 → b 7 0 j = a 7 0 j) (hy : b 7 0 6 = nI (ty b) ∧ ty b ≤ 10) (h32 : ∀ c, c < 16 → b 32 0 c = nI (na b 32 c) ∧ na b 32 c ≤ 10) (h42 : ∀ i, i < 17 → ∀ k, k < ln b i → b 42 0 (10 * i + k) = nI (lt b i k) ∧ 97 ≤ lt b i k ∧ lt b i k ≤ 122) (hW : WF a) : WF b := by
  have n : nc b = nc a := nc_c (E7 2 (by decide))
  have m : nm b = nm a := nm_c (E7 3 (by decide))
  have s : ns b = ns a := ns_c (E7 1 (by decide))
  have p : np b = np a := np_c (E7 4 (by decide))
  have e36 : b 36 = a 36 := E 36 (by decide) (by decide) (by decide)
  have e37 : b 37 = a 37 := E 37 (by decide) (by decide) (by decide)
  have e43 : b 43 = a 43 := E 43 (by decide) (by decide) (by decide)
  have e44 : b 44 = a 44 := E 44 (by decide) (by decide) (by decide)
  refine ⟨by rw [n, m, s, p, E7 1 (by decide), E7 2 (by decide), E7 3 (by decide), E7 4 (by decide)]; exact ⟨hW.1.1, hW.1.2.1, hW.1.2.2.1, hW.1.2.2.2.1, hW.1.2.2.2.2.1, hW.1.2.2.2.2.2.1, hW.1.2.2.2.2.2.2.1, hW.1.2.2.2.2.2.2.2.1, hy⟩, W2c s (E 30 (by decide) (by decide) (by decide)) hW, W3c s n (E 31 (by decide) (by decide) (by decide)) hW, h32, h42, W6c n (E 33 (by decide) (by decide) (by decide)) hW, W7c (E 34 (by decide) (by decide) (by decide)) hW, W8c n m e36 e37 e43 hW, W9c m e36 e37 e43 hW, W10c n (ed_c (E7 3 (by decide)) e36 e37 e43) e44 hW, W11c n (E 45 (by decide) (by decide) (by decide)) hW, W12c p e44 hW⟩
theorem R_nm {i : Nat} (E : ∀ k, k ≠ 32 → k ≠ 42 → k ≠ 7 → b k = a k) (E7 : ∀ j, j ≠ 6 → b 7 0 j = a 7 0 j) (hf : fN i v w) (hy : w 4 16 1 = b 7 0 6) (h32 : ∀ c, c < 16 → w 4 c 1 = b 32 0 c) (h5 : ∀ i, i < 17 → ∀ k, k < 10 → w 21 i k = b 42 0 (10 * i + k)) (h6 : ∀ i, i < 17 → w 4 i 3 = nI (sn (lt b i) (ln b i)) ∧ ∀ k, k < sn (lt b i) (ln b i) → w 22 i k = nI (sg (lt b i) (ln b i) k)) (hR : RC v a) : RC w b := by
  have n : nc b = nc a := nc_c (E7 2 (by decide))
  have e36 : b 36 = a 36 := E 36 (by decide) (by decide) (by decide)
  have e37 : b 37 = a 37 := E 37 (by decide) (by decide) (by decide)
  have e43 : b 43 = a 43 := E 43 (by decide) (by decide) (by decide)
  have e44 : b 44 = a 44 := E 44 (by decide) (by decide) (by decide)
  refine ⟨by rw [E7 1 (by decide), E7 2 (by decide), E7 3 (by decide), E7 4 (by decide), E7 5 (by decide), fN_k hf 6, fN_k hf 3]; exact ⟨hR.1.1, hR.1.2.1, hR.1.2.2.1, hR.1.2.2.2.1, hR.1.2.2.2.2.1, hy⟩, R2c (fN_k hf 10) (fN_k hf 12) (fN_k hf 13) (E 30 (by decide) (by decide) (by decide)) (E 34 (by decide) (by decide) (by decide)) (E 35 (by decide) (by decide) (by decide)) hR, ?_, R4c (fN_k hf 23) n (E 33 (by decide) (by decide) (by decide)) hR, h5, h6, R7c (fN_k hf 17) (fN_k hf 18) (fN_k hf 19) e36 e37 e43 hR, R8c (fN_k hf 16) (ed_c (E7 3 (by decide)) e36 e37 e43) e44 hR, R9c (fN_k hf 14) (E 45 (by decide) (by decide) (by decide)) hR⟩
  intro c hc
  rw [fN_k hf 2, E 31 (by decide) (by decide) (by decide)]
  exact ⟨(hR.2.2.1 c hc).1, h32 c hc⟩
theorem N_of (hR : RC v a) (hW : WF a) {i : Nat} (hi : i < 17) : Nm v i (lt a i) (ln a i) :=
  ⟨(c_ln hR hW hi).1, (hR.2.2.2.2.2.1 i hi).1, fun k hk => (c_lt hR hW hi hk).1, (hR.2.2.2.2.2.1 i hi).2⟩
end
