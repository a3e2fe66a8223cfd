/-! ===== mergedShare ===== -/
theorem fp_all : ∀ n, n < 17 → 1 ≤ n → ∀ m, m < 17 → (FP.fdiv (FP.i2f (nI m)) (FP.i2f (nI n))) &&& 0x7fffffff ≤ 0x7f800000 ∧ (FP.f2d (FP.fdiv (FP.i2f (nI m)) (FP.i2f (nI n)))) &&& 0x7fffffffffffffff ≤ 0x7ff0000000000000 ∧ Op.cmpValue (FP.dcmp (FP.f2d (FP.fdiv (FP.i2f (nI m)) (FP.i2f (nI n)))) (FP.f2d (FP.fdiv (FP.i2f (nI m)) (FP.i2f (nI n))))) CmpOp.l = 0 := by decide +kernel
def mcK (a : gMem) (k : Nat) : Nat := fb_ct (fun i => decide (1 < fb_ct (cn (ed a) i) 16)) k
def shr (a : gMem) : UInt32 := FP.fdiv (FP.i2f (nI (mcK a (nc a)))) (FP.i2f (nI (nc a)))
section
variable {a v : gMem}
theorem mc_s {k : Nat} : mcK a (k + 1) = mcK a k + (if 1 < fb_ct (cn (ed a) k) 16 then 1 else 0) := by
  unfold mcK
  rw [fb_ct_succ]
  by_cases q : 1 < fb_ct (cn (ed a) k) 16
  · rw [if_pos q, decide_eq_true q, if_pos rfl]
  · rw [if_neg q, decide_eq_false q, if_neg (show ¬ (false = true) by decide)]
theorem mc_le (k : Nat) : mcK a k ≤ k := fb_ct_le _ _
theorem shr_n (hW : WF a) (h : ¬ nc a = 0) : vf_n32 (shr a) ∧ vf_n64 (FP.f2d (shr a)) ∧ Op.cmpValue (FP.dcmp (FP.f2d (shr a)) (FP.f2d (shr a))) CmpOp.l = 0 := by
  have h16 := hW.1.2.2.2.1
  have h2 := mc_le (a := a) (nc a)
  exact fp_all (nc a) (by omega) (by omega) (mcK a (nc a)) (by omega)
theorem r_share (hR : RC v a) (hW : WF a) {Q : UInt32 → gMem → Prop} {X : String → gMem → Prop} (hn : ¬ nc a = 0) (h : Q (shr a) v) : LX6_mergedShare_22 0 0 v Q X := by
  have h16 := hW.1.2.2.2.1
  unfold LX6_mergedShare_22
  intro I hI
  have key : ∀ k, k ≤ nc a → I (nI (mcK a k)) (nI k) v := up_to
    (by
      apply hI
      unfold BX6_mergedShare_22
      rw [c_nc hR hW]
      exact ⟨fun _ => ⟨(shr_n hW hn).1, h⟩, fun n => absurd ((leI (by omega) (by omega)).mpr (Nat.le_refl _)) n⟩)
    (by
      intro k hk ih
      have hmk := mc_le (a := a) k
      apply hI
      unfold BX6_mergedShare_22 BX6_mergedShare_48
      rw [c_nc hR hW]
      refine ⟨fun n => absurd ((leI (by omega) (by omega)).mp n) (by omega), fun _ => ?_⟩
      apply r_joined (c_ed hR) (by omega)
      apply r_bitCount
      have hct := fb_ct_le (cn (ed a) k) 16
      rw [nI_1 k, nI_1 (mcK a k)]
      rw [mc_s] at ih
      refine ⟨fun q => ?_, fun q => ?_⟩
      · have q2 : fb_ct (cn (ed a) k) 16 ≤ 1 := (leI (b := 1) (by omega) (by decide)).mp q
        rw [if_neg (by omega)] at ih
        exact ih
      · have q2 : 1 < fb_ct (cn (ed a) k) 16 := by
          apply Classical.byContradiction
          intro r
          exact q ((leI (b := 1) (by omega) (by decide)).mpr (by omega))
        rw [if_pos q2] at ih
        exact ih)
  exact key 0 (by omega)
theorem m_share (hM : RM v a) (hW : WF a) (hG : GA a v) {Q : UInt32 → gMem → Prop} {X : String → gMem → Prop} (hn : ¬ nc a = 0) (h : Q (shr a) v) : LX7_mergedShare_33 0 0 v Q X := by
  have h16 := hW.1.2.2.2.1
  unfold LX7_mergedShare_33
  intro I hI
  have key : ∀ k, k ≤ nc a → I (nI (mcK a k)) (nI k) v := up_to
    (by
      apply hI
      unfold BX7_mergedShare_33
      rw [m_nc hM hW]
      exact ⟨fun _ => ⟨(shr_n hW hn).1, h⟩, fun n => absurd ((leI (by omega) (by omega)).mpr (Nat.le_refl _)) n⟩)
    (by
      intro k hk ih
      have hmk := mc_le (a := a) k
      apply hI
      unfold BX7_mergedShare_33 BX7_mergedShare_61
      rw [m_nc hM hW]
      refine ⟨fun n => absurd ((leI (by omega) (by omega)).mp n) (by omega), fun _ => ⟨in_nI (by omega), ?_⟩⟩
      rw [clI (by omega), hG k hk]
      apply m_sizeOf hM hW hG hk
      have hct := fb_ct_le (cn (ed a) k) 16
      have e0 : nI (mcK a k) + 0 = nI (mcK a k) := Int32.add_zero _
      rw [nI_1 k, nI_1 (mcK a k), e0]
      rw [mc_s] at ih
      refine ⟨fun q => ?_, fun q => ?_⟩
      · have q2 : fb_ct (cn (ed a) k) 16 ≤ 1 := (leI (b := 1) (by omega) (by decide)).mp q
        rw [if_neg (by omega)] at ih
        exact ih
      · have q2 : 1 < fb_ct (cn (ed a) k) 16 := by
          apply Classical.byContradiction
          intro r
          exact q ((leI (b := 1) (by omega) (by decide)).mpr (by omega))
        rw [if_pos q2] at ih
        exact ih)
  exact key 0 (by omega)
theorem m_shareGo (hM : RM v a) (hW : WF a) {Q : UInt32 → gMem → Prop} {X : String → gMem → Prop} (hy : ¬ nc a = 0 → ∀ w, fM v w → w 7 0 0 = 0 → Q (shr a) w) (hn : nc a = 0 → Q FP.fconst0 (T0 v 1)) : TX7_mergedShare v Q X := by
  have h16 := hW.1.2.2.2.1
  unfold TX7_mergedShare BX7_mergedShare_13
  have e0 : ∀ x, gw v 7 0 0 x 7 0 2 = nI (nc a) := fun x => m_nc (RM_0 hM) hW
  have ez : nI (nc a) = 0 ↔ nc a = 0 := eqI (b := 0) (by omega) (by decide)
  rw [m_nc hM hW, e0, e0, ez]
  refine ⟨fun q => ⟨fun _ => ?_, fun r => absurd r q⟩, fun q => ⟨fun r => absurd q r, fun _ => hn q⟩⟩
  have hM2 : RM (gw v 7 0 0 0) a := RM_0 hM
  apply m_gather hM2 hW
  intro w hw hG
  apply m_share (RM_M hM2 (fL_M hw)) hW hG q
  exact hy q w (fM_tr (T0_M v 0) (fL_M hw)) (by rw [hw 7 (by omega), gw_same])
end
theorem t43 : ∀ s1 s2 s3 v, Inv v → TC_43 s1 s2 s3 v Inv := by
  rintro s1 s2 s3 v ⟨a, hR, hM, hW⟩
  have h16 := hW.1.2.2.2.1
  unfold TC_43 TL_mergedShare TX6_mergedShare
  have ez : nI (nc a) = 0 ↔ nc a = 0 := eqI (b := 0) (by omega) (by decide)
  rw [c_nc hR hW, ez]
  refine ⟨fun hn => ?_, fun hz => ⟨rfl, ?_⟩⟩
  · apply r_share hR hW hn
    have s := shr_n hW hn
    refine ⟨s.2.1, ?_⟩
    have f := fI_out v (k := 51) 0 0 (UInt32.toInt32 (shr a)) (by decide)
    apply m_shareGo (RM_I hM f) hW
    · intro _ w hw w7
      have hI : Inv w := Inv_I hR hM hW (fI_tr f (fM_I hw))
      have w51 : Int32.toUInt32 (w 51 0 0) = shr a := by
        rw [hw.1 51 (by omega), gw_same]
        rfl
      unfold TX7_thrown
      refine ⟨fun _ => ⟨fun q => absurd rfl q, fun _ => ⟨s.2.1, fun _ => hI, fun q => ?_⟩⟩, fun n => n w7⟩
      rw [w51] at q
      exact absurd s.2.2 q
    · intro z
      exact absurd z hn
  · apply m_shareGo hM hW
    · intro z
      exact absurd hz z
    · intro _
      unfold TX7_thrown
      refine ⟨fun _ => ⟨fun _ => Inv_I hR hM hW (fM_I (T0_M v 1)), fun q => absurd q (by decide)⟩, fun n => n (T0_0 _ _)⟩
