/-- what is left of the claim: from contents that keep Inv, every case of the law goes on with Inv, and answers nothing false -/
def LawStep (Inv : gMem → Prop) : Prop := (∀ (s1 s2 s3 : Int32) (v : gMem), Inv v → TC_0 s1 s2 s3 v Inv) ∧ (∀ (s1 s2 s3 : Int32) (v : gMem), Inv v → TC_1 s1 s2 s3 v Inv) ∧ (∀ (s1 s2 s3 : Int32) (v : gMem), Inv v → TC_2 s1 s2 s3 v Inv) ∧ (∀ (s1 s2 s3 : Int32) (v : gMem), Inv v → TC_3 s1 s2 s3 v Inv) ∧ (∀ (s1 s2 s3 : Int32) (v : gMem), Inv v → TC_4 s1 s2 s3 v Inv) ∧ (∀ (s1 s2 s3 : Int32) (v : gMem), Inv v → TC_5 s1 s2 s3 v Inv) ∧ (∀ (s1 s2 s3 : Int32) (v : gMem), Inv v → TC_6 s1 s2 s3 v Inv) ∧ (∀ (s1 s2 s3 : Int32) (v : gMem), Inv v → TC_7 s1 s2 s3 v Inv) ∧ (∀ (s1 s2 s3 : Int32) (v : gMem), Inv v → TC_8 s1 s2 s3 v Inv) ∧ (∀ (s1 s2 s3 : Int32) (v : gMem), Inv v → TC_9 s1 s2 s3 v Inv) ∧ (∀ (s1 s2 s3 : Int32) (v : gMem), Inv v → TC_10 s1 s2 s3 v Inv) ∧ (∀ (s1 s2 s3 : Int32) (v : gMem), Inv v → TC_11 s1 s2 s3 v Inv) ∧ (∀ (s1 s2 s3 : Int32) (v : gMem), Inv v → TC_12 s1 s2 s3 v Inv) ∧ (∀ (s1 s2 s3 : Int32) (v : gMem), Inv v → TC_13 s1 s2 s3 v Inv) ∧ (∀ (s1 s2 s3 : Int32) (v : gMem), Inv v → TC_14 s1 s2 s3 v Inv) ∧ (∀ (s1 s2 s3 : Int32) (v : gMem), Inv v → TC_15 s1 s2 s3 v Inv) ∧ (∀ (s1 s2 s3 : Int32) (v : gMem), Inv v → TC_16 s1 s2 s3 v Inv) ∧ (∀ (s1 s2 s3 : Int32) (v : gMem), Inv v → TC_17 s1 s2 s3 v Inv) ∧ (∀ (s1 s2 s3 : Int32) (v : gMem), Inv v → TC_18 s1 s2 s3 v Inv) ∧ (∀ (s1 s2 s3 : Int32) (v : gMem), Inv v → TC_19 s1 s2 s3 v Inv) ∧ (∀ (s1 s2 s3 : Int32) (v : gMem), Inv v → TC_20 s1 s2 s3 v Inv) ∧ (∀ (s1 s2 s3 : Int32) (v : gMem), Inv v → TC_21 s1 s2 s3 v Inv) ∧ (∀ (s1 s2 s3 : Int32) (v : gMem), Inv v → TC_22 s1 s2 s3 v Inv) ∧ (∀ (s1 s2 s3 : Int32) (v : gMem), Inv v → TC_23 s1 s2 s3 v Inv) ∧ (∀ (s1 s2 s3 : Int32) (v : gMem), Inv v → TC_24 s1 s2 s3 v Inv) ∧ (∀ (s1 s2 s3 : Int32) (v : gMem), Inv v → TC_25 s1 s2 s3 v Inv) ∧ (∀ (s1 s2 s3 : Int32) (v : gMem), Inv v → TC_26 s1 s2 s3 v Inv) ∧ (∀ (s1 s2 s3 : Int32) (v : gMem), Inv v → TC_27 s1 s2 s3 v Inv) ∧ (∀ (s1 s2 s3 : Int32) (v : gMem), Inv v → TC_28 s1 s2 s3 v Inv) ∧ (∀ (s1 s2 s3 : Int32) (v : gMem), Inv v → TC_29 s1 s2 s3 v Inv) ∧ (∀ (s1 s2 s3 : Int32) (v : gMem), Inv v → TC_30 s1 s2 s3 v Inv) ∧ (∀ (s1 s2 s3 : Int32) (v : gMem), Inv v → TC_31 s1 s2 s3 v Inv) ∧ (∀ (s1 s2 s3 : Int32) (v : gMem), Inv v → TC_32 s1 s2 s3 v Inv) ∧ (∀ (s1 s2 s3 : Int32) (v : gMem), Inv v → TC_33 s1 s2 s3 v Inv) ∧ (∀ (s1 s2 s3 : Int32) (v : gMem), Inv v → TC_34 s1 s2 s3 v Inv) ∧ (∀ (s1 s2 s3 : Int32) (v : gMem), Inv v → TC_35 s1 s2 s3 v Inv) ∧ (∀ (s1 s2 s3 : Int32) (v : gMem), Inv v → TC_36 s1 s2 s3 v Inv) ∧ (∀ (s1 s2 s3 : Int32) (v : gMem), Inv v → TC_37 s1 s2 s3 v Inv) ∧ (∀ (s1 s2 s3 : Int32) (v : gMem), Inv v → TC_38 s1 s2 s3 v Inv) ∧ (∀ (s1 s2 s3 : Int32) (v : gMem), Inv v → TC_39 s1 s2 s3 v Inv) ∧ (∀ (s1 s2 s3 : Int32) (v : gMem), Inv v → TC_40 s1 s2 s3 v Inv) ∧ (∀ (s1 s2 s3 : Int32) (v : gMem), Inv v → TC_41 s1 s2 s3 v Inv) ∧ (∀ (s1 s2 s3 : Int32) (v : gMem), Inv v → TC_42 s1 s2 s3 v Inv) ∧ (∀ (s1 s2 s3 : Int32) (v : gMem), Inv v → TC_43 s1 s2 s3 v Inv)
section
variable {p : Program} {l : Launch} {e : Env} {s : State} {m : MethodId} {args : Array Value} {below : List Frame} {meth : Method} {c : Code} {L : gL} {sz : Nat}
set_option maxHeartbeats 1000000 in
theorem law_loop (C : gC p l s m args meth c cL_law 8 RL L sz) {b Ln : Nat} {xs : Nat → Int32} (hX : va_X b Ln xs s s.heap) (hbl : b < s.heap.size) (hbA : ¬ gA L sz b) (hL : Ln ≤ 2048) {Inv : gMem → Prop} (hI : LawStep Inv) {Q0 : State → Prop}
    (hend : ∀ (v : gMem) (lv : List (Nat × Value)) (ce sl : Nat), ce ≤ 602775 → sl ≤ 7287779 → gS p l e room_1 s m args below meth c 8 L sz Q0 ce sl 2768 lv [.int 1] v) :
    ∀ (n k : Nat), 513 ≤ k + n → k ≤ 512 → 4 * k ≤ Ln + 3 → ∀ v : gMem, Inv v → gS p l e room_1 s m args below meth c 8 L sz Q0 (122 + 60 * k) (1426 + 360 * k) 28 [(0, .ref b), (1, .ref (L.2.1 6 0)), (2, .ref (L.2.1 7 0)), (3, .ref (L.2.1 50 0)), (4, .ref (L.2.1 51 0)), (5, .int (nI (4 * k)))] [] v := by
  intro n
  induction n with
  | zero => intro k h1 h2; omega
  | succ n ih =>
    intro k h1 h2 h3 v hv
    refine g_iload C 5 rfl dL_law_28 ?_
    refine g_aload_n C 0 rfl 0 rfl dL_law_30 ?_
    refine g_slen C hX hbl hbA dL_law_31 ?_
    refine g_iconst C 4 (by decide) dL_law_32 ?_
    refine g_isub C dL_law_33 ?_
    have hLt : (Int32.ofNat Ln - 4 : Int32).toInt = (Ln : Int) - 4 := by
      have := pk_sub_toInt (a := Ln) (b := 4) (by omega) (by omega)
      exact this
    have hkt : (nI (4 * k)).toInt = ((4 * k : Nat) : Int) := nI_toInt (by omega)
    refine g_icmp_gt C 2767 (by decide) dL_law_34 (fun hc => ?_) (fun hc => ?_)
    · refine g_iconst C 1 (by decide) dL_law_2767 ?_
      exact hend v _ _ _ (by omega) (by omega)
    · have hk4 : 4 * k + 4 ≤ Ln := by
        rw [Int32.lt_iff_toInt_lt, hLt, hkt] at hc
        omega
      have hk511 : k ≤ 511 := by omega
      have hin : ∀ j, j < 4 → vp_in (nI (4 * k + j)) Ln := fun j hj => vp_in_nI (by omega) (by omega)
      have e0 : vp_in (nI (4 * k)) Ln := hin 0 (by omega)
      have h1' : vp_in (nI (4 * k) + 1) Ln := by rw [nI_1]; exact hin 1 (by omega)
      have h2' : vp_in (nI (4 * k) + 2) Ln := by rw [show (2 : Int32) = nI 2 from rfl, nI_add]; exact hin 2 (by omega)
      have h3' : vp_in (nI (4 * k) + 3) Ln := by rw [show (3 : Int32) = nI 3 from rfl, nI_add]; exact hin 3 (by omega)
      have hK : ∀ v, Inv v → gS p l e room_1 s m args below meth c 8 L sz Q0 (122 + 60 * k + 60) (1426 + 360 * k + 360) 2761 [(0, .ref b), (1, .ref (L.2.1 6 0)), (2, .ref (L.2.1 7 0)), (3, .ref (L.2.1 50 0)), (4, .ref (L.2.1 51 0)), (5, .int (nI (4 * k)))] [] v := by
        intro v hv
        refine g_iinc C (k := 5) (n := 4) (nI (4 * (k + 1))) [(5, .int (nI (4 * (k + 1)))), (0, .ref b), (1, .ref (L.2.1 6 0)), (2, .ref (L.2.1 7 0)), (3, .ref (L.2.1 50 0)), (4, .ref (L.2.1 51 0))] rfl (show nI (4 * k) + nI 4 = _ from nI_add _ _) (Nat.le_of_ble_eq_true rfl) rfl dL_law_2761 ?_
        refine g_goto C 28 (by decide) dL_law_2764 ?_
        refine g_sub [(0, .ref b), (1, .ref (L.2.1 6 0)), (2, .ref (L.2.1 7 0)), (3, .ref (L.2.1 50 0)), (4, .ref (L.2.1 51 0)), (5, .int (nI (4 * (k + 1))))] [1, 2, 3, 4, 5, 0] rfl ?_
        refine g_widen (122 + 60 * (k + 1)) (1426 + 360 * (k + 1)) (by omega) (by omega) ?_
        exact ih (k + 1) (by omega) (by omega) (by omega) v hv
      refine g_aload_n C 0 rfl 0 rfl dL_law_37 ?_
      refine g_iload C 5 rfl dL_law_38 ?_
      refine g_sld C hX hbl hbA _ e0 rfl dL_law_40 ?_
      refine g_bipush C 63 (by decide) dL_law_41 ?_
      refine g_iand C dL_law_43 ?_
      generalize (xs (nI (4 * k)).toNatClampNeg &&& 63 : Int32) = op
      refine g_switch C dL_law_44 (fun _ => ⟨2761, by decide, g_widen _ _ (by omega) (by omega) (hK v hv)⟩) (fun q1 q2 => ?_)
      obtain ⟨j, hj⟩ : ∃ j : Nat, op.toInt = (j : Int) := ⟨op.toInt.toNat, by omega⟩
      have hj2 : j < 44 := by omega
      rw [hj]
      have hs1 := hI
      unfold LawStep at hs1
      rcases (show j = 0 ∨ j = 1 ∨ j = 2 ∨ j = 3 ∨ j = 4 ∨ j = 5 ∨ j = 6 ∨ j = 7 ∨ j = 8 ∨ j = 9 ∨ j = 10 ∨ j = 11 ∨ j = 12 ∨ j = 13 ∨ j = 14 ∨ j = 15 ∨ j = 16 ∨ j = 17 ∨ j = 18 ∨ j = 19 ∨ j = 20 ∨ j = 21 ∨ j = 22 ∨ j = 23 ∨ j = 24 ∨ j = 25 ∨ j = 26 ∨ j = 27 ∨ j = 28 ∨ j = 29 ∨ j = 30 ∨ j = 31 ∨ j = 32 ∨ j = 33 ∨ j = 34 ∨ j = 35 ∨ j = 36 ∨ j = 37 ∨ j = 38 ∨ j = 39 ∨ j = 40 ∨ j = 41 ∨ j = 42 ∨ j = 43 by omega) with rfl | rfl | rfl | rfl | rfl | rfl | rfl | rfl | rfl | rfl | rfl | rfl | rfl | rfl | rfl | rfl | rfl | rfl | rfl | rfl | rfl | rfl | rfl | rfl | rfl | rfl | rfl | rfl | rfl | rfl | rfl | rfl | rfl | rfl | rfl | rfl | rfl | rfl | rfl | rfl | rfl | rfl | rfl | rfl
      · exact ⟨192, 236, rfl, by decide, kC_0 C hX hbl hbA h1' h2' h3' rfl rfl rfl (by omega) (by omega) hK (hs1.1 _ _ _ v hv)⟩
      · exact ⟨248, 292, rfl, by decide, kC_1 C hX hbl hbA h1' h2' h3' rfl rfl rfl (by omega) (by omega) hK (hs1.2.1 _ _ _ v hv)⟩
      · exact ⟨316, 360, rfl, by decide, kC_2 C hX hbl hbA h1' h2' h3' rfl rfl rfl (by omega) (by omega) hK (hs1.2.2.1 _ _ _ v hv)⟩
      · exact ⟨372, 416, rfl, by decide, kC_3 C hX hbl hbA h1' h2' h3' rfl rfl rfl (by omega) (by omega) hK (hs1.2.2.2.1 _ _ _ v hv)⟩
      · exact ⟨385, 429, rfl, by decide, kC_4 C hX hbl hbA h1' h2' h3' rfl rfl rfl (by omega) (by omega) hK (hs1.2.2.2.2.1 _ _ _ v hv)⟩
      · exact ⟨455, 499, rfl, by decide, kC_5 C hX hbl hbA h1' h2' h3' rfl rfl rfl (by omega) (by omega) hK (hs1.2.2.2.2.2.1 _ _ _ v hv)⟩
      · exact ⟨511, 555, rfl, by decide, kC_6 C hX hbl hbA h1' h2' h3' rfl rfl rfl (by omega) (by omega) hK (hs1.2.2.2.2.2.2.1 _ _ _ v hv)⟩
      · exact ⟨591, 635, rfl, by decide, kC_7 C hX hbl hbA h1' h2' h3' rfl rfl rfl (by omega) (by omega) hK (hs1.2.2.2.2.2.2.2.1 _ _ _ v hv)⟩
      · exact ⟨647, 691, rfl, by decide, kC_8 C hX hbl hbA h1' h2' h3' rfl rfl rfl (by omega) (by omega) hK (hs1.2.2.2.2.2.2.2.2.1 _ _ _ v hv)⟩
      · exact ⟨715, 759, rfl, by decide, kC_9 C hX hbl hbA h1' h2' h3' rfl rfl rfl (by omega) (by omega) hK (hs1.2.2.2.2.2.2.2.2.2.1 _ _ _ v hv)⟩
      · exact ⟨783, 827, rfl, by decide, kC_10 C hX hbl hbA h1' h2' h3' rfl rfl rfl (by omega) (by omega) hK (hs1.2.2.2.2.2.2.2.2.2.2.1 _ _ _ v hv)⟩
      · exact ⟨851, 895, rfl, by decide, kC_11 C hX hbl hbA h1' h2' h3' rfl rfl rfl (by omega) (by omega) hK (hs1.2.2.2.2.2.2.2.2.2.2.2.1 _ _ _ v hv)⟩
      · exact ⟨931, 975, rfl, by decide, kC_12 C hX hbl hbA h1' h2' h3' rfl rfl rfl (by omega) (by omega) hK (hs1.2.2.2.2.2.2.2.2.2.2.2.2.1 _ _ _ v hv)⟩
      · exact ⟨987, 1031, rfl, by decide, kC_13 C hX hbl hbA h1' h2' h3' rfl rfl rfl (by omega) (by omega) hK (hs1.2.2.2.2.2.2.2.2.2.2.2.2.2.1 _ _ _ v hv)⟩
      · exact ⟨1055, 1099, rfl, by decide, kC_14 C hX hbl hbA h1' h2' h3' rfl rfl rfl (by omega) (by omega) hK (hs1.2.2.2.2.2.2.2.2.2.2.2.2.2.2.1 _ _ _ v hv)⟩
      · exact ⟨1068, 1112, rfl, by decide, kC_15 C hX hbl hbA h1' h2' h3' rfl rfl rfl (by omega) (by omega) hK (hs1.2.2.2.2.2.2.2.2.2.2.2.2.2.2.2.1 _ _ _ v hv)⟩
      · exact ⟨1112, 1156, rfl, by decide, kC_16 C hX hbl hbA h1' h2' h3' rfl rfl rfl (by omega) (by omega) hK (hs1.2.2.2.2.2.2.2.2.2.2.2.2.2.2.2.2.1 _ _ _ v hv)⟩
      · exact ⟨1156, 1200, rfl, by decide, kC_17 C hX hbl hbA h1' h2' h3' rfl rfl rfl (by omega) (by omega) hK (hs1.2.2.2.2.2.2.2.2.2.2.2.2.2.2.2.2.2.1 _ _ _ v hv)⟩
      · exact ⟨1200, 1244, rfl, by decide, kC_18 C hX hbl hbA h1' h2' h3' rfl rfl rfl (by omega) (by omega) hK (hs1.2.2.2.2.2.2.2.2.2.2.2.2.2.2.2.2.2.2.1 _ _ _ v hv)⟩
      · exact ⟨1244, 1288, rfl, by decide, kC_19 C hX hbl hbA h1' h2' h3' rfl rfl rfl (by omega) (by omega) hK (hs1.2.2.2.2.2.2.2.2.2.2.2.2.2.2.2.2.2.2.2.1 _ _ _ v hv)⟩
      · exact ⟨1312, 1356, rfl, by decide, kC_20 C hX hbl hbA h1' h2' h3' rfl rfl rfl (by omega) (by omega) hK (hs1.2.2.2.2.2.2.2.2.2.2.2.2.2.2.2.2.2.2.2.2.1 _ _ _ v hv)⟩
      · exact ⟨1380, 1424, rfl, by decide, kC_21 C hX hbl hbA h1' h2' h3' rfl rfl rfl (by omega) (by omega) hK (hs1.2.2.2.2.2.2.2.2.2.2.2.2.2.2.2.2.2.2.2.2.2.1 _ _ _ v hv)⟩
      · exact ⟨1448, 1492, rfl, by decide, kC_22 C hX hbl hbA h1' h2' h3' rfl rfl rfl (by omega) (by omega) hK (hs1.2.2.2.2.2.2.2.2.2.2.2.2.2.2.2.2.2.2.2.2.2.2.1 _ _ _ v hv)⟩
      · exact ⟨1516, 1560, rfl, by decide, kC_23 C hX hbl hbA h1' h2' h3' rfl rfl rfl (by omega) (by omega) hK (hs1.2.2.2.2.2.2.2.2.2.2.2.2.2.2.2.2.2.2.2.2.2.2.2.1 _ _ _ v hv)⟩
      · exact ⟨1584, 1628, rfl, by decide, kC_24 C hX hbl hbA h1' h2' h3' rfl rfl rfl (by omega) (by omega) hK (hs1.2.2.2.2.2.2.2.2.2.2.2.2.2.2.2.2.2.2.2.2.2.2.2.2.1 _ _ _ v hv)⟩
      · exact ⟨1652, 1696, rfl, by decide, kC_25 C hX hbl hbA h1' h2' h3' rfl rfl rfl (by omega) (by omega) hK (hs1.2.2.2.2.2.2.2.2.2.2.2.2.2.2.2.2.2.2.2.2.2.2.2.2.2.1 _ _ _ v hv)⟩
      · exact ⟨1696, 1740, rfl, by decide, kC_26 C hX hbl hbA h1' h2' h3' rfl rfl rfl (by omega) (by omega) hK (hs1.2.2.2.2.2.2.2.2.2.2.2.2.2.2.2.2.2.2.2.2.2.2.2.2.2.2.1 _ _ _ v hv)⟩
      · exact ⟨1752, 1796, rfl, by decide, kC_27 C hX hbl hbA h1' h2' h3' rfl rfl rfl (by omega) (by omega) hK (hs1.2.2.2.2.2.2.2.2.2.2.2.2.2.2.2.2.2.2.2.2.2.2.2.2.2.2.2.1 _ _ _ v hv)⟩
      · exact ⟨1815, 1859, rfl, by decide, kC_28 C hX hbl hbA h1' h2' h3' rfl rfl rfl (by omega) (by omega) hK (hs1.2.2.2.2.2.2.2.2.2.2.2.2.2.2.2.2.2.2.2.2.2.2.2.2.2.2.2.2.1 _ _ _ v hv)⟩
      · exact ⟨1883, 1927, rfl, by decide, kC_29 C hX hbl hbA h1' h2' h3' rfl rfl rfl (by omega) (by omega) hK (hs1.2.2.2.2.2.2.2.2.2.2.2.2.2.2.2.2.2.2.2.2.2.2.2.2.2.2.2.2.2.1 _ _ _ v hv)⟩
      · exact ⟨1939, 1983, rfl, by decide, kC_30 C hX hbl hbA h1' h2' h3' rfl rfl rfl (by omega) (by omega) hK (hs1.2.2.2.2.2.2.2.2.2.2.2.2.2.2.2.2.2.2.2.2.2.2.2.2.2.2.2.2.2.2.1 _ _ _ v hv)⟩
      · exact ⟨1995, 2039, rfl, by decide, kC_31 C hX hbl hbA h1' h2' h3' rfl rfl rfl (by omega) (by omega) hK (hs1.2.2.2.2.2.2.2.2.2.2.2.2.2.2.2.2.2.2.2.2.2.2.2.2.2.2.2.2.2.2.2.1 _ _ _ v hv)⟩
      · exact ⟨2008, 2052, rfl, by decide, kC_32 C hX hbl hbA h1' h2' h3' rfl rfl rfl (by omega) (by omega) hK (hs1.2.2.2.2.2.2.2.2.2.2.2.2.2.2.2.2.2.2.2.2.2.2.2.2.2.2.2.2.2.2.2.2.1 _ _ _ v hv)⟩
      · exact ⟨2064, 2108, rfl, by decide, kC_33 C hX hbl hbA h1' h2' h3' rfl rfl rfl (by omega) (by omega) hK (hs1.2.2.2.2.2.2.2.2.2.2.2.2.2.2.2.2.2.2.2.2.2.2.2.2.2.2.2.2.2.2.2.2.2.1 _ _ _ v hv)⟩
      · exact ⟨2132, 2176, rfl, by decide, kC_34 C hX hbl hbA h1' h2' h3' rfl rfl rfl (by omega) (by omega) hK (hs1.2.2.2.2.2.2.2.2.2.2.2.2.2.2.2.2.2.2.2.2.2.2.2.2.2.2.2.2.2.2.2.2.2.2.1 _ _ _ v hv)⟩
      · exact ⟨2188, 2232, rfl, by decide, kC_35 C hX hbl hbA h1' h2' h3' rfl rfl rfl (by omega) (by omega) hK (hs1.2.2.2.2.2.2.2.2.2.2.2.2.2.2.2.2.2.2.2.2.2.2.2.2.2.2.2.2.2.2.2.2.2.2.2.1 _ _ _ v hv)⟩
      · exact ⟨2256, 2300, rfl, by decide, kC_36 C hX hbl hbA h1' h2' h3' rfl rfl rfl (by omega) (by omega) hK (hs1.2.2.2.2.2.2.2.2.2.2.2.2.2.2.2.2.2.2.2.2.2.2.2.2.2.2.2.2.2.2.2.2.2.2.2.2.1 _ _ _ v hv)⟩
      · exact ⟨2324, 2368, rfl, by decide, kC_37 C hX hbl hbA h1' h2' h3' rfl rfl rfl (by omega) (by omega) hK (hs1.2.2.2.2.2.2.2.2.2.2.2.2.2.2.2.2.2.2.2.2.2.2.2.2.2.2.2.2.2.2.2.2.2.2.2.2.2.1 _ _ _ v hv)⟩
      · exact ⟨2399, 2443, rfl, by decide, kC_38 C hX hbl hbA h1' h2' h3' rfl rfl rfl (by omega) (by omega) hK (hs1.2.2.2.2.2.2.2.2.2.2.2.2.2.2.2.2.2.2.2.2.2.2.2.2.2.2.2.2.2.2.2.2.2.2.2.2.2.2.1 _ _ _ v hv)⟩
      · exact ⟨2455, 2499, rfl, by decide, kC_39 C hX hbl hbA h1' h2' h3' rfl rfl rfl (by omega) (by omega) hK (hs1.2.2.2.2.2.2.2.2.2.2.2.2.2.2.2.2.2.2.2.2.2.2.2.2.2.2.2.2.2.2.2.2.2.2.2.2.2.2.2.1 _ _ _ v hv)⟩
      · exact ⟨2513, 2557, rfl, by decide, kC_40 C hX hbl hbA h1' h2' h3' rfl rfl rfl (by omega) (by omega) hK (hs1.2.2.2.2.2.2.2.2.2.2.2.2.2.2.2.2.2.2.2.2.2.2.2.2.2.2.2.2.2.2.2.2.2.2.2.2.2.2.2.2.1 _ _ _ v hv)⟩
      · exact ⟨2526, 2570, rfl, by decide, kC_41 C hX hbl hbA h1' h2' h3' rfl rfl rfl (by omega) (by omega) hK (hs1.2.2.2.2.2.2.2.2.2.2.2.2.2.2.2.2.2.2.2.2.2.2.2.2.2.2.2.2.2.2.2.2.2.2.2.2.2.2.2.2.2.1 _ _ _ v hv)⟩
      · exact ⟨2567, 2611, rfl, by decide, kC_42 C hX hbl hbA h1' h2' h3' rfl rfl rfl (by omega) (by omega) hK (hs1.2.2.2.2.2.2.2.2.2.2.2.2.2.2.2.2.2.2.2.2.2.2.2.2.2.2.2.2.2.2.2.2.2.2.2.2.2.2.2.2.2.2.1 _ _ _ v hv)⟩
      · exact ⟨2651, 2695, rfl, by decide, kC_43 C hX hbl hbA h1' h2' h3' rfl rfl rfl (by omega) (by omega) hK (hs1.2.2.2.2.2.2.2.2.2.2.2.2.2.2.2.2.2.2.2.2.2.2.2.2.2.2.2.2.2.2.2.2.2.2.2.2.2.2.2.2.2.2.2 _ _ _ v hv)⟩
end
