section
variable {p : Program} {l : Launch} {e : Env} {s : State} {m : MethodId} {args : Array Value} {below : List Frame} {meth : Method} {c : Code} {L : gL} {sz : Nat}
def BX7_forbid_65 (v : gMem) (Q : Int32 → gMem → Prop) (X : String → gMem → Prop) : Prop := (TX7_fail 4 v (fun r67 v67 => (Q r67 v67)) X)
theorem sX7_forbid_65 (C : gC p l s m args meth c cX7_forbid 3 RX7 L sz) (hr : meth.sig.returnType = (some .int)) (hno : ∀ x ∈ c.exceptionTable.toList, False) {v : gMem} {Q : Int32 → gMem → Prop} {X : String → gMem → Prop} (h : BX7_forbid_65 v Q X) : gS p l e ({ frames := 3, cells := 0, slots := 0, locals := 65 } : Room) s m args below meth c 3 L sz (vx_MQ below (gQi L sz Q) (gXC L sz X) args s 0 0 (gA L sz)) 0 0 65 [(0, .ref (L.2.1 7 0))] [] v := by
  unfold BX7_forbid_65 at h
  refine g_aload_n C 0 rfl 0 rfl dX7_forbid_65 ?_
  refine g_iconst C 4 (by decide) dX7_forbid_66 ?_
  refine g_callVi C hno gok_7 rfl rfl [.int 4] (fun sz9 => kX7_fail l C.2.2.2.2.2.2.1 L C.2.2.2.2.2.2.2.1 4 v _ X h sz9) wml_RX7_78 winst_X7_fail wsel_X7_fail wini_RX7 wcode_X7_fail rfl rfl (n := 1) (by decide +kernel) rfl ⟨(Nat.le_of_ble_eq_true rfl), (Nat.le_of_ble_eq_true rfl)⟩ ⟨(Nat.le_of_ble_eq_true rfl), (Nat.le_of_ble_eq_true rfl)⟩ ⟨(Nat.le_of_ble_eq_true rfl), (Nat.le_of_ble_eq_true rfl)⟩ (Nat.le_of_ble_eq_true rfl) dX7_forbid_67 (fun r67 v67 h => ?_)
  exact g_iret C hr rfl (Nat.le_of_ble_eq_true rfl) (Nat.le_of_ble_eq_true rfl) h dX7_forbid_70
def TX7_forbid (L1 : Int32) (L2 : Int32) (v : gMem) (Q : Int32 → gMem → Prop) (X : String → gMem → Prop) : Prop := (TX7_noCards L1 L2 v (fun r3 v3 => ((r3 = 0 → ((¬ L1 = L2 → (TX7_gather v3 (fun v23 => (vp_in L1 16 ∧ (vp_in L2 16 ∧ ((¬ (v23 38 0 (Int32.toNatClampNeg L1)) = (v23 38 0 (Int32.toNatClampNeg L2)) → (TX7_isPair L1 L2 v23 (fun r50 v50 => ((¬ r50 = 0 → (BX7_forbid_65 v50 Q X)) ∧ (r50 = 0 → ((¬ (v50 7 0 4) = 12 → (vp_in ((16 * L1) + L2) 256 ∧ (vp_in ((16 * L2) + L1) 256 ∧ (Q (((gw (gw v50 44 0 (Int32.toNatClampNeg ((16 * L1) + L2)) (vp_nar .boolean 1)) 44 0 (Int32.toNatClampNeg ((16 * L2) + L1)) (vp_nar .boolean 1)) 7 0 4) + 1) (gw (gw (gw v50 44 0 (Int32.toNatClampNeg ((16 * L1) + L2)) (vp_nar .boolean 1)) 44 0 (Int32.toNatClampNeg ((16 * L2) + L1)) (vp_nar .boolean 1)) 7 0 4 (((gw (gw v50 44 0 (Int32.toNatClampNeg ((16 * L1) + L2)) (vp_nar .boolean 1)) 44 0 (Int32.toNatClampNeg ((16 * L2) + L1)) (vp_nar .boolean 1)) 7 0 4) + 1)))))) ∧ ((v50 7 0 4) = 12 → (BX7_forbid_65 v50 Q X)))))) X)) ∧ ((v23 38 0 (Int32.toNatClampNeg L1)) = (v23 38 0 (Int32.toNatClampNeg L2)) → (TX7_fail 3 v23 (fun r43 v43 => (Q r43 v43)) X)))))) X)) ∧ (L1 = L2 → (TX7_fail 2 v3 (fun r18 v18 => (Q r18 v18)) X)))) ∧ (¬ r3 = 0 → (Q 0 v3)))) X)
theorem kX7_forbid (l : Launch) (hfl : l.stackTraces = false) (L : gL) (hL : gDist L) (L1 : Int32) (L2 : Int32) (v : gMem) (Q : Int32 → gMem → Prop) (X : String → gMem → Prop) (h : TX7_forbid L1 L2 v Q X) (sz : Nat) : vx_Met l yX7_forbid [.code yX7_forbid cX7_forbid 3 (some .int)] ({ frames := 3, cells := 0, slots := 0, locals := 65 } : Room) (gPc L sz [.ref (L.2.1 7 0), .int L1, .int L2] v) (gQi L sz Q) (gXC L sz X) 0 0 (gA L sz) := by
  refine g_ofW (by decide +kernel) hfl hL (Nat.le_of_ble_eq_true rfl) ?_
  intro p e s m args below meth c C hr hno
  refine g_sub [(0, .ref (L.2.1 7 0)), (1, .int L1), (2, .int L2)] [0, 1, 2] rfl ?_
  unfold TX7_forbid at h
  refine g_aload_n C 0 rfl 0 rfl dX7_forbid_0 ?_
  refine g_iload_n C 1 rfl 1 rfl dX7_forbid_1 ?_
  refine g_iload_n C 2 rfl 2 rfl dX7_forbid_2 ?_
  refine g_callVi C hno gok_7 rfl rfl [.int L1, .int L2] (fun sz9 => kX7_noCards l C.2.2.2.2.2.2.1 L C.2.2.2.2.2.2.2.1 L1 L2 v _ X h sz9) wml_RX7_108 winst_X7_noCards wsel_X7_noCards wini_RX7 wcode_X7_noCards rfl rfl (n := 2) (by decide +kernel) rfl ⟨(Nat.le_of_ble_eq_true rfl), (Nat.le_of_ble_eq_true rfl)⟩ ⟨(Nat.le_of_ble_eq_true rfl), (Nat.le_of_ble_eq_true rfl)⟩ ⟨(Nat.le_of_ble_eq_true rfl), (Nat.le_of_ble_eq_true rfl)⟩ (Nat.le_of_ble_eq_true rfl) dX7_forbid_3 (fun r3 v3 h => ?_)
  refine g_if_eq C 11 (by decide) dX7_forbid_6 (fun hc => ?_) (fun hc => ?_)
  · replace h := h.1 hc
    refine g_iload_n C 1 rfl 1 rfl dX7_forbid_11 ?_
    refine g_iload_n C 2 rfl 2 rfl dX7_forbid_12 ?_
    refine g_icmp_ne C 22 (by decide) dX7_forbid_13 (fun hc => ?_) (fun hc => ?_)
    · replace h := h.1 hc
      refine g_aload_n C 0 rfl 0 rfl dX7_forbid_22 ?_
      refine g_callVv C hno gok_7 rfl rfl [] (fun sz9 => kX7_gather l C.2.2.2.2.2.2.1 L C.2.2.2.2.2.2.2.1 v3 _ X h sz9) wml_RX7_130 winst_X7_gather wsel_X7_gather wini_RX7 wcode_X7_gather rfl rfl (n := 0) (by decide +kernel) rfl ⟨(Nat.le_of_ble_eq_true rfl), (Nat.le_of_ble_eq_true rfl)⟩ ⟨(Nat.le_of_ble_eq_true rfl), (Nat.le_of_ble_eq_true rfl)⟩ ⟨(Nat.le_of_ble_eq_true rfl), (Nat.le_of_ble_eq_true rfl)⟩ (Nat.le_of_ble_eq_true rfl) dX7_forbid_23 (fun v23 h => ?_)
      refine g_aload_n C 0 rfl 0 rfl dX7_forbid_26 ?_
      refine fgX7_38 C dX7_forbid_27 ?_
      refine g_iload_n C 1 rfl 1 rfl dX7_forbid_30 ?_
      obtain ⟨hb31, h⟩ := h
      refine g_iald C gok_38 rfl hb31 dX7_forbid_31 ?_
      refine g_aload_n C 0 rfl 0 rfl dX7_forbid_32 ?_
      refine fgX7_38 C dX7_forbid_33 ?_
      refine g_iload_n C 2 rfl 2 rfl dX7_forbid_36 ?_
      obtain ⟨hb37, h⟩ := h
      refine g_iald C gok_38 rfl hb37 dX7_forbid_37 ?_
      refine g_icmp_ne C 47 (by decide) dX7_forbid_38 (fun hc => ?_) (fun hc => ?_)
      · replace h := h.1 hc
        refine g_aload_n C 0 rfl 0 rfl dX7_forbid_47 ?_
        refine g_iload_n C 1 rfl 1 rfl dX7_forbid_48 ?_
        refine g_iload_n C 2 rfl 2 rfl dX7_forbid_49 ?_
        refine g_callVi C hno gok_7 rfl rfl [.int L1, .int L2] (fun sz9 => kX7_isPair l C.2.2.2.2.2.2.1 L C.2.2.2.2.2.2.2.1 L1 L2 v23 _ X h sz9) wml_RX7_118 winst_X7_isPair wsel_X7_isPair wini_RX7 wcode_X7_isPair rfl rfl (n := 2) (by decide +kernel) rfl ⟨(Nat.le_of_ble_eq_true rfl), (Nat.le_of_ble_eq_true rfl)⟩ ⟨(Nat.le_of_ble_eq_true rfl), (Nat.le_of_ble_eq_true rfl)⟩ ⟨(Nat.le_of_ble_eq_true rfl), (Nat.le_of_ble_eq_true rfl)⟩ (Nat.le_of_ble_eq_true rfl) dX7_forbid_50 (fun r50 v50 h => ?_)
        refine g_if_ne C 65 (by decide) dX7_forbid_53 (fun hc => ?_) (fun hc => ?_)
        · replace h := h.1 hc
          refine g_sub [(0, .ref (L.2.1 7 0))] [0] rfl ?_
          exact sX7_forbid_65 C hr hno h
        · replace h := h.2 hc
          refine g_aload_n C 0 rfl 0 rfl dX7_forbid_56 ?_
          refine fgX7_144 C dX7_forbid_57 ?_
          refine g_bipush C 12 (by decide) dX7_forbid_60 ?_
          refine g_icmp_ne C 71 (by decide) dX7_forbid_62 (fun hc => ?_) (fun hc => ?_)
          · replace h := h.1 hc
            refine g_aload_n C 0 rfl 0 rfl dX7_forbid_71 ?_
            refine fgX7_58 C dX7_forbid_72 ?_
            refine g_bipush C 16 (by decide) dX7_forbid_75 ?_
            refine g_iload_n C 1 rfl 1 rfl dX7_forbid_77 ?_
            refine g_imul C dX7_forbid_78 ?_
            refine g_iload_n C 2 rfl 2 rfl dX7_forbid_79 ?_
            refine g_iadd C dX7_forbid_80 ?_
            refine g_iconst C 1 (by decide) dX7_forbid_81 ?_
            obtain ⟨hb82, h⟩ := h
            refine g_zast C gok_44 (fun _ => rfl) hb82 dX7_forbid_82 ?_
            refine g_aload_n C 0 rfl 0 rfl dX7_forbid_83 ?_
            refine fgX7_58 C dX7_forbid_84 ?_
            refine g_bipush C 16 (by decide) dX7_forbid_87 ?_
            refine g_iload_n C 2 rfl 2 rfl dX7_forbid_89 ?_
            refine g_imul C dX7_forbid_90 ?_
            refine g_iload_n C 1 rfl 1 rfl dX7_forbid_91 ?_
            refine g_iadd C dX7_forbid_92 ?_
            refine g_iconst C 1 (by decide) dX7_forbid_93 ?_
            obtain ⟨hb94, h⟩ := h
            refine g_zast C gok_44 (fun _ => rfl) hb94 dX7_forbid_94 ?_
            refine g_aload_n C 0 rfl 0 rfl dX7_forbid_95 ?_
            refine g_dup C rfl dX7_forbid_96 ?_
            refine fgX7_144 C dX7_forbid_97 ?_
            refine g_iconst C 1 (by decide) dX7_forbid_100 ?_
            refine g_iadd C dX7_forbid_101 ?_
            refine g_dup_x1 C rfl rfl dX7_forbid_102 ?_
            refine fpX7_144 C dX7_forbid_103 ?_
            exact g_iret C hr rfl (Nat.le_of_ble_eq_true rfl) (Nat.le_of_ble_eq_true rfl) h dX7_forbid_106
          · replace h := h.2 hc
            refine g_sub [(0, .ref (L.2.1 7 0))] [0] rfl ?_
            exact sX7_forbid_65 C hr hno h
      · replace h := h.2 hc
        refine g_aload_n C 0 rfl 0 rfl dX7_forbid_41 ?_
        refine g_iconst C 3 (by decide) dX7_forbid_42 ?_
        refine g_callVi C hno gok_7 rfl rfl [.int 3] (fun sz9 => kX7_fail l C.2.2.2.2.2.2.1 L C.2.2.2.2.2.2.2.1 3 v23 _ X h sz9) wml_RX7_78 winst_X7_fail wsel_X7_fail wini_RX7 wcode_X7_fail rfl rfl (n := 1) (by decide +kernel) rfl ⟨(Nat.le_of_ble_eq_true rfl), (Nat.le_of_ble_eq_true rfl)⟩ ⟨(Nat.le_of_ble_eq_true rfl), (Nat.le_of_ble_eq_true rfl)⟩ ⟨(Nat.le_of_ble_eq_true rfl), (Nat.le_of_ble_eq_true rfl)⟩ (Nat.le_of_ble_eq_true rfl) dX7_forbid_43 (fun r43 v43 h => ?_)
        exact g_iret C hr rfl (Nat.le_of_ble_eq_true rfl) (Nat.le_of_ble_eq_true rfl) h dX7_forbid_46
    · replace h := h.2 hc
      refine g_aload_n C 0 rfl 0 rfl dX7_forbid_16 ?_
      refine g_iconst C 2 (by decide) dX7_forbid_17 ?_
      refine g_callVi C hno gok_7 rfl rfl [.int 2] (fun sz9 => kX7_fail l C.2.2.2.2.2.2.1 L C.2.2.2.2.2.2.2.1 2 v3 _ X h sz9) wml_RX7_78 winst_X7_fail wsel_X7_fail wini_RX7 wcode_X7_fail rfl rfl (n := 1) (by decide +kernel) rfl ⟨(Nat.le_of_ble_eq_true rfl), (Nat.le_of_ble_eq_true rfl)⟩ ⟨(Nat.le_of_ble_eq_true rfl), (Nat.le_of_ble_eq_true rfl)⟩ ⟨(Nat.le_of_ble_eq_true rfl), (Nat.le_of_ble_eq_true rfl)⟩ (Nat.le_of_ble_eq_true rfl) dX7_forbid_18 (fun r18 v18 h => ?_)
      exact g_iret C hr rfl (Nat.le_of_ble_eq_true rfl) (Nat.le_of_ble_eq_true rfl) h dX7_forbid_21
  · replace h := h.2 hc
    refine g_iconst C 0 (by decide) dX7_forbid_9 ?_
    exact g_iret C hr rfl (Nat.le_of_ble_eq_true rfl) (Nat.le_of_ble_eq_true rfl) h dX7_forbid_10
def TX7_allow (L1 : Int32) (L2 : Int32) (v : gMem) (Q : Int32 → gMem → Prop) (X : String → gMem → Prop) : Prop := (TX7_noCards L1 L2 v (fun r3 v3 => ((r3 = 0 → (TX7_isPair L1 L2 v3 (fun r14 v14 => ((¬ r14 = 0 → (vp_in ((16 * L1) + L2) 256 ∧ (vp_in ((16 * L2) + L1) 256 ∧ (Q (((gw (gw v14 44 0 (Int32.toNatClampNeg ((16 * L1) + L2)) (vp_nar .boolean 0)) 44 0 (Int32.toNatClampNeg ((16 * L2) + L1)) (vp_nar .boolean 0)) 7 0 4) - 1) (gw (gw (gw v14 44 0 (Int32.toNatClampNeg ((16 * L1) + L2)) (vp_nar .boolean 0)) 44 0 (Int32.toNatClampNeg ((16 * L2) + L1)) (vp_nar .boolean 0)) 7 0 4 (((gw (gw v14 44 0 (Int32.toNatClampNeg ((16 * L1) + L2)) (vp_nar .boolean 0)) 44 0 (Int32.toNatClampNeg ((16 * L2) + L1)) (vp_nar .boolean 0)) 7 0 4) - 1)))))) ∧ (r14 = 0 → (TX7_fail 2 v14 (fun r22 v22 => (Q r22 v22)) X)))) X)) ∧ (¬ r3 = 0 → (Q 0 v3)))) X)
theorem kX7_allow (l : Launch) (hfl : l.stackTraces = false) (L : gL) (hL : gDist L) (L1 : Int32) (L2 : Int32) (v : gMem) (Q : Int32 → gMem → Prop) (X : String → gMem → Prop) (h : TX7_allow L1 L2 v Q X) (sz : Nat) : vx_Met l yX7_allow [.code yX7_allow cX7_allow 3 (some .int)] ({ frames := 3, cells := 0, slots := 0, locals := 65 } : Room) (gPc L sz [.ref (L.2.1 7 0), .int L1, .int L2] v) (gQi L sz Q) (gXC L sz X) 0 0 (gA L sz) := by
  refine g_ofW (by decide +kernel) hfl hL (Nat.le_of_ble_eq_true rfl) ?_
  intro p e s m args below meth c C hr hno
  refine g_sub [(0, .ref (L.2.1 7 0)), (1, .int L1), (2, .int L2)] [0, 1, 2] rfl ?_
  unfold TX7_allow at h
  refine g_aload_n C 0 rfl 0 rfl dX7_allow_0 ?_
  refine g_iload_n C 1 rfl 1 rfl dX7_allow_1 ?_
  refine g_iload_n C 2 rfl 2 rfl dX7_allow_2 ?_
  refine g_callVi C hno gok_7 rfl rfl [.int L1, .int L2] (fun sz9 => kX7_noCards l C.2.2.2.2.2.2.1 L C.2.2.2.2.2.2.2.1 L1 L2 v _ X h sz9) wml_RX7_108 winst_X7_noCards wsel_X7_noCards wini_RX7 wcode_X7_noCards rfl rfl (n := 2) (by decide +kernel) rfl ⟨(Nat.le_of_ble_eq_true rfl), (Nat.le_of_ble_eq_true rfl)⟩ ⟨(Nat.le_of_ble_eq_true rfl), (Nat.le_of_ble_eq_true rfl)⟩ ⟨(Nat.le_of_ble_eq_true rfl), (Nat.le_of_ble_eq_true rfl)⟩ (Nat.le_of_ble_eq_true rfl) dX7_allow_3 (fun r3 v3 h => ?_)
  refine g_if_eq C 11 (by decide) dX7_allow_6 (fun hc => ?_) (fun hc => ?_)
  · replace h := h.1 hc
    refine g_aload_n C 0 rfl 0 rfl dX7_allow_11 ?_
    refine g_iload_n C 1 rfl 1 rfl dX7_allow_12 ?_
    refine g_iload_n C 2 rfl 2 rfl dX7_allow_13 ?_
    refine g_callVi C hno gok_7 rfl rfl [.int L1, .int L2] (fun sz9 => kX7_isPair l C.2.2.2.2.2.2.1 L C.2.2.2.2.2.2.2.1 L1 L2 v3 _ X h sz9) wml_RX7_118 winst_X7_isPair wsel_X7_isPair wini_RX7 wcode_X7_isPair rfl rfl (n := 2) (by decide +kernel) rfl ⟨(Nat.le_of_ble_eq_true rfl), (Nat.le_of_ble_eq_true rfl)⟩ ⟨(Nat.le_of_ble_eq_true rfl), (Nat.le_of_ble_eq_true rfl)⟩ ⟨(Nat.le_of_ble_eq_true rfl), (Nat.le_of_ble_eq_true rfl)⟩ (Nat.le_of_ble_eq_true rfl) dX7_allow_14 (fun r14 v14 h => ?_)
    refine g_if_ne C 26 (by decide) dX7_allow_17 (fun hc => ?_) (fun hc => ?_)
    · replace h := h.1 hc
      refine g_aload_n C 0 rfl 0 rfl dX7_allow_26 ?_
      refine fgX7_58 C dX7_allow_27 ?_
      refine g_bipush C 16 (by decide) dX7_allow_30 ?_
      refine g_iload_n C 1 rfl 1 rfl dX7_allow_32 ?_
      refine g_imul C dX7_allow_33 ?_
      refine g_iload_n C 2 rfl 2 rfl dX7_allow_34 ?_
      refine g_iadd C dX7_allow_35 ?_
      refine g_iconst C 0 (by decide) dX7_allow_36 ?_
      obtain ⟨hb37, h⟩ := h
      refine g_zast C gok_44 (fun _ => rfl) hb37 dX7_allow_37 ?_
      refine g_aload_n C 0 rfl 0 rfl dX7_allow_38 ?_
      refine fgX7_58 C dX7_allow_39 ?_
      refine g_bipush C 16 (by decide) dX7_allow_42 ?_
      refine g_iload_n C 2 rfl 2 rfl dX7_allow_44 ?_
      refine g_imul C dX7_allow_45 ?_
      refine g_iload_n C 1 rfl 1 rfl dX7_allow_46 ?_
      refine g_iadd C dX7_allow_47 ?_
      refine g_iconst C 0 (by decide) dX7_allow_48 ?_
      obtain ⟨hb49, h⟩ := h
      refine g_zast C gok_44 (fun _ => rfl) hb49 dX7_allow_49 ?_
      refine g_aload_n C 0 rfl 0 rfl dX7_allow_50 ?_
      refine g_dup C rfl dX7_allow_51 ?_
      refine fgX7_144 C dX7_allow_52 ?_
      refine g_iconst C 1 (by decide) dX7_allow_55 ?_
      refine g_isub C dX7_allow_56 ?_
      refine g_dup_x1 C rfl rfl dX7_allow_57 ?_
      refine fpX7_144 C dX7_allow_58 ?_
      exact g_iret C hr rfl (Nat.le_of_ble_eq_true rfl) (Nat.le_of_ble_eq_true rfl) h dX7_allow_61
    · replace h := h.2 hc
      refine g_aload_n C 0 rfl 0 rfl dX7_allow_20 ?_
      refine g_iconst C 2 (by decide) dX7_allow_21 ?_
      refine g_callVi C hno gok_7 rfl rfl [.int 2] (fun sz9 => kX7_fail l C.2.2.2.2.2.2.1 L C.2.2.2.2.2.2.2.1 2 v14 _ X h sz9) wml_RX7_78 winst_X7_fail wsel_X7_fail wini_RX7 wcode_X7_fail rfl rfl (n := 1) (by decide +kernel) rfl ⟨(Nat.le_of_ble_eq_true rfl), (Nat.le_of_ble_eq_true rfl)⟩ ⟨(Nat.le_of_ble_eq_true rfl), (Nat.le_of_ble_eq_true rfl)⟩ ⟨(Nat.le_of_ble_eq_true rfl), (Nat.le_of_ble_eq_true rfl)⟩ (Nat.le_of_ble_eq_true rfl) dX7_allow_22 (fun r22 v22 h => ?_)
      exact g_iret C hr rfl (Nat.le_of_ble_eq_true rfl) (Nat.le_of_ble_eq_true rfl) h dX7_allow_25
  · replace h := h.2 hc
    refine g_iconst C 0 (by decide) dX7_allow_9 ?_
    exact g_iret C hr rfl (Nat.le_of_ble_eq_true rfl) (Nat.le_of_ble_eq_true rfl) h dX7_allow_10
def BX7_why_74 (t0 : Int32) (v : gMem) (Q : Int32 → gMem → Prop) (X : String → gMem → Prop) : Prop := (narrow .char (.int t0) = .int t0 ∧ Q t0 v)
theorem sX7_why_74 (C : gC p l s m args meth c cX7_why 3 RX7 L sz) (hr : meth.sig.returnType = (some .char)) (hno : ∀ x ∈ c.exceptionTable.toList, False) {t0 : Int32} {v : gMem} {Q : Int32 → gMem → Prop} {X : String → gMem → Prop} (h : BX7_why_74 t0 v Q X) : gS p l e ({ frames := 3, cells := 0, slots := 0, locals := 65 } : Room) s m args below meth c 3 L sz (vx_MQ below (gQi L sz Q) (gXC L sz X) args s 0 0 (gA L sz)) 0 0 74 [] [.int t0] v := by
  unfold BX7_why_74 at h
  exact g_iret C hr h.1 (Nat.le_of_ble_eq_true rfl) (Nat.le_of_ble_eq_true rfl) h.2 dX7_why_74
def TX7_why (L1 : Int32) (L2 : Int32) (v : gMem) (Q : Int32 → gMem → Prop) (X : String → gMem → Prop) : Prop := (TX7_noCards L1 L2 v (fun r3 v3 => ((r3 = 0 → (TX7_gather v3 (fun v13 => (vp_in L1 16 ∧ (vp_in L2 16 ∧ ((¬ (v13 38 0 (Int32.toNatClampNeg L1)) = (v13 38 0 (Int32.toNatClampNeg L2)) → (TX7_isPair L1 L2 v13 (fun r37 v37 => ((r37 = 0 → (vp_in L1 16 ∧ (vp_in L2 16 ∧ (TX7_isBarred (v37 38 0 (Int32.toNatClampNeg L1)) (v37 38 0 (Int32.toNatClampNeg L2)) v37 (fun r61 v61 => ((r61 = 0 → (BX7_why_74 45 v61 Q X)) ∧ (¬ r61 = 0 → (BX7_why_74 105 v61 Q X)))) X)))) ∧ (¬ r37 = 0 → (BX7_why_74 100 v37 Q X)))) X)) ∧ ((v13 38 0 (Int32.toNatClampNeg L1)) = (v13 38 0 (Int32.toNatClampNeg L2)) → (Q 116 v13)))))) X)) ∧ (¬ r3 = 0 → (Q 116 v3)))) X)
theorem kX7_why (l : Launch) (hfl : l.stackTraces = false) (L : gL) (hL : gDist L) (L1 : Int32) (L2 : Int32) (v : gMem) (Q : Int32 → gMem → Prop) (X : String → gMem → Prop) (h : TX7_why L1 L2 v Q X) (sz : Nat) : vx_Met l yX7_why [.code yX7_why cX7_why 3 (some .char)] ({ frames := 3, cells := 0, slots := 0, locals := 65 } : Room) (gPc L sz [.ref (L.2.1 7 0), .int L1, .int L2] v) (gQi L sz Q) (gXC L sz X) 0 0 (gA L sz) := by
  refine g_ofW (by decide +kernel) hfl hL (Nat.le_of_ble_eq_true rfl) ?_
  intro p e s m args below meth c C hr hno
  refine g_sub [(0, .ref (L.2.1 7 0)), (1, .int L1), (2, .int L2)] [0, 1, 2] rfl ?_
  unfold TX7_why at h
  refine g_aload_n C 0 rfl 0 rfl dX7_why_0 ?_
  refine g_iload_n C 1 rfl 1 rfl dX7_why_1 ?_
  refine g_iload_n C 2 rfl 2 rfl dX7_why_2 ?_
  refine g_callVi C hno gok_7 rfl rfl [.int L1, .int L2] (fun sz9 => kX7_noCards l C.2.2.2.2.2.2.1 L C.2.2.2.2.2.2.2.1 L1 L2 v _ X h sz9) wml_RX7_108 winst_X7_noCards wsel_X7_noCards wini_RX7 wcode_X7_noCards rfl rfl (n := 2) (by decide +kernel) rfl ⟨(Nat.le_of_ble_eq_true rfl), (Nat.le_of_ble_eq_true rfl)⟩ ⟨(Nat.le_of_ble_eq_true rfl), (Nat.le_of_ble_eq_true rfl)⟩ ⟨(Nat.le_of_ble_eq_true rfl), (Nat.le_of_ble_eq_true rfl)⟩ (Nat.le_of_ble_eq_true rfl) dX7_why_3 (fun r3 v3 h => ?_)
  refine g_if_eq C 12 (by decide) dX7_why_6 (fun hc => ?_) (fun hc => ?_)
  · replace h := h.1 hc
    refine g_aload_n C 0 rfl 0 rfl dX7_why_12 ?_
    refine g_callVv C hno gok_7 rfl rfl [] (fun sz9 => kX7_gather l C.2.2.2.2.2.2.1 L C.2.2.2.2.2.2.2.1 v3 _ X h sz9) wml_RX7_130 winst_X7_gather wsel_X7_gather wini_RX7 wcode_X7_gather rfl rfl (n := 0) (by decide +kernel) rfl ⟨(Nat.le_of_ble_eq_true rfl), (Nat.le_of_ble_eq_true rfl)⟩ ⟨(Nat.le_of_ble_eq_true rfl), (Nat.le_of_ble_eq_true rfl)⟩ ⟨(Nat.le_of_ble_eq_true rfl), (Nat.le_of_ble_eq_true rfl)⟩ (Nat.le_of_ble_eq_true rfl) dX7_why_13 (fun v13 h => ?_)
    refine g_aload_n C 0 rfl 0 rfl dX7_why_16 ?_
    refine fgX7_38 C dX7_why_17 ?_
    refine g_iload_n C 1 rfl 1 rfl dX7_why_20 ?_
    obtain ⟨hb21, h⟩ := h
    refine g_iald C gok_38 rfl hb21 dX7_why_21 ?_
    refine g_aload_n C 0 rfl 0 rfl dX7_why_22 ?_
    refine fgX7_38 C dX7_why_23 ?_
    refine g_iload_n C 2 rfl 2 rfl dX7_why_26 ?_
    obtain ⟨hb27, h⟩ := h
    refine g_iald C gok_38 rfl hb27 dX7_why_27 ?_
    refine g_icmp_ne C 34 (by decide) dX7_why_28 (fun hc => ?_) (fun hc => ?_)
    · replace h := h.1 hc
      refine g_aload_n C 0 rfl 0 rfl dX7_why_34 ?_
      refine g_iload_n C 1 rfl 1 rfl dX7_why_35 ?_
      refine g_iload_n C 2 rfl 2 rfl dX7_why_36 ?_
      refine g_callVi C hno gok_7 rfl rfl [.int L1, .int L2] (fun sz9 => kX7_isPair l C.2.2.2.2.2.2.1 L C.2.2.2.2.2.2.2.1 L1 L2 v13 _ X h sz9) wml_RX7_118 winst_X7_isPair wsel_X7_isPair wini_RX7 wcode_X7_isPair rfl rfl (n := 2) (by decide +kernel) rfl ⟨(Nat.le_of_ble_eq_true rfl), (Nat.le_of_ble_eq_true rfl)⟩ ⟨(Nat.le_of_ble_eq_true rfl), (Nat.le_of_ble_eq_true rfl)⟩ ⟨(Nat.le_of_ble_eq_true rfl), (Nat.le_of_ble_eq_true rfl)⟩ (Nat.le_of_ble_eq_true rfl) dX7_why_37 (fun r37 v37 h => ?_)
      refine g_if_eq C 48 (by decide) dX7_why_40 (fun hc => ?_) (fun hc => ?_)
      · replace h := h.1 hc
        refine g_aload_n C 0 rfl 0 rfl dX7_why_48 ?_
        refine g_aload_n C 0 rfl 0 rfl dX7_why_49 ?_
        refine fgX7_38 C dX7_why_50 ?_
        refine g_iload_n C 1 rfl 1 rfl dX7_why_53 ?_
        obtain ⟨hb54, h⟩ := h
        refine g_iald C gok_38 rfl hb54 dX7_why_54 ?_
        refine g_aload_n C 0 rfl 0 rfl dX7_why_55 ?_
        refine fgX7_38 C dX7_why_56 ?_
        refine g_iload_n C 2 rfl 2 rfl dX7_why_59 ?_
        obtain ⟨hb60, h⟩ := h
        refine g_iald C gok_38 rfl hb60 dX7_why_60 ?_
        refine g_callVi C hno gok_7 rfl rfl [.int (v37 38 0 (Int32.toNatClampNeg L1)), .int (v37 38 0 (Int32.toNatClampNeg L2))] (fun sz9 => kX7_isBarred l C.2.2.2.2.2.2.1 L C.2.2.2.2.2.2.2.1 (v37 38 0 (Int32.toNatClampNeg L1)) (v37 38 0 (Int32.toNatClampNeg L2)) v37 _ X h sz9) wml_RX7_127 winst_X7_isBarred wsel_X7_isBarred wini_RX7 wcode_X7_isBarred rfl rfl (n := 2) (by decide +kernel) rfl ⟨(Nat.le_of_ble_eq_true rfl), (Nat.le_of_ble_eq_true rfl)⟩ ⟨(Nat.le_of_ble_eq_true rfl), (Nat.le_of_ble_eq_true rfl)⟩ ⟨(Nat.le_of_ble_eq_true rfl), (Nat.le_of_ble_eq_true rfl)⟩ (Nat.le_of_ble_eq_true rfl) dX7_why_61 (fun r61 v61 h => ?_)
        refine g_if_eq C 72 (by decide) dX7_why_64 (fun hc => ?_) (fun hc => ?_)
        · replace h := h.1 hc
          refine g_bipush C 45 (by decide) dX7_why_72 ?_
          refine g_sub [] [] rfl ?_
          exact sX7_why_74 C hr hno h
        · replace h := h.2 hc
          refine g_bipush C 105 (by decide) dX7_why_67 ?_
          refine g_goto C 74 (by decide) dX7_why_69 ?_
          refine g_sub [] [] rfl ?_
          exact sX7_why_74 C hr hno h
      · replace h := h.2 hc
        refine g_bipush C 100 (by decide) dX7_why_43 ?_
        refine g_goto C 74 (by decide) dX7_why_45 ?_
        refine g_sub [] [] rfl ?_
        exact sX7_why_74 C hr hno h
    · replace h := h.2 hc
      refine g_bipush C 116 (by decide) dX7_why_31 ?_
      exact g_iret C hr rfl (Nat.le_of_ble_eq_true rfl) (Nat.le_of_ble_eq_true rfl) h dX7_why_33
  · replace h := h.2 hc
    refine g_bipush C 116 (by decide) dX7_why_9 ?_
    exact g_iret C hr rfl (Nat.le_of_ble_eq_true rfl) (Nat.le_of_ble_eq_true rfl) h dX7_why_11
def BX7_noBar_70 (t0 : Int32) (v : gMem) (Q : Int32 → gMem → Prop) (X : String → gMem → Prop) : Prop := (narrow .boolean (.int t0) = .int t0 ∧ Q t0 v)
theorem sX7_noBar_70 (C : gC p l s m args meth c cX7_noBar 3 RX7 L sz) (hr : meth.sig.returnType = (some .boolean)) (hno : ∀ x ∈ c.exceptionTable.toList, False) {t0 : Int32} {v : gMem} {Q : Int32 → gMem → Prop} {X : String → gMem → Prop} (h : BX7_noBar_70 t0 v Q X) : gS p l e ({ frames := 3, cells := 0, slots := 0, locals := 65 } : Room) s m args below meth c 3 L sz (vx_MQ below (gQi L sz Q) (gXC L sz X) args s 0 0 (gA L sz)) 0 0 70 [] [.int t0] v := by
  unfold BX7_noBar_70 at h
  exact g_iret C hr h.1 (Nat.le_of_ble_eq_true rfl) (Nat.le_of_ble_eq_true rfl) h.2 dX7_noBar_70
def BX7_noBar_55 (t1 : Int32) (v : gMem) (Q : Int32 → gMem → Prop) (X : String → gMem → Prop) : Prop := ((((gw v 7 0 0 t1) 7 0 0) = 0 → (BX7_noBar_70 0 (gw v 7 0 0 t1) Q X)) ∧ (¬ ((gw v 7 0 0 t1) 7 0 0) = 0 → (BX7_noBar_70 1 (gw v 7 0 0 t1) Q X)))
theorem sX7_noBar_55 (C : gC p l s m args meth c cX7_noBar 3 RX7 L sz) (hr : meth.sig.returnType = (some .boolean)) (hno : ∀ x ∈ c.exceptionTable.toList, False) {t1 : Int32} {v : gMem} {Q : Int32 → gMem → Prop} {X : String → gMem → Prop} (h : BX7_noBar_55 t1 v Q X) : gS p l e ({ frames := 3, cells := 0, slots := 0, locals := 65 } : Room) s m args below meth c 3 L sz (vx_MQ below (gQi L sz Q) (gXC L sz X) args s 0 0 (gA L sz)) 0 0 55 [(0, .ref (L.2.1 7 0))] [.int t1, .ref (L.2.1 7 0)] v := by
  unfold BX7_noBar_55 at h
  refine fpX7_64 C dX7_noBar_55 ?_
  refine g_aload_n C 0 rfl 0 rfl dX7_noBar_58 ?_
  refine fgX7_64 C dX7_noBar_59 ?_
  refine g_if_eq C 69 (by decide) dX7_noBar_62 (fun hc => ?_) (fun hc => ?_)
  · replace h := h.1 hc
    refine g_iconst C 0 (by decide) dX7_noBar_69 ?_
    refine g_sub [] [] rfl ?_
    exact sX7_noBar_70 C hr hno h
  · replace h := h.2 hc
    refine g_iconst C 1 (by decide) dX7_noBar_65 ?_
    refine g_goto C 70 (by decide) dX7_noBar_66 ?_
    refine g_sub [] [] rfl ?_
    exact sX7_noBar_70 C hr hno h
def BX7_noBar_54 (v : gMem) (Q : Int32 → gMem → Prop) (X : String → gMem → Prop) : Prop := (BX7_noBar_55 2 v Q X)
theorem sX7_noBar_54 (C : gC p l s m args meth c cX7_noBar 3 RX7 L sz) (hr : meth.sig.returnType = (some .boolean)) (hno : ∀ x ∈ c.exceptionTable.toList, False) {v : gMem} {Q : Int32 → gMem → Prop} {X : String → gMem → Prop} (h : BX7_noBar_54 v Q X) : gS p l e ({ frames := 3, cells := 0, slots := 0, locals := 65 } : Room) s m args below meth c 3 L sz (vx_MQ below (gQi L sz Q) (gXC L sz X) args s 0 0 (gA L sz)) 0 0 54 [(0, .ref (L.2.1 7 0))] [.ref (L.2.1 7 0)] v := by
  unfold BX7_noBar_54 at h
  refine g_iconst C 2 (by decide) dX7_noBar_54 ?_
  exact sX7_noBar_55 C hr hno h
def TX7_noBar (L1 : Int32) (L2 : Int32) (v : gMem) (Q : Int32 → gMem → Prop) (X : String → gMem → Prop) : Prop := (TX7_noCards L1 L2 v (fun r3 v3 => ((r3 = 0 → (TX7_gather v3 (fun v12 => (vp_in L1 16 ∧ (vp_in L2 16 ∧ (((v12 38 0 (Int32.toNatClampNeg L1)) = (v12 38 0 (Int32.toNatClampNeg L2)) → (BX7_noBar_54 v12 Q X)) ∧ (¬ (v12 38 0 (Int32.toNatClampNeg L1)) = (v12 38 0 (Int32.toNatClampNeg L2)) → (vp_in L1 16 ∧ (vp_in L2 16 ∧ (TX7_isBarred (v12 38 0 (Int32.toNatClampNeg L1)) (v12 38 0 (Int32.toNatClampNeg L2)) v12 (fun r44 v44 => ((r44 = 0 → (BX7_noBar_54 v44 Q X)) ∧ (¬ r44 = 0 → (BX7_noBar_55 0 v44 Q X)))) X)))))))) X)) ∧ (¬ r3 = 0 → (Q 1 v3)))) X)
theorem kX7_noBar (l : Launch) (hfl : l.stackTraces = false) (L : gL) (hL : gDist L) (L1 : Int32) (L2 : Int32) (v : gMem) (Q : Int32 → gMem → Prop) (X : String → gMem → Prop) (h : TX7_noBar L1 L2 v Q X) (sz : Nat) : vx_Met l yX7_noBar [.code yX7_noBar cX7_noBar 3 (some .boolean)] ({ frames := 3, cells := 0, slots := 0, locals := 65 } : Room) (gPc L sz [.ref (L.2.1 7 0), .int L1, .int L2] v) (gQi L sz Q) (gXC L sz X) 0 0 (gA L sz) := by
  refine g_ofW (by decide +kernel) hfl hL (Nat.le_of_ble_eq_true rfl) ?_
  intro p e s m args below meth c C hr hno
  refine g_sub [(0, .ref (L.2.1 7 0)), (1, .int L1), (2, .int L2)] [0, 1, 2] rfl ?_
  unfold TX7_noBar at h
  refine g_aload_n C 0 rfl 0 rfl dX7_noBar_0 ?_
  refine g_iload_n C 1 rfl 1 rfl dX7_noBar_1 ?_
  refine g_iload_n C 2 rfl 2 rfl dX7_noBar_2 ?_
  refine g_callVi C hno gok_7 rfl rfl [.int L1, .int L2] (fun sz9 => kX7_noCards l C.2.2.2.2.2.2.1 L C.2.2.2.2.2.2.2.1 L1 L2 v _ X h sz9) wml_RX7_108 winst_X7_noCards wsel_X7_noCards wini_RX7 wcode_X7_noCards rfl rfl (n := 2) (by decide +kernel) rfl ⟨(Nat.le_of_ble_eq_true rfl), (Nat.le_of_ble_eq_true rfl)⟩ ⟨(Nat.le_of_ble_eq_true rfl), (Nat.le_of_ble_eq_true rfl)⟩ ⟨(Nat.le_of_ble_eq_true rfl), (Nat.le_of_ble_eq_true rfl)⟩ (Nat.le_of_ble_eq_true rfl) dX7_noBar_3 (fun r3 v3 h => ?_)
  refine g_if_eq C 11 (by decide) dX7_noBar_6 (fun hc => ?_) (fun hc => ?_)
  · replace h := h.1 hc
    refine g_aload_n C 0 rfl 0 rfl dX7_noBar_11 ?_
    refine g_callVv C hno gok_7 rfl rfl [] (fun sz9 => kX7_gather l C.2.2.2.2.2.2.1 L C.2.2.2.2.2.2.2.1 v3 _ X h sz9) wml_RX7_130 winst_X7_gather wsel_X7_gather wini_RX7 wcode_X7_gather rfl rfl (n := 0) (by decide +kernel) rfl ⟨(Nat.le_of_ble_eq_true rfl), (Nat.le_of_ble_eq_true rfl)⟩ ⟨(Nat.le_of_ble_eq_true rfl), (Nat.le_of_ble_eq_true rfl)⟩ ⟨(Nat.le_of_ble_eq_true rfl), (Nat.le_of_ble_eq_true rfl)⟩ (Nat.le_of_ble_eq_true rfl) dX7_noBar_12 (fun v12 h => ?_)
    refine g_aload_n C 0 rfl 0 rfl dX7_noBar_15 ?_
    refine g_aload_n C 0 rfl 0 rfl dX7_noBar_16 ?_
    refine fgX7_38 C dX7_noBar_17 ?_
    refine g_iload_n C 1 rfl 1 rfl dX7_noBar_20 ?_
    obtain ⟨hb21, h⟩ := h
    refine g_iald C gok_38 rfl hb21 dX7_noBar_21 ?_
    refine g_aload_n C 0 rfl 0 rfl dX7_noBar_22 ?_
    refine fgX7_38 C dX7_noBar_23 ?_
    refine g_iload_n C 2 rfl 2 rfl dX7_noBar_26 ?_
    obtain ⟨hb27, h⟩ := h
    refine g_iald C gok_38 rfl hb27 dX7_noBar_27 ?_
    refine g_icmp_eq C 54 (by decide) dX7_noBar_28 (fun hc => ?_) (fun hc => ?_)
    · replace h := h.1 hc
      refine g_sub [(0, .ref (L.2.1 7 0))] [0] rfl ?_
      exact sX7_noBar_54 C hr hno h
    · replace h := h.2 hc
      refine g_aload_n C 0 rfl 0 rfl dX7_noBar_31 ?_
      refine g_aload_n C 0 rfl 0 rfl dX7_noBar_32 ?_
      refine fgX7_38 C dX7_noBar_33 ?_
      refine g_iload_n C 1 rfl 1 rfl dX7_noBar_36 ?_
      obtain ⟨hb37, h⟩ := h
      refine g_iald C gok_38 rfl hb37 dX7_noBar_37 ?_
      refine g_aload_n C 0 rfl 0 rfl dX7_noBar_38 ?_
      refine fgX7_38 C dX7_noBar_39 ?_
      refine g_iload_n C 2 rfl 2 rfl dX7_noBar_42 ?_
      obtain ⟨hb43, h⟩ := h
      refine g_iald C gok_38 rfl hb43 dX7_noBar_43 ?_
      refine g_callVi C hno gok_7 rfl rfl [.int (v12 38 0 (Int32.toNatClampNeg L1)), .int (v12 38 0 (Int32.toNatClampNeg L2))] (fun sz9 => kX7_isBarred l C.2.2.2.2.2.2.1 L C.2.2.2.2.2.2.2.1 (v12 38 0 (Int32.toNatClampNeg L1)) (v12 38 0 (Int32.toNatClampNeg L2)) v12 _ X h sz9) wml_RX7_127 winst_X7_isBarred wsel_X7_isBarred wini_RX7 wcode_X7_isBarred rfl rfl (n := 2) (by decide +kernel) rfl ⟨(Nat.le_of_ble_eq_true rfl), (Nat.le_of_ble_eq_true rfl)⟩ ⟨(Nat.le_of_ble_eq_true rfl), (Nat.le_of_ble_eq_true rfl)⟩ ⟨(Nat.le_of_ble_eq_true rfl), (Nat.le_of_ble_eq_true rfl)⟩ (Nat.le_of_ble_eq_true rfl) dX7_noBar_44 (fun r44 v44 h => ?_)
      refine g_if_eq C 54 (by decide) dX7_noBar_47 (fun hc => ?_) (fun hc => ?_)
      · replace h := h.1 hc
        refine g_sub [(0, .ref (L.2.1 7 0))] [0] rfl ?_
        exact sX7_noBar_54 C hr hno h
      · replace h := h.2 hc
        refine g_iconst C 0 (by decide) dX7_noBar_50 ?_
        refine g_goto C 55 (by decide) dX7_noBar_51 ?_
        refine g_sub [(0, .ref (L.2.1 7 0))] [0] rfl ?_
        exact sX7_noBar_55 C hr hno h
  · replace h := h.2 hc
    refine g_iconst C 1 (by decide) dX7_noBar_9 ?_
    exact g_iret C hr rfl (Nat.le_of_ble_eq_true rfl) (Nat.le_of_ble_eq_true rfl) h dX7_noBar_10
def BX7_barOne_17 (t0 : Int32) (v : gMem) (Q : Int32 → gMem → Prop) (X : String → gMem → Prop) : Prop := (Q t0 v)
theorem sX7_barOne_17 (C : gC p l s m args meth c cX7_barOne 3 RX7 L sz) (hr : meth.sig.returnType = (some .int)) (hno : ∀ x ∈ c.exceptionTable.toList, False) {t0 : Int32} {v : gMem} {Q : Int32 → gMem → Prop} {X : String → gMem → Prop} (h : BX7_barOne_17 t0 v Q X) : gS p l e ({ frames := 4, cells := 0, slots := 0, locals := 87 } : Room) s m args below meth c 3 L sz (vx_MQ below (gQi L sz Q) (gXC L sz X) args s 0 0 (gA L sz)) 0 0 17 [] [.int t0] v := by
  unfold BX7_barOne_17 at h
  exact g_iret C hr rfl (Nat.le_of_ble_eq_true rfl) (Nat.le_of_ble_eq_true rfl) h dX7_barOne_17
def TX7_barOne (L1 : Int32) (L2 : Int32) (v : gMem) (Q : Int32 → gMem → Prop) (X : String → gMem → Prop) : Prop := (TX7_noBar L1 L2 v (fun r3 v3 => ((r3 = 0 → (BX7_barOne_17 (v3 7 0 7) v3 Q X)) ∧ (¬ r3 = 0 → (BX7_barOne_17 0 v3 Q X)))) X)
theorem kX7_barOne (l : Launch) (hfl : l.stackTraces = false) (L : gL) (hL : gDist L) (L1 : Int32) (L2 : Int32) (v : gMem) (Q : Int32 → gMem → Prop) (X : String → gMem → Prop) (h : TX7_barOne L1 L2 v Q X) (sz : Nat) : vx_Met l yX7_barOne [.code yX7_barOne cX7_barOne 3 (some .int)] ({ frames := 4, cells := 0, slots := 0, locals := 87 } : Room) (gPc L sz [.ref (L.2.1 7 0), .int L1, .int L2] v) (gQi L sz Q) (gXC L sz X) 0 0 (gA L sz) := by
  refine g_ofW (by decide +kernel) hfl hL (Nat.le_of_ble_eq_true rfl) ?_
  intro p e s m args below meth c C hr hno
  refine g_sub [(0, .ref (L.2.1 7 0)), (1, .int L1), (2, .int L2)] [0, 1, 2] rfl ?_
  unfold TX7_barOne at h
  refine g_aload_n C 0 rfl 0 rfl dX7_barOne_0 ?_
  refine g_iload_n C 1 rfl 1 rfl dX7_barOne_1 ?_
  refine g_iload_n C 2 rfl 2 rfl dX7_barOne_2 ?_
  refine g_callVi C hno gok_7 rfl rfl [.int L1, .int L2] (fun sz9 => kX7_noBar l C.2.2.2.2.2.2.1 L C.2.2.2.2.2.2.2.1 L1 L2 v _ X h sz9) wml_RX7_147 winst_X7_noBar wsel_X7_noBar wini_RX7 wcode_X7_noBar rfl rfl (n := 2) (by decide +kernel) rfl ⟨(Nat.le_of_ble_eq_true rfl), (Nat.le_of_ble_eq_true rfl)⟩ ⟨(Nat.le_of_ble_eq_true rfl), (Nat.le_of_ble_eq_true rfl)⟩ ⟨(Nat.le_of_ble_eq_true rfl), (Nat.le_of_ble_eq_true rfl)⟩ (Nat.le_of_ble_eq_true rfl) dX7_barOne_3 (fun r3 v3 h => ?_)
  refine g_if_eq C 13 (by decide) dX7_barOne_6 (fun hc => ?_) (fun hc => ?_)
  · replace h := h.1 hc
    refine g_aload_n C 0 rfl 0 rfl dX7_barOne_13 ?_
    refine fgX7_121 C dX7_barOne_14 ?_
    refine g_sub [] [] rfl ?_
    exact sX7_barOne_17 C hr hno h
  · replace h := h.2 hc
    refine g_iconst C 0 (by decide) dX7_barOne_9 ?_
    refine g_goto C 17 (by decide) dX7_barOne_10 ?_
    refine g_sub [] [] rfl ?_
    exact sX7_barOne_17 C hr hno h
def BX7_barOther_17 (t0 : Int32) (v : gMem) (Q : Int32 → gMem → Prop) (X : String → gMem → Prop) : Prop := (Q t0 v)
theorem sX7_barOther_17 (C : gC p l s m args meth c cX7_barOther 3 RX7 L sz) (hr : meth.sig.returnType = (some .int)) (hno : ∀ x ∈ c.exceptionTable.toList, False) {t0 : Int32} {v : gMem} {Q : Int32 → gMem → Prop} {X : String → gMem → Prop} (h : BX7_barOther_17 t0 v Q X) : gS p l e ({ frames := 4, cells := 0, slots := 0, locals := 87 } : Room) s m args below meth c 3 L sz (vx_MQ below (gQi L sz Q) (gXC L sz X) args s 0 0 (gA L sz)) 0 0 17 [] [.int t0] v := by
  unfold BX7_barOther_17 at h
  exact g_iret C hr rfl (Nat.le_of_ble_eq_true rfl) (Nat.le_of_ble_eq_true rfl) h dX7_barOther_17
def TX7_barOther (L1 : Int32) (L2 : Int32) (v : gMem) (Q : Int32 → gMem → Prop) (X : String → gMem → Prop) : Prop := (TX7_noBar L1 L2 v (fun r3 v3 => ((r3 = 0 → (BX7_barOther_17 (v3 7 0 8) v3 Q X)) ∧ (¬ r3 = 0 → (BX7_barOther_17 0 v3 Q X)))) X)
theorem kX7_barOther (l : Launch) (hfl : l.stackTraces = false) (L : gL) (hL : gDist L) (L1 : Int32) (L2 : Int32) (v : gMem) (Q : Int32 → gMem → Prop) (X : String → gMem → Prop) (h : TX7_barOther L1 L2 v Q X) (sz : Nat) : vx_Met l yX7_barOther [.code yX7_barOther cX7_barOther 3 (some .int)] ({ frames := 4, cells := 0, slots := 0, locals := 87 } : Room) (gPc L sz [.ref (L.2.1 7 0), .int L1, .int L2] v) (gQi L sz Q) (gXC L sz X) 0 0 (gA L sz) := by
  refine g_ofW (by decide +kernel) hfl hL (Nat.le_of_ble_eq_true rfl) ?_
  intro p e s m args below meth c C hr hno
  refine g_sub [(0, .ref (L.2.1 7 0)), (1, .int L1), (2, .int L2)] [0, 1, 2] rfl ?_
  unfold TX7_barOther at h
  refine g_aload_n C 0 rfl 0 rfl dX7_barOther_0 ?_
  refine g_iload_n C 1 rfl 1 rfl dX7_barOther_1 ?_
  refine g_iload_n C 2 rfl 2 rfl dX7_barOther_2 ?_
  refine g_callVi C hno gok_7 rfl rfl [.int L1, .int L2] (fun sz9 => kX7_noBar l C.2.2.2.2.2.2.1 L C.2.2.2.2.2.2.2.1 L1 L2 v _ X h sz9) wml_RX7_147 winst_X7_noBar wsel_X7_noBar wini_RX7 wcode_X7_noBar rfl rfl (n := 2) (by decide +kernel) rfl ⟨(Nat.le_of_ble_eq_true rfl), (Nat.le_of_ble_eq_true rfl)⟩ ⟨(Nat.le_of_ble_eq_true rfl), (Nat.le_of_ble_eq_true rfl)⟩ ⟨(Nat.le_of_ble_eq_true rfl), (Nat.le_of_ble_eq_true rfl)⟩ (Nat.le_of_ble_eq_true rfl) dX7_barOther_3 (fun r3 v3 h => ?_)
  refine g_if_eq C 13 (by decide) dX7_barOther_6 (fun hc => ?_) (fun hc => ?_)
  · replace h := h.1 hc
    refine g_aload_n C 0 rfl 0 rfl dX7_barOther_13 ?_
    refine fgX7_124 C dX7_barOther_14 ?_
    refine g_sub [] [] rfl ?_
    exact sX7_barOther_17 C hr hno h
  · replace h := h.2 hc
    refine g_iconst C 0 (by decide) dX7_barOther_9 ?_
    refine g_goto C 17 (by decide) dX7_barOther_10 ?_
    refine g_sub [] [] rfl ?_
    exact sX7_barOther_17 C hr hno h
def TX7_makes (L1 : Int32) (L2 : Int32) (v : gMem) (Q : Int32 → gMem → Prop) (X : String → gMem → Prop) : Prop := (vp_in (v 7 0 3) 30 ∧ (vp_in ((gw v 36 0 (Int32.toNatClampNeg (v 7 0 3)) L1) 7 0 3) 30 ∧ (vp_in ((gw (gw v 36 0 (Int32.toNatClampNeg (v 7 0 3)) L1) 37 0 (Int32.toNatClampNeg ((gw v 36 0 (Int32.toNatClampNeg (v 7 0 3)) L1) 7 0 3)) L2) 7 0 3) 30 ∧ (Q ((gw (gw (gw v 36 0 (Int32.toNatClampNeg (v 7 0 3)) L1) 37 0 (Int32.toNatClampNeg ((gw v 36 0 (Int32.toNatClampNeg (v 7 0 3)) L1) 7 0 3)) L2) 43 0 (Int32.toNatClampNeg ((gw (gw v 36 0 (Int32.toNatClampNeg (v 7 0 3)) L1) 37 0 (Int32.toNatClampNeg ((gw v 36 0 (Int32.toNatClampNeg (v 7 0 3)) L1) 7 0 3)) L2) 7 0 3)) (vp_nar .boolean 1)) 7 0 3) (gw (gw (gw (gw v 36 0 (Int32.toNatClampNeg (v 7 0 3)) L1) 37 0 (Int32.toNatClampNeg ((gw v 36 0 (Int32.toNatClampNeg (v 7 0 3)) L1) 7 0 3)) L2) 43 0 (Int32.toNatClampNeg ((gw (gw v 36 0 (Int32.toNatClampNeg (v 7 0 3)) L1) 37 0 (Int32.toNatClampNeg ((gw v 36 0 (Int32.toNatClampNeg (v 7 0 3)) L1) 7 0 3)) L2) 7 0 3)) (vp_nar .boolean 1)) 7 0 3 (((gw (gw (gw v 36 0 (Int32.toNatClampNeg (v 7 0 3)) L1) 37 0 (Int32.toNatClampNeg ((gw v 36 0 (Int32.toNatClampNeg (v 7 0 3)) L1) 7 0 3)) L2) 43 0 (Int32.toNatClampNeg ((gw (gw v 36 0 (Int32.toNatClampNeg (v 7 0 3)) L1) 37 0 (Int32.toNatClampNeg ((gw v 36 0 (Int32.toNatClampNeg (v 7 0 3)) L1) 7 0 3)) L2) 7 0 3)) (vp_nar .boolean 1)) 7 0 3) + 1))))))
theorem kX7_makes (l : Launch) (hfl : l.stackTraces = false) (L : gL) (hL : gDist L) (L1 : Int32) (L2 : Int32) (v : gMem) (Q : Int32 → gMem → Prop) (X : String → gMem → Prop) (h : TX7_makes L1 L2 v Q X) (sz : Nat) : vx_Met l yX7_makes [.code yX7_makes cX7_makes 3 (some .int)] ({ frames := 0, cells := 0, slots := 0, locals := 0 } : Room) (gPc L sz [.ref (L.2.1 7 0), .int L1, .int L2] v) (gQi L sz Q) (gXC L sz X) 0 0 (gA L sz) := by
  refine g_ofW (by decide +kernel) hfl hL (Nat.le_of_ble_eq_true rfl) ?_
  intro p e s m args below meth c C hr hno
  refine g_sub [(0, .ref (L.2.1 7 0)), (1, .int L1), (2, .int L2)] [0, 1, 2] rfl ?_
  unfold TX7_makes at h
  refine g_aload_n C 0 rfl 0 rfl dX7_makes_0 ?_
  refine fgX7_32 C dX7_makes_1 ?_
  refine g_aload_n C 0 rfl 0 rfl dX7_makes_4 ?_
  refine fgX7_115 C dX7_makes_5 ?_
  refine g_iload_n C 1 rfl 1 rfl dX7_makes_8 ?_
  obtain ⟨hb9, h⟩ := h
  refine g_iast C gok_36 (fun _ => rfl) hb9 dX7_makes_9 ?_
  refine g_aload_n C 0 rfl 0 rfl dX7_makes_10 ?_
  refine fgX7_35 C dX7_makes_11 ?_
  refine g_aload_n C 0 rfl 0 rfl dX7_makes_14 ?_
  refine fgX7_115 C dX7_makes_15 ?_
  refine g_iload_n C 2 rfl 2 rfl dX7_makes_18 ?_
  obtain ⟨hb19, h⟩ := h
  refine g_iast C gok_37 (fun _ => rfl) hb19 dX7_makes_19 ?_
  refine g_aload_n C 0 rfl 0 rfl dX7_makes_20 ?_
  refine fgX7_54 C dX7_makes_21 ?_
  refine g_aload_n C 0 rfl 0 rfl dX7_makes_24 ?_
  refine fgX7_115 C dX7_makes_25 ?_
  refine g_iconst C 1 (by decide) dX7_makes_28 ?_
  obtain ⟨hb29, h⟩ := h
  refine g_zast C gok_43 (fun _ => rfl) hb29 dX7_makes_29 ?_
  refine g_aload_n C 0 rfl 0 rfl dX7_makes_30 ?_
  refine g_dup C rfl dX7_makes_31 ?_
  refine fgX7_115 C dX7_makes_32 ?_
  refine g_dup_x1 C rfl rfl dX7_makes_35 ?_
  refine g_iconst C 1 (by decide) dX7_makes_36 ?_
  refine g_iadd C dX7_makes_37 ?_
  refine fpX7_115 C dX7_makes_38 ?_
  exact g_iret C hr rfl (Nat.le_of_ble_eq_true rfl) (Nat.le_of_ble_eq_true rfl) h dX7_makes_41
def BX7_merge_79 (v : gMem) (Q : Int32 → gMem → Prop) (X : String → gMem → Prop) : Prop := (TX7_fail 3 v (fun r81 v81 => (Q r81 v81)) X)
theorem sX7_merge_79 (C : gC p l s m args meth c cX7_merge 3 RX7 L sz) (hr : meth.sig.returnType = (some .int)) (hno : ∀ x ∈ c.exceptionTable.toList, False) {v : gMem} {Q : Int32 → gMem → Prop} {X : String → gMem → Prop} (h : BX7_merge_79 v Q X) : gS p l e ({ frames := 3, cells := 0, slots := 0, locals := 65 } : Room) s m args below meth c 3 L sz (vx_MQ below (gQi L sz Q) (gXC L sz X) args s 0 0 (gA L sz)) 0 0 79 [(0, .ref (L.2.1 7 0))] [] v := by
  unfold BX7_merge_79 at h
  refine g_aload_n C 0 rfl 0 rfl dX7_merge_79 ?_
  refine g_iconst C 3 (by decide) dX7_merge_80 ?_
  refine g_callVi C hno gok_7 rfl rfl [.int 3] (fun sz9 => kX7_fail l C.2.2.2.2.2.2.1 L C.2.2.2.2.2.2.2.1 3 v _ X h sz9) wml_RX7_78 winst_X7_fail wsel_X7_fail wini_RX7 wcode_X7_fail rfl rfl (n := 1) (by decide +kernel) rfl ⟨(Nat.le_of_ble_eq_true rfl), (Nat.le_of_ble_eq_true rfl)⟩ ⟨(Nat.le_of_ble_eq_true rfl), (Nat.le_of_ble_eq_true rfl)⟩ ⟨(Nat.le_of_ble_eq_true rfl), (Nat.le_of_ble_eq_true rfl)⟩ (Nat.le_of_ble_eq_true rfl) dX7_merge_81 (fun r81 v81 h => ?_)
  exact g_iret C hr rfl (Nat.le_of_ble_eq_true rfl) (Nat.le_of_ble_eq_true rfl) h dX7_merge_84
def BX7_merge_55 (L1 : Int32) (L2 : Int32) (v : gMem) (Q : Int32 → gMem → Prop) (X : String → gMem → Prop) : Prop := (vp_in L1 16 ∧ (vp_in L2 16 ∧ (((v 38 0 (Int32.toNatClampNeg L1)) = (v 38 0 (Int32.toNatClampNeg L2)) → (BX7_merge_79 v Q X)) ∧ (¬ (v 38 0 (Int32.toNatClampNeg L1)) = (v 38 0 (Int32.toNatClampNeg L2)) → ((¬ (v 7 0 3) = 30 → (TX7_makes L1 L2 v (fun r88 v88 => (Q r88 v88)) X)) ∧ ((v 7 0 3) = 30 → (BX7_merge_79 v Q X)))))))
theorem sX7_merge_55 (C : gC p l s m args meth c cX7_merge 3 RX7 L sz) (hr : meth.sig.returnType = (some .int)) (hno : ∀ x ∈ c.exceptionTable.toList, False) {L1 : Int32} {L2 : Int32} {v : gMem} {Q : Int32 → gMem → Prop} {X : String → gMem → Prop} (h : BX7_merge_55 L1 L2 v Q X) : gS p l e ({ frames := 3, cells := 0, slots := 0, locals := 65 } : Room) s m args below meth c 3 L sz (vx_MQ below (gQi L sz Q) (gXC L sz X) args s 0 0 (gA L sz)) 0 0 55 [(0, .ref (L.2.1 7 0)), (1, .int L1), (2, .int L2)] [] v := by
  unfold BX7_merge_55 at h
  refine g_aload_n C 0 rfl 0 rfl dX7_merge_55 ?_
  refine fgX7_38 C dX7_merge_56 ?_
  refine g_iload_n C 1 rfl 1 rfl dX7_merge_59 ?_
  obtain ⟨hb60, h⟩ := h
  refine g_iald C gok_38 rfl hb60 dX7_merge_60 ?_
  refine g_aload_n C 0 rfl 0 rfl dX7_merge_61 ?_
  refine fgX7_38 C dX7_merge_62 ?_
  refine g_iload_n C 2 rfl 2 rfl dX7_merge_65 ?_
  obtain ⟨hb66, h⟩ := h
  refine g_iald C gok_38 rfl hb66 dX7_merge_66 ?_
  refine g_icmp_eq C 79 (by decide) dX7_merge_67 (fun hc => ?_) (fun hc => ?_)
  · replace h := h.1 hc
    refine g_sub [(0, .ref (L.2.1 7 0))] [0] rfl ?_
    exact sX7_merge_79 C hr hno h
  · replace h := h.2 hc
    refine g_aload_n C 0 rfl 0 rfl dX7_merge_70 ?_
    refine fgX7_115 C dX7_merge_71 ?_
    refine g_bipush C 30 (by decide) dX7_merge_74 ?_
    refine g_icmp_ne C 85 (by decide) dX7_merge_76 (fun hc => ?_) (fun hc => ?_)
    · replace h := h.1 hc
      refine g_aload_n C 0 rfl 0 rfl dX7_merge_85 ?_
      refine g_iload_n C 1 rfl 1 rfl dX7_merge_86 ?_
      refine g_iload_n C 2 rfl 2 rfl dX7_merge_87 ?_
      refine g_callVi C hno gok_7 rfl rfl [.int L1, .int L2] (fun sz9 => kX7_makes l C.2.2.2.2.2.2.1 L C.2.2.2.2.2.2.2.1 L1 L2 v _ X h sz9) wml_RX7_150 winst_X7_makes wsel_X7_makes wini_RX7 wcode_X7_makes rfl rfl (n := 2) (by decide +kernel) rfl ⟨(Nat.le_of_ble_eq_true rfl), (Nat.le_of_ble_eq_true rfl)⟩ ⟨(Nat.le_of_ble_eq_true rfl), (Nat.le_of_ble_eq_true rfl)⟩ ⟨(Nat.le_of_ble_eq_true rfl), (Nat.le_of_ble_eq_true rfl)⟩ (Nat.le_of_ble_eq_true rfl) dX7_merge_88 (fun r88 v88 h => ?_)
      exact g_iret C hr rfl (Nat.le_of_ble_eq_true rfl) (Nat.le_of_ble_eq_true rfl) h dX7_merge_91
    · replace h := h.2 hc
      refine g_sub [(0, .ref (L.2.1 7 0))] [0] rfl ?_
      exact sX7_merge_79 C hr hno h
def TX7_merge (L1 : Int32) (L2 : Int32) (v : gMem) (Q : Int32 → gMem → Prop) (X : String → gMem → Prop) : Prop := (TX7_noCards L1 L2 v (fun r3 v3 => ((r3 = 0 → (TX7_gather v3 (fun v12 => (vp_in L1 16 ∧ (vp_in L2 16 ∧ (((v12 38 0 (Int32.toNatClampNeg L1)) = (v12 38 0 (Int32.toNatClampNeg L2)) → (BX7_merge_55 L1 L2 v12 Q X)) ∧ (¬ (v12 38 0 (Int32.toNatClampNeg L1)) = (v12 38 0 (Int32.toNatClampNeg L2)) → (vp_in L1 16 ∧ (vp_in L2 16 ∧ (TX7_isBarred (v12 38 0 (Int32.toNatClampNeg L1)) (v12 38 0 (Int32.toNatClampNeg L2)) v12 (fun r43 v43 => ((r43 = 0 → (BX7_merge_55 L1 L2 v43 Q X)) ∧ (¬ r43 = 0 → (TX7_fail 2 v43 (fun r51 v51 => (Q r51 v51)) X)))) X)))))))) X)) ∧ (¬ r3 = 0 → (Q 0 v3)))) X)
theorem kX7_merge (l : Launch) (hfl : l.stackTraces = false) (L : gL) (hL : gDist L) (L1 : Int32) (L2 : Int32) (v : gMem) (Q : Int32 → gMem → Prop) (X : String → gMem → Prop) (h : TX7_merge L1 L2 v Q X) (sz : Nat) : vx_Met l yX7_merge [.code yX7_merge cX7_merge 3 (some .int)] ({ frames := 3, cells := 0, slots := 0, locals := 65 } : Room) (gPc L sz [.ref (L.2.1 7 0), .int L1, .int L2] v) (gQi L sz Q) (gXC L sz X) 0 0 (gA L sz) := by
  refine g_ofW (by decide +kernel) hfl hL (Nat.le_of_ble_eq_true rfl) ?_
  intro p e s m args below meth c C hr hno
  refine g_sub [(0, .ref (L.2.1 7 0)), (1, .int L1), (2, .int L2)] [0, 1, 2] rfl ?_
  unfold TX7_merge at h
  refine g_aload_n C 0 rfl 0 rfl dX7_merge_0 ?_
  refine g_iload_n C 1 rfl 1 rfl dX7_merge_1 ?_
  refine g_iload_n C 2 rfl 2 rfl dX7_merge_2 ?_
  refine g_callVi C hno gok_7 rfl rfl [.int L1, .int L2] (fun sz9 => kX7_noCards l C.2.2.2.2.2.2.1 L C.2.2.2.2.2.2.2.1 L1 L2 v _ X h sz9) wml_RX7_108 winst_X7_noCards wsel_X7_noCards wini_RX7 wcode_X7_noCards rfl rfl (n := 2) (by decide +kernel) rfl ⟨(Nat.le_of_ble_eq_true rfl), (Nat.le_of_ble_eq_true rfl)⟩ ⟨(Nat.le_of_ble_eq_true rfl), (Nat.le_of_ble_eq_true rfl)⟩ ⟨(Nat.le_of_ble_eq_true rfl), (Nat.le_of_ble_eq_true rfl)⟩ (Nat.le_of_ble_eq_true rfl) dX7_merge_3 (fun r3 v3 h => ?_)
  refine g_if_eq C 11 (by decide) dX7_merge_6 (fun hc => ?_) (fun hc => ?_)
  · replace h := h.1 hc
    refine g_aload_n C 0 rfl 0 rfl dX7_merge_11 ?_
    refine g_callVv C hno gok_7 rfl rfl [] (fun sz9 => kX7_gather l C.2.2.2.2.2.2.1 L C.2.2.2.2.2.2.2.1 v3 _ X h sz9) wml_RX7_130 winst_X7_gather wsel_X7_gather wini_RX7 wcode_X7_gather rfl rfl (n := 0) (by decide +kernel) rfl ⟨(Nat.le_of_ble_eq_true rfl), (Nat.le_of_ble_eq_true rfl)⟩ ⟨(Nat.le_of_ble_eq_true rfl), (Nat.le_of_ble_eq_true rfl)⟩ ⟨(Nat.le_of_ble_eq_true rfl), (Nat.le_of_ble_eq_true rfl)⟩ (Nat.le_of_ble_eq_true rfl) dX7_merge_12 (fun v12 h => ?_)
    refine g_aload_n C 0 rfl 0 rfl dX7_merge_15 ?_
    refine fgX7_38 C dX7_merge_16 ?_
    refine g_iload_n C 1 rfl 1 rfl dX7_merge_19 ?_
    obtain ⟨hb20, h⟩ := h
    refine g_iald C gok_38 rfl hb20 dX7_merge_20 ?_
    refine g_aload_n C 0 rfl 0 rfl dX7_merge_21 ?_
    refine fgX7_38 C dX7_merge_22 ?_
    refine g_iload_n C 2 rfl 2 rfl dX7_merge_25 ?_
    obtain ⟨hb26, h⟩ := h
    refine g_iald C gok_38 rfl hb26 dX7_merge_26 ?_
    refine g_icmp_eq C 55 (by decide) dX7_merge_27 (fun hc => ?_) (fun hc => ?_)
    · replace h := h.1 hc
      exact sX7_merge_55 C hr hno h
    · replace h := h.2 hc
      refine g_aload_n C 0 rfl 0 rfl dX7_merge_30 ?_
      refine g_aload_n C 0 rfl 0 rfl dX7_merge_31 ?_
      refine fgX7_38 C dX7_merge_32 ?_
      refine g_iload_n C 1 rfl 1 rfl dX7_merge_35 ?_
      obtain ⟨hb36, h⟩ := h
      refine g_iald C gok_38 rfl hb36 dX7_merge_36 ?_
      refine g_aload_n C 0 rfl 0 rfl dX7_merge_37 ?_
      refine fgX7_38 C dX7_merge_38 ?_
      refine g_iload_n C 2 rfl 2 rfl dX7_merge_41 ?_
      obtain ⟨hb42, h⟩ := h
      refine g_iald C gok_38 rfl hb42 dX7_merge_42 ?_
      refine g_callVi C hno gok_7 rfl rfl [.int (v12 38 0 (Int32.toNatClampNeg L1)), .int (v12 38 0 (Int32.toNatClampNeg L2))] (fun sz9 => kX7_isBarred l C.2.2.2.2.2.2.1 L C.2.2.2.2.2.2.2.1 (v12 38 0 (Int32.toNatClampNeg L1)) (v12 38 0 (Int32.toNatClampNeg L2)) v12 _ X h sz9) wml_RX7_127 winst_X7_isBarred wsel_X7_isBarred wini_RX7 wcode_X7_isBarred rfl rfl (n := 2) (by decide +kernel) rfl ⟨(Nat.le_of_ble_eq_true rfl), (Nat.le_of_ble_eq_true rfl)⟩ ⟨(Nat.le_of_ble_eq_true rfl), (Nat.le_of_ble_eq_true rfl)⟩ ⟨(Nat.le_of_ble_eq_true rfl), (Nat.le_of_ble_eq_true rfl)⟩ (Nat.le_of_ble_eq_true rfl) dX7_merge_43 (fun r43 v43 h => ?_)
      refine g_if_eq C 55 (by decide) dX7_merge_46 (fun hc => ?_) (fun hc => ?_)
      · replace h := h.1 hc
        exact sX7_merge_55 C hr hno h
      · replace h := h.2 hc
        refine g_aload_n C 0 rfl 0 rfl dX7_merge_49 ?_
        refine g_iconst C 2 (by decide) dX7_merge_50 ?_
        refine g_callVi C hno gok_7 rfl rfl [.int 2] (fun sz9 => kX7_fail l C.2.2.2.2.2.2.1 L C.2.2.2.2.2.2.2.1 2 v43 _ X h sz9) wml_RX7_78 winst_X7_fail wsel_X7_fail wini_RX7 wcode_X7_fail rfl rfl (n := 1) (by decide +kernel) rfl ⟨(Nat.le_of_ble_eq_true rfl), (Nat.le_of_ble_eq_true rfl)⟩ ⟨(Nat.le_of_ble_eq_true rfl), (Nat.le_of_ble_eq_true rfl)⟩ ⟨(Nat.le_of_ble_eq_true rfl), (Nat.le_of_ble_eq_true rfl)⟩ (Nat.le_of_ble_eq_true rfl) dX7_merge_51 (fun r51 v51 h => ?_)
        exact g_iret C hr rfl (Nat.le_of_ble_eq_true rfl) (Nat.le_of_ble_eq_true rfl) h dX7_merge_54
  · replace h := h.2 hc
    refine g_iconst C 0 (by decide) dX7_merge_9 ?_
    exact g_iret C hr rfl (Nat.le_of_ble_eq_true rfl) (Nat.le_of_ble_eq_true rfl) h dX7_merge_10
def TX7_mergeBest (v : gMem) (Q : Int32 → gMem → Prop) (X : String → gMem → Prop) : Prop := (TX7_noBest v (fun r1 v1 => ((r1 = 0 → ((¬ (v1 7 0 3) = 30 → (TX7_makes (v1 7 0 7) (v1 7 0 8) v1 (fun r33 v33 => (Q r33 v33)) X)) ∧ ((v1 7 0 3) = 30 → (TX7_fail 2 v1 (fun r20 v20 => (Q r20 v20)) X)))) ∧ (¬ r1 = 0 → (Q 0 v1)))) X)
theorem kX7_mergeBest (l : Launch) (hfl : l.stackTraces = false) (L : gL) (hL : gDist L) (v : gMem) (Q : Int32 → gMem → Prop) (X : String → gMem → Prop) (h : TX7_mergeBest v Q X) (sz : Nat) : vx_Met l yX7_mergeBest [.code yX7_mergeBest cX7_mergeBest 1 (some .int)] ({ frames := 6, cells := 0, slots := 0, locals := 144 } : Room) (gPc L sz [.ref (L.2.1 7 0)] v) (gQi L sz Q) (gXC L sz X) 0 0 (gA L sz) := by
  refine g_ofW (by decide +kernel) hfl hL (Nat.le_of_ble_eq_true rfl) ?_
  intro p e s m args below meth c C hr hno
  refine g_sub [(0, .ref (L.2.1 7 0))] [0] rfl ?_
  unfold TX7_mergeBest at h
  refine g_aload_n C 0 rfl 0 rfl dX7_mergeBest_0 ?_
  refine g_callVi C hno gok_7 rfl rfl [] (fun sz9 => kX7_noBest l C.2.2.2.2.2.2.1 L C.2.2.2.2.2.2.2.1 v _ X h sz9) wml_RX7_136 winst_X7_noBest wsel_X7_noBest wini_RX7 wcode_X7_noBest rfl rfl (n := 0) (by decide +kernel) rfl ⟨(Nat.le_of_ble_eq_true rfl), (Nat.le_of_ble_eq_true rfl)⟩ ⟨(Nat.le_of_ble_eq_true rfl), (Nat.le_of_ble_eq_true rfl)⟩ ⟨(Nat.le_of_ble_eq_true rfl), (Nat.le_of_ble_eq_true rfl)⟩ (Nat.le_of_ble_eq_true rfl) dX7_mergeBest_1 (fun r1 v1 h => ?_)
  refine g_if_eq C 9 (by decide) dX7_mergeBest_4 (fun hc => ?_) (fun hc => ?_)
  · replace h := h.1 hc
    refine g_aload_n C 0 rfl 0 rfl dX7_mergeBest_9 ?_
    refine fgX7_115 C dX7_mergeBest_10 ?_
    refine g_bipush C 30 (by decide) dX7_mergeBest_13 ?_
    refine g_icmp_ne C 24 (by decide) dX7_mergeBest_15 (fun hc => ?_) (fun hc => ?_)
    · replace h := h.1 hc
      refine g_aload_n C 0 rfl 0 rfl dX7_mergeBest_24 ?_
      refine g_aload_n C 0 rfl 0 rfl dX7_mergeBest_25 ?_
      refine fgX7_121 C dX7_mergeBest_26 ?_
      refine g_aload_n C 0 rfl 0 rfl dX7_mergeBest_29 ?_
      refine fgX7_124 C dX7_mergeBest_30 ?_
      refine g_callVi C hno gok_7 rfl rfl [.int (v1 7 0 7), .int (v1 7 0 8)] (fun sz9 => kX7_makes l C.2.2.2.2.2.2.1 L C.2.2.2.2.2.2.2.1 (v1 7 0 7) (v1 7 0 8) v1 _ X h sz9) wml_RX7_150 winst_X7_makes wsel_X7_makes wini_RX7 wcode_X7_makes rfl rfl (n := 2) (by decide +kernel) rfl ⟨(Nat.le_of_ble_eq_true rfl), (Nat.le_of_ble_eq_true rfl)⟩ ⟨(Nat.le_of_ble_eq_true rfl), (Nat.le_of_ble_eq_true rfl)⟩ ⟨(Nat.le_of_ble_eq_true rfl), (Nat.le_of_ble_eq_true rfl)⟩ (Nat.le_of_ble_eq_true rfl) dX7_mergeBest_33 (fun r33 v33 h => ?_)
      exact g_iret C hr rfl (Nat.le_of_ble_eq_true rfl) (Nat.le_of_ble_eq_true rfl) h dX7_mergeBest_36
    · replace h := h.2 hc
      refine g_aload_n C 0 rfl 0 rfl dX7_mergeBest_18 ?_
      refine g_iconst C 2 (by decide) dX7_mergeBest_19 ?_
      refine g_callVi C hno gok_7 rfl rfl [.int 2] (fun sz9 => kX7_fail l C.2.2.2.2.2.2.1 L C.2.2.2.2.2.2.2.1 2 v1 _ X h sz9) wml_RX7_78 winst_X7_fail wsel_X7_fail wini_RX7 wcode_X7_fail rfl rfl (n := 1) (by decide +kernel) rfl ⟨(Nat.le_of_ble_eq_true rfl), (Nat.le_of_ble_eq_true rfl)⟩ ⟨(Nat.le_of_ble_eq_true rfl), (Nat.le_of_ble_eq_true rfl)⟩ ⟨(Nat.le_of_ble_eq_true rfl), (Nat.le_of_ble_eq_true rfl)⟩ (Nat.le_of_ble_eq_true rfl) dX7_mergeBest_20 (fun r20 v20 h => ?_)
      exact g_iret C hr rfl (Nat.le_of_ble_eq_true rfl) (Nat.le_of_ble_eq_true rfl) h dX7_mergeBest_23
  · replace h := h.2 hc
    refine g_iconst C 0 (by decide) dX7_mergeBest_7 ?_
    exact g_iret C hr rfl (Nat.le_of_ble_eq_true rfl) (Nat.le_of_ble_eq_true rfl) h dX7_mergeBest_8
def BX7_noMerge_35 (t0 : Int32) (v : gMem) (Q : Int32 → gMem → Prop) (X : String → gMem → Prop) : Prop := (narrow .boolean (.int t0) = .int t0 ∧ Q t0 v)
theorem sX7_noMerge_35 (C : gC p l s m args meth c cX7_noMerge 2 RX7 L sz) (hr : meth.sig.returnType = (some .boolean)) (hno : ∀ x ∈ c.exceptionTable.toList, False) {t0 : Int32} {v : gMem} {Q : Int32 → gMem → Prop} {X : String → gMem → Prop} (h : BX7_noMerge_35 t0 v Q X) : gS p l e ({ frames := 1, cells := 0, slots := 0, locals := 22 } : Room) s m args below meth c 2 L sz (vx_MQ below (gQi L sz Q) (gXC L sz X) args s 0 0 (gA L sz)) 0 0 35 [] [.int t0] v := by
  unfold BX7_noMerge_35 at h
  exact g_iret C hr h.1 (Nat.le_of_ble_eq_true rfl) (Nat.le_of_ble_eq_true rfl) h.2 dX7_noMerge_35
def BX7_noMerge_20 (t1 : Int32) (v : gMem) (Q : Int32 → gMem → Prop) (X : String → gMem → Prop) : Prop := ((((gw v 7 0 0 t1) 7 0 0) = 0 → (BX7_noMerge_35 0 (gw v 7 0 0 t1) Q X)) ∧ (¬ ((gw v 7 0 0 t1) 7 0 0) = 0 → (BX7_noMerge_35 1 (gw v 7 0 0 t1) Q X)))
theorem sX7_noMerge_20 (C : gC p l s m args meth c cX7_noMerge 2 RX7 L sz) (hr : meth.sig.returnType = (some .boolean)) (hno : ∀ x ∈ c.exceptionTable.toList, False) {t1 : Int32} {v : gMem} {Q : Int32 → gMem → Prop} {X : String → gMem → Prop} (h : BX7_noMerge_20 t1 v Q X) : gS p l e ({ frames := 1, cells := 0, slots := 0, locals := 22 } : Room) s m args below meth c 2 L sz (vx_MQ below (gQi L sz Q) (gXC L sz X) args s 0 0 (gA L sz)) 0 0 20 [(0, .ref (L.2.1 7 0))] [.int t1, .ref (L.2.1 7 0)] v := by
  unfold BX7_noMerge_20 at h
  refine fpX7_64 C dX7_noMerge_20 ?_
  refine g_aload_n C 0 rfl 0 rfl dX7_noMerge_23 ?_
  refine fgX7_64 C dX7_noMerge_24 ?_
  refine g_if_eq C 34 (by decide) dX7_noMerge_27 (fun hc => ?_) (fun hc => ?_)
  · replace h := h.1 hc
    refine g_iconst C 0 (by decide) dX7_noMerge_34 ?_
    refine g_sub [] [] rfl ?_
    exact sX7_noMerge_35 C hr hno h
  · replace h := h.2 hc
    refine g_iconst C 1 (by decide) dX7_noMerge_30 ?_
    refine g_goto C 35 (by decide) dX7_noMerge_31 ?_
    refine g_sub [] [] rfl ?_
    exact sX7_noMerge_35 C hr hno h
def TX7_noMerge (L1 : Int32) (v : gMem) (Q : Int32 → gMem → Prop) (X : String → gMem → Prop) : Prop := (TX7_isWithin L1 0 ((v 7 0 3) - 1) v (fun r9 v9 => ((r9 = 0 → (BX7_noMerge_20 1 v9 Q X)) ∧ (¬ r9 = 0 → (BX7_noMerge_20 0 v9 Q X)))) X)
theorem kX7_noMerge (l : Launch) (hfl : l.stackTraces = false) (L : gL) (hL : gDist L) (L1 : Int32) (v : gMem) (Q : Int32 → gMem → Prop) (X : String → gMem → Prop) (h : TX7_noMerge L1 v Q X) (sz : Nat) : vx_Met l yX7_noMerge [.code yX7_noMerge cX7_noMerge 2 (some .boolean)] ({ frames := 1, cells := 0, slots := 0, locals := 22 } : Room) (gPc L sz [.ref (L.2.1 7 0), .int L1] v) (gQi L sz Q) (gXC L sz X) 0 0 (gA L sz) := by
  refine g_ofW (by decide +kernel) hfl hL (Nat.le_of_ble_eq_true rfl) ?_
  intro p e s m args below meth c C hr hno
  refine g_sub [(0, .ref (L.2.1 7 0)), (1, .int L1)] [0, 1] rfl ?_
  unfold TX7_noMerge at h
  refine g_aload_n C 0 rfl 0 rfl dX7_noMerge_0 ?_
  refine g_iload_n C 1 rfl 1 rfl dX7_noMerge_1 ?_
  refine g_iconst C 0 (by decide) dX7_noMerge_2 ?_
  refine g_aload_n C 0 rfl 0 rfl dX7_noMerge_3 ?_
  refine fgX7_115 C dX7_noMerge_4 ?_
  refine g_iconst C 1 (by decide) dX7_noMerge_7 ?_
  refine g_isub C dX7_noMerge_8 ?_
  refine g_callSi C hno [.int L1, .int 0, .int ((v 7 0 3) - 1)] (fun sz9 => kX7_isWithin l C.2.2.2.2.2.2.1 L C.2.2.2.2.2.2.2.1 L1 0 ((v 7 0 3) - 1) v _ X h sz9) wml_RX7_70 wstat_X7_isWithin wini_RX7 wcode_X7_isWithin rfl rfl (n := 3) (by decide +kernel) rfl ⟨(Nat.le_of_ble_eq_true rfl), (Nat.le_of_ble_eq_true rfl)⟩ ⟨(Nat.le_of_ble_eq_true rfl), (Nat.le_of_ble_eq_true rfl)⟩ ⟨(Nat.le_of_ble_eq_true rfl), (Nat.le_of_ble_eq_true rfl)⟩ (Nat.le_of_ble_eq_true rfl) dX7_noMerge_9 (fun r9 v9 h => ?_)
  refine g_if_eq C 19 (by decide) dX7_noMerge_12 (fun hc => ?_) (fun hc => ?_)
  · replace h := h.1 hc
    refine g_iconst C 1 (by decide) dX7_noMerge_19 ?_
    refine g_sub [(0, .ref (L.2.1 7 0))] [0] rfl ?_
    exact sX7_noMerge_20 C hr hno h
  · replace h := h.2 hc
    refine g_iconst C 0 (by decide) dX7_noMerge_15 ?_
    refine g_goto C 20 (by decide) dX7_noMerge_16 ?_
    refine g_sub [(0, .ref (L.2.1 7 0))] [0] rfl ?_
    exact sX7_noMerge_20 C hr hno h
def BX7_persons_32 (I8 : Int32 → Int32 → gMem → Prop) (L2 : Int32) (t0 : Int32) (t1 : Int32) (v : gMem) (Q : Int32 → gMem → Prop) (X : String → gMem → Prop) : Prop := (I8 (t0 + t1) (L2 + 1) v)
theorem sX7_persons_32 (C : gC p l s m args meth c cX7_persons 3 RX7 L sz) (hr : meth.sig.returnType = (some .int)) (hno : ∀ x ∈ c.exceptionTable.toList, False) {L2 : Int32} {t0 : Int32} {t1 : Int32} {v : gMem} {Q : Int32 → gMem → Prop} {X : String → gMem → Prop} {I8 : Int32 → Int32 → gMem → Prop} (hI8 : ∀ (L1 : Int32) (L2 : Int32) (v : gMem), I8 L1 L2 v → gS p l e ({ frames := 1, cells := 0, slots := 0, locals := 23 } : Room) s m args below meth c 3 L sz (vx_MQ below (gQi L sz Q) (gXC L sz X) args s 0 0 (gA L sz)) 0 0 8 [(0, .ref (L.2.1 7 0)), (1, .int L1), (2, .int L2)] [] v) (h : BX7_persons_32 I8 L2 t0 t1 v Q X) : gS p l e ({ frames := 1, cells := 0, slots := 0, locals := 23 } : Room) s m args below meth c 3 L sz (vx_MQ below (gQi L sz Q) (gXC L sz X) args s 0 0 (gA L sz)) 0 0 32 [(0, .ref (L.2.1 7 0)), (2, .int L2)] [.int t1, .int t0] v := by
  unfold BX7_persons_32 at h
  refine g_iadd C dX7_persons_32 ?_
  refine g_istore_n C 1 rfl [(1, .int (t0 + t1)), (0, .ref (L.2.1 7 0)), (2, .int L2)] (Nat.le_of_ble_eq_true rfl) rfl dX7_persons_33 ?_
  refine g_iinc C (k := 2) (L2 + 1) [(2, .int (L2 + 1)), (1, .int (t0 + t1)), (0, .ref (L.2.1 7 0))] rfl rfl (Nat.le_of_ble_eq_true rfl) rfl dX7_persons_34 ?_
  refine g_goto C 8 (by decide) dX7_persons_37 ?_
  refine g_sub [(0, .ref (L.2.1 7 0)), (1, .int (t0 + t1)), (2, .int (L2 + 1))] [2, 1, 0] rfl ?_
  exact hI8 _ _ _ h
def BX7_persons_8 (I8 : Int32 → Int32 → gMem → Prop) (L1 : Int32) (L2 : Int32) (v : gMem) (Q : Int32 → gMem → Prop) (X : String → gMem → Prop) : Prop := (((v 7 0 2) ≤ L2 → (Q L1 v)) ∧ (¬ (v 7 0 2) ≤ L2 → (vp_in L2 16 ∧ ((¬ (v 38 0 (Int32.toNatClampNeg L2)) = L2 → (BX7_persons_32 I8 L2 L1 0 v Q X)) ∧ ((v 38 0 (Int32.toNatClampNeg L2)) = L2 → (BX7_persons_32 I8 L2 L1 1 v Q X))))))
theorem sX7_persons_8 (C : gC p l s m args meth c cX7_persons 3 RX7 L sz) (hr : meth.sig.returnType = (some .int)) (hno : ∀ x ∈ c.exceptionTable.toList, False) {L1 : Int32} {L2 : Int32} {v : gMem} {Q : Int32 → gMem → Prop} {X : String → gMem → Prop} {I8 : Int32 → Int32 → gMem → Prop} (hI8 : ∀ (L1 : Int32) (L2 : Int32) (v : gMem), I8 L1 L2 v → gS p l e ({ frames := 1, cells := 0, slots := 0, locals := 23 } : Room) s m args below meth c 3 L sz (vx_MQ below (gQi L sz Q) (gXC L sz X) args s 0 0 (gA L sz)) 0 0 8 [(0, .ref (L.2.1 7 0)), (1, .int L1), (2, .int L2)] [] v) (h : BX7_persons_8 I8 L1 L2 v Q X) : gS p l e ({ frames := 1, cells := 0, slots := 0, locals := 23 } : Room) s m args below meth c 3 L sz (vx_MQ below (gQi L sz Q) (gXC L sz X) args s 0 0 (gA L sz)) 0 0 8 [(0, .ref (L.2.1 7 0)), (1, .int L1), (2, .int L2)] [] v := by
  unfold BX7_persons_8 at h
  refine g_iload_n C 2 rfl 2 rfl dX7_persons_8 ?_
  refine g_aload_n C 0 rfl 0 rfl dX7_persons_9 ?_
  refine fgX7_67 C dX7_persons_10 ?_
  refine g_icmp_ge C 40 (by decide) dX7_persons_13 (fun hc => ?_) (fun hc => ?_)
  · replace h := h.1 hc
    refine g_iload_n C 1 rfl 1 rfl dX7_persons_40 ?_
    exact g_iret C hr rfl (Nat.le_of_ble_eq_true rfl) (Nat.le_of_ble_eq_true rfl) h dX7_persons_41
  · replace h := h.2 hc
    refine g_iload_n C 1 rfl 1 rfl dX7_persons_16 ?_
    refine g_aload_n C 0 rfl 0 rfl dX7_persons_17 ?_
    refine fgX7_38 C dX7_persons_18 ?_
    refine g_iload_n C 2 rfl 2 rfl dX7_persons_21 ?_
    obtain ⟨hb22, h⟩ := h
    refine g_iald C gok_38 rfl hb22 dX7_persons_22 ?_
    refine g_iload_n C 2 rfl 2 rfl dX7_persons_23 ?_
    refine g_icmp_ne C 31 (by decide) dX7_persons_24 (fun hc => ?_) (fun hc => ?_)
    · replace h := h.1 hc
      refine g_iconst C 0 (by decide) dX7_persons_31 ?_
      refine g_sub [(0, .ref (L.2.1 7 0)), (2, .int L2)] [0, 2] rfl ?_
      exact sX7_persons_32 C hr hno hI8 h
    · replace h := h.2 hc
      refine g_iconst C 1 (by decide) dX7_persons_27 ?_
      refine g_goto C 32 (by decide) dX7_persons_28 ?_
      refine g_sub [(0, .ref (L.2.1 7 0)), (2, .int L2)] [0, 2] rfl ?_
      exact sX7_persons_32 C hr hno hI8 h
def LX7_persons_8 (L1 : Int32) (L2 : Int32) (v : gMem) (Q : Int32 → gMem → Prop) (X : String → gMem → Prop) : Prop := ∀ I8 : Int32 → Int32 → gMem → Prop, (∀ (L1 : Int32) (L2 : Int32) (v : gMem), BX7_persons_8 I8 L1 L2 v Q X → I8 L1 L2 v) → I8 L1 L2 v
theorem slX7_persons_8 (C : gC p l s m args meth c cX7_persons 3 RX7 L sz) (hr : meth.sig.returnType = (some .int)) (hno : ∀ x ∈ c.exceptionTable.toList, False) {L1 : Int32} {L2 : Int32} {v : gMem} {Q : Int32 → gMem → Prop} {X : String → gMem → Prop} (h : LX7_persons_8 L1 L2 v Q X) : gS p l e ({ frames := 1, cells := 0, slots := 0, locals := 23 } : Room) s m args below meth c 3 L sz (vx_MQ below (gQi L sz Q) (gXC L sz X) args s 0 0 (gA L sz)) 0 0 8 [(0, .ref (L.2.1 7 0)), (1, .int L1), (2, .int L2)] [] v := by
  refine h (fun L1 L2 v => gS p l e ({ frames := 1, cells := 0, slots := 0, locals := 23 } : Room) s m args below meth c 3 L sz (vx_MQ below (gQi L sz Q) (gXC L sz X) args s 0 0 (gA L sz)) 0 0 8 [(0, .ref (L.2.1 7 0)), (1, .int L1), (2, .int L2)] [] v) (fun L1 L2 v hb => ?_)
  exact sX7_persons_8 C hr hno (fun _ _ _ hs => hs) hb
def TX7_persons (v : gMem) (Q : Int32 → gMem → Prop) (X : String → gMem → Prop) : Prop := (TX7_gather v (fun v1 => (LX7_persons_8 0 0 v1 Q X)) X)
theorem kX7_persons (l : Launch) (hfl : l.stackTraces = false) (L : gL) (hL : gDist L) (v : gMem) (Q : Int32 → gMem → Prop) (X : String → gMem → Prop) (h : TX7_persons v Q X) (sz : Nat) : vx_Met l yX7_persons [.code yX7_persons cX7_persons 3 (some .int)] ({ frames := 1, cells := 0, slots := 0, locals := 23 } : Room) (gPc L sz [.ref (L.2.1 7 0)] v) (gQi L sz Q) (gXC L sz X) 0 0 (gA L sz) := by
  refine g_ofW (by decide +kernel) hfl hL (Nat.le_of_ble_eq_true rfl) ?_
  intro p e s m args below meth c C hr hno
  refine g_sub [(0, .ref (L.2.1 7 0))] [0] rfl ?_
  unfold TX7_persons at h
  refine g_aload_n C 0 rfl 0 rfl dX7_persons_0 ?_
  refine g_callVv C hno gok_7 rfl rfl [] (fun sz9 => kX7_gather l C.2.2.2.2.2.2.1 L C.2.2.2.2.2.2.2.1 v _ X h sz9) wml_RX7_130 winst_X7_gather wsel_X7_gather wini_RX7 wcode_X7_gather rfl rfl (n := 0) (by decide +kernel) rfl ⟨(Nat.le_of_ble_eq_true rfl), (Nat.le_of_ble_eq_true rfl)⟩ ⟨(Nat.le_of_ble_eq_true rfl), (Nat.le_of_ble_eq_true rfl)⟩ ⟨(Nat.le_of_ble_eq_true rfl), (Nat.le_of_ble_eq_true rfl)⟩ (Nat.le_of_ble_eq_true rfl) dX7_persons_1 (fun v1 h => ?_)
  refine g_iconst C 0 (by decide) dX7_persons_4 ?_
  refine g_istore_n C 1 rfl [(1, .int 0), (0, .ref (L.2.1 7 0))] (Nat.le_of_ble_eq_true rfl) rfl dX7_persons_5 ?_
  refine g_iconst C 0 (by decide) dX7_persons_6 ?_
  refine g_istore_n C 2 rfl [(2, .int 0), (1, .int 0), (0, .ref (L.2.1 7 0))] (Nat.le_of_ble_eq_true rfl) rfl dX7_persons_7 ?_
  refine g_sub [(0, .ref (L.2.1 7 0)), (1, .int 0), (2, .int 0)] [2, 1, 0] rfl ?_
  exact slX7_persons_8 C hr hno h
def TX7_undo (L1 : Int32) (v : gMem) (Q : Int32 → gMem → Prop) (X : String → gMem → Prop) : Prop := (TX7_noMerge L1 v (fun r2 v2 => ((r2 = 0 → (vp_in L1 30 ∧ ((¬ (v2 43 0 (Int32.toNatClampNeg L1)) = 0 → (vp_in L1 30 ∧ (TX7_persons (gw v2 43 0 (Int32.toNatClampNeg L1) (vp_nar .boolean 0)) (fun r33 v33 => (Q r33 v33)) X))) ∧ ((v2 43 0 (Int32.toNatClampNeg L1)) = 0 → (TX7_fail 2 v2 (fun r21 v21 => (Q r21 v21)) X))))) ∧ (¬ r2 = 0 → (Q 0 v2)))) X)
theorem kX7_undo (l : Launch) (hfl : l.stackTraces = false) (L : gL) (hL : gDist L) (L1 : Int32) (v : gMem) (Q : Int32 → gMem → Prop) (X : String → gMem → Prop) (h : TX7_undo L1 v Q X) (sz : Nat) : vx_Met l yX7_undo [.code yX7_undo cX7_undo 2 (some .int)] ({ frames := 2, cells := 0, slots := 0, locals := 45 } : Room) (gPc L sz [.ref (L.2.1 7 0), .int L1] v) (gQi L sz Q) (gXC L sz X) 0 0 (gA L sz) := by
  refine g_ofW (by decide +kernel) hfl hL (Nat.le_of_ble_eq_true rfl) ?_
  intro p e s m args below meth c C hr hno
  refine g_sub [(0, .ref (L.2.1 7 0)), (1, .int L1)] [0, 1] rfl ?_
  unfold TX7_undo at h
  refine g_aload_n C 0 rfl 0 rfl dX7_undo_0 ?_
  refine g_iload_n C 1 rfl 1 rfl dX7_undo_1 ?_
  refine g_callVi C hno gok_7 rfl rfl [.int L1] (fun sz9 => kX7_noMerge l C.2.2.2.2.2.2.1 L C.2.2.2.2.2.2.2.1 L1 v _ X h sz9) wml_RX7_153 winst_X7_noMerge wsel_X7_noMerge wini_RX7 wcode_X7_noMerge rfl rfl (n := 1) (by decide +kernel) rfl ⟨(Nat.le_of_ble_eq_true rfl), (Nat.le_of_ble_eq_true rfl)⟩ ⟨(Nat.le_of_ble_eq_true rfl), (Nat.le_of_ble_eq_true rfl)⟩ ⟨(Nat.le_of_ble_eq_true rfl), (Nat.le_of_ble_eq_true rfl)⟩ (Nat.le_of_ble_eq_true rfl) dX7_undo_2 (fun r2 v2 h => ?_)
  refine g_if_eq C 10 (by decide) dX7_undo_5 (fun hc => ?_) (fun hc => ?_)
  · replace h := h.1 hc
    refine g_aload_n C 0 rfl 0 rfl dX7_undo_10 ?_
    refine fgX7_54 C dX7_undo_11 ?_
    refine g_iload_n C 1 rfl 1 rfl dX7_undo_14 ?_
    obtain ⟨hb15, h⟩ := h
    refine g_zald C gok_43 rfl hb15 dX7_undo_15 ?_
    refine g_if_ne C 25 (by decide) dX7_undo_16 (fun hc => ?_) (fun hc => ?_)
    · replace h := h.1 hc
      refine g_aload_n C 0 rfl 0 rfl dX7_undo_25 ?_
      refine fgX7_54 C dX7_undo_26 ?_
      refine g_iload_n C 1 rfl 1 rfl dX7_undo_29 ?_
      refine g_iconst C 0 (by decide) dX7_undo_30 ?_
      obtain ⟨hb31, h⟩ := h
      refine g_zast C gok_43 (fun _ => rfl) hb31 dX7_undo_31 ?_
      refine g_aload_n C 0 rfl 0 rfl dX7_undo_32 ?_
      refine g_callVi C hno gok_7 rfl rfl [] (fun sz9 => kX7_persons l C.2.2.2.2.2.2.1 L C.2.2.2.2.2.2.2.1 (gw v2 43 0 (Int32.toNatClampNeg L1) (vp_nar .boolean 0)) _ X h sz9) wml_RX7_156 winst_X7_persons wsel_X7_persons wini_RX7 wcode_X7_persons rfl rfl (n := 0) (by decide +kernel) rfl ⟨(Nat.le_of_ble_eq_true rfl), (Nat.le_of_ble_eq_true rfl)⟩ ⟨(Nat.le_of_ble_eq_true rfl), (Nat.le_of_ble_eq_true rfl)⟩ ⟨(Nat.le_of_ble_eq_true rfl), (Nat.le_of_ble_eq_true rfl)⟩ (Nat.le_of_ble_eq_true rfl) dX7_undo_33 (fun r33 v33 h => ?_)
      exact g_iret C hr rfl (Nat.le_of_ble_eq_true rfl) (Nat.le_of_ble_eq_true rfl) h dX7_undo_36
    · replace h := h.2 hc
      refine g_aload_n C 0 rfl 0 rfl dX7_undo_19 ?_
      refine g_iconst C 2 (by decide) dX7_undo_20 ?_
      refine g_callVi C hno gok_7 rfl rfl [.int 2] (fun sz9 => kX7_fail l C.2.2.2.2.2.2.1 L C.2.2.2.2.2.2.2.1 2 v2 _ X h sz9) wml_RX7_78 winst_X7_fail wsel_X7_fail wini_RX7 wcode_X7_fail rfl rfl (n := 1) (by decide +kernel) rfl ⟨(Nat.le_of_ble_eq_true rfl), (Nat.le_of_ble_eq_true rfl)⟩ ⟨(Nat.le_of_ble_eq_true rfl), (Nat.le_of_ble_eq_true rfl)⟩ ⟨(Nat.le_of_ble_eq_true rfl), (Nat.le_of_ble_eq_true rfl)⟩ (Nat.le_of_ble_eq_true rfl) dX7_undo_21 (fun r21 v21 h => ?_)
      exact g_iret C hr rfl (Nat.le_of_ble_eq_true rfl) (Nat.le_of_ble_eq_true rfl) h dX7_undo_24
  · replace h := h.2 hc
    refine g_iconst C 0 (by decide) dX7_undo_8 ?_
    exact g_iret C hr rfl (Nat.le_of_ble_eq_true rfl) (Nat.le_of_ble_eq_true rfl) h dX7_undo_9
def BX7_stands_22 (t0 : Int32) (v : gMem) (Q : Int32 → gMem → Prop) (X : String → gMem → Prop) : Prop := (narrow .boolean (.int t0) = .int t0 ∧ Q t0 v)
theorem sX7_stands_22 (C : gC p l s m args meth c cX7_stands 2 RX7 L sz) (hr : meth.sig.returnType = (some .boolean)) (hno : ∀ x ∈ c.exceptionTable.toList, False) {t0 : Int32} {v : gMem} {Q : Int32 → gMem → Prop} {X : String → gMem → Prop} (h : BX7_stands_22 t0 v Q X) : gS p l e ({ frames := 2, cells := 0, slots := 0, locals := 43 } : Room) s m args below meth c 2 L sz (vx_MQ below (gQi L sz Q) (gXC L sz X) args s 0 0 (gA L sz)) 0 0 22 [] [.int t0] v := by
  unfold BX7_stands_22 at h
  exact g_iret C hr h.1 (Nat.le_of_ble_eq_true rfl) (Nat.le_of_ble_eq_true rfl) h.2 dX7_stands_22
def BX7_stands_21 (v : gMem) (Q : Int32 → gMem → Prop) (X : String → gMem → Prop) : Prop := (BX7_stands_22 0 v Q X)
theorem sX7_stands_21 (C : gC p l s m args meth c cX7_stands 2 RX7 L sz) (hr : meth.sig.returnType = (some .boolean)) (hno : ∀ x ∈ c.exceptionTable.toList, False) {v : gMem} {Q : Int32 → gMem → Prop} {X : String → gMem → Prop} (h : BX7_stands_21 v Q X) : gS p l e ({ frames := 2, cells := 0, slots := 0, locals := 43 } : Room) s m args below meth c 2 L sz (vx_MQ below (gQi L sz Q) (gXC L sz X) args s 0 0 (gA L sz)) 0 0 21 [] [] v := by
  unfold BX7_stands_21 at h
  refine g_iconst C 0 (by decide) dX7_stands_21 ?_
  exact sX7_stands_22 C hr hno h
def TX7_stands (L1 : Int32) (v : gMem) (Q : Int32 → gMem → Prop) (X : String → gMem → Prop) : Prop := (TX7_noMerge L1 v (fun r2 v2 => ((¬ r2 = 0 → (BX7_stands_21 v2 Q X)) ∧ (r2 = 0 → (vp_in L1 30 ∧ (((v2 43 0 (Int32.toNatClampNeg L1)) = 0 → (BX7_stands_21 v2 Q X)) ∧ (¬ (v2 43 0 (Int32.toNatClampNeg L1)) = 0 → (BX7_stands_22 1 v2 Q X))))))) X)
theorem kX7_stands (l : Launch) (hfl : l.stackTraces = false) (L : gL) (hL : gDist L) (L1 : Int32) (v : gMem) (Q : Int32 → gMem → Prop) (X : String → gMem → Prop) (h : TX7_stands L1 v Q X) (sz : Nat) : vx_Met l yX7_stands [.code yX7_stands cX7_stands 2 (some .boolean)] ({ frames := 2, cells := 0, slots := 0, locals := 43 } : Room) (gPc L sz [.ref (L.2.1 7 0), .int L1] v) (gQi L sz Q) (gXC L sz X) 0 0 (gA L sz) := by
  refine g_ofW (by decide +kernel) hfl hL (Nat.le_of_ble_eq_true rfl) ?_
  intro p e s m args below meth c C hr hno
  refine g_sub [(0, .ref (L.2.1 7 0)), (1, .int L1)] [0, 1] rfl ?_
  unfold TX7_stands at h
  refine g_aload_n C 0 rfl 0 rfl dX7_stands_0 ?_
  refine g_iload_n C 1 rfl 1 rfl dX7_stands_1 ?_
  refine g_callVi C hno gok_7 rfl rfl [.int L1] (fun sz9 => kX7_noMerge l C.2.2.2.2.2.2.1 L C.2.2.2.2.2.2.2.1 L1 v _ X h sz9) wml_RX7_153 winst_X7_noMerge wsel_X7_noMerge wini_RX7 wcode_X7_noMerge rfl rfl (n := 1) (by decide +kernel) rfl ⟨(Nat.le_of_ble_eq_true rfl), (Nat.le_of_ble_eq_true rfl)⟩ ⟨(Nat.le_of_ble_eq_true rfl), (Nat.le_of_ble_eq_true rfl)⟩ ⟨(Nat.le_of_ble_eq_true rfl), (Nat.le_of_ble_eq_true rfl)⟩ (Nat.le_of_ble_eq_true rfl) dX7_stands_2 (fun r2 v2 h => ?_)
  refine g_if_ne C 21 (by decide) dX7_stands_5 (fun hc => ?_) (fun hc => ?_)
  · replace h := h.1 hc
    refine g_sub [] [] rfl ?_
    exact sX7_stands_21 C hr hno h
  · replace h := h.2 hc
    refine g_aload_n C 0 rfl 0 rfl dX7_stands_8 ?_
    refine fgX7_54 C dX7_stands_9 ?_
    refine g_iload_n C 1 rfl 1 rfl dX7_stands_12 ?_
    obtain ⟨hb13, h⟩ := h
    refine g_zald C gok_43 rfl hb13 dX7_stands_13 ?_
    refine g_if_eq C 21 (by decide) dX7_stands_14 (fun hc => ?_) (fun hc => ?_)
    · replace h := h.1 hc
      refine g_sub [] [] rfl ?_
      exact sX7_stands_21 C hr hno h
    · replace h := h.2 hc
      refine g_iconst C 1 (by decide) dX7_stands_17 ?_
      refine g_goto C 22 (by decide) dX7_stands_18 ?_
      refine g_sub [] [] rfl ?_
      exact sX7_stands_22 C hr hno h
def BX7_steps_198 (L2 : Int32) (v : gMem) (Q : Int32 → gMem → Prop) (X : String → gMem → Prop) : Prop := (vp_in L2 16 ∧ ((0 ≤ (v 39 0 (Int32.toNatClampNeg L2)) → (vp_in L2 16 ∧ (Q (v 39 0 (Int32.toNatClampNeg L2)) v))) ∧ (¬ 0 ≤ (v 39 0 (Int32.toNatClampNeg L2)) → (TX7_fail 2 v (fun r209 v209 => (Q r209 v209)) X))))
theorem sX7_steps_198 (C : gC p l s m args meth c cX7_steps 6 RX7 L sz) (hr : meth.sig.returnType = (some .int)) (hno : ∀ x ∈ c.exceptionTable.toList, False) {L2 : Int32} {v : gMem} {Q : Int32 → gMem → Prop} {X : String → gMem → Prop} (h : BX7_steps_198 L2 v Q X) : gS p l e ({ frames := 3, cells := 0, slots := 0, locals := 65 } : Room) s m args below meth c 6 L sz (vx_MQ below (gQi L sz Q) (gXC L sz X) args s 0 0 (gA L sz)) 0 0 198 [(0, .ref (L.2.1 7 0)), (2, .int L2)] [] v := by
  unfold BX7_steps_198 at h
  refine g_aload_n C 0 rfl 0 rfl dX7_steps_198 ?_
  refine fgX7_41 C dX7_steps_199 ?_
  refine g_iload_n C 2 rfl 1 rfl dX7_steps_202 ?_
  obtain ⟨hb203, h⟩ := h
  refine g_iald C gok_39 rfl hb203 dX7_steps_203 ?_
  refine g_if_ge C 213 (by decide) dX7_steps_204 (fun hc => ?_) (fun hc => ?_)
  · replace h := h.1 hc
    refine g_aload_n C 0 rfl 0 rfl dX7_steps_213 ?_
    refine fgX7_41 C dX7_steps_214 ?_
    refine g_iload_n C 2 rfl 1 rfl dX7_steps_217 ?_
    obtain ⟨hb218, h⟩ := h
    refine g_iald C gok_39 rfl hb218 dX7_steps_218 ?_
    exact g_iret C hr rfl (Nat.le_of_ble_eq_true rfl) (Nat.le_of_ble_eq_true rfl) h dX7_steps_219
  · replace h := h.2 hc
    refine g_aload_n C 0 rfl 0 rfl dX7_steps_207 ?_
    refine g_iconst C 2 (by decide) dX7_steps_208 ?_
    refine g_callVi C hno gok_7 rfl rfl [.int 2] (fun sz9 => kX7_fail l C.2.2.2.2.2.2.1 L C.2.2.2.2.2.2.2.1 2 v _ X h sz9) wml_RX7_78 winst_X7_fail wsel_X7_fail wini_RX7 wcode_X7_fail rfl rfl (n := 1) (by decide +kernel) rfl ⟨(Nat.le_of_ble_eq_true rfl), (Nat.le_of_ble_eq_true rfl)⟩ ⟨(Nat.le_of_ble_eq_true rfl), (Nat.le_of_ble_eq_true rfl)⟩ ⟨(Nat.le_of_ble_eq_true rfl), (Nat.le_of_ble_eq_true rfl)⟩ (Nat.le_of_ble_eq_true rfl) dX7_steps_209 (fun r209 v209 h => ?_)
    exact g_iret C hr rfl (Nat.le_of_ble_eq_true rfl) (Nat.le_of_ble_eq_true rfl) h dX7_steps_212
def BX7_steps_186 (I46 : Int32 → Int32 → gMem → Prop) (I64 : Int32 → Int32 → gMem → Prop) (L2 : Int32) (L3 : Int32) (L4 : Int32) (L5 : Int32) (v : gMem) (Q : Int32 → gMem → Prop) (X : String → gMem → Prop) : Prop := (I64 L3 (L5 + 1) v)
theorem sX7_steps_186 (C : gC p l s m args meth c cX7_steps 6 RX7 L sz) (hr : meth.sig.returnType = (some .int)) (hno : ∀ x ∈ c.exceptionTable.toList, False) {L2 : Int32} {L3 : Int32} {L4 : Int32} {L5 : Int32} {v : gMem} {Q : Int32 → gMem → Prop} {X : String → gMem → Prop} {I46 : Int32 → Int32 → gMem → Prop} (hI46 : ∀ (L3 : Int32) (L4 : Int32) (v : gMem), I46 L3 L4 v → gS p l e ({ frames := 3, cells := 0, slots := 0, locals := 65 } : Room) s m args below meth c 6 L sz (vx_MQ below (gQi L sz Q) (gXC L sz X) args s 0 0 (gA L sz)) 0 0 46 [(0, .ref (L.2.1 7 0)), (2, .int L2), (3, .int L3), (4, .int L4)] [] v) {I64 : Int32 → Int32 → gMem → Prop} (hI64 : ∀ (L3 : Int32) (L5 : Int32) (v : gMem), I64 L3 L5 v → gS p l e ({ frames := 3, cells := 0, slots := 0, locals := 65 } : Room) s m args below meth c 6 L sz (vx_MQ below (gQi L sz Q) (gXC L sz X) args s 0 0 (gA L sz)) 0 0 64 [(0, .ref (L.2.1 7 0)), (2, .int L2), (3, .int L3), (4, .int L4), (5, .int L5)] [] v) (h : BX7_steps_186 I46 I64 L2 L3 L4 L5 v Q X) : gS p l e ({ frames := 3, cells := 0, slots := 0, locals := 65 } : Room) s m args below meth c 6 L sz (vx_MQ below (gQi L sz Q) (gXC L sz X) args s 0 0 (gA L sz)) 0 0 186 [(0, .ref (L.2.1 7 0)), (2, .int L2), (3, .int L3), (4, .int L4), (5, .int L5)] [] v := by
  unfold BX7_steps_186 at h
  refine g_iinc C (k := 4) (L5 + 1) [(5, .int (L5 + 1)), (0, .ref (L.2.1 7 0)), (2, .int L2), (3, .int L3), (4, .int L4)] rfl rfl (Nat.le_of_ble_eq_true rfl) rfl dX7_steps_186 ?_
  refine g_goto C 64 (by decide) dX7_steps_189 ?_
  refine g_sub [(0, .ref (L.2.1 7 0)), (2, .int L2), (3, .int L3), (4, .int L4), (5, .int (L5 + 1))] [1, 2, 3, 4, 0] rfl ?_
  exact hI64 _ _ _ h
def BX7_steps_136 (I46 : Int32 → Int32 → gMem → Prop) (I64 : Int32 → Int32 → gMem → Prop) (L2 : Int32) (L3 : Int32) (L4 : Int32) (L5 : Int32) (v : gMem) (Q : Int32 → gMem → Prop) (X : String → gMem → Prop) : Prop := (vp_in L5 30 ∧ (vp_in (v 37 0 (Int32.toNatClampNeg L5)) 16 ∧ ((¬ (v 39 0 (Int32.toNatClampNeg (v 37 0 (Int32.toNatClampNeg L5)))) = L4 → (BX7_steps_186 I46 I64 L2 L3 L4 L5 v Q X)) ∧ ((v 39 0 (Int32.toNatClampNeg (v 37 0 (Int32.toNatClampNeg L5)))) = L4 → (vp_in L5 30 ∧ (vp_in (v 36 0 (Int32.toNatClampNeg L5)) 16 ∧ ((0 ≤ (v 39 0 (Int32.toNatClampNeg (v 36 0 (Int32.toNatClampNeg L5)))) → (BX7_steps_186 I46 I64 L2 L3 L4 L5 v Q X)) ∧ (¬ 0 ≤ (v 39 0 (Int32.toNatClampNeg (v 36 0 (Int32.toNatClampNeg L5)))) → (vp_in L5 30 ∧ (vp_in (v 36 0 (Int32.toNatClampNeg L5)) 16 ∧ (BX7_steps_186 I46 I64 L2 1 L4 L5 (gw v 39 0 (Int32.toNatClampNeg (v 36 0 (Int32.toNatClampNeg L5))) (L4 + 1)) Q X)))))))))))
theorem sX7_steps_136 (C : gC p l s m args meth c cX7_steps 6 RX7 L sz) (hr : meth.sig.returnType = (some .int)) (hno : ∀ x ∈ c.exceptionTable.toList, False) {L2 : Int32} {L3 : Int32} {L4 : Int32} {L5 : Int32} {v : gMem} {Q : Int32 → gMem → Prop} {X : String → gMem → Prop} {I46 : Int32 → Int32 → gMem → Prop} (hI46 : ∀ (L3 : Int32) (L4 : Int32) (v : gMem), I46 L3 L4 v → gS p l e ({ frames := 3, cells := 0, slots := 0, locals := 65 } : Room) s m args below meth c 6 L sz (vx_MQ below (gQi L sz Q) (gXC L sz X) args s 0 0 (gA L sz)) 0 0 46 [(0, .ref (L.2.1 7 0)), (2, .int L2), (3, .int L3), (4, .int L4)] [] v) {I64 : Int32 → Int32 → gMem → Prop} (hI64 : ∀ (L3 : Int32) (L5 : Int32) (v : gMem), I64 L3 L5 v → gS p l e ({ frames := 3, cells := 0, slots := 0, locals := 65 } : Room) s m args below meth c 6 L sz (vx_MQ below (gQi L sz Q) (gXC L sz X) args s 0 0 (gA L sz)) 0 0 64 [(0, .ref (L.2.1 7 0)), (2, .int L2), (3, .int L3), (4, .int L4), (5, .int L5)] [] v) (h : BX7_steps_136 I46 I64 L2 L3 L4 L5 v Q X) : gS p l e ({ frames := 3, cells := 0, slots := 0, locals := 65 } : Room) s m args below meth c 6 L sz (vx_MQ below (gQi L sz Q) (gXC L sz X) args s 0 0 (gA L sz)) 0 0 136 [(0, .ref (L.2.1 7 0)), (2, .int L2), (3, .int L3), (4, .int L4), (5, .int L5)] [] v := by
  unfold BX7_steps_136 at h
  refine g_aload_n C 0 rfl 0 rfl dX7_steps_136 ?_
  refine fgX7_41 C dX7_steps_137 ?_
  refine g_aload_n C 0 rfl 0 rfl dX7_steps_140 ?_
  refine fgX7_35 C dX7_steps_141 ?_
  refine g_iload C 4 rfl dX7_steps_144 ?_
  obtain ⟨hb146, h⟩ := h
  refine g_iald C gok_37 rfl hb146 dX7_steps_146 ?_
  obtain ⟨hb147, h⟩ := h
  refine g_iald C gok_39 rfl hb147 dX7_steps_147 ?_
  refine g_iload C 3 rfl dX7_steps_148 ?_
  refine g_icmp_ne C 186 (by decide) dX7_steps_150 (fun hc => ?_) (fun hc => ?_)
  · replace h := h.1 hc
    exact sX7_steps_186 C hr hno hI46 hI64 h
  · replace h := h.2 hc
    refine g_aload_n C 0 rfl 0 rfl dX7_steps_153 ?_
    refine fgX7_41 C dX7_steps_154 ?_
    refine g_aload_n C 0 rfl 0 rfl dX7_steps_157 ?_
    refine fgX7_32 C dX7_steps_158 ?_
    refine g_iload C 4 rfl dX7_steps_161 ?_
    obtain ⟨hb163, h⟩ := h
    refine g_iald C gok_36 rfl hb163 dX7_steps_163 ?_
    obtain ⟨hb164, h⟩ := h
    refine g_iald C gok_39 rfl hb164 dX7_steps_164 ?_
    refine g_if_ge C 186 (by decide) dX7_steps_165 (fun hc => ?_) (fun hc => ?_)
    · replace h := h.1 hc
      exact sX7_steps_186 C hr hno hI46 hI64 h
    · replace h := h.2 hc
      refine g_aload_n C 0 rfl 0 rfl dX7_steps_168 ?_
      refine fgX7_41 C dX7_steps_169 ?_
      refine g_aload_n C 0 rfl 0 rfl dX7_steps_172 ?_
      refine fgX7_32 C dX7_steps_173 ?_
      refine g_iload C 4 rfl dX7_steps_176 ?_
      obtain ⟨hb178, h⟩ := h
      refine g_iald C gok_36 rfl hb178 dX7_steps_178 ?_
      refine g_iload C 3 rfl dX7_steps_179 ?_
      refine g_iconst C 1 (by decide) dX7_steps_181 ?_
      refine g_iadd C dX7_steps_182 ?_
      obtain ⟨hb183, h⟩ := h
      refine g_iast C gok_39 (fun _ => rfl) hb183 dX7_steps_183 ?_
      refine g_iconst C 1 (by decide) dX7_steps_184 ?_
      refine g_istore_n C 3 rfl [(3, .int 1), (0, .ref (L.2.1 7 0)), (2, .int L2), (4, .int L4), (5, .int L5)] (Nat.le_of_ble_eq_true rfl) rfl dX7_steps_185 ?_
      refine g_sub [(0, .ref (L.2.1 7 0)), (2, .int L2), (3, .int 1), (4, .int L4), (5, .int L5)] [1, 2, 0, 3, 4] rfl ?_
      exact sX7_steps_186 C hr hno hI46 hI64 h
def BX7_steps_64 (I46 : Int32 → Int32 → gMem → Prop) (I64 : Int32 → Int32 → gMem → Prop) (L2 : Int32) (L3 : Int32) (L4 : Int32) (L5 : Int32) (v : gMem) (Q : Int32 → gMem → Prop) (X : String → gMem → Prop) : Prop := (((v 7 0 3) ≤ L5 → (I46 L3 (L4 + 1) v)) ∧ (¬ (v 7 0 3) ≤ L5 → (vp_in L5 30 ∧ ((¬ (v 43 0 (Int32.toNatClampNeg L5)) = 0 → (vp_in L5 30 ∧ (vp_in (v 36 0 (Int32.toNatClampNeg L5)) 16 ∧ ((¬ (v 39 0 (Int32.toNatClampNeg (v 36 0 (Int32.toNatClampNeg L5)))) = L4 → (BX7_steps_136 I46 I64 L2 L3 L4 L5 v Q X)) ∧ ((v 39 0 (Int32.toNatClampNeg (v 36 0 (Int32.toNatClampNeg L5)))) = L4 → (vp_in L5 30 ∧ (vp_in (v 37 0 (Int32.toNatClampNeg L5)) 16 ∧ ((0 ≤ (v 39 0 (Int32.toNatClampNeg (v 37 0 (Int32.toNatClampNeg L5)))) → (BX7_steps_136 I46 I64 L2 L3 L4 L5 v Q X)) ∧ (¬ 0 ≤ (v 39 0 (Int32.toNatClampNeg (v 37 0 (Int32.toNatClampNeg L5)))) → (vp_in L5 30 ∧ (vp_in (v 37 0 (Int32.toNatClampNeg L5)) 16 ∧ (BX7_steps_136 I46 I64 L2 1 L4 L5 (gw v 39 0 (Int32.toNatClampNeg (v 37 0 (Int32.toNatClampNeg L5))) (L4 + 1)) Q X)))))))))))) ∧ ((v 43 0 (Int32.toNatClampNeg L5)) = 0 → (BX7_steps_186 I46 I64 L2 L3 L4 L5 v Q X))))))
theorem sX7_steps_64 (C : gC p l s m args meth c cX7_steps 6 RX7 L sz) (hr : meth.sig.returnType = (some .int)) (hno : ∀ x ∈ c.exceptionTable.toList, False) {L2 : Int32} {L3 : Int32} {L4 : Int32} {L5 : Int32} {v : gMem} {Q : Int32 → gMem → Prop} {X : String → gMem → Prop} {I46 : Int32 → Int32 → gMem → Prop} (hI46 : ∀ (L3 : Int32) (L4 : Int32) (v : gMem), I46 L3 L4 v → gS p l e ({ frames := 3, cells := 0, slots := 0, locals := 65 } : Room) s m args below meth c 6 L sz (vx_MQ below (gQi L sz Q) (gXC L sz X) args s 0 0 (gA L sz)) 0 0 46 [(0, .ref (L.2.1 7 0)), (2, .int L2), (3, .int L3), (4, .int L4)] [] v) {I64 : Int32 → Int32 → gMem → Prop} (hI64 : ∀ (L3 : Int32) (L5 : Int32) (v : gMem), I64 L3 L5 v → gS p l e ({ frames := 3, cells := 0, slots := 0, locals := 65 } : Room) s m args below meth c 6 L sz (vx_MQ below (gQi L sz Q) (gXC L sz X) args s 0 0 (gA L sz)) 0 0 64 [(0, .ref (L.2.1 7 0)), (2, .int L2), (3, .int L3), (4, .int L4), (5, .int L5)] [] v) (h : BX7_steps_64 I46 I64 L2 L3 L4 L5 v Q X) : gS p l e ({ frames := 3, cells := 0, slots := 0, locals := 65 } : Room) s m args below meth c 6 L sz (vx_MQ below (gQi L sz Q) (gXC L sz X) args s 0 0 (gA L sz)) 0 0 64 [(0, .ref (L.2.1 7 0)), (2, .int L2), (3, .int L3), (4, .int L4), (5, .int L5)] [] v := by
  unfold BX7_steps_64 at h
  refine g_iload C 4 rfl dX7_steps_64 ?_
  refine g_aload_n C 0 rfl 0 rfl dX7_steps_66 ?_
  refine fgX7_115 C dX7_steps_67 ?_
  refine g_icmp_ge C 192 (by decide) dX7_steps_70 (fun hc => ?_) (fun hc => ?_)
  · replace h := h.1 hc
    refine g_iinc C (k := 3) (L4 + 1) [(4, .int (L4 + 1)), (0, .ref (L.2.1 7 0)), (2, .int L2), (3, .int L3), (5, .int L5)] rfl rfl (Nat.le_of_ble_eq_true rfl) rfl dX7_steps_192 ?_
    refine g_goto C 46 (by decide) dX7_steps_195 ?_
    refine g_sub [(0, .ref (L.2.1 7 0)), (2, .int L2), (3, .int L3), (4, .int (L4 + 1))] [1, 2, 3, 0] rfl ?_
    exact hI46 _ _ _ h
  · replace h := h.2 hc
    refine g_aload_n C 0 rfl 0 rfl dX7_steps_73 ?_
    refine fgX7_54 C dX7_steps_74 ?_
    refine g_iload C 4 rfl dX7_steps_77 ?_
    obtain ⟨hb79, h⟩ := h
    refine g_zald C gok_43 rfl hb79 dX7_steps_79 ?_
    refine g_if_ne C 86 (by decide) dX7_steps_80 (fun hc => ?_) (fun hc => ?_)
    · replace h := h.1 hc
      refine g_aload_n C 0 rfl 0 rfl dX7_steps_86 ?_
      refine fgX7_41 C dX7_steps_87 ?_
      refine g_aload_n C 0 rfl 0 rfl dX7_steps_90 ?_
      refine fgX7_32 C dX7_steps_91 ?_
      refine g_iload C 4 rfl dX7_steps_94 ?_
      obtain ⟨hb96, h⟩ := h
      refine g_iald C gok_36 rfl hb96 dX7_steps_96 ?_
      obtain ⟨hb97, h⟩ := h
      refine g_iald C gok_39 rfl hb97 dX7_steps_97 ?_
      refine g_iload C 3 rfl dX7_steps_98 ?_
      refine g_icmp_ne C 136 (by decide) dX7_steps_100 (fun hc => ?_) (fun hc => ?_)
      · replace h := h.1 hc
        exact sX7_steps_136 C hr hno hI46 hI64 h
      · replace h := h.2 hc
        refine g_aload_n C 0 rfl 0 rfl dX7_steps_103 ?_
        refine fgX7_41 C dX7_steps_104 ?_
        refine g_aload_n C 0 rfl 0 rfl dX7_steps_107 ?_
        refine fgX7_35 C dX7_steps_108 ?_
        refine g_iload C 4 rfl dX7_steps_111 ?_
        obtain ⟨hb113, h⟩ := h
        refine g_iald C gok_37 rfl hb113 dX7_steps_113 ?_
        obtain ⟨hb114, h⟩ := h
        refine g_iald C gok_39 rfl hb114 dX7_steps_114 ?_
        refine g_if_ge C 136 (by decide) dX7_steps_115 (fun hc => ?_) (fun hc => ?_)
        · replace h := h.1 hc
          exact sX7_steps_136 C hr hno hI46 hI64 h
        · replace h := h.2 hc
          refine g_aload_n C 0 rfl 0 rfl dX7_steps_118 ?_
          refine fgX7_41 C dX7_steps_119 ?_
          refine g_aload_n C 0 rfl 0 rfl dX7_steps_122 ?_
          refine fgX7_35 C dX7_steps_123 ?_
          refine g_iload C 4 rfl dX7_steps_126 ?_
          obtain ⟨hb128, h⟩ := h
          refine g_iald C gok_37 rfl hb128 dX7_steps_128 ?_
          refine g_iload C 3 rfl dX7_steps_129 ?_
          refine g_iconst C 1 (by decide) dX7_steps_131 ?_
          refine g_iadd C dX7_steps_132 ?_
          obtain ⟨hb133, h⟩ := h
          refine g_iast C gok_39 (fun _ => rfl) hb133 dX7_steps_133 ?_
          refine g_iconst C 1 (by decide) dX7_steps_134 ?_
          refine g_istore_n C 3 rfl [(3, .int 1), (0, .ref (L.2.1 7 0)), (2, .int L2), (4, .int L4), (5, .int L5)] (Nat.le_of_ble_eq_true rfl) rfl dX7_steps_135 ?_
          refine g_sub [(0, .ref (L.2.1 7 0)), (2, .int L2), (3, .int 1), (4, .int L4), (5, .int L5)] [1, 2, 0, 3, 4] rfl ?_
          exact sX7_steps_136 C hr hno hI46 hI64 h
    · replace h := h.2 hc
      refine g_goto C 186 (by decide) dX7_steps_83 ?_
      exact sX7_steps_186 C hr hno hI46 hI64 h
def LX7_steps_64 (I46 : Int32 → Int32 → gMem → Prop) (L2 : Int32) (L3 : Int32) (L4 : Int32) (L5 : Int32) (v : gMem) (Q : Int32 → gMem → Prop) (X : String → gMem → Prop) : Prop := ∀ I64 : Int32 → Int32 → gMem → Prop, (∀ (L3 : Int32) (L5 : Int32) (v : gMem), BX7_steps_64 I46 I64 L2 L3 L4 L5 v Q X → I64 L3 L5 v) → I64 L3 L5 v
theorem slX7_steps_64 (C : gC p l s m args meth c cX7_steps 6 RX7 L sz) (hr : meth.sig.returnType = (some .int)) (hno : ∀ x ∈ c.exceptionTable.toList, False) {L2 : Int32} {L3 : Int32} {L4 : Int32} {L5 : Int32} {v : gMem} {Q : Int32 → gMem → Prop} {X : String → gMem → Prop} {I46 : Int32 → Int32 → gMem → Prop} (hI46 : ∀ (L3 : Int32) (L4 : Int32) (v : gMem), I46 L3 L4 v → gS p l e ({ frames := 3, cells := 0, slots := 0, locals := 65 } : Room) s m args below meth c 6 L sz (vx_MQ below (gQi L sz Q) (gXC L sz X) args s 0 0 (gA L sz)) 0 0 46 [(0, .ref (L.2.1 7 0)), (2, .int L2), (3, .int L3), (4, .int L4)] [] v) (h : LX7_steps_64 I46 L2 L3 L4 L5 v Q X) : gS p l e ({ frames := 3, cells := 0, slots := 0, locals := 65 } : Room) s m args below meth c 6 L sz (vx_MQ below (gQi L sz Q) (gXC L sz X) args s 0 0 (gA L sz)) 0 0 64 [(0, .ref (L.2.1 7 0)), (2, .int L2), (3, .int L3), (4, .int L4), (5, .int L5)] [] v := by
  refine h (fun L3 L5 v => gS p l e ({ frames := 3, cells := 0, slots := 0, locals := 65 } : Room) s m args below meth c 6 L sz (vx_MQ below (gQi L sz Q) (gXC L sz X) args s 0 0 (gA L sz)) 0 0 64 [(0, .ref (L.2.1 7 0)), (2, .int L2), (3, .int L3), (4, .int L4), (5, .int L5)] [] v) (fun L3 L5 v hb => ?_)
  exact sX7_steps_64 C hr hno hI46 (fun _ _ _ hs => hs) hb
def BX7_steps_46 (I46 : Int32 → Int32 → gMem → Prop) (L2 : Int32) (L3 : Int32) (L4 : Int32) (v : gMem) (Q : Int32 → gMem → Prop) (X : String → gMem → Prop) : Prop := ((L3 = 0 → (BX7_steps_198 L2 v Q X)) ∧ (¬ L3 = 0 → (vp_in L2 16 ∧ ((0 ≤ (v 39 0 (Int32.toNatClampNeg L2)) → (BX7_steps_198 L2 v Q X)) ∧ (¬ 0 ≤ (v 39 0 (Int32.toNatClampNeg L2)) → (LX7_steps_64 I46 L2 0 L4 0 v Q X))))))
theorem sX7_steps_46 (C : gC p l s m args meth c cX7_steps 6 RX7 L sz) (hr : meth.sig.returnType = (some .int)) (hno : ∀ x ∈ c.exceptionTable.toList, False) {L2 : Int32} {L3 : Int32} {L4 : Int32} {v : gMem} {Q : Int32 → gMem → Prop} {X : String → gMem → Prop} {I46 : Int32 → Int32 → gMem → Prop} (hI46 : ∀ (L3 : Int32) (L4 : Int32) (v : gMem), I46 L3 L4 v → gS p l e ({ frames := 3, cells := 0, slots := 0, locals := 65 } : Room) s m args below meth c 6 L sz (vx_MQ below (gQi L sz Q) (gXC L sz X) args s 0 0 (gA L sz)) 0 0 46 [(0, .ref (L.2.1 7 0)), (2, .int L2), (3, .int L3), (4, .int L4)] [] v) (h : BX7_steps_46 I46 L2 L3 L4 v Q X) : gS p l e ({ frames := 3, cells := 0, slots := 0, locals := 65 } : Room) s m args below meth c 6 L sz (vx_MQ below (gQi L sz Q) (gXC L sz X) args s 0 0 (gA L sz)) 0 0 46 [(0, .ref (L.2.1 7 0)), (2, .int L2), (3, .int L3), (4, .int L4)] [] v := by
  unfold BX7_steps_46 at h
  refine g_iload_n C 3 rfl 2 rfl dX7_steps_46 ?_
  refine g_if_eq C 198 (by decide) dX7_steps_47 (fun hc => ?_) (fun hc => ?_)
  · replace h := h.1 hc
    refine g_sub [(0, .ref (L.2.1 7 0)), (2, .int L2)] [0, 1] rfl ?_
    exact sX7_steps_198 C hr hno h
  · replace h := h.2 hc
    refine g_aload_n C 0 rfl 0 rfl dX7_steps_50 ?_
    refine fgX7_41 C dX7_steps_51 ?_
    refine g_iload_n C 2 rfl 1 rfl dX7_steps_54 ?_
    obtain ⟨hb55, h⟩ := h
    refine g_iald C gok_39 rfl hb55 dX7_steps_55 ?_
    refine g_if_ge C 198 (by decide) dX7_steps_56 (fun hc => ?_) (fun hc => ?_)
    · replace h := h.1 hc
      refine g_sub [(0, .ref (L.2.1 7 0)), (2, .int L2)] [0, 1] rfl ?_
      exact sX7_steps_198 C hr hno h
    · replace h := h.2 hc
      refine g_iconst C 0 (by decide) dX7_steps_59 ?_
      refine g_istore_n C 3 rfl [(3, .int 0), (0, .ref (L.2.1 7 0)), (2, .int L2), (4, .int L4)] (Nat.le_of_ble_eq_true rfl) rfl dX7_steps_60 ?_
      refine g_iconst C 0 (by decide) dX7_steps_61 ?_
      refine g_istore C [(5, .int 0), (3, .int 0), (0, .ref (L.2.1 7 0)), (2, .int L2), (4, .int L4)] (Nat.le_of_ble_eq_true rfl) rfl dX7_steps_62 ?_
      refine g_sub [(0, .ref (L.2.1 7 0)), (2, .int L2), (3, .int 0), (4, .int L4), (5, .int 0)] [2, 3, 1, 4, 0] rfl ?_
      exact slX7_steps_64 C hr hno hI46 h
def LX7_steps_46 (L2 : Int32) (L3 : Int32) (L4 : Int32) (v : gMem) (Q : Int32 → gMem → Prop) (X : String → gMem → Prop) : Prop := ∀ I46 : Int32 → Int32 → gMem → Prop, (∀ (L3 : Int32) (L4 : Int32) (v : gMem), BX7_steps_46 I46 L2 L3 L4 v Q X → I46 L3 L4 v) → I46 L3 L4 v
theorem slX7_steps_46 (C : gC p l s m args meth c cX7_steps 6 RX7 L sz) (hr : meth.sig.returnType = (some .int)) (hno : ∀ x ∈ c.exceptionTable.toList, False) {L2 : Int32} {L3 : Int32} {L4 : Int32} {v : gMem} {Q : Int32 → gMem → Prop} {X : String → gMem → Prop} (h : LX7_steps_46 L2 L3 L4 v Q X) : gS p l e ({ frames := 3, cells := 0, slots := 0, locals := 65 } : Room) s m args below meth c 6 L sz (vx_MQ below (gQi L sz Q) (gXC L sz X) args s 0 0 (gA L sz)) 0 0 46 [(0, .ref (L.2.1 7 0)), (2, .int L2), (3, .int L3), (4, .int L4)] [] v := by
  refine h (fun L3 L4 v => gS p l e ({ frames := 3, cells := 0, slots := 0, locals := 65 } : Room) s m args below meth c 6 L sz (vx_MQ below (gQi L sz Q) (gXC L sz X) args s 0 0 (gA L sz)) 0 0 46 [(0, .ref (L.2.1 7 0)), (2, .int L2), (3, .int L3), (4, .int L4)] [] v) (fun L3 L4 v hb => ?_)
  exact sX7_steps_46 C hr hno (fun _ _ _ hs => hs) hb
def BX7_steps_13 (I13 : Int32 → gMem → Prop) (L1 : Int32) (L2 : Int32) (L3 : Int32) (v : gMem) (Q : Int32 → gMem → Prop) (X : String → gMem → Prop) : Prop := (((v 7 0 2) ≤ L3 → (vp_in L1 16 ∧ (LX7_steps_46 L2 1 0 (gw v 39 0 (Int32.toNatClampNeg L1) 0) Q X))) ∧ (¬ (v 7 0 2) ≤ L3 → (vp_in L3 16 ∧ (I13 (L3 + 1) (gw v 39 0 (Int32.toNatClampNeg L3) (-1))))))
theorem sX7_steps_13 (C : gC p l s m args meth c cX7_steps 6 RX7 L sz) (hr : meth.sig.returnType = (some .int)) (hno : ∀ x ∈ c.exceptionTable.toList, False) {L1 : Int32} {L2 : Int32} {L3 : Int32} {v : gMem} {Q : Int32 → gMem → Prop} {X : String → gMem → Prop} {I13 : Int32 → gMem → Prop} (hI13 : ∀ (L3 : Int32) (v : gMem), I13 L3 v → gS p l e ({ frames := 3, cells := 0, slots := 0, locals := 65 } : Room) s m args below meth c 6 L sz (vx_MQ below (gQi L sz Q) (gXC L sz X) args s 0 0 (gA L sz)) 0 0 13 [(0, .ref (L.2.1 7 0)), (1, .int L1), (2, .int L2), (3, .int L3)] [] v) (h : BX7_steps_13 I13 L1 L2 L3 v Q X) : gS p l e ({ frames := 3, cells := 0, slots := 0, locals := 65 } : Room) s m args below meth c 6 L sz (vx_MQ below (gQi L sz Q) (gXC L sz X) args s 0 0 (gA L sz)) 0 0 13 [(0, .ref (L.2.1 7 0)), (1, .int L1), (2, .int L2), (3, .int L3)] [] v := by
  unfold BX7_steps_13 at h
  refine g_iload_n C 3 rfl 3 rfl dX7_steps_13 ?_
  refine g_aload_n C 0 rfl 0 rfl dX7_steps_14 ?_
  refine fgX7_67 C dX7_steps_15 ?_
  refine g_icmp_ge C 34 (by decide) dX7_steps_18 (fun hc => ?_) (fun hc => ?_)
  · replace h := h.1 hc
    refine g_aload_n C 0 rfl 0 rfl dX7_steps_34 ?_
    refine fgX7_41 C dX7_steps_35 ?_
    refine g_iload_n C 1 rfl 1 rfl dX7_steps_38 ?_
    refine g_iconst C 0 (by decide) dX7_steps_39 ?_
    obtain ⟨hb40, h⟩ := h
    refine g_iast C gok_39 (fun _ => rfl) hb40 dX7_steps_40 ?_
    refine g_iconst C 1 (by decide) dX7_steps_41 ?_
    refine g_istore_n C 3 rfl [(3, .int 1), (0, .ref (L.2.1 7 0)), (1, .int L1), (2, .int L2)] (Nat.le_of_ble_eq_true rfl) rfl dX7_steps_42 ?_
    refine g_iconst C 0 (by decide) dX7_steps_43 ?_
    refine g_istore C [(4, .int 0), (3, .int 1), (0, .ref (L.2.1 7 0)), (1, .int L1), (2, .int L2)] (Nat.le_of_ble_eq_true rfl) rfl dX7_steps_44 ?_
    refine g_sub [(0, .ref (L.2.1 7 0)), (2, .int L2), (3, .int 1), (4, .int 0)] [2, 4, 1, 0] rfl ?_
    exact slX7_steps_46 C hr hno h
  · replace h := h.2 hc
    refine g_aload_n C 0 rfl 0 rfl dX7_steps_21 ?_
    refine fgX7_41 C dX7_steps_22 ?_
    refine g_iload_n C 3 rfl 3 rfl dX7_steps_25 ?_
    refine g_iconst C (-1) (by decide) dX7_steps_26 ?_
    obtain ⟨hb27, h⟩ := h
    refine g_iast C gok_39 (fun _ => rfl) hb27 dX7_steps_27 ?_
    refine g_iinc C (k := 3) (L3 + 1) [(3, .int (L3 + 1)), (0, .ref (L.2.1 7 0)), (1, .int L1), (2, .int L2)] rfl rfl (Nat.le_of_ble_eq_true rfl) rfl dX7_steps_28 ?_
    refine g_goto C 13 (by decide) dX7_steps_31 ?_
    refine g_sub [(0, .ref (L.2.1 7 0)), (1, .int L1), (2, .int L2), (3, .int (L3 + 1))] [1, 2, 3, 0] rfl ?_
    exact hI13 _ _ h
def LX7_steps_13 (L1 : Int32) (L2 : Int32) (L3 : Int32) (v : gMem) (Q : Int32 → gMem → Prop) (X : String → gMem → Prop) : Prop := ∀ I13 : Int32 → gMem → Prop, (∀ (L3 : Int32) (v : gMem), BX7_steps_13 I13 L1 L2 L3 v Q X → I13 L3 v) → I13 L3 v
theorem slX7_steps_13 (C : gC p l s m args meth c cX7_steps 6 RX7 L sz) (hr : meth.sig.returnType = (some .int)) (hno : ∀ x ∈ c.exceptionTable.toList, False) {L1 : Int32} {L2 : Int32} {L3 : Int32} {v : gMem} {Q : Int32 → gMem → Prop} {X : String → gMem → Prop} (h : LX7_steps_13 L1 L2 L3 v Q X) : gS p l e ({ frames := 3, cells := 0, slots := 0, locals := 65 } : Room) s m args below meth c 6 L sz (vx_MQ below (gQi L sz Q) (gXC L sz X) args s 0 0 (gA L sz)) 0 0 13 [(0, .ref (L.2.1 7 0)), (1, .int L1), (2, .int L2), (3, .int L3)] [] v := by
  refine h (fun L3 v => gS p l e ({ frames := 3, cells := 0, slots := 0, locals := 65 } : Room) s m args below meth c 6 L sz (vx_MQ below (gQi L sz Q) (gXC L sz X) args s 0 0 (gA L sz)) 0 0 13 [(0, .ref (L.2.1 7 0)), (1, .int L1), (2, .int L2), (3, .int L3)] [] v) (fun L3 v hb => ?_)
  exact sX7_steps_13 C hr hno (fun _ _ hs => hs) hb
def TX7_steps (L1 : Int32) (L2 : Int32) (v : gMem) (Q : Int32 → gMem → Prop) (X : String → gMem → Prop) : Prop := (TX7_noCards L1 L2 v (fun r3 v3 => ((r3 = 0 → (LX7_steps_13 L1 L2 0 v3 Q X)) ∧ (¬ r3 = 0 → (Q 0 v3)))) X)
theorem kX7_steps (l : Launch) (hfl : l.stackTraces = false) (L : gL) (hL : gDist L) (L1 : Int32) (L2 : Int32) (v : gMem) (Q : Int32 → gMem → Prop) (X : String → gMem → Prop) (h : TX7_steps L1 L2 v Q X) (sz : Nat) : vx_Met l yX7_steps [.code yX7_steps cX7_steps 6 (some .int)] ({ frames := 3, cells := 0, slots := 0, locals := 65 } : Room) (gPc L sz [.ref (L.2.1 7 0), .int L1, .int L2] v) (gQi L sz Q) (gXC L sz X) 0 0 (gA L sz) := by
  refine g_ofW (by decide +kernel) hfl hL (Nat.le_of_ble_eq_true rfl) ?_
  intro p e s m args below meth c C hr hno
  refine g_sub [(0, .ref (L.2.1 7 0)), (1, .int L1), (2, .int L2)] [0, 1, 2] rfl ?_
  unfold TX7_steps at h
  refine g_aload_n C 0 rfl 0 rfl dX7_steps_0 ?_
  refine g_iload_n C 1 rfl 1 rfl dX7_steps_1 ?_
  refine g_iload_n C 2 rfl 2 rfl dX7_steps_2 ?_
  refine g_callVi C hno gok_7 rfl rfl [.int L1, .int L2] (fun sz9 => kX7_noCards l C.2.2.2.2.2.2.1 L C.2.2.2.2.2.2.2.1 L1 L2 v _ X h sz9) wml_RX7_108 winst_X7_noCards wsel_X7_noCards wini_RX7 wcode_X7_noCards rfl rfl (n := 2) (by decide +kernel) rfl ⟨(Nat.le_of_ble_eq_true rfl), (Nat.le_of_ble_eq_true rfl)⟩ ⟨(Nat.le_of_ble_eq_true rfl), (Nat.le_of_ble_eq_true rfl)⟩ ⟨(Nat.le_of_ble_eq_true rfl), (Nat.le_of_ble_eq_true rfl)⟩ (Nat.le_of_ble_eq_true rfl) dX7_steps_3 (fun r3 v3 h => ?_)
  refine g_if_eq C 11 (by decide) dX7_steps_6 (fun hc => ?_) (fun hc => ?_)
  · replace h := h.1 hc
    refine g_iconst C 0 (by decide) dX7_steps_11 ?_
    refine g_istore_n C 3 rfl [(3, .int 0), (0, .ref (L.2.1 7 0)), (1, .int L1), (2, .int L2)] (Nat.le_of_ble_eq_true rfl) rfl dX7_steps_12 ?_
    refine g_sub [(0, .ref (L.2.1 7 0)), (1, .int L1), (2, .int L2), (3, .int 0)] [1, 2, 3, 0] rfl ?_
    exact slX7_steps_13 C hr hno h
  · replace h := h.2 hc
    refine g_iconst C 0 (by decide) dX7_steps_9 ?_
    exact g_iret C hr rfl (Nat.le_of_ble_eq_true rfl) (Nat.le_of_ble_eq_true rfl) h dX7_steps_10
def TX7_person (L1 : Int32) (v : gMem) (Q : Int32 → gMem → Prop) (X : String → gMem → Prop) : Prop := (TX7_noCard L1 v (fun r2 v2 => ((r2 = 0 → (TX7_gather v2 (fun v11 => (vp_in L1 16 ∧ (Q (v11 38 0 (Int32.toNatClampNeg L1)) v11))) X)) ∧ (¬ r2 = 0 → (Q 0 v2)))) X)
theorem kX7_person (l : Launch) (hfl : l.stackTraces = false) (L : gL) (hL : gDist L) (L1 : Int32) (v : gMem) (Q : Int32 → gMem → Prop) (X : String → gMem → Prop) (h : TX7_person L1 v Q X) (sz : Nat) : vx_Met l yX7_person [.code yX7_person cX7_person 2 (some .int)] ({ frames := 2, cells := 0, slots := 0, locals := 43 } : Room) (gPc L sz [.ref (L.2.1 7 0), .int L1] v) (gQi L sz Q) (gXC L sz X) 0 0 (gA L sz) := by
  refine g_ofW (by decide +kernel) hfl hL (Nat.le_of_ble_eq_true rfl) ?_
  intro p e s m args below meth c C hr hno
  refine g_sub [(0, .ref (L.2.1 7 0)), (1, .int L1)] [0, 1] rfl ?_
  unfold TX7_person at h
  refine g_aload_n C 0 rfl 0 rfl dX7_person_0 ?_
  refine g_iload_n C 1 rfl 1 rfl dX7_person_1 ?_
  refine g_callVi C hno gok_7 rfl rfl [.int L1] (fun sz9 => kX7_noCard l C.2.2.2.2.2.2.1 L C.2.2.2.2.2.2.2.1 L1 v _ X h sz9) wml_RX7_74 winst_X7_noCard wsel_X7_noCard wini_RX7 wcode_X7_noCard rfl rfl (n := 1) (by decide +kernel) rfl ⟨(Nat.le_of_ble_eq_true rfl), (Nat.le_of_ble_eq_true rfl)⟩ ⟨(Nat.le_of_ble_eq_true rfl), (Nat.le_of_ble_eq_true rfl)⟩ ⟨(Nat.le_of_ble_eq_true rfl), (Nat.le_of_ble_eq_true rfl)⟩ (Nat.le_of_ble_eq_true rfl) dX7_person_2 (fun r2 v2 h => ?_)
  refine g_if_eq C 10 (by decide) dX7_person_5 (fun hc => ?_) (fun hc => ?_)
  · replace h := h.1 hc
    refine g_aload_n C 0 rfl 0 rfl dX7_person_10 ?_
    refine g_callVv C hno gok_7 rfl rfl [] (fun sz9 => kX7_gather l C.2.2.2.2.2.2.1 L C.2.2.2.2.2.2.2.1 v2 _ X h sz9) wml_RX7_130 winst_X7_gather wsel_X7_gather wini_RX7 wcode_X7_gather rfl rfl (n := 0) (by decide +kernel) rfl ⟨(Nat.le_of_ble_eq_true rfl), (Nat.le_of_ble_eq_true rfl)⟩ ⟨(Nat.le_of_ble_eq_true rfl), (Nat.le_of_ble_eq_true rfl)⟩ ⟨(Nat.le_of_ble_eq_true rfl), (Nat.le_of_ble_eq_true rfl)⟩ (Nat.le_of_ble_eq_true rfl) dX7_person_11 (fun v11 h => ?_)
    refine g_aload_n C 0 rfl 0 rfl dX7_person_14 ?_
    refine fgX7_38 C dX7_person_15 ?_
    refine g_iload_n C 1 rfl 1 rfl dX7_person_18 ?_
    obtain ⟨hb19, h⟩ := h
    refine g_iald C gok_38 rfl hb19 dX7_person_19 ?_
    exact g_iret C hr rfl (Nat.le_of_ble_eq_true rfl) (Nat.le_of_ble_eq_true rfl) h dX7_person_20
  · replace h := h.2 hc
    refine g_iconst C 0 (by decide) dX7_person_8 ?_
    exact g_iret C hr rfl (Nat.le_of_ble_eq_true rfl) (Nat.le_of_ble_eq_true rfl) h dX7_person_9
def TX7_personByRounds (L1 : Int32) (v : gMem) (Q : Int32 → gMem → Prop) (X : String → gMem → Prop) : Prop := (TX7_person L1 v (fun r2 v2 => (Q r2 v2)) X)
theorem kX7_personByRounds (l : Launch) (hfl : l.stackTraces = false) (L : gL) (hL : gDist L) (L1 : Int32) (v : gMem) (Q : Int32 → gMem → Prop) (X : String → gMem → Prop) (h : TX7_personByRounds L1 v Q X) (sz : Nat) : vx_Met l yX7_personByRounds [.code yX7_personByRounds cX7_personByRounds 2 (some .int)] ({ frames := 3, cells := 0, slots := 0, locals := 64 } : Room) (gPc L sz [.ref (L.2.1 7 0), .int L1] v) (gQi L sz Q) (gXC L sz X) 0 0 (gA L sz) := by
  refine g_ofW (by decide +kernel) hfl hL (Nat.le_of_ble_eq_true rfl) ?_
  intro p e s m args below meth c C hr hno
  refine g_sub [(0, .ref (L.2.1 7 0)), (1, .int L1)] [0, 1] rfl ?_
  unfold TX7_personByRounds at h
  refine g_aload_n C 0 rfl 0 rfl dX7_personByRounds_0 ?_
  refine g_iload_n C 1 rfl 1 rfl dX7_personByRounds_1 ?_
  refine g_callVi C hno gok_7 rfl rfl [.int L1] (fun sz9 => kX7_person l C.2.2.2.2.2.2.1 L C.2.2.2.2.2.2.2.1 L1 v _ X h sz9) wml_RX7_159 winst_X7_person wsel_X7_person wini_RX7 wcode_X7_person rfl rfl (n := 1) (by decide +kernel) rfl ⟨(Nat.le_of_ble_eq_true rfl), (Nat.le_of_ble_eq_true rfl)⟩ ⟨(Nat.le_of_ble_eq_true rfl), (Nat.le_of_ble_eq_true rfl)⟩ ⟨(Nat.le_of_ble_eq_true rfl), (Nat.le_of_ble_eq_true rfl)⟩ (Nat.le_of_ble_eq_true rfl) dX7_personByRounds_2 (fun r2 v2 h => ?_)
  exact g_iret C hr rfl (Nat.le_of_ble_eq_true rfl) (Nat.le_of_ble_eq_true rfl) h dX7_personByRounds_5
def BX7_sizeOf_28 (I4 : Int32 → Int32 → gMem → Prop) (L1 : Int32) (L3 : Int32) (t0 : Int32) (t1 : Int32) (v : gMem) (Q : Int32 → gMem → Prop) (X : String → gMem → Prop) : Prop := (I4 (t0 + t1) (L3 + 1) v)
theorem sX7_sizeOf_28 (C : gC p l s m args meth c cX7_sizeOf 4 RX7 L sz) (hr : meth.sig.returnType = (some .int)) (hno : ∀ x ∈ c.exceptionTable.toList, False) {L1 : Int32} {L3 : Int32} {t0 : Int32} {t1 : Int32} {v : gMem} {Q : Int32 → gMem → Prop} {X : String → gMem → Prop} {I4 : Int32 → Int32 → gMem → Prop} (hI4 : ∀ (L2 : Int32) (L3 : Int32) (v : gMem), I4 L2 L3 v → gS p l e ({ frames := 0, cells := 0, slots := 0, locals := 0 } : Room) s m args below meth c 4 L sz (vx_MQ below (gQi L sz Q) (gXC L sz X) args s 0 0 (gA L sz)) 0 0 4 [(0, .ref (L.2.1 7 0)), (1, .int L1), (2, .int L2), (3, .int L3)] [] v) (h : BX7_sizeOf_28 I4 L1 L3 t0 t1 v Q X) : gS p l e ({ frames := 0, cells := 0, slots := 0, locals := 0 } : Room) s m args below meth c 4 L sz (vx_MQ below (gQi L sz Q) (gXC L sz X) args s 0 0 (gA L sz)) 0 0 28 [(0, .ref (L.2.1 7 0)), (1, .int L1), (3, .int L3)] [.int t1, .int t0] v := by
  unfold BX7_sizeOf_28 at h
  refine g_iadd C dX7_sizeOf_28 ?_
  refine g_istore_n C 2 rfl [(2, .int (t0 + t1)), (0, .ref (L.2.1 7 0)), (1, .int L1), (3, .int L3)] (Nat.le_of_ble_eq_true rfl) rfl dX7_sizeOf_29 ?_
  refine g_iinc C (k := 3) (L3 + 1) [(3, .int (L3 + 1)), (2, .int (t0 + t1)), (0, .ref (L.2.1 7 0)), (1, .int L1)] rfl rfl (Nat.le_of_ble_eq_true rfl) rfl dX7_sizeOf_30 ?_
  refine g_goto C 4 (by decide) dX7_sizeOf_33 ?_
  refine g_sub [(0, .ref (L.2.1 7 0)), (1, .int L1), (2, .int (t0 + t1)), (3, .int (L3 + 1))] [2, 3, 1, 0] rfl ?_
  exact hI4 _ _ _ h
def BX7_sizeOf_4 (I4 : Int32 → Int32 → gMem → Prop) (L1 : Int32) (L2 : Int32) (L3 : Int32) (v : gMem) (Q : Int32 → gMem → Prop) (X : String → gMem → Prop) : Prop := (((v 7 0 2) ≤ L3 → (Q L2 v)) ∧ (¬ (v 7 0 2) ≤ L3 → (vp_in L3 16 ∧ ((¬ (v 38 0 (Int32.toNatClampNeg L3)) = L1 → (BX7_sizeOf_28 I4 L1 L3 L2 0 v Q X)) ∧ ((v 38 0 (Int32.toNatClampNeg L3)) = L1 → (BX7_sizeOf_28 I4 L1 L3 L2 1 v Q X))))))
theorem sX7_sizeOf_4 (C : gC p l s m args meth c cX7_sizeOf 4 RX7 L sz) (hr : meth.sig.returnType = (some .int)) (hno : ∀ x ∈ c.exceptionTable.toList, False) {L1 : Int32} {L2 : Int32} {L3 : Int32} {v : gMem} {Q : Int32 → gMem → Prop} {X : String → gMem → Prop} {I4 : Int32 → Int32 → gMem → Prop} (hI4 : ∀ (L2 : Int32) (L3 : Int32) (v : gMem), I4 L2 L3 v → gS p l e ({ frames := 0, cells := 0, slots := 0, locals := 0 } : Room) s m args below meth c 4 L sz (vx_MQ below (gQi L sz Q) (gXC L sz X) args s 0 0 (gA L sz)) 0 0 4 [(0, .ref (L.2.1 7 0)), (1, .int L1), (2, .int L2), (3, .int L3)] [] v) (h : BX7_sizeOf_4 I4 L1 L2 L3 v Q X) : gS p l e ({ frames := 0, cells := 0, slots := 0, locals := 0 } : Room) s m args below meth c 4 L sz (vx_MQ below (gQi L sz Q) (gXC L sz X) args s 0 0 (gA L sz)) 0 0 4 [(0, .ref (L.2.1 7 0)), (1, .int L1), (2, .int L2), (3, .int L3)] [] v := by
  unfold BX7_sizeOf_4 at h
  refine g_iload_n C 3 rfl 3 rfl dX7_sizeOf_4 ?_
  refine g_aload_n C 0 rfl 0 rfl dX7_sizeOf_5 ?_
  refine fgX7_67 C dX7_sizeOf_6 ?_
  refine g_icmp_ge C 36 (by decide) dX7_sizeOf_9 (fun hc => ?_) (fun hc => ?_)
  · replace h := h.1 hc
    refine g_iload_n C 2 rfl 2 rfl dX7_sizeOf_36 ?_
    exact g_iret C hr rfl (Nat.le_of_ble_eq_true rfl) (Nat.le_of_ble_eq_true rfl) h dX7_sizeOf_37
  · replace h := h.2 hc
    refine g_iload_n C 2 rfl 2 rfl dX7_sizeOf_12 ?_
    refine g_aload_n C 0 rfl 0 rfl dX7_sizeOf_13 ?_
    refine fgX7_38 C dX7_sizeOf_14 ?_
    refine g_iload_n C 3 rfl 3 rfl dX7_sizeOf_17 ?_
    obtain ⟨hb18, h⟩ := h
    refine g_iald C gok_38 rfl hb18 dX7_sizeOf_18 ?_
    refine g_iload_n C 1 rfl 1 rfl dX7_sizeOf_19 ?_
    refine g_icmp_ne C 27 (by decide) dX7_sizeOf_20 (fun hc => ?_) (fun hc => ?_)
    · replace h := h.1 hc
      refine g_iconst C 0 (by decide) dX7_sizeOf_27 ?_
      refine g_sub [(0, .ref (L.2.1 7 0)), (1, .int L1), (3, .int L3)] [0, 1, 3] rfl ?_
      exact sX7_sizeOf_28 C hr hno hI4 h
    · replace h := h.2 hc
      refine g_iconst C 1 (by decide) dX7_sizeOf_23 ?_
      refine g_goto C 28 (by decide) dX7_sizeOf_24 ?_
      refine g_sub [(0, .ref (L.2.1 7 0)), (1, .int L1), (3, .int L3)] [0, 1, 3] rfl ?_
      exact sX7_sizeOf_28 C hr hno hI4 h
def LX7_sizeOf_4 (L1 : Int32) (L2 : Int32) (L3 : Int32) (v : gMem) (Q : Int32 → gMem → Prop) (X : String → gMem → Prop) : Prop := ∀ I4 : Int32 → Int32 → gMem → Prop, (∀ (L2 : Int32) (L3 : Int32) (v : gMem), BX7_sizeOf_4 I4 L1 L2 L3 v Q X → I4 L2 L3 v) → I4 L2 L3 v
theorem slX7_sizeOf_4 (C : gC p l s m args meth c cX7_sizeOf 4 RX7 L sz) (hr : meth.sig.returnType = (some .int)) (hno : ∀ x ∈ c.exceptionTable.toList, False) {L1 : Int32} {L2 : Int32} {L3 : Int32} {v : gMem} {Q : Int32 → gMem → Prop} {X : String → gMem → Prop} (h : LX7_sizeOf_4 L1 L2 L3 v Q X) : gS p l e ({ frames := 0, cells := 0, slots := 0, locals := 0 } : Room) s m args below meth c 4 L sz (vx_MQ below (gQi L sz Q) (gXC L sz X) args s 0 0 (gA L sz)) 0 0 4 [(0, .ref (L.2.1 7 0)), (1, .int L1), (2, .int L2), (3, .int L3)] [] v := by
  refine h (fun L2 L3 v => gS p l e ({ frames := 0, cells := 0, slots := 0, locals := 0 } : Room) s m args below meth c 4 L sz (vx_MQ below (gQi L sz Q) (gXC L sz X) args s 0 0 (gA L sz)) 0 0 4 [(0, .ref (L.2.1 7 0)), (1, .int L1), (2, .int L2), (3, .int L3)] [] v) (fun L2 L3 v hb => ?_)
  exact sX7_sizeOf_4 C hr hno (fun _ _ _ hs => hs) hb
def TX7_sizeOf (L1 : Int32) (v : gMem) (Q : Int32 → gMem → Prop) (X : String → gMem → Prop) : Prop := (LX7_sizeOf_4 L1 0 0 v Q X)
theorem kX7_sizeOf (l : Launch) (hfl : l.stackTraces = false) (L : gL) (hL : gDist L) (L1 : Int32) (v : gMem) (Q : Int32 → gMem → Prop) (X : String → gMem → Prop) (h : TX7_sizeOf L1 v Q X) (sz : Nat) : vx_Met l yX7_sizeOf [.code yX7_sizeOf cX7_sizeOf 4 (some .int)] ({ frames := 0, cells := 0, slots := 0, locals := 0 } : Room) (gPc L sz [.ref (L.2.1 7 0), .int L1] v) (gQi L sz Q) (gXC L sz X) 0 0 (gA L sz) := by
  refine g_ofW (by decide +kernel) hfl hL (Nat.le_of_ble_eq_true rfl) ?_
  intro p e s m args below meth c C hr hno
  refine g_sub [(0, .ref (L.2.1 7 0)), (1, .int L1)] [0, 1] rfl ?_
  unfold TX7_sizeOf at h
  refine g_iconst C 0 (by decide) dX7_sizeOf_0 ?_
  refine g_istore_n C 2 rfl [(2, .int 0), (0, .ref (L.2.1 7 0)), (1, .int L1)] (Nat.le_of_ble_eq_true rfl) rfl dX7_sizeOf_1 ?_
  refine g_iconst C 0 (by decide) dX7_sizeOf_2 ?_
  refine g_istore_n C 3 rfl [(3, .int 0), (2, .int 0), (0, .ref (L.2.1 7 0)), (1, .int L1)] (Nat.le_of_ble_eq_true rfl) rfl dX7_sizeOf_3 ?_
  refine g_sub [(0, .ref (L.2.1 7 0)), (1, .int L1), (2, .int 0), (3, .int 0)] [2, 3, 1, 0] rfl ?_
  exact slX7_sizeOf_4 C hr hno h
def TX7_size (L1 : Int32) (v : gMem) (Q : Int32 → gMem → Prop) (X : String → gMem → Prop) : Prop := (TX7_noCard L1 v (fun r2 v2 => ((r2 = 0 → (TX7_gather v2 (fun v11 => (vp_in L1 16 ∧ (TX7_sizeOf (v11 38 0 (Int32.toNatClampNeg L1)) v11 (fun r21 v21 => (Q r21 v21)) X))) X)) ∧ (¬ r2 = 0 → (Q 0 v2)))) X)
theorem kX7_size (l : Launch) (hfl : l.stackTraces = false) (L : gL) (hL : gDist L) (L1 : Int32) (v : gMem) (Q : Int32 → gMem → Prop) (X : String → gMem → Prop) (h : TX7_size L1 v Q X) (sz : Nat) : vx_Met l yX7_size [.code yX7_size cX7_size 2 (some .int)] ({ frames := 2, cells := 0, slots := 0, locals := 43 } : Room) (gPc L sz [.ref (L.2.1 7 0), .int L1] v) (gQi L sz Q) (gXC L sz X) 0 0 (gA L sz) := by
  refine g_ofW (by decide +kernel) hfl hL (Nat.le_of_ble_eq_true rfl) ?_
  intro p e s m args below meth c C hr hno
  refine g_sub [(0, .ref (L.2.1 7 0)), (1, .int L1)] [0, 1] rfl ?_
  unfold TX7_size at h
  refine g_aload_n C 0 rfl 0 rfl dX7_size_0 ?_
  refine g_iload_n C 1 rfl 1 rfl dX7_size_1 ?_
  refine g_callVi C hno gok_7 rfl rfl [.int L1] (fun sz9 => kX7_noCard l C.2.2.2.2.2.2.1 L C.2.2.2.2.2.2.2.1 L1 v _ X h sz9) wml_RX7_74 winst_X7_noCard wsel_X7_noCard wini_RX7 wcode_X7_noCard rfl rfl (n := 1) (by decide +kernel) rfl ⟨(Nat.le_of_ble_eq_true rfl), (Nat.le_of_ble_eq_true rfl)⟩ ⟨(Nat.le_of_ble_eq_true rfl), (Nat.le_of_ble_eq_true rfl)⟩ ⟨(Nat.le_of_ble_eq_true rfl), (Nat.le_of_ble_eq_true rfl)⟩ (Nat.le_of_ble_eq_true rfl) dX7_size_2 (fun r2 v2 h => ?_)
  refine g_if_eq C 10 (by decide) dX7_size_5 (fun hc => ?_) (fun hc => ?_)
  · replace h := h.1 hc
    refine g_aload_n C 0 rfl 0 rfl dX7_size_10 ?_
    refine g_callVv C hno gok_7 rfl rfl [] (fun sz9 => kX7_gather l C.2.2.2.2.2.2.1 L C.2.2.2.2.2.2.2.1 v2 _ X h sz9) wml_RX7_130 winst_X7_gather wsel_X7_gather wini_RX7 wcode_X7_gather rfl rfl (n := 0) (by decide +kernel) rfl ⟨(Nat.le_of_ble_eq_true rfl), (Nat.le_of_ble_eq_true rfl)⟩ ⟨(Nat.le_of_ble_eq_true rfl), (Nat.le_of_ble_eq_true rfl)⟩ ⟨(Nat.le_of_ble_eq_true rfl), (Nat.le_of_ble_eq_true rfl)⟩ (Nat.le_of_ble_eq_true rfl) dX7_size_11 (fun v11 h => ?_)
    refine g_aload_n C 0 rfl 0 rfl dX7_size_14 ?_
    refine g_aload_n C 0 rfl 0 rfl dX7_size_15 ?_
    refine fgX7_38 C dX7_size_16 ?_
    refine g_iload_n C 1 rfl 1 rfl dX7_size_19 ?_
    obtain ⟨hb20, h⟩ := h
    refine g_iald C gok_38 rfl hb20 dX7_size_20 ?_
    refine g_callVi C hno gok_7 rfl rfl [.int (v11 38 0 (Int32.toNatClampNeg L1))] (fun sz9 => kX7_sizeOf l C.2.2.2.2.2.2.1 L C.2.2.2.2.2.2.2.1 (v11 38 0 (Int32.toNatClampNeg L1)) v11 _ X h sz9) wml_RX7_162 winst_X7_sizeOf wsel_X7_sizeOf wini_RX7 wcode_X7_sizeOf rfl rfl (n := 1) (by decide +kernel) rfl ⟨(Nat.le_of_ble_eq_true rfl), (Nat.le_of_ble_eq_true rfl)⟩ ⟨(Nat.le_of_ble_eq_true rfl), (Nat.le_of_ble_eq_true rfl)⟩ ⟨(Nat.le_of_ble_eq_true rfl), (Nat.le_of_ble_eq_true rfl)⟩ (Nat.le_of_ble_eq_true rfl) dX7_size_21 (fun r21 v21 h => ?_)
    exact g_iret C hr rfl (Nat.le_of_ble_eq_true rfl) (Nat.le_of_ble_eq_true rfl) h dX7_size_24
  · replace h := h.2 hc
    refine g_iconst C 0 (by decide) dX7_size_8 ?_
    exact g_iret C hr rfl (Nat.le_of_ble_eq_true rfl) (Nat.le_of_ble_eq_true rfl) h dX7_size_9
def BX7_fieldFrom_102 (I34 : Int32 → Int32 → gMem → Prop) (L1 : Int32) (L2 : Int32) (L3 : Int32) (L4 : Int32) (v : gMem) (Q : Int32 → gMem → Prop) (X : String → gMem → Prop) : Prop := (I34 L3 (L4 + 1) v)
theorem sX7_fieldFrom_102 (C : gC p l s m args meth c cX7_fieldFrom 5 RX7 L sz) (hr : meth.sig.returnType = (some .int)) (hno : ∀ x ∈ c.exceptionTable.toList, False) {L1 : Int32} {L2 : Int32} {L3 : Int32} {L4 : Int32} {v : gMem} {Q : Int32 → gMem → Prop} {X : String → gMem → Prop} {I34 : Int32 → Int32 → gMem → Prop} (hI34 : ∀ (L3 : Int32) (L4 : Int32) (v : gMem), I34 L3 L4 v → gS p l e ({ frames := 2, cells := 0, slots := 0, locals := 43 } : Room) s m args below meth c 5 L sz (vx_MQ below (gQi L sz Q) (gXC L sz X) args s 0 0 (gA L sz)) 0 0 34 [(0, .ref (L.2.1 7 0)), (1, .int L1), (2, .int L2), (3, .int L3), (4, .int L4)] [] v) (h : BX7_fieldFrom_102 I34 L1 L2 L3 L4 v Q X) : gS p l e ({ frames := 2, cells := 0, slots := 0, locals := 43 } : Room) s m args below meth c 5 L sz (vx_MQ below (gQi L sz Q) (gXC L sz X) args s 0 0 (gA L sz)) 0 0 102 [(0, .ref (L.2.1 7 0)), (1, .int L1), (2, .int L2), (3, .int L3), (4, .int L4)] [] v := by
  unfold BX7_fieldFrom_102 at h
  refine g_iinc C (k := 4) (L4 + 1) [(4, .int (L4 + 1)), (0, .ref (L.2.1 7 0)), (1, .int L1), (2, .int L2), (3, .int L3)] rfl rfl (Nat.le_of_ble_eq_true rfl) rfl dX7_fieldFrom_102 ?_
  refine g_goto C 34 (by decide) dX7_fieldFrom_105 ?_
  refine g_sub [(0, .ref (L.2.1 7 0)), (1, .int L1), (2, .int L2), (3, .int L3), (4, .int (L4 + 1))] [1, 2, 3, 4, 0] rfl ?_
  exact hI34 _ _ _ h
def BX7_fieldFrom_99 (I34 : Int32 → Int32 → gMem → Prop) (L1 : Int32) (L2 : Int32) (L4 : Int32) (v : gMem) (Q : Int32 → gMem → Prop) (X : String → gMem → Prop) : Prop := (BX7_fieldFrom_102 I34 L1 L2 L4 L4 v Q X)
theorem sX7_fieldFrom_99 (C : gC p l s m args meth c cX7_fieldFrom 5 RX7 L sz) (hr : meth.sig.returnType = (some .int)) (hno : ∀ x ∈ c.exceptionTable.toList, False) {L1 : Int32} {L2 : Int32} {L4 : Int32} {v : gMem} {Q : Int32 → gMem → Prop} {X : String → gMem → Prop} {I34 : Int32 → Int32 → gMem → Prop} (hI34 : ∀ (L3 : Int32) (L4 : Int32) (v : gMem), I34 L3 L4 v → gS p l e ({ frames := 2, cells := 0, slots := 0, locals := 43 } : Room) s m args below meth c 5 L sz (vx_MQ below (gQi L sz Q) (gXC L sz X) args s 0 0 (gA L sz)) 0 0 34 [(0, .ref (L.2.1 7 0)), (1, .int L1), (2, .int L2), (3, .int L3), (4, .int L4)] [] v) (h : BX7_fieldFrom_99 I34 L1 L2 L4 v Q X) : gS p l e ({ frames := 2, cells := 0, slots := 0, locals := 43 } : Room) s m args below meth c 5 L sz (vx_MQ below (gQi L sz Q) (gXC L sz X) args s 0 0 (gA L sz)) 0 0 99 [(0, .ref (L.2.1 7 0)), (1, .int L1), (2, .int L2), (4, .int L4)] [] v := by
  unfold BX7_fieldFrom_99 at h
  refine g_iload C 3 rfl dX7_fieldFrom_99 ?_
  refine g_istore_n C 3 rfl [(3, .int L4), (0, .ref (L.2.1 7 0)), (1, .int L1), (2, .int L2), (4, .int L4)] (Nat.le_of_ble_eq_true rfl) rfl dX7_fieldFrom_101 ?_
  refine g_sub [(0, .ref (L.2.1 7 0)), (1, .int L1), (2, .int L2), (3, .int L4), (4, .int L4)] [1, 2, 3, 0, 4] rfl ?_
  exact sX7_fieldFrom_102 C hr hno hI34 h
def BX7_fieldFrom_34 (I34 : Int32 → Int32 → gMem → Prop) (L1 : Int32) (L2 : Int32) (L3 : Int32) (L4 : Int32) (v : gMem) (Q : Int32 → gMem → Prop) (X : String → gMem → Prop) : Prop := (((v 7 0 2) ≤ L4 → ((0 ≤ L3 → (Q L3 v)) ∧ (¬ 0 ≤ L3 → (TX7_fail 3 v (fun r114 v114 => (Q r114 v114)) X)))) ∧ (¬ (v 7 0 2) ≤ L4 → (vp_in L4 16 ∧ (vp_in L1 16 ∧ ((¬ (v 38 0 (Int32.toNatClampNeg L4)) = (v 38 0 (Int32.toNatClampNeg L1)) → (BX7_fieldFrom_102 I34 L1 L2 L3 L4 v Q X)) ∧ ((v 38 0 (Int32.toNatClampNeg L4)) = (v 38 0 (Int32.toNatClampNeg L1)) → (TX7_has L4 L2 v (fun r63 v63 => ((r63 = 0 → (BX7_fieldFrom_102 I34 L1 L2 L3 L4 v63 Q X)) ∧ (¬ r63 = 0 → ((L3 < 0 → (BX7_fieldFrom_99 I34 L1 L2 L4 v63 Q X)) ∧ (¬ L3 < 0 → (vp_in L4 16 ∧ (vp_in (v63 31 0 (Int32.toNatClampNeg L4)) 4 ∧ (vp_in L3 16 ∧ (vp_in (v63 31 0 (Int32.toNatClampNeg L3)) 4 ∧ (((v63 30 0 (Int32.toNatClampNeg (v63 31 0 (Int32.toNatClampNeg L4)))) ≤ (v63 30 0 (Int32.toNatClampNeg (v63 31 0 (Int32.toNatClampNeg L3)))) → (BX7_fieldFrom_102 I34 L1 L2 L3 L4 v63 Q X)) ∧ (¬ (v63 30 0 (Int32.toNatClampNeg (v63 31 0 (Int32.toNatClampNeg L4)))) ≤ (v63 30 0 (Int32.toNatClampNeg (v63 31 0 (Int32.toNatClampNeg L3)))) → (BX7_fieldFrom_99 I34 L1 L2 L4 v63 Q X)))))))))))) X)))))))
theorem sX7_fieldFrom_34 (C : gC p l s m args meth c cX7_fieldFrom 5 RX7 L sz) (hr : meth.sig.returnType = (some .int)) (hno : ∀ x ∈ c.exceptionTable.toList, False) {L1 : Int32} {L2 : Int32} {L3 : Int32} {L4 : Int32} {v : gMem} {Q : Int32 → gMem → Prop} {X : String → gMem → Prop} {I34 : Int32 → Int32 → gMem → Prop} (hI34 : ∀ (L3 : Int32) (L4 : Int32) (v : gMem), I34 L3 L4 v → gS p l e ({ frames := 2, cells := 0, slots := 0, locals := 43 } : Room) s m args below meth c 5 L sz (vx_MQ below (gQi L sz Q) (gXC L sz X) args s 0 0 (gA L sz)) 0 0 34 [(0, .ref (L.2.1 7 0)), (1, .int L1), (2, .int L2), (3, .int L3), (4, .int L4)] [] v) (h : BX7_fieldFrom_34 I34 L1 L2 L3 L4 v Q X) : gS p l e ({ frames := 2, cells := 0, slots := 0, locals := 43 } : Room) s m args below meth c 5 L sz (vx_MQ below (gQi L sz Q) (gXC L sz X) args s 0 0 (gA L sz)) 0 0 34 [(0, .ref (L.2.1 7 0)), (1, .int L1), (2, .int L2), (3, .int L3), (4, .int L4)] [] v := by
  unfold BX7_fieldFrom_34 at h
  refine g_iload C 4 rfl dX7_fieldFrom_34 ?_
  refine g_aload_n C 0 rfl 0 rfl dX7_fieldFrom_36 ?_
  refine fgX7_67 C dX7_fieldFrom_37 ?_
  refine g_icmp_ge C 108 (by decide) dX7_fieldFrom_40 (fun hc => ?_) (fun hc => ?_)
  · replace h := h.1 hc
    refine g_iload_n C 3 rfl 3 rfl dX7_fieldFrom_108 ?_
    refine g_if_ge C 118 (by decide) dX7_fieldFrom_109 (fun hc => ?_) (fun hc => ?_)
    · replace h := h.1 hc
      refine g_iload_n C 3 rfl 3 rfl dX7_fieldFrom_118 ?_
      exact g_iret C hr rfl (Nat.le_of_ble_eq_true rfl) (Nat.le_of_ble_eq_true rfl) h dX7_fieldFrom_119
    · replace h := h.2 hc
      refine g_aload_n C 0 rfl 0 rfl dX7_fieldFrom_112 ?_
      refine g_iconst C 3 (by decide) dX7_fieldFrom_113 ?_
      refine g_callVi C hno gok_7 rfl rfl [.int 3] (fun sz9 => kX7_fail l C.2.2.2.2.2.2.1 L C.2.2.2.2.2.2.2.1 3 v _ X h sz9) wml_RX7_78 winst_X7_fail wsel_X7_fail wini_RX7 wcode_X7_fail rfl rfl (n := 1) (by decide +kernel) rfl ⟨(Nat.le_of_ble_eq_true rfl), (Nat.le_of_ble_eq_true rfl)⟩ ⟨(Nat.le_of_ble_eq_true rfl), (Nat.le_of_ble_eq_true rfl)⟩ ⟨(Nat.le_of_ble_eq_true rfl), (Nat.le_of_ble_eq_true rfl)⟩ (Nat.le_of_ble_eq_true rfl) dX7_fieldFrom_114 (fun r114 v114 h => ?_)
      exact g_iret C hr rfl (Nat.le_of_ble_eq_true rfl) (Nat.le_of_ble_eq_true rfl) h dX7_fieldFrom_117
  · replace h := h.2 hc
    refine g_aload_n C 0 rfl 0 rfl dX7_fieldFrom_43 ?_
    refine fgX7_38 C dX7_fieldFrom_44 ?_
    refine g_iload C 4 rfl dX7_fieldFrom_47 ?_
    obtain ⟨hb49, h⟩ := h
    refine g_iald C gok_38 rfl hb49 dX7_fieldFrom_49 ?_
    refine g_aload_n C 0 rfl 0 rfl dX7_fieldFrom_50 ?_
    refine fgX7_38 C dX7_fieldFrom_51 ?_
    refine g_iload_n C 1 rfl 1 rfl dX7_fieldFrom_54 ?_
    obtain ⟨hb55, h⟩ := h
    refine g_iald C gok_38 rfl hb55 dX7_fieldFrom_55 ?_
    refine g_icmp_ne C 102 (by decide) dX7_fieldFrom_56 (fun hc => ?_) (fun hc => ?_)
    · replace h := h.1 hc
      exact sX7_fieldFrom_102 C hr hno hI34 h
    · replace h := h.2 hc
      refine g_aload_n C 0 rfl 0 rfl dX7_fieldFrom_59 ?_
      refine g_iload C 4 rfl dX7_fieldFrom_60 ?_
      refine g_iload_n C 2 rfl 2 rfl dX7_fieldFrom_62 ?_
      refine g_callVi C hno gok_7 rfl rfl [.int L4, .int L2] (fun sz9 => kX7_has l C.2.2.2.2.2.2.1 L C.2.2.2.2.2.2.2.1 L4 L2 v _ X h sz9) wml_RX7_97 winst_X7_has wsel_X7_has wini_RX7 wcode_X7_has rfl rfl (n := 2) (by decide +kernel) rfl ⟨(Nat.le_of_ble_eq_true rfl), (Nat.le_of_ble_eq_true rfl)⟩ ⟨(Nat.le_of_ble_eq_true rfl), (Nat.le_of_ble_eq_true rfl)⟩ ⟨(Nat.le_of_ble_eq_true rfl), (Nat.le_of_ble_eq_true rfl)⟩ (Nat.le_of_ble_eq_true rfl) dX7_fieldFrom_63 (fun r63 v63 h => ?_)
      refine g_if_eq C 102 (by decide) dX7_fieldFrom_66 (fun hc => ?_) (fun hc => ?_)
      · replace h := h.1 hc
        exact sX7_fieldFrom_102 C hr hno hI34 h
      · replace h := h.2 hc
        refine g_iload_n C 3 rfl 3 rfl dX7_fieldFrom_69 ?_
        refine g_if_lt C 99 (by decide) dX7_fieldFrom_70 (fun hc => ?_) (fun hc => ?_)
        · replace h := h.1 hc
          refine g_sub [(0, .ref (L.2.1 7 0)), (1, .int L1), (2, .int L2), (4, .int L4)] [0, 1, 2, 4] rfl ?_
          exact sX7_fieldFrom_99 C hr hno hI34 h
        · replace h := h.2 hc
          refine g_aload_n C 0 rfl 0 rfl dX7_fieldFrom_73 ?_
          refine fgX7_13 C dX7_fieldFrom_74 ?_
          refine g_aload_n C 0 rfl 0 rfl dX7_fieldFrom_77 ?_
          refine fgX7_17 C dX7_fieldFrom_78 ?_
          refine g_iload C 4 rfl dX7_fieldFrom_81 ?_
          obtain ⟨hb83, h⟩ := h
          refine g_iald C gok_31 rfl hb83 dX7_fieldFrom_83 ?_
          obtain ⟨hb84, h⟩ := h
          refine g_iald C gok_30 rfl hb84 dX7_fieldFrom_84 ?_
          refine g_aload_n C 0 rfl 0 rfl dX7_fieldFrom_85 ?_
          refine fgX7_13 C dX7_fieldFrom_86 ?_
          refine g_aload_n C 0 rfl 0 rfl dX7_fieldFrom_89 ?_
          refine fgX7_17 C dX7_fieldFrom_90 ?_
          refine g_iload_n C 3 rfl 3 rfl dX7_fieldFrom_93 ?_
          obtain ⟨hb94, h⟩ := h
          refine g_iald C gok_31 rfl hb94 dX7_fieldFrom_94 ?_
          obtain ⟨hb95, h⟩ := h
          refine g_iald C gok_30 rfl hb95 dX7_fieldFrom_95 ?_
          refine g_icmp_le C 102 (by decide) dX7_fieldFrom_96 (fun hc => ?_) (fun hc => ?_)
          · replace h := h.1 hc
            exact sX7_fieldFrom_102 C hr hno hI34 h
          · replace h := h.2 hc
            refine g_sub [(0, .ref (L.2.1 7 0)), (1, .int L1), (2, .int L2), (4, .int L4)] [0, 1, 2, 4] rfl ?_
            exact sX7_fieldFrom_99 C hr hno hI34 h
def LX7_fieldFrom_34 (L1 : Int32) (L2 : Int32) (L3 : Int32) (L4 : Int32) (v : gMem) (Q : Int32 → gMem → Prop) (X : String → gMem → Prop) : Prop := ∀ I34 : Int32 → Int32 → gMem → Prop, (∀ (L3 : Int32) (L4 : Int32) (v : gMem), BX7_fieldFrom_34 I34 L1 L2 L3 L4 v Q X → I34 L3 L4 v) → I34 L3 L4 v
theorem slX7_fieldFrom_34 (C : gC p l s m args meth c cX7_fieldFrom 5 RX7 L sz) (hr : meth.sig.returnType = (some .int)) (hno : ∀ x ∈ c.exceptionTable.toList, False) {L1 : Int32} {L2 : Int32} {L3 : Int32} {L4 : Int32} {v : gMem} {Q : Int32 → gMem → Prop} {X : String → gMem → Prop} (h : LX7_fieldFrom_34 L1 L2 L3 L4 v Q X) : gS p l e ({ frames := 2, cells := 0, slots := 0, locals := 43 } : Room) s m args below meth c 5 L sz (vx_MQ below (gQi L sz Q) (gXC L sz X) args s 0 0 (gA L sz)) 0 0 34 [(0, .ref (L.2.1 7 0)), (1, .int L1), (2, .int L2), (3, .int L3), (4, .int L4)] [] v := by
  refine h (fun L3 L4 v => gS p l e ({ frames := 2, cells := 0, slots := 0, locals := 43 } : Room) s m args below meth c 5 L sz (vx_MQ below (gQi L sz Q) (gXC L sz X) args s 0 0 (gA L sz)) 0 0 34 [(0, .ref (L.2.1 7 0)), (1, .int L1), (2, .int L2), (3, .int L3), (4, .int L4)] [] v) (fun L3 L4 v hb => ?_)
  exact sX7_fieldFrom_34 C hr hno (fun _ _ _ hs => hs) hb
def TX7_fieldFrom (L1 : Int32) (L2 : Int32) (v : gMem) (Q : Int32 → gMem → Prop) (X : String → gMem → Prop) : Prop := (TX7_noCard L1 v (fun r2 v2 => ((r2 = 0 → (TX7_isWithin L2 0 3 v2 (fun r13 v13 => ((¬ r13 = 0 → (TX7_gather v13 (fun v26 => (LX7_fieldFrom_34 L1 L2 (-1) 0 v26 Q X)) X)) ∧ (r13 = 0 → (TX7_fail 2 v13 (fun r21 v21 => (Q r21 v21)) X)))) X)) ∧ (¬ r2 = 0 → (Q 0 v2)))) X)
theorem kX7_fieldFrom (l : Launch) (hfl : l.stackTraces = false) (L : gL) (hL : gDist L) (L1 : Int32) (L2 : Int32) (v : gMem) (Q : Int32 → gMem → Prop) (X : String → gMem → Prop) (h : TX7_fieldFrom L1 L2 v Q X) (sz : Nat) : vx_Met l yX7_fieldFrom [.code yX7_fieldFrom cX7_fieldFrom 5 (some .int)] ({ frames := 2, cells := 0, slots := 0, locals := 43 } : Room) (gPc L sz [.ref (L.2.1 7 0), .int L1, .int L2] v) (gQi L sz Q) (gXC L sz X) 0 0 (gA L sz) := by
  refine g_ofW (by decide +kernel) hfl hL (Nat.le_of_ble_eq_true rfl) ?_
  intro p e s m args below meth c C hr hno
  refine g_sub [(0, .ref (L.2.1 7 0)), (1, .int L1), (2, .int L2)] [0, 1, 2] rfl ?_
  unfold TX7_fieldFrom at h
  refine g_aload_n C 0 rfl 0 rfl dX7_fieldFrom_0 ?_
  refine g_iload_n C 1 rfl 1 rfl dX7_fieldFrom_1 ?_
  refine g_callVi C hno gok_7 rfl rfl [.int L1] (fun sz9 => kX7_noCard l C.2.2.2.2.2.2.1 L C.2.2.2.2.2.2.2.1 L1 v _ X h sz9) wml_RX7_74 winst_X7_noCard wsel_X7_noCard wini_RX7 wcode_X7_noCard rfl rfl (n := 1) (by decide +kernel) rfl ⟨(Nat.le_of_ble_eq_true rfl), (Nat.le_of_ble_eq_true rfl)⟩ ⟨(Nat.le_of_ble_eq_true rfl), (Nat.le_of_ble_eq_true rfl)⟩ ⟨(Nat.le_of_ble_eq_true rfl), (Nat.le_of_ble_eq_true rfl)⟩ (Nat.le_of_ble_eq_true rfl) dX7_fieldFrom_2 (fun r2 v2 h => ?_)
  refine g_if_eq C 10 (by decide) dX7_fieldFrom_5 (fun hc => ?_) (fun hc => ?_)
  · replace h := h.1 hc
    refine g_iload_n C 2 rfl 2 rfl dX7_fieldFrom_10 ?_
    refine g_iconst C 0 (by decide) dX7_fieldFrom_11 ?_
    refine g_iconst C 3 (by decide) dX7_fieldFrom_12 ?_
    refine g_callSi C hno [.int L2, .int 0, .int 3] (fun sz9 => kX7_isWithin l C.2.2.2.2.2.2.1 L C.2.2.2.2.2.2.2.1 L2 0 3 v2 _ X h sz9) wml_RX7_70 wstat_X7_isWithin wini_RX7 wcode_X7_isWithin rfl rfl (n := 3) (by decide +kernel) rfl ⟨(Nat.le_of_ble_eq_true rfl), (Nat.le_of_ble_eq_true rfl)⟩ ⟨(Nat.le_of_ble_eq_true rfl), (Nat.le_of_ble_eq_true rfl)⟩ ⟨(Nat.le_of_ble_eq_true rfl), (Nat.le_of_ble_eq_true rfl)⟩ (Nat.le_of_ble_eq_true rfl) dX7_fieldFrom_13 (fun r13 v13 h => ?_)
    refine g_if_ne C 25 (by decide) dX7_fieldFrom_16 (fun hc => ?_) (fun hc => ?_)
    · replace h := h.1 hc
      refine g_aload_n C 0 rfl 0 rfl dX7_fieldFrom_25 ?_
      refine g_callVv C hno gok_7 rfl rfl [] (fun sz9 => kX7_gather l C.2.2.2.2.2.2.1 L C.2.2.2.2.2.2.2.1 v13 _ X h sz9) wml_RX7_130 winst_X7_gather wsel_X7_gather wini_RX7 wcode_X7_gather rfl rfl (n := 0) (by decide +kernel) rfl ⟨(Nat.le_of_ble_eq_true rfl), (Nat.le_of_ble_eq_true rfl)⟩ ⟨(Nat.le_of_ble_eq_true rfl), (Nat.le_of_ble_eq_true rfl)⟩ ⟨(Nat.le_of_ble_eq_true rfl), (Nat.le_of_ble_eq_true rfl)⟩ (Nat.le_of_ble_eq_true rfl) dX7_fieldFrom_26 (fun v26 h => ?_)
      refine g_iconst C (-1) (by decide) dX7_fieldFrom_29 ?_
      refine g_istore_n C 3 rfl [(3, .int (-1)), (0, .ref (L.2.1 7 0)), (1, .int L1), (2, .int L2)] (Nat.le_of_ble_eq_true rfl) rfl dX7_fieldFrom_30 ?_
      refine g_iconst C 0 (by decide) dX7_fieldFrom_31 ?_
      refine g_istore C [(4, .int 0), (3, .int (-1)), (0, .ref (L.2.1 7 0)), (1, .int L1), (2, .int L2)] (Nat.le_of_ble_eq_true rfl) rfl dX7_fieldFrom_32 ?_
      refine g_sub [(0, .ref (L.2.1 7 0)), (1, .int L1), (2, .int L2), (3, .int (-1)), (4, .int 0)] [2, 3, 4, 1, 0] rfl ?_
      exact slX7_fieldFrom_34 C hr hno h
    · replace h := h.2 hc
      refine g_aload_n C 0 rfl 0 rfl dX7_fieldFrom_19 ?_
      refine g_iconst C 2 (by decide) dX7_fieldFrom_20 ?_
      refine g_callVi C hno gok_7 rfl rfl [.int 2] (fun sz9 => kX7_fail l C.2.2.2.2.2.2.1 L C.2.2.2.2.2.2.2.1 2 v13 _ X h sz9) wml_RX7_78 winst_X7_fail wsel_X7_fail wini_RX7 wcode_X7_fail rfl rfl (n := 1) (by decide +kernel) rfl ⟨(Nat.le_of_ble_eq_true rfl), (Nat.le_of_ble_eq_true rfl)⟩ ⟨(Nat.le_of_ble_eq_true rfl), (Nat.le_of_ble_eq_true rfl)⟩ ⟨(Nat.le_of_ble_eq_true rfl), (Nat.le_of_ble_eq_true rfl)⟩ (Nat.le_of_ble_eq_true rfl) dX7_fieldFrom_21 (fun r21 v21 h => ?_)
      exact g_iret C hr rfl (Nat.le_of_ble_eq_true rfl) (Nat.le_of_ble_eq_true rfl) h dX7_fieldFrom_24
  · replace h := h.2 hc
    refine g_iconst C 0 (by decide) dX7_fieldFrom_8 ?_
    exact g_iret C hr rfl (Nat.le_of_ble_eq_true rfl) (Nat.le_of_ble_eq_true rfl) h dX7_fieldFrom_9
def BX7_isDisputed_72 (I2 : Int32 → gMem → Prop) (I13 : Int32 → gMem → Prop) (L1 : Int32) (L2 : Int32) (L3 : Int32) (L4 : Int32) (v : gMem) (Q : Int32 → gMem → Prop) (X : String → gMem → Prop) : Prop := (I13 (L4 + 1) v)
theorem sX7_isDisputed_72 (C : gC p l s m args meth c cX7_isDisputed 5 RX7 L sz) (hr : meth.sig.returnType = (some .boolean)) (hno : ∀ x ∈ c.exceptionTable.toList, False) {L1 : Int32} {L2 : Int32} {L3 : Int32} {L4 : Int32} {v : gMem} {Q : Int32 → gMem → Prop} {X : String → gMem → Prop} {I2 : Int32 → gMem → Prop} (hI2 : ∀ (L3 : Int32) (v : gMem), I2 L3 v → gS p l e ({ frames := 1, cells := 0, slots := 0, locals := 24 } : Room) s m args below meth c 5 L sz (vx_MQ below (gQi L sz Q) (gXC L sz X) args s 0 0 (gA L sz)) 0 0 2 [(0, .ref (L.2.1 7 0)), (1, .int L1), (2, .int L2), (3, .int L3)] [] v) {I13 : Int32 → gMem → Prop} (hI13 : ∀ (L4 : Int32) (v : gMem), I13 L4 v → gS p l e ({ frames := 1, cells := 0, slots := 0, locals := 24 } : Room) s m args below meth c 5 L sz (vx_MQ below (gQi L sz Q) (gXC L sz X) args s 0 0 (gA L sz)) 0 0 13 [(0, .ref (L.2.1 7 0)), (1, .int L1), (2, .int L2), (3, .int L3), (4, .int L4)] [] v) (h : BX7_isDisputed_72 I2 I13 L1 L2 L3 L4 v Q X) : gS p l e ({ frames := 1, cells := 0, slots := 0, locals := 24 } : Room) s m args below meth c 5 L sz (vx_MQ below (gQi L sz Q) (gXC L sz X) args s 0 0 (gA L sz)) 0 0 72 [(0, .ref (L.2.1 7 0)), (1, .int L1), (2, .int L2), (3, .int L3), (4, .int L4)] [] v := by
  unfold BX7_isDisputed_72 at h
  refine g_iinc C (k := 4) (L4 + 1) [(4, .int (L4 + 1)), (0, .ref (L.2.1 7 0)), (1, .int L1), (2, .int L2), (3, .int L3)] rfl rfl (Nat.le_of_ble_eq_true rfl) rfl dX7_isDisputed_72 ?_
  refine g_goto C 13 (by decide) dX7_isDisputed_75 ?_
  refine g_sub [(0, .ref (L.2.1 7 0)), (1, .int L1), (2, .int L2), (3, .int L3), (4, .int (L4 + 1))] [1, 2, 3, 4, 0] rfl ?_
  exact hI13 _ _ h
def BX7_isDisputed_13 (I2 : Int32 → gMem → Prop) (I13 : Int32 → gMem → Prop) (L1 : Int32) (L2 : Int32) (L3 : Int32) (L4 : Int32) (v : gMem) (Q : Int32 → gMem → Prop) (X : String → gMem → Prop) : Prop := ((L3 ≤ L4 → (I2 (L3 + 1) v)) ∧ (¬ L3 ≤ L4 → (vp_in L3 16 ∧ ((¬ (v 38 0 (Int32.toNatClampNeg L3)) = L1 → (BX7_isDisputed_72 I2 I13 L1 L2 L3 L4 v Q X)) ∧ ((v 38 0 (Int32.toNatClampNeg L3)) = L1 → (vp_in L4 16 ∧ ((¬ (v 38 0 (Int32.toNatClampNeg L4)) = L1 → (BX7_isDisputed_72 I2 I13 L1 L2 L3 L4 v Q X)) ∧ ((v 38 0 (Int32.toNatClampNeg L4)) = L1 → (TX7_has L3 L2 v (fun r43 v43 => ((r43 = 0 → (BX7_isDisputed_72 I2 I13 L1 L2 L3 L4 v43 Q X)) ∧ (¬ r43 = 0 → (TX7_has L4 L2 v43 (fun r53 v53 => ((r53 = 0 → (BX7_isDisputed_72 I2 I13 L1 L2 L3 L4 v53 Q X)) ∧ (¬ r53 = 0 → (TX7_isSame L3 L4 L2 v53 (fun r64 v64 => ((¬ r64 = 0 → (BX7_isDisputed_72 I2 I13 L1 L2 L3 L4 v64 Q X)) ∧ (r64 = 0 → (Q 1 v64)))) X)))) X)))) X)))))))))
theorem sX7_isDisputed_13 (C : gC p l s m args meth c cX7_isDisputed 5 RX7 L sz) (hr : meth.sig.returnType = (some .boolean)) (hno : ∀ x ∈ c.exceptionTable.toList, False) {L1 : Int32} {L2 : Int32} {L3 : Int32} {L4 : Int32} {v : gMem} {Q : Int32 → gMem → Prop} {X : String → gMem → Prop} {I2 : Int32 → gMem → Prop} (hI2 : ∀ (L3 : Int32) (v : gMem), I2 L3 v → gS p l e ({ frames := 1, cells := 0, slots := 0, locals := 24 } : Room) s m args below meth c 5 L sz (vx_MQ below (gQi L sz Q) (gXC L sz X) args s 0 0 (gA L sz)) 0 0 2 [(0, .ref (L.2.1 7 0)), (1, .int L1), (2, .int L2), (3, .int L3)] [] v) {I13 : Int32 → gMem → Prop} (hI13 : ∀ (L4 : Int32) (v : gMem), I13 L4 v → gS p l e ({ frames := 1, cells := 0, slots := 0, locals := 24 } : Room) s m args below meth c 5 L sz (vx_MQ below (gQi L sz Q) (gXC L sz X) args s 0 0 (gA L sz)) 0 0 13 [(0, .ref (L.2.1 7 0)), (1, .int L1), (2, .int L2), (3, .int L3), (4, .int L4)] [] v) (h : BX7_isDisputed_13 I2 I13 L1 L2 L3 L4 v Q X) : gS p l e ({ frames := 1, cells := 0, slots := 0, locals := 24 } : Room) s m args below meth c 5 L sz (vx_MQ below (gQi L sz Q) (gXC L sz X) args s 0 0 (gA L sz)) 0 0 13 [(0, .ref (L.2.1 7 0)), (1, .int L1), (2, .int L2), (3, .int L3), (4, .int L4)] [] v := by
  unfold BX7_isDisputed_13 at h
  refine g_iload C 4 rfl dX7_isDisputed_13 ?_
  refine g_iload_n C 3 rfl 3 rfl dX7_isDisputed_15 ?_
  refine g_icmp_ge C 78 (by decide) dX7_isDisputed_16 (fun hc => ?_) (fun hc => ?_)
  · replace h := h.1 hc
    refine g_iinc C (k := 3) (L3 + 1) [(3, .int (L3 + 1)), (0, .ref (L.2.1 7 0)), (1, .int L1), (2, .int L2), (4, .int L4)] rfl rfl (Nat.le_of_ble_eq_true rfl) rfl dX7_isDisputed_78 ?_
    refine g_goto C 2 (by decide) dX7_isDisputed_81 ?_
    refine g_sub [(0, .ref (L.2.1 7 0)), (1, .int L1), (2, .int L2), (3, .int (L3 + 1))] [1, 2, 3, 0] rfl ?_
    exact hI2 _ _ h
  · replace h := h.2 hc
    refine g_aload_n C 0 rfl 0 rfl dX7_isDisputed_19 ?_
    refine fgX7_38 C dX7_isDisputed_20 ?_
    refine g_iload_n C 3 rfl 3 rfl dX7_isDisputed_23 ?_
    obtain ⟨hb24, h⟩ := h
    refine g_iald C gok_38 rfl hb24 dX7_isDisputed_24 ?_
    refine g_iload_n C 1 rfl 1 rfl dX7_isDisputed_25 ?_
    refine g_icmp_ne C 72 (by decide) dX7_isDisputed_26 (fun hc => ?_) (fun hc => ?_)
    · replace h := h.1 hc
      exact sX7_isDisputed_72 C hr hno hI2 hI13 h
    · replace h := h.2 hc
      refine g_aload_n C 0 rfl 0 rfl dX7_isDisputed_29 ?_
      refine fgX7_38 C dX7_isDisputed_30 ?_
      refine g_iload C 4 rfl dX7_isDisputed_33 ?_
      obtain ⟨hb35, h⟩ := h
      refine g_iald C gok_38 rfl hb35 dX7_isDisputed_35 ?_
      refine g_iload_n C 1 rfl 1 rfl dX7_isDisputed_36 ?_
      refine g_icmp_ne C 72 (by decide) dX7_isDisputed_37 (fun hc => ?_) (fun hc => ?_)
      · replace h := h.1 hc
        exact sX7_isDisputed_72 C hr hno hI2 hI13 h
      · replace h := h.2 hc
        refine g_aload_n C 0 rfl 0 rfl dX7_isDisputed_40 ?_
        refine g_iload_n C 3 rfl 3 rfl dX7_isDisputed_41 ?_
        refine g_iload_n C 2 rfl 2 rfl dX7_isDisputed_42 ?_
        refine g_callVi C hno gok_7 rfl rfl [.int L3, .int L2] (fun sz9 => kX7_has l C.2.2.2.2.2.2.1 L C.2.2.2.2.2.2.2.1 L3 L2 v _ X h sz9) wml_RX7_97 winst_X7_has wsel_X7_has wini_RX7 wcode_X7_has rfl rfl (n := 2) (by decide +kernel) rfl ⟨(Nat.le_of_ble_eq_true rfl), (Nat.le_of_ble_eq_true rfl)⟩ ⟨(Nat.le_of_ble_eq_true rfl), (Nat.le_of_ble_eq_true rfl)⟩ ⟨(Nat.le_of_ble_eq_true rfl), (Nat.le_of_ble_eq_true rfl)⟩ (Nat.le_of_ble_eq_true rfl) dX7_isDisputed_43 (fun r43 v43 h => ?_)
        refine g_if_eq C 72 (by decide) dX7_isDisputed_46 (fun hc => ?_) (fun hc => ?_)
        · replace h := h.1 hc
          exact sX7_isDisputed_72 C hr hno hI2 hI13 h
        · replace h := h.2 hc
          refine g_aload_n C 0 rfl 0 rfl dX7_isDisputed_49 ?_
          refine g_iload C 4 rfl dX7_isDisputed_50 ?_
          refine g_iload_n C 2 rfl 2 rfl dX7_isDisputed_52 ?_
          refine g_callVi C hno gok_7 rfl rfl [.int L4, .int L2] (fun sz9 => kX7_has l C.2.2.2.2.2.2.1 L C.2.2.2.2.2.2.2.1 L4 L2 v43 _ X h sz9) wml_RX7_97 winst_X7_has wsel_X7_has wini_RX7 wcode_X7_has rfl rfl (n := 2) (by decide +kernel) rfl ⟨(Nat.le_of_ble_eq_true rfl), (Nat.le_of_ble_eq_true rfl)⟩ ⟨(Nat.le_of_ble_eq_true rfl), (Nat.le_of_ble_eq_true rfl)⟩ ⟨(Nat.le_of_ble_eq_true rfl), (Nat.le_of_ble_eq_true rfl)⟩ (Nat.le_of_ble_eq_true rfl) dX7_isDisputed_53 (fun r53 v53 h => ?_)
          refine g_if_eq C 72 (by decide) dX7_isDisputed_56 (fun hc => ?_) (fun hc => ?_)
          · replace h := h.1 hc
            exact sX7_isDisputed_72 C hr hno hI2 hI13 h
          · replace h := h.2 hc
            refine g_aload_n C 0 rfl 0 rfl dX7_isDisputed_59 ?_
            refine g_iload_n C 3 rfl 3 rfl dX7_isDisputed_60 ?_
            refine g_iload C 4 rfl dX7_isDisputed_61 ?_
            refine g_iload_n C 2 rfl 2 rfl dX7_isDisputed_63 ?_
            refine g_callVi C hno gok_7 rfl rfl [.int L3, .int L4, .int L2] (fun sz9 => kX7_isSame l C.2.2.2.2.2.2.1 L C.2.2.2.2.2.2.2.1 L3 L4 L2 v53 _ X h sz9) wml_RX7_101 winst_X7_isSame wsel_X7_isSame wini_RX7 wcode_X7_isSame rfl rfl (n := 3) (by decide +kernel) rfl ⟨(Nat.le_of_ble_eq_true rfl), (Nat.le_of_ble_eq_true rfl)⟩ ⟨(Nat.le_of_ble_eq_true rfl), (Nat.le_of_ble_eq_true rfl)⟩ ⟨(Nat.le_of_ble_eq_true rfl), (Nat.le_of_ble_eq_true rfl)⟩ (Nat.le_of_ble_eq_true rfl) dX7_isDisputed_64 (fun r64 v64 h => ?_)
            refine g_if_ne C 72 (by decide) dX7_isDisputed_67 (fun hc => ?_) (fun hc => ?_)
            · replace h := h.1 hc
              exact sX7_isDisputed_72 C hr hno hI2 hI13 h
            · replace h := h.2 hc
              refine g_iconst C 1 (by decide) dX7_isDisputed_70 ?_
              exact g_iret C hr rfl (Nat.le_of_ble_eq_true rfl) (Nat.le_of_ble_eq_true rfl) h dX7_isDisputed_71
def LX7_isDisputed_13 (I2 : Int32 → gMem → Prop) (L1 : Int32) (L2 : Int32) (L3 : Int32) (L4 : Int32) (v : gMem) (Q : Int32 → gMem → Prop) (X : String → gMem → Prop) : Prop := ∀ I13 : Int32 → gMem → Prop, (∀ (L4 : Int32) (v : gMem), BX7_isDisputed_13 I2 I13 L1 L2 L3 L4 v Q X → I13 L4 v) → I13 L4 v
theorem slX7_isDisputed_13 (C : gC p l s m args meth c cX7_isDisputed 5 RX7 L sz) (hr : meth.sig.returnType = (some .boolean)) (hno : ∀ x ∈ c.exceptionTable.toList, False) {L1 : Int32} {L2 : Int32} {L3 : Int32} {L4 : Int32} {v : gMem} {Q : Int32 → gMem → Prop} {X : String → gMem → Prop} {I2 : Int32 → gMem → Prop} (hI2 : ∀ (L3 : Int32) (v : gMem), I2 L3 v → gS p l e ({ frames := 1, cells := 0, slots := 0, locals := 24 } : Room) s m args below meth c 5 L sz (vx_MQ below (gQi L sz Q) (gXC L sz X) args s 0 0 (gA L sz)) 0 0 2 [(0, .ref (L.2.1 7 0)), (1, .int L1), (2, .int L2), (3, .int L3)] [] v) (h : LX7_isDisputed_13 I2 L1 L2 L3 L4 v Q X) : gS p l e ({ frames := 1, cells := 0, slots := 0, locals := 24 } : Room) s m args below meth c 5 L sz (vx_MQ below (gQi L sz Q) (gXC L sz X) args s 0 0 (gA L sz)) 0 0 13 [(0, .ref (L.2.1 7 0)), (1, .int L1), (2, .int L2), (3, .int L3), (4, .int L4)] [] v := by
  refine h (fun L4 v => gS p l e ({ frames := 1, cells := 0, slots := 0, locals := 24 } : Room) s m args below meth c 5 L sz (vx_MQ below (gQi L sz Q) (gXC L sz X) args s 0 0 (gA L sz)) 0 0 13 [(0, .ref (L.2.1 7 0)), (1, .int L1), (2, .int L2), (3, .int L3), (4, .int L4)] [] v) (fun L4 v hb => ?_)
  exact sX7_isDisputed_13 C hr hno hI2 (fun _ _ hs => hs) hb
def BX7_isDisputed_2 (I2 : Int32 → gMem → Prop) (L1 : Int32) (L2 : Int32) (L3 : Int32) (v : gMem) (Q : Int32 → gMem → Prop) (X : String → gMem → Prop) : Prop := (((v 7 0 2) ≤ L3 → (Q 0 v)) ∧ (¬ (v 7 0 2) ≤ L3 → (LX7_isDisputed_13 I2 L1 L2 L3 0 v Q X)))
theorem sX7_isDisputed_2 (C : gC p l s m args meth c cX7_isDisputed 5 RX7 L sz) (hr : meth.sig.returnType = (some .boolean)) (hno : ∀ x ∈ c.exceptionTable.toList, False) {L1 : Int32} {L2 : Int32} {L3 : Int32} {v : gMem} {Q : Int32 → gMem → Prop} {X : String → gMem → Prop} {I2 : Int32 → gMem → Prop} (hI2 : ∀ (L3 : Int32) (v : gMem), I2 L3 v → gS p l e ({ frames := 1, cells := 0, slots := 0, locals := 24 } : Room) s m args below meth c 5 L sz (vx_MQ below (gQi L sz Q) (gXC L sz X) args s 0 0 (gA L sz)) 0 0 2 [(0, .ref (L.2.1 7 0)), (1, .int L1), (2, .int L2), (3, .int L3)] [] v) (h : BX7_isDisputed_2 I2 L1 L2 L3 v Q X) : gS p l e ({ frames := 1, cells := 0, slots := 0, locals := 24 } : Room) s m args below meth c 5 L sz (vx_MQ below (gQi L sz Q) (gXC L sz X) args s 0 0 (gA L sz)) 0 0 2 [(0, .ref (L.2.1 7 0)), (1, .int L1), (2, .int L2), (3, .int L3)] [] v := by
  unfold BX7_isDisputed_2 at h
  refine g_iload_n C 3 rfl 3 rfl dX7_isDisputed_2 ?_
  refine g_aload_n C 0 rfl 0 rfl dX7_isDisputed_3 ?_
  refine fgX7_67 C dX7_isDisputed_4 ?_
  refine g_icmp_ge C 84 (by decide) dX7_isDisputed_7 (fun hc => ?_) (fun hc => ?_)
  · replace h := h.1 hc
    refine g_iconst C 0 (by decide) dX7_isDisputed_84 ?_
    exact g_iret C hr rfl (Nat.le_of_ble_eq_true rfl) (Nat.le_of_ble_eq_true rfl) h dX7_isDisputed_85
  · replace h := h.2 hc
    refine g_iconst C 0 (by decide) dX7_isDisputed_10 ?_
    refine g_istore C [(4, .int 0), (0, .ref (L.2.1 7 0)), (1, .int L1), (2, .int L2), (3, .int L3)] (Nat.le_of_ble_eq_true rfl) rfl dX7_isDisputed_11 ?_
    refine g_sub [(0, .ref (L.2.1 7 0)), (1, .int L1), (2, .int L2), (3, .int L3), (4, .int 0)] [1, 2, 3, 4, 0] rfl ?_
    exact slX7_isDisputed_13 C hr hno hI2 h
def LX7_isDisputed_2 (L1 : Int32) (L2 : Int32) (L3 : Int32) (v : gMem) (Q : Int32 → gMem → Prop) (X : String → gMem → Prop) : Prop := ∀ I2 : Int32 → gMem → Prop, (∀ (L3 : Int32) (v : gMem), BX7_isDisputed_2 I2 L1 L2 L3 v Q X → I2 L3 v) → I2 L3 v
theorem slX7_isDisputed_2 (C : gC p l s m args meth c cX7_isDisputed 5 RX7 L sz) (hr : meth.sig.returnType = (some .boolean)) (hno : ∀ x ∈ c.exceptionTable.toList, False) {L1 : Int32} {L2 : Int32} {L3 : Int32} {v : gMem} {Q : Int32 → gMem → Prop} {X : String → gMem → Prop} (h : LX7_isDisputed_2 L1 L2 L3 v Q X) : gS p l e ({ frames := 1, cells := 0, slots := 0, locals := 24 } : Room) s m args below meth c 5 L sz (vx_MQ below (gQi L sz Q) (gXC L sz X) args s 0 0 (gA L sz)) 0 0 2 [(0, .ref (L.2.1 7 0)), (1, .int L1), (2, .int L2), (3, .int L3)] [] v := by
  refine h (fun L3 v => gS p l e ({ frames := 1, cells := 0, slots := 0, locals := 24 } : Room) s m args below meth c 5 L sz (vx_MQ below (gQi L sz Q) (gXC L sz X) args s 0 0 (gA L sz)) 0 0 2 [(0, .ref (L.2.1 7 0)), (1, .int L1), (2, .int L2), (3, .int L3)] [] v) (fun L3 v hb => ?_)
  exact sX7_isDisputed_2 C hr hno (fun _ _ hs => hs) hb
def TX7_isDisputed (L1 : Int32) (L2 : Int32) (v : gMem) (Q : Int32 → gMem → Prop) (X : String → gMem → Prop) : Prop := (LX7_isDisputed_2 L1 L2 0 v Q X)
theorem kX7_isDisputed (l : Launch) (hfl : l.stackTraces = false) (L : gL) (hL : gDist L) (L1 : Int32) (L2 : Int32) (v : gMem) (Q : Int32 → gMem → Prop) (X : String → gMem → Prop) (h : TX7_isDisputed L1 L2 v Q X) (sz : Nat) : vx_Met l yX7_isDisputed [.code yX7_isDisputed cX7_isDisputed 5 (some .boolean)] ({ frames := 1, cells := 0, slots := 0, locals := 24 } : Room) (gPc L sz [.ref (L.2.1 7 0), .int L1, .int L2] v) (gQi L sz Q) (gXC L sz X) 0 0 (gA L sz) := by
  refine g_ofW (by decide +kernel) hfl hL (Nat.le_of_ble_eq_true rfl) ?_
  intro p e s m args below meth c C hr hno
  refine g_sub [(0, .ref (L.2.1 7 0)), (1, .int L1), (2, .int L2)] [0, 1, 2] rfl ?_
  unfold TX7_isDisputed at h
  refine g_iconst C 0 (by decide) dX7_isDisputed_0 ?_
  refine g_istore_n C 3 rfl [(3, .int 0), (0, .ref (L.2.1 7 0)), (1, .int L1), (2, .int L2)] (Nat.le_of_ble_eq_true rfl) rfl dX7_isDisputed_1 ?_
  refine g_sub [(0, .ref (L.2.1 7 0)), (1, .int L1), (2, .int L2), (3, .int 0)] [1, 2, 3, 0] rfl ?_
  exact slX7_isDisputed_2 C hr hno h
def BX7_conflicts_43 (I18 : Int32 → Int32 → gMem → Prop) (L1 : Int32) (L3 : Int32) (t0 : Int32) (t1 : Int32) (v : gMem) (Q : Int32 → gMem → Prop) (X : String → gMem → Prop) : Prop := (I18 (t0 + t1) (L3 + 1) v)
theorem sX7_conflicts_43 (C : gC p l s m args meth c cX7_conflicts 4 RX7 L sz) (hr : meth.sig.returnType = (some .int)) (hno : ∀ x ∈ c.exceptionTable.toList, False) {L1 : Int32} {L3 : Int32} {t0 : Int32} {t1 : Int32} {v : gMem} {Q : Int32 → gMem → Prop} {X : String → gMem → Prop} {I18 : Int32 → Int32 → gMem → Prop} (hI18 : ∀ (L2 : Int32) (L3 : Int32) (v : gMem), I18 L2 L3 v → gS p l e ({ frames := 2, cells := 0, slots := 0, locals := 48 } : Room) s m args below meth c 4 L sz (vx_MQ below (gQi L sz Q) (gXC L sz X) args s 0 0 (gA L sz)) 0 0 18 [(0, .ref (L.2.1 7 0)), (1, .int L1), (2, .int L2), (3, .int L3)] [] v) (h : BX7_conflicts_43 I18 L1 L3 t0 t1 v Q X) : gS p l e ({ frames := 2, cells := 0, slots := 0, locals := 48 } : Room) s m args below meth c 4 L sz (vx_MQ below (gQi L sz Q) (gXC L sz X) args s 0 0 (gA L sz)) 0 0 43 [(0, .ref (L.2.1 7 0)), (1, .int L1), (3, .int L3)] [.int t1, .int t0] v := by
  unfold BX7_conflicts_43 at h
  refine g_iadd C dX7_conflicts_43 ?_
  refine g_istore_n C 2 rfl [(2, .int (t0 + t1)), (0, .ref (L.2.1 7 0)), (1, .int L1), (3, .int L3)] (Nat.le_of_ble_eq_true rfl) rfl dX7_conflicts_44 ?_
  refine g_iinc C (k := 3) (L3 + 1) [(3, .int (L3 + 1)), (2, .int (t0 + t1)), (0, .ref (L.2.1 7 0)), (1, .int L1)] rfl rfl (Nat.le_of_ble_eq_true rfl) rfl dX7_conflicts_45 ?_
  refine g_goto C 18 (by decide) dX7_conflicts_48 ?_
  refine g_sub [(0, .ref (L.2.1 7 0)), (1, .int L1), (2, .int (t0 + t1)), (3, .int (L3 + 1))] [2, 3, 1, 0] rfl ?_
  exact hI18 _ _ _ h
def BX7_conflicts_18 (I18 : Int32 → Int32 → gMem → Prop) (L1 : Int32) (L2 : Int32) (L3 : Int32) (v : gMem) (Q : Int32 → gMem → Prop) (X : String → gMem → Prop) : Prop := ((4 ≤ L3 → (Q L2 v)) ∧ (¬ 4 ≤ L3 → (vp_in L1 16 ∧ (TX7_isDisputed (v 38 0 (Int32.toNatClampNeg L1)) L3 v (fun r32 v32 => ((r32 = 0 → (BX7_conflicts_43 I18 L1 L3 L2 0 v32 Q X)) ∧ (¬ r32 = 0 → (BX7_conflicts_43 I18 L1 L3 L2 1 v32 Q X)))) X))))
theorem sX7_conflicts_18 (C : gC p l s m args meth c cX7_conflicts 4 RX7 L sz) (hr : meth.sig.returnType = (some .int)) (hno : ∀ x ∈ c.exceptionTable.toList, False) {L1 : Int32} {L2 : Int32} {L3 : Int32} {v : gMem} {Q : Int32 → gMem → Prop} {X : String → gMem → Prop} {I18 : Int32 → Int32 → gMem → Prop} (hI18 : ∀ (L2 : Int32) (L3 : Int32) (v : gMem), I18 L2 L3 v → gS p l e ({ frames := 2, cells := 0, slots := 0, locals := 48 } : Room) s m args below meth c 4 L sz (vx_MQ below (gQi L sz Q) (gXC L sz X) args s 0 0 (gA L sz)) 0 0 18 [(0, .ref (L.2.1 7 0)), (1, .int L1), (2, .int L2), (3, .int L3)] [] v) (h : BX7_conflicts_18 I18 L1 L2 L3 v Q X) : gS p l e ({ frames := 2, cells := 0, slots := 0, locals := 48 } : Room) s m args below meth c 4 L sz (vx_MQ below (gQi L sz Q) (gXC L sz X) args s 0 0 (gA L sz)) 0 0 18 [(0, .ref (L.2.1 7 0)), (1, .int L1), (2, .int L2), (3, .int L3)] [] v := by
  unfold BX7_conflicts_18 at h
  refine g_iload_n C 3 rfl 3 rfl dX7_conflicts_18 ?_
  refine g_iconst C 4 (by decide) dX7_conflicts_19 ?_
  refine g_icmp_ge C 51 (by decide) dX7_conflicts_20 (fun hc => ?_) (fun hc => ?_)
  · replace h := h.1 hc
    refine g_iload_n C 2 rfl 2 rfl dX7_conflicts_51 ?_
    exact g_iret C hr rfl (Nat.le_of_ble_eq_true rfl) (Nat.le_of_ble_eq_true rfl) h dX7_conflicts_52
  · replace h := h.2 hc
    refine g_iload_n C 2 rfl 2 rfl dX7_conflicts_23 ?_
    refine g_aload_n C 0 rfl 0 rfl dX7_conflicts_24 ?_
    refine g_aload_n C 0 rfl 0 rfl dX7_conflicts_25 ?_
    refine fgX7_38 C dX7_conflicts_26 ?_
    refine g_iload_n C 1 rfl 1 rfl dX7_conflicts_29 ?_
    obtain ⟨hb30, h⟩ := h
    refine g_iald C gok_38 rfl hb30 dX7_conflicts_30 ?_
    refine g_iload_n C 3 rfl 3 rfl dX7_conflicts_31 ?_
    refine g_callVi C hno gok_7 rfl rfl [.int (v 38 0 (Int32.toNatClampNeg L1)), .int L3] (fun sz9 => kX7_isDisputed l C.2.2.2.2.2.2.1 L C.2.2.2.2.2.2.2.1 (v 38 0 (Int32.toNatClampNeg L1)) L3 v _ X h sz9) wml_RX7_165 winst_X7_isDisputed wsel_X7_isDisputed wini_RX7 wcode_X7_isDisputed rfl rfl (n := 2) (by decide +kernel) rfl ⟨(Nat.le_of_ble_eq_true rfl), (Nat.le_of_ble_eq_true rfl)⟩ ⟨(Nat.le_of_ble_eq_true rfl), (Nat.le_of_ble_eq_true rfl)⟩ ⟨(Nat.le_of_ble_eq_true rfl), (Nat.le_of_ble_eq_true rfl)⟩ (Nat.le_of_ble_eq_true rfl) dX7_conflicts_32 (fun r32 v32 h => ?_)
    refine g_if_eq C 42 (by decide) dX7_conflicts_35 (fun hc => ?_) (fun hc => ?_)
    · replace h := h.1 hc
      refine g_iconst C 0 (by decide) dX7_conflicts_42 ?_
      refine g_sub [(0, .ref (L.2.1 7 0)), (1, .int L1), (3, .int L3)] [0, 1, 3] rfl ?_
      exact sX7_conflicts_43 C hr hno hI18 h
    · replace h := h.2 hc
      refine g_iconst C 1 (by decide) dX7_conflicts_38 ?_
      refine g_goto C 43 (by decide) dX7_conflicts_39 ?_
      refine g_sub [(0, .ref (L.2.1 7 0)), (1, .int L1), (3, .int L3)] [0, 1, 3] rfl ?_
      exact sX7_conflicts_43 C hr hno hI18 h
def LX7_conflicts_18 (L1 : Int32) (L2 : Int32) (L3 : Int32) (v : gMem) (Q : Int32 → gMem → Prop) (X : String → gMem → Prop) : Prop := ∀ I18 : Int32 → Int32 → gMem → Prop, (∀ (L2 : Int32) (L3 : Int32) (v : gMem), BX7_conflicts_18 I18 L1 L2 L3 v Q X → I18 L2 L3 v) → I18 L2 L3 v
theorem slX7_conflicts_18 (C : gC p l s m args meth c cX7_conflicts 4 RX7 L sz) (hr : meth.sig.returnType = (some .int)) (hno : ∀ x ∈ c.exceptionTable.toList, False) {L1 : Int32} {L2 : Int32} {L3 : Int32} {v : gMem} {Q : Int32 → gMem → Prop} {X : String → gMem → Prop} (h : LX7_conflicts_18 L1 L2 L3 v Q X) : gS p l e ({ frames := 2, cells := 0, slots := 0, locals := 48 } : Room) s m args below meth c 4 L sz (vx_MQ below (gQi L sz Q) (gXC L sz X) args s 0 0 (gA L sz)) 0 0 18 [(0, .ref (L.2.1 7 0)), (1, .int L1), (2, .int L2), (3, .int L3)] [] v := by
  refine h (fun L2 L3 v => gS p l e ({ frames := 2, cells := 0, slots := 0, locals := 48 } : Room) s m args below meth c 4 L sz (vx_MQ below (gQi L sz Q) (gXC L sz X) args s 0 0 (gA L sz)) 0 0 18 [(0, .ref (L.2.1 7 0)), (1, .int L1), (2, .int L2), (3, .int L3)] [] v) (fun L2 L3 v hb => ?_)
  exact sX7_conflicts_18 C hr hno (fun _ _ _ hs => hs) hb
def TX7_conflicts (L1 : Int32) (v : gMem) (Q : Int32 → gMem → Prop) (X : String → gMem → Prop) : Prop := (TX7_noCard L1 v (fun r2 v2 => ((r2 = 0 → (TX7_gather v2 (fun v11 => (LX7_conflicts_18 L1 0 0 v11 Q X)) X)) ∧ (¬ r2 = 0 → (Q 0 v2)))) X)
theorem kX7_conflicts (l : Launch) (hfl : l.stackTraces = false) (L : gL) (hL : gDist L) (L1 : Int32) (v : gMem) (Q : Int32 → gMem → Prop) (X : String → gMem → Prop) (h : TX7_conflicts L1 v Q X) (sz : Nat) : vx_Met l yX7_conflicts [.code yX7_conflicts cX7_conflicts 4 (some .int)] ({ frames := 2, cells := 0, slots := 0, locals := 48 } : Room) (gPc L sz [.ref (L.2.1 7 0), .int L1] v) (gQi L sz Q) (gXC L sz X) 0 0 (gA L sz) := by
  refine g_ofW (by decide +kernel) hfl hL (Nat.le_of_ble_eq_true rfl) ?_
  intro p e s m args below meth c C hr hno
  refine g_sub [(0, .ref (L.2.1 7 0)), (1, .int L1)] [0, 1] rfl ?_
  unfold TX7_conflicts at h
  refine g_aload_n C 0 rfl 0 rfl dX7_conflicts_0 ?_
  refine g_iload_n C 1 rfl 1 rfl dX7_conflicts_1 ?_
  refine g_callVi C hno gok_7 rfl rfl [.int L1] (fun sz9 => kX7_noCard l C.2.2.2.2.2.2.1 L C.2.2.2.2.2.2.2.1 L1 v _ X h sz9) wml_RX7_74 winst_X7_noCard wsel_X7_noCard wini_RX7 wcode_X7_noCard rfl rfl (n := 1) (by decide +kernel) rfl ⟨(Nat.le_of_ble_eq_true rfl), (Nat.le_of_ble_eq_true rfl)⟩ ⟨(Nat.le_of_ble_eq_true rfl), (Nat.le_of_ble_eq_true rfl)⟩ ⟨(Nat.le_of_ble_eq_true rfl), (Nat.le_of_ble_eq_true rfl)⟩ (Nat.le_of_ble_eq_true rfl) dX7_conflicts_2 (fun r2 v2 h => ?_)
  refine g_if_eq C 10 (by decide) dX7_conflicts_5 (fun hc => ?_) (fun hc => ?_)
  · replace h := h.1 hc
    refine g_aload_n C 0 rfl 0 rfl dX7_conflicts_10 ?_
    refine g_callVv C hno gok_7 rfl rfl [] (fun sz9 => kX7_gather l C.2.2.2.2.2.2.1 L C.2.2.2.2.2.2.2.1 v2 _ X h sz9) wml_RX7_130 winst_X7_gather wsel_X7_gather wini_RX7 wcode_X7_gather rfl rfl (n := 0) (by decide +kernel) rfl ⟨(Nat.le_of_ble_eq_true rfl), (Nat.le_of_ble_eq_true rfl)⟩ ⟨(Nat.le_of_ble_eq_true rfl), (Nat.le_of_ble_eq_true rfl)⟩ ⟨(Nat.le_of_ble_eq_true rfl), (Nat.le_of_ble_eq_true rfl)⟩ (Nat.le_of_ble_eq_true rfl) dX7_conflicts_11 (fun v11 h => ?_)
    refine g_iconst C 0 (by decide) dX7_conflicts_14 ?_
    refine g_istore_n C 2 rfl [(2, .int 0), (0, .ref (L.2.1 7 0)), (1, .int L1)] (Nat.le_of_ble_eq_true rfl) rfl dX7_conflicts_15 ?_
    refine g_iconst C 0 (by decide) dX7_conflicts_16 ?_
    refine g_istore_n C 3 rfl [(3, .int 0), (2, .int 0), (0, .ref (L.2.1 7 0)), (1, .int L1)] (Nat.le_of_ble_eq_true rfl) rfl dX7_conflicts_17 ?_
    refine g_sub [(0, .ref (L.2.1 7 0)), (1, .int L1), (2, .int 0), (3, .int 0)] [2, 3, 1, 0] rfl ?_
    exact slX7_conflicts_18 C hr hno h
  · replace h := h.2 hc
    refine g_iconst C 0 (by decide) dX7_conflicts_8 ?_
    exact g_iret C hr rfl (Nat.le_of_ble_eq_true rfl) (Nat.le_of_ble_eq_true rfl) h dX7_conflicts_9
def BX7_noGroup_44 (t0 : Int32) (v : gMem) (Q : Int32 → gMem → Prop) (X : String → gMem → Prop) : Prop := (narrow .boolean (.int t0) = .int t0 ∧ Q t0 v)
theorem sX7_noGroup_44 (C : gC p l s m args meth c cX7_noGroup 3 RX7 L sz) (hr : meth.sig.returnType = (some .boolean)) (hno : ∀ x ∈ c.exceptionTable.toList, False) {t0 : Int32} {v : gMem} {Q : Int32 → gMem → Prop} {X : String → gMem → Prop} (h : BX7_noGroup_44 t0 v Q X) : gS p l e ({ frames := 1, cells := 0, slots := 0, locals := 22 } : Room) s m args below meth c 3 L sz (vx_MQ below (gQi L sz Q) (gXC L sz X) args s 0 0 (gA L sz)) 0 0 44 [] [.int t0] v := by
  unfold BX7_noGroup_44 at h
  exact g_iret C hr h.1 (Nat.le_of_ble_eq_true rfl) (Nat.le_of_ble_eq_true rfl) h.2 dX7_noGroup_44
def BX7_noGroup_29 (t1 : Int32) (v : gMem) (Q : Int32 → gMem → Prop) (X : String → gMem → Prop) : Prop := ((((gw v 7 0 0 t1) 7 0 0) = 0 → (BX7_noGroup_44 0 (gw v 7 0 0 t1) Q X)) ∧ (¬ ((gw v 7 0 0 t1) 7 0 0) = 0 → (BX7_noGroup_44 1 (gw v 7 0 0 t1) Q X)))
theorem sX7_noGroup_29 (C : gC p l s m args meth c cX7_noGroup 3 RX7 L sz) (hr : meth.sig.returnType = (some .boolean)) (hno : ∀ x ∈ c.exceptionTable.toList, False) {t1 : Int32} {v : gMem} {Q : Int32 → gMem → Prop} {X : String → gMem → Prop} (h : BX7_noGroup_29 t1 v Q X) : gS p l e ({ frames := 1, cells := 0, slots := 0, locals := 22 } : Room) s m args below meth c 3 L sz (vx_MQ below (gQi L sz Q) (gXC L sz X) args s 0 0 (gA L sz)) 0 0 29 [(0, .ref (L.2.1 7 0))] [.int t1, .ref (L.2.1 7 0)] v := by
  unfold BX7_noGroup_29 at h
  refine fpX7_64 C dX7_noGroup_29 ?_
  refine g_aload_n C 0 rfl 0 rfl dX7_noGroup_32 ?_
  refine fgX7_64 C dX7_noGroup_33 ?_
  refine g_if_eq C 43 (by decide) dX7_noGroup_36 (fun hc => ?_) (fun hc => ?_)
  · replace h := h.1 hc
    refine g_iconst C 0 (by decide) dX7_noGroup_43 ?_
    refine g_sub [] [] rfl ?_
    exact sX7_noGroup_44 C hr hno h
  · replace h := h.2 hc
    refine g_iconst C 1 (by decide) dX7_noGroup_39 ?_
    refine g_goto C 44 (by decide) dX7_noGroup_40 ?_
    refine g_sub [] [] rfl ?_
    exact sX7_noGroup_44 C hr hno h
def BX7_noGroup_28 (v : gMem) (Q : Int32 → gMem → Prop) (X : String → gMem → Prop) : Prop := (BX7_noGroup_29 1 v Q X)
theorem sX7_noGroup_28 (C : gC p l s m args meth c cX7_noGroup 3 RX7 L sz) (hr : meth.sig.returnType = (some .boolean)) (hno : ∀ x ∈ c.exceptionTable.toList, False) {v : gMem} {Q : Int32 → gMem → Prop} {X : String → gMem → Prop} (h : BX7_noGroup_28 v Q X) : gS p l e ({ frames := 1, cells := 0, slots := 0, locals := 22 } : Room) s m args below meth c 3 L sz (vx_MQ below (gQi L sz Q) (gXC L sz X) args s 0 0 (gA L sz)) 0 0 28 [(0, .ref (L.2.1 7 0))] [.ref (L.2.1 7 0)] v := by
  unfold BX7_noGroup_28 at h
  refine g_iconst C 1 (by decide) dX7_noGroup_28 ?_
  exact sX7_noGroup_29 C hr hno h
def TX7_noGroup (L1 : Int32) (L2 : Int32) (v : gMem) (Q : Int32 → gMem → Prop) (X : String → gMem → Prop) : Prop := (TX7_isWithin L1 0 3 v (fun r4 v4 => ((r4 = 0 → (BX7_noGroup_28 v4 Q X)) ∧ (¬ r4 = 0 → (TX7_isWithin L2 0 ((v4 7 0 2) - 1) v4 (fun r18 v18 => ((r18 = 0 → (BX7_noGroup_28 v18 Q X)) ∧ (¬ r18 = 0 → (BX7_noGroup_29 0 v18 Q X)))) X)))) X)
theorem kX7_noGroup (l : Launch) (hfl : l.stackTraces = false) (L : gL) (hL : gDist L) (L1 : Int32) (L2 : Int32) (v : gMem) (Q : Int32 → gMem → Prop) (X : String → gMem → Prop) (h : TX7_noGroup L1 L2 v Q X) (sz : Nat) : vx_Met l yX7_noGroup [.code yX7_noGroup cX7_noGroup 3 (some .boolean)] ({ frames := 1, cells := 0, slots := 0, locals := 22 } : Room) (gPc L sz [.ref (L.2.1 7 0), .int L1, .int L2] v) (gQi L sz Q) (gXC L sz X) 0 0 (gA L sz) := by
  refine g_ofW (by decide +kernel) hfl hL (Nat.le_of_ble_eq_true rfl) ?_
  intro p e s m args below meth c C hr hno
  refine g_sub [(0, .ref (L.2.1 7 0)), (1, .int L1), (2, .int L2)] [0, 1, 2] rfl ?_
  unfold TX7_noGroup at h
  refine g_aload_n C 0 rfl 0 rfl dX7_noGroup_0 ?_
  refine g_iload_n C 1 rfl 1 rfl dX7_noGroup_1 ?_
  refine g_iconst C 0 (by decide) dX7_noGroup_2 ?_
  refine g_iconst C 3 (by decide) dX7_noGroup_3 ?_
  refine g_callSi C hno [.int L1, .int 0, .int 3] (fun sz9 => kX7_isWithin l C.2.2.2.2.2.2.1 L C.2.2.2.2.2.2.2.1 L1 0 3 v _ X h sz9) wml_RX7_70 wstat_X7_isWithin wini_RX7 wcode_X7_isWithin rfl rfl (n := 3) (by decide +kernel) rfl ⟨(Nat.le_of_ble_eq_true rfl), (Nat.le_of_ble_eq_true rfl)⟩ ⟨(Nat.le_of_ble_eq_true rfl), (Nat.le_of_ble_eq_true rfl)⟩ ⟨(Nat.le_of_ble_eq_true rfl), (Nat.le_of_ble_eq_true rfl)⟩ (Nat.le_of_ble_eq_true rfl) dX7_noGroup_4 (fun r4 v4 h => ?_)
  refine g_if_eq C 28 (by decide) dX7_noGroup_7 (fun hc => ?_) (fun hc => ?_)
  · replace h := h.1 hc
    refine g_sub [(0, .ref (L.2.1 7 0))] [0] rfl ?_
    exact sX7_noGroup_28 C hr hno h
  · replace h := h.2 hc
    refine g_iload_n C 2 rfl 2 rfl dX7_noGroup_10 ?_
    refine g_iconst C 0 (by decide) dX7_noGroup_11 ?_
    refine g_aload_n C 0 rfl 0 rfl dX7_noGroup_12 ?_
    refine fgX7_67 C dX7_noGroup_13 ?_
    refine g_iconst C 1 (by decide) dX7_noGroup_16 ?_
    refine g_isub C dX7_noGroup_17 ?_
    refine g_callSi C hno [.int L2, .int 0, .int ((v4 7 0 2) - 1)] (fun sz9 => kX7_isWithin l C.2.2.2.2.2.2.1 L C.2.2.2.2.2.2.2.1 L2 0 ((v4 7 0 2) - 1) v4 _ X h sz9) wml_RX7_70 wstat_X7_isWithin wini_RX7 wcode_X7_isWithin rfl rfl (n := 3) (by decide +kernel) rfl ⟨(Nat.le_of_ble_eq_true rfl), (Nat.le_of_ble_eq_true rfl)⟩ ⟨(Nat.le_of_ble_eq_true rfl), (Nat.le_of_ble_eq_true rfl)⟩ ⟨(Nat.le_of_ble_eq_true rfl), (Nat.le_of_ble_eq_true rfl)⟩ (Nat.le_of_ble_eq_true rfl) dX7_noGroup_18 (fun r18 v18 h => ?_)
    refine g_if_eq C 28 (by decide) dX7_noGroup_21 (fun hc => ?_) (fun hc => ?_)
    · replace h := h.1 hc
      refine g_sub [(0, .ref (L.2.1 7 0))] [0] rfl ?_
      exact sX7_noGroup_28 C hr hno h
    · replace h := h.2 hc
      refine g_iconst C 0 (by decide) dX7_noGroup_24 ?_
      refine g_goto C 29 (by decide) dX7_noGroup_25 ?_
      refine g_sub [(0, .ref (L.2.1 7 0))] [0] rfl ?_
      exact sX7_noGroup_29 C hr hno h
def BX7_cardsIn_32 (I4 : Int32 → Int32 → gMem → Prop) (L1 : Int32) (L3 : Int32) (t0 : Int32) (t1 : Int32) (v : gMem) (Q : Int32 → gMem → Prop) (X : String → gMem → Prop) : Prop := (I4 (t0 + t1) (L3 + 1) v)
theorem sX7_cardsIn_32 (C : gC p l s m args meth c cX7_cardsIn 4 RX7 L sz) (hr : meth.sig.returnType = (some .int)) (hno : ∀ x ∈ c.exceptionTable.toList, False) {L1 : Int32} {L3 : Int32} {t0 : Int32} {t1 : Int32} {v : gMem} {Q : Int32 → gMem → Prop} {X : String → gMem → Prop} {I4 : Int32 → Int32 → gMem → Prop} (hI4 : ∀ (L2 : Int32) (L3 : Int32) (v : gMem), I4 L2 L3 v → gS p l e ({ frames := 0, cells := 0, slots := 0, locals := 0 } : Room) s m args below meth c 4 L sz (vx_MQ below (gQi L sz Q) (gXC L sz X) args s 0 0 (gA L sz)) 0 0 4 [(0, .ref (L.2.1 7 0)), (1, .int L1), (2, .int L2), (3, .int L3)] [] v) (h : BX7_cardsIn_32 I4 L1 L3 t0 t1 v Q X) : gS p l e ({ frames := 0, cells := 0, slots := 0, locals := 0 } : Room) s m args below meth c 4 L sz (vx_MQ below (gQi L sz Q) (gXC L sz X) args s 0 0 (gA L sz)) 0 0 32 [(0, .ref (L.2.1 7 0)), (1, .int L1), (3, .int L3)] [.int t1, .int t0] v := by
  unfold BX7_cardsIn_32 at h
  refine g_iadd C dX7_cardsIn_32 ?_
  refine g_istore_n C 2 rfl [(2, .int (t0 + t1)), (0, .ref (L.2.1 7 0)), (1, .int L1), (3, .int L3)] (Nat.le_of_ble_eq_true rfl) rfl dX7_cardsIn_33 ?_
  refine g_iinc C (k := 3) (L3 + 1) [(3, .int (L3 + 1)), (2, .int (t0 + t1)), (0, .ref (L.2.1 7 0)), (1, .int L1)] rfl rfl (Nat.le_of_ble_eq_true rfl) rfl dX7_cardsIn_34 ?_
  refine g_goto C 4 (by decide) dX7_cardsIn_37 ?_
  refine g_sub [(0, .ref (L.2.1 7 0)), (1, .int L1), (2, .int (t0 + t1)), (3, .int (L3 + 1))] [2, 3, 1, 0] rfl ?_
  exact hI4 _ _ _ h
def BX7_cardsIn_4 (I4 : Int32 → Int32 → gMem → Prop) (L1 : Int32) (L2 : Int32) (L3 : Int32) (v : gMem) (Q : Int32 → gMem → Prop) (X : String → gMem → Prop) : Prop := (((v 7 0 2) ≤ L3 → (Q L2 v)) ∧ (¬ (v 7 0 2) ≤ L3 → (vp_in ((16 * L1) + L3) 64 ∧ (((v 45 0 (Int32.toNatClampNeg ((16 * L1) + L3))) = 0 → (BX7_cardsIn_32 I4 L1 L3 L2 0 v Q X)) ∧ (¬ (v 45 0 (Int32.toNatClampNeg ((16 * L1) + L3))) = 0 → (BX7_cardsIn_32 I4 L1 L3 L2 1 v Q X))))))
theorem sX7_cardsIn_4 (C : gC p l s m args meth c cX7_cardsIn 4 RX7 L sz) (hr : meth.sig.returnType = (some .int)) (hno : ∀ x ∈ c.exceptionTable.toList, False) {L1 : Int32} {L2 : Int32} {L3 : Int32} {v : gMem} {Q : Int32 → gMem → Prop} {X : String → gMem → Prop} {I4 : Int32 → Int32 → gMem → Prop} (hI4 : ∀ (L2 : Int32) (L3 : Int32) (v : gMem), I4 L2 L3 v → gS p l e ({ frames := 0, cells := 0, slots := 0, locals := 0 } : Room) s m args below meth c 4 L sz (vx_MQ below (gQi L sz Q) (gXC L sz X) args s 0 0 (gA L sz)) 0 0 4 [(0, .ref (L.2.1 7 0)), (1, .int L1), (2, .int L2), (3, .int L3)] [] v) (h : BX7_cardsIn_4 I4 L1 L2 L3 v Q X) : gS p l e ({ frames := 0, cells := 0, slots := 0, locals := 0 } : Room) s m args below meth c 4 L sz (vx_MQ below (gQi L sz Q) (gXC L sz X) args s 0 0 (gA L sz)) 0 0 4 [(0, .ref (L.2.1 7 0)), (1, .int L1), (2, .int L2), (3, .int L3)] [] v := by
  unfold BX7_cardsIn_4 at h
  refine g_iload_n C 3 rfl 3 rfl dX7_cardsIn_4 ?_
  refine g_aload_n C 0 rfl 0 rfl dX7_cardsIn_5 ?_
  refine fgX7_67 C dX7_cardsIn_6 ?_
  refine g_icmp_ge C 40 (by decide) dX7_cardsIn_9 (fun hc => ?_) (fun hc => ?_)
  · replace h := h.1 hc
    refine g_iload_n C 2 rfl 2 rfl dX7_cardsIn_40 ?_
    exact g_iret C hr rfl (Nat.le_of_ble_eq_true rfl) (Nat.le_of_ble_eq_true rfl) h dX7_cardsIn_41
  · replace h := h.2 hc
    refine g_iload_n C 2 rfl 2 rfl dX7_cardsIn_12 ?_
    refine g_aload_n C 0 rfl 0 rfl dX7_cardsIn_13 ?_
    refine fgX7_61 C dX7_cardsIn_14 ?_
    refine g_bipush C 16 (by decide) dX7_cardsIn_17 ?_
    refine g_iload_n C 1 rfl 1 rfl dX7_cardsIn_19 ?_
    refine g_imul C dX7_cardsIn_20 ?_
    refine g_iload_n C 3 rfl 3 rfl dX7_cardsIn_21 ?_
    refine g_iadd C dX7_cardsIn_22 ?_
    obtain ⟨hb23, h⟩ := h
    refine g_zald C gok_45 rfl hb23 dX7_cardsIn_23 ?_
    refine g_if_eq C 31 (by decide) dX7_cardsIn_24 (fun hc => ?_) (fun hc => ?_)
    · replace h := h.1 hc
      refine g_iconst C 0 (by decide) dX7_cardsIn_31 ?_
      refine g_sub [(0, .ref (L.2.1 7 0)), (1, .int L1), (3, .int L3)] [0, 1, 3] rfl ?_
      exact sX7_cardsIn_32 C hr hno hI4 h
    · replace h := h.2 hc
      refine g_iconst C 1 (by decide) dX7_cardsIn_27 ?_
      refine g_goto C 32 (by decide) dX7_cardsIn_28 ?_
      refine g_sub [(0, .ref (L.2.1 7 0)), (1, .int L1), (3, .int L3)] [0, 1, 3] rfl ?_
      exact sX7_cardsIn_32 C hr hno hI4 h
def LX7_cardsIn_4 (L1 : Int32) (L2 : Int32) (L3 : Int32) (v : gMem) (Q : Int32 → gMem → Prop) (X : String → gMem → Prop) : Prop := ∀ I4 : Int32 → Int32 → gMem → Prop, (∀ (L2 : Int32) (L3 : Int32) (v : gMem), BX7_cardsIn_4 I4 L1 L2 L3 v Q X → I4 L2 L3 v) → I4 L2 L3 v
theorem slX7_cardsIn_4 (C : gC p l s m args meth c cX7_cardsIn 4 RX7 L sz) (hr : meth.sig.returnType = (some .int)) (hno : ∀ x ∈ c.exceptionTable.toList, False) {L1 : Int32} {L2 : Int32} {L3 : Int32} {v : gMem} {Q : Int32 → gMem → Prop} {X : String → gMem → Prop} (h : LX7_cardsIn_4 L1 L2 L3 v Q X) : gS p l e ({ frames := 0, cells := 0, slots := 0, locals := 0 } : Room) s m args below meth c 4 L sz (vx_MQ below (gQi L sz Q) (gXC L sz X) args s 0 0 (gA L sz)) 0 0 4 [(0, .ref (L.2.1 7 0)), (1, .int L1), (2, .int L2), (3, .int L3)] [] v := by
  refine h (fun L2 L3 v => gS p l e ({ frames := 0, cells := 0, slots := 0, locals := 0 } : Room) s m args below meth c 4 L sz (vx_MQ below (gQi L sz Q) (gXC L sz X) args s 0 0 (gA L sz)) 0 0 4 [(0, .ref (L.2.1 7 0)), (1, .int L1), (2, .int L2), (3, .int L3)] [] v) (fun L2 L3 v hb => ?_)
  exact sX7_cardsIn_4 C hr hno (fun _ _ _ hs => hs) hb
def TX7_cardsIn (L1 : Int32) (v : gMem) (Q : Int32 → gMem → Prop) (X : String → gMem → Prop) : Prop := (LX7_cardsIn_4 L1 0 0 v Q X)
theorem kX7_cardsIn (l : Launch) (hfl : l.stackTraces = false) (L : gL) (hL : gDist L) (L1 : Int32) (v : gMem) (Q : Int32 → gMem → Prop) (X : String → gMem → Prop) (h : TX7_cardsIn L1 v Q X) (sz : Nat) : vx_Met l yX7_cardsIn [.code yX7_cardsIn cX7_cardsIn 4 (some .int)] ({ frames := 0, cells := 0, slots := 0, locals := 0 } : Room) (gPc L sz [.ref (L.2.1 7 0), .int L1] v) (gQi L sz Q) (gXC L sz X) 0 0 (gA L sz) := by
  refine g_ofW (by decide +kernel) hfl hL (Nat.le_of_ble_eq_true rfl) ?_
  intro p e s m args below meth c C hr hno
  refine g_sub [(0, .ref (L.2.1 7 0)), (1, .int L1)] [0, 1] rfl ?_
  unfold TX7_cardsIn at h
  refine g_iconst C 0 (by decide) dX7_cardsIn_0 ?_
  refine g_istore_n C 2 rfl [(2, .int 0), (0, .ref (L.2.1 7 0)), (1, .int L1)] (Nat.le_of_ble_eq_true rfl) rfl dX7_cardsIn_1 ?_
  refine g_iconst C 0 (by decide) dX7_cardsIn_2 ?_
  refine g_istore_n C 3 rfl [(3, .int 0), (2, .int 0), (0, .ref (L.2.1 7 0)), (1, .int L1)] (Nat.le_of_ble_eq_true rfl) rfl dX7_cardsIn_3 ?_
  refine g_sub [(0, .ref (L.2.1 7 0)), (1, .int L1), (2, .int 0), (3, .int 0)] [2, 3, 1, 0] rfl ?_
  exact slX7_cardsIn_4 C hr hno h
def TX7_join (L1 : Int32) (L2 : Int32) (v : gMem) (Q : Int32 → gMem → Prop) (X : String → gMem → Prop) : Prop := (TX7_noGroup L1 L2 v (fun r3 v3 => ((r3 = 0 → (vp_in ((16 * L1) + L2) 64 ∧ (((v3 45 0 (Int32.toNatClampNeg ((16 * L1) + L2))) = 0 → (vp_in ((16 * L1) + L2) 64 ∧ (TX7_cardsIn L1 (gw v3 45 0 (Int32.toNatClampNeg ((16 * L1) + L2)) (vp_nar .boolean 1)) (fun r45 v45 => (Q r45 v45)) X))) ∧ (¬ (v3 45 0 (Int32.toNatClampNeg ((16 * L1) + L2))) = 0 → (TX7_fail 2 v3 (fun r27 v27 => (Q r27 v27)) X))))) ∧ (¬ r3 = 0 → (Q 0 v3)))) X)
theorem kX7_join (l : Launch) (hfl : l.stackTraces = false) (L : gL) (hL : gDist L) (L1 : Int32) (L2 : Int32) (v : gMem) (Q : Int32 → gMem → Prop) (X : String → gMem → Prop) (h : TX7_join L1 L2 v Q X) (sz : Nat) : vx_Met l yX7_join [.code yX7_join cX7_join 3 (some .int)] ({ frames := 2, cells := 0, slots := 0, locals := 44 } : Room) (gPc L sz [.ref (L.2.1 7 0), .int L1, .int L2] v) (gQi L sz Q) (gXC L sz X) 0 0 (gA L sz) := by
  refine g_ofW (by decide +kernel) hfl hL (Nat.le_of_ble_eq_true rfl) ?_
  intro p e s m args below meth c C hr hno
  refine g_sub [(0, .ref (L.2.1 7 0)), (1, .int L1), (2, .int L2)] [0, 1, 2] rfl ?_
  unfold TX7_join at h
  refine g_aload_n C 0 rfl 0 rfl dX7_join_0 ?_
  refine g_iload_n C 1 rfl 1 rfl dX7_join_1 ?_
  refine g_iload_n C 2 rfl 2 rfl dX7_join_2 ?_
  refine g_callVi C hno gok_7 rfl rfl [.int L1, .int L2] (fun sz9 => kX7_noGroup l C.2.2.2.2.2.2.1 L C.2.2.2.2.2.2.2.1 L1 L2 v _ X h sz9) wml_RX7_168 winst_X7_noGroup wsel_X7_noGroup wini_RX7 wcode_X7_noGroup rfl rfl (n := 2) (by decide +kernel) rfl ⟨(Nat.le_of_ble_eq_true rfl), (Nat.le_of_ble_eq_true rfl)⟩ ⟨(Nat.le_of_ble_eq_true rfl), (Nat.le_of_ble_eq_true rfl)⟩ ⟨(Nat.le_of_ble_eq_true rfl), (Nat.le_of_ble_eq_true rfl)⟩ (Nat.le_of_ble_eq_true rfl) dX7_join_3 (fun r3 v3 h => ?_)
  refine g_if_eq C 11 (by decide) dX7_join_6 (fun hc => ?_) (fun hc => ?_)
  · replace h := h.1 hc
    refine g_aload_n C 0 rfl 0 rfl dX7_join_11 ?_
    refine fgX7_61 C dX7_join_12 ?_
    refine g_bipush C 16 (by decide) dX7_join_15 ?_
    refine g_iload_n C 1 rfl 1 rfl dX7_join_17 ?_
    refine g_imul C dX7_join_18 ?_
    refine g_iload_n C 2 rfl 2 rfl dX7_join_19 ?_
    refine g_iadd C dX7_join_20 ?_
    obtain ⟨hb21, h⟩ := h
    refine g_zald C gok_45 rfl hb21 dX7_join_21 ?_
    refine g_if_eq C 31 (by decide) dX7_join_22 (fun hc => ?_) (fun hc => ?_)
    · replace h := h.1 hc
      refine g_aload_n C 0 rfl 0 rfl dX7_join_31 ?_
      refine fgX7_61 C dX7_join_32 ?_
      refine g_bipush C 16 (by decide) dX7_join_35 ?_
      refine g_iload_n C 1 rfl 1 rfl dX7_join_37 ?_
      refine g_imul C dX7_join_38 ?_
      refine g_iload_n C 2 rfl 2 rfl dX7_join_39 ?_
      refine g_iadd C dX7_join_40 ?_
      refine g_iconst C 1 (by decide) dX7_join_41 ?_
      obtain ⟨hb42, h⟩ := h
      refine g_zast C gok_45 (fun _ => rfl) hb42 dX7_join_42 ?_
      refine g_aload_n C 0 rfl 0 rfl dX7_join_43 ?_
      refine g_iload_n C 1 rfl 1 rfl dX7_join_44 ?_
      refine g_callVi C hno gok_7 rfl rfl [.int L1] (fun sz9 => kX7_cardsIn l C.2.2.2.2.2.2.1 L C.2.2.2.2.2.2.2.1 L1 (gw v3 45 0 (Int32.toNatClampNeg ((16 * L1) + L2)) (vp_nar .boolean 1)) _ X h sz9) wml_RX7_171 winst_X7_cardsIn wsel_X7_cardsIn wini_RX7 wcode_X7_cardsIn rfl rfl (n := 1) (by decide +kernel) rfl ⟨(Nat.le_of_ble_eq_true rfl), (Nat.le_of_ble_eq_true rfl)⟩ ⟨(Nat.le_of_ble_eq_true rfl), (Nat.le_of_ble_eq_true rfl)⟩ ⟨(Nat.le_of_ble_eq_true rfl), (Nat.le_of_ble_eq_true rfl)⟩ (Nat.le_of_ble_eq_true rfl) dX7_join_45 (fun r45 v45 h => ?_)
      exact g_iret C hr rfl (Nat.le_of_ble_eq_true rfl) (Nat.le_of_ble_eq_true rfl) h dX7_join_48
    · replace h := h.2 hc
      refine g_aload_n C 0 rfl 0 rfl dX7_join_25 ?_
      refine g_iconst C 2 (by decide) dX7_join_26 ?_
      refine g_callVi C hno gok_7 rfl rfl [.int 2] (fun sz9 => kX7_fail l C.2.2.2.2.2.2.1 L C.2.2.2.2.2.2.2.1 2 v3 _ X h sz9) wml_RX7_78 winst_X7_fail wsel_X7_fail wini_RX7 wcode_X7_fail rfl rfl (n := 1) (by decide +kernel) rfl ⟨(Nat.le_of_ble_eq_true rfl), (Nat.le_of_ble_eq_true rfl)⟩ ⟨(Nat.le_of_ble_eq_true rfl), (Nat.le_of_ble_eq_true rfl)⟩ ⟨(Nat.le_of_ble_eq_true rfl), (Nat.le_of_ble_eq_true rfl)⟩ (Nat.le_of_ble_eq_true rfl) dX7_join_27 (fun r27 v27 h => ?_)
      exact g_iret C hr rfl (Nat.le_of_ble_eq_true rfl) (Nat.le_of_ble_eq_true rfl) h dX7_join_30
  · replace h := h.2 hc
    refine g_iconst C 0 (by decide) dX7_join_9 ?_
    exact g_iret C hr rfl (Nat.le_of_ble_eq_true rfl) (Nat.le_of_ble_eq_true rfl) h dX7_join_10
def TX7_leave (L1 : Int32) (L2 : Int32) (v : gMem) (Q : Int32 → gMem → Prop) (X : String → gMem → Prop) : Prop := (TX7_noGroup L1 L2 v (fun r3 v3 => ((r3 = 0 → (vp_in ((16 * L1) + L2) 64 ∧ ((¬ (v3 45 0 (Int32.toNatClampNeg ((16 * L1) + L2))) = 0 → (vp_in ((16 * L1) + L2) 64 ∧ (TX7_cardsIn L1 (gw v3 45 0 (Int32.toNatClampNeg ((16 * L1) + L2)) (vp_nar .boolean 0)) (fun r45 v45 => (Q r45 v45)) X))) ∧ ((v3 45 0 (Int32.toNatClampNeg ((16 * L1) + L2))) = 0 → (TX7_fail 2 v3 (fun r27 v27 => (Q r27 v27)) X))))) ∧ (¬ r3 = 0 → (Q 0 v3)))) X)
theorem kX7_leave (l : Launch) (hfl : l.stackTraces = false) (L : gL) (hL : gDist L) (L1 : Int32) (L2 : Int32) (v : gMem) (Q : Int32 → gMem → Prop) (X : String → gMem → Prop) (h : TX7_leave L1 L2 v Q X) (sz : Nat) : vx_Met l yX7_leave [.code yX7_leave cX7_leave 3 (some .int)] ({ frames := 2, cells := 0, slots := 0, locals := 44 } : Room) (gPc L sz [.ref (L.2.1 7 0), .int L1, .int L2] v) (gQi L sz Q) (gXC L sz X) 0 0 (gA L sz) := by
  refine g_ofW (by decide +kernel) hfl hL (Nat.le_of_ble_eq_true rfl) ?_
  intro p e s m args below meth c C hr hno
  refine g_sub [(0, .ref (L.2.1 7 0)), (1, .int L1), (2, .int L2)] [0, 1, 2] rfl ?_
  unfold TX7_leave at h
  refine g_aload_n C 0 rfl 0 rfl dX7_leave_0 ?_
  refine g_iload_n C 1 rfl 1 rfl dX7_leave_1 ?_
  refine g_iload_n C 2 rfl 2 rfl dX7_leave_2 ?_
  refine g_callVi C hno gok_7 rfl rfl [.int L1, .int L2] (fun sz9 => kX7_noGroup l C.2.2.2.2.2.2.1 L C.2.2.2.2.2.2.2.1 L1 L2 v _ X h sz9) wml_RX7_168 winst_X7_noGroup wsel_X7_noGroup wini_RX7 wcode_X7_noGroup rfl rfl (n := 2) (by decide +kernel) rfl ⟨(Nat.le_of_ble_eq_true rfl), (Nat.le_of_ble_eq_true rfl)⟩ ⟨(Nat.le_of_ble_eq_true rfl), (Nat.le_of_ble_eq_true rfl)⟩ ⟨(Nat.le_of_ble_eq_true rfl), (Nat.le_of_ble_eq_true rfl)⟩ (Nat.le_of_ble_eq_true rfl) dX7_leave_3 (fun r3 v3 h => ?_)
  refine g_if_eq C 11 (by decide) dX7_leave_6 (fun hc => ?_) (fun hc => ?_)
  · replace h := h.1 hc
    refine g_aload_n C 0 rfl 0 rfl dX7_leave_11 ?_
    refine fgX7_61 C dX7_leave_12 ?_
    refine g_bipush C 16 (by decide) dX7_leave_15 ?_
    refine g_iload_n C 1 rfl 1 rfl dX7_leave_17 ?_
    refine g_imul C dX7_leave_18 ?_
    refine g_iload_n C 2 rfl 2 rfl dX7_leave_19 ?_
    refine g_iadd C dX7_leave_20 ?_
    obtain ⟨hb21, h⟩ := h
    refine g_zald C gok_45 rfl hb21 dX7_leave_21 ?_
    refine g_if_ne C 31 (by decide) dX7_leave_22 (fun hc => ?_) (fun hc => ?_)
    · replace h := h.1 hc
      refine g_aload_n C 0 rfl 0 rfl dX7_leave_31 ?_
      refine fgX7_61 C dX7_leave_32 ?_
      refine g_bipush C 16 (by decide) dX7_leave_35 ?_
      refine g_iload_n C 1 rfl 1 rfl dX7_leave_37 ?_
      refine g_imul C dX7_leave_38 ?_
      refine g_iload_n C 2 rfl 2 rfl dX7_leave_39 ?_
      refine g_iadd C dX7_leave_40 ?_
      refine g_iconst C 0 (by decide) dX7_leave_41 ?_
      obtain ⟨hb42, h⟩ := h
      refine g_zast C gok_45 (fun _ => rfl) hb42 dX7_leave_42 ?_
      refine g_aload_n C 0 rfl 0 rfl dX7_leave_43 ?_
      refine g_iload_n C 1 rfl 1 rfl dX7_leave_44 ?_
      refine g_callVi C hno gok_7 rfl rfl [.int L1] (fun sz9 => kX7_cardsIn l C.2.2.2.2.2.2.1 L C.2.2.2.2.2.2.2.1 L1 (gw v3 45 0 (Int32.toNatClampNeg ((16 * L1) + L2)) (vp_nar .boolean 0)) _ X h sz9) wml_RX7_171 winst_X7_cardsIn wsel_X7_cardsIn wini_RX7 wcode_X7_cardsIn rfl rfl (n := 1) (by decide +kernel) rfl ⟨(Nat.le_of_ble_eq_true rfl), (Nat.le_of_ble_eq_true rfl)⟩ ⟨(Nat.le_of_ble_eq_true rfl), (Nat.le_of_ble_eq_true rfl)⟩ ⟨(Nat.le_of_ble_eq_true rfl), (Nat.le_of_ble_eq_true rfl)⟩ (Nat.le_of_ble_eq_true rfl) dX7_leave_45 (fun r45 v45 h => ?_)
      exact g_iret C hr rfl (Nat.le_of_ble_eq_true rfl) (Nat.le_of_ble_eq_true rfl) h dX7_leave_48
    · replace h := h.2 hc
      refine g_aload_n C 0 rfl 0 rfl dX7_leave_25 ?_
      refine g_iconst C 2 (by decide) dX7_leave_26 ?_
      refine g_callVi C hno gok_7 rfl rfl [.int 2] (fun sz9 => kX7_fail l C.2.2.2.2.2.2.1 L C.2.2.2.2.2.2.2.1 2 v3 _ X h sz9) wml_RX7_78 winst_X7_fail wsel_X7_fail wini_RX7 wcode_X7_fail rfl rfl (n := 1) (by decide +kernel) rfl ⟨(Nat.le_of_ble_eq_true rfl), (Nat.le_of_ble_eq_true rfl)⟩ ⟨(Nat.le_of_ble_eq_true rfl), (Nat.le_of_ble_eq_true rfl)⟩ ⟨(Nat.le_of_ble_eq_true rfl), (Nat.le_of_ble_eq_true rfl)⟩ (Nat.le_of_ble_eq_true rfl) dX7_leave_27 (fun r27 v27 h => ?_)
      exact g_iret C hr rfl (Nat.le_of_ble_eq_true rfl) (Nat.le_of_ble_eq_true rfl) h dX7_leave_30
  · replace h := h.2 hc
    refine g_iconst C 0 (by decide) dX7_leave_9 ?_
    exact g_iret C hr rfl (Nat.le_of_ble_eq_true rfl) (Nat.le_of_ble_eq_true rfl) h dX7_leave_10
def BX7_hasCard_36 (I2 : Int32 → gMem → Prop) (L1 : Int32) (L2 : Int32) (L3 : Int32) (v : gMem) (Q : Int32 → gMem → Prop) (X : String → gMem → Prop) : Prop := (I2 (L3 + 1) v)
theorem sX7_hasCard_36 (C : gC p l s m args meth c cX7_hasCard 4 RX7 L sz) (hr : meth.sig.returnType = (some .boolean)) (hno : ∀ x ∈ c.exceptionTable.toList, False) {L1 : Int32} {L2 : Int32} {L3 : Int32} {v : gMem} {Q : Int32 → gMem → Prop} {X : String → gMem → Prop} {I2 : Int32 → gMem → Prop} (hI2 : ∀ (L3 : Int32) (v : gMem), I2 L3 v → gS p l e ({ frames := 0, cells := 0, slots := 0, locals := 0 } : Room) s m args below meth c 4 L sz (vx_MQ below (gQi L sz Q) (gXC L sz X) args s 0 0 (gA L sz)) 0 0 2 [(0, .ref (L.2.1 7 0)), (1, .int L1), (2, .int L2), (3, .int L3)] [] v) (h : BX7_hasCard_36 I2 L1 L2 L3 v Q X) : gS p l e ({ frames := 0, cells := 0, slots := 0, locals := 0 } : Room) s m args below meth c 4 L sz (vx_MQ below (gQi L sz Q) (gXC L sz X) args s 0 0 (gA L sz)) 0 0 36 [(0, .ref (L.2.1 7 0)), (1, .int L1), (2, .int L2), (3, .int L3)] [] v := by
  unfold BX7_hasCard_36 at h
  refine g_iinc C (k := 3) (L3 + 1) [(3, .int (L3 + 1)), (0, .ref (L.2.1 7 0)), (1, .int L1), (2, .int L2)] rfl rfl (Nat.le_of_ble_eq_true rfl) rfl dX7_hasCard_36 ?_
  refine g_goto C 2 (by decide) dX7_hasCard_39 ?_
  refine g_sub [(0, .ref (L.2.1 7 0)), (1, .int L1), (2, .int L2), (3, .int (L3 + 1))] [1, 2, 3, 0] rfl ?_
  exact hI2 _ _ h
def BX7_hasCard_2 (I2 : Int32 → gMem → Prop) (L1 : Int32) (L2 : Int32) (L3 : Int32) (v : gMem) (Q : Int32 → gMem → Prop) (X : String → gMem → Prop) : Prop := (((v 7 0 2) ≤ L3 → (Q 0 v)) ∧ (¬ (v 7 0 2) ≤ L3 → (vp_in L3 16 ∧ ((¬ (v 38 0 (Int32.toNatClampNeg L3)) = L2 → (BX7_hasCard_36 I2 L1 L2 L3 v Q X)) ∧ ((v 38 0 (Int32.toNatClampNeg L3)) = L2 → (vp_in ((16 * L1) + L3) 64 ∧ (((v 45 0 (Int32.toNatClampNeg ((16 * L1) + L3))) = 0 → (BX7_hasCard_36 I2 L1 L2 L3 v Q X)) ∧ (¬ (v 45 0 (Int32.toNatClampNeg ((16 * L1) + L3))) = 0 → (Q 1 v)))))))))
theorem sX7_hasCard_2 (C : gC p l s m args meth c cX7_hasCard 4 RX7 L sz) (hr : meth.sig.returnType = (some .boolean)) (hno : ∀ x ∈ c.exceptionTable.toList, False) {L1 : Int32} {L2 : Int32} {L3 : Int32} {v : gMem} {Q : Int32 → gMem → Prop} {X : String → gMem → Prop} {I2 : Int32 → gMem → Prop} (hI2 : ∀ (L3 : Int32) (v : gMem), I2 L3 v → gS p l e ({ frames := 0, cells := 0, slots := 0, locals := 0 } : Room) s m args below meth c 4 L sz (vx_MQ below (gQi L sz Q) (gXC L sz X) args s 0 0 (gA L sz)) 0 0 2 [(0, .ref (L.2.1 7 0)), (1, .int L1), (2, .int L2), (3, .int L3)] [] v) (h : BX7_hasCard_2 I2 L1 L2 L3 v Q X) : gS p l e ({ frames := 0, cells := 0, slots := 0, locals := 0 } : Room) s m args below meth c 4 L sz (vx_MQ below (gQi L sz Q) (gXC L sz X) args s 0 0 (gA L sz)) 0 0 2 [(0, .ref (L.2.1 7 0)), (1, .int L1), (2, .int L2), (3, .int L3)] [] v := by
  unfold BX7_hasCard_2 at h
  refine g_iload_n C 3 rfl 3 rfl dX7_hasCard_2 ?_
  refine g_aload_n C 0 rfl 0 rfl dX7_hasCard_3 ?_
  refine fgX7_67 C dX7_hasCard_4 ?_
  refine g_icmp_ge C 42 (by decide) dX7_hasCard_7 (fun hc => ?_) (fun hc => ?_)
  · replace h := h.1 hc
    refine g_iconst C 0 (by decide) dX7_hasCard_42 ?_
    exact g_iret C hr rfl (Nat.le_of_ble_eq_true rfl) (Nat.le_of_ble_eq_true rfl) h dX7_hasCard_43
  · replace h := h.2 hc
    refine g_aload_n C 0 rfl 0 rfl dX7_hasCard_10 ?_
    refine fgX7_38 C dX7_hasCard_11 ?_
    refine g_iload_n C 3 rfl 3 rfl dX7_hasCard_14 ?_
    obtain ⟨hb15, h⟩ := h
    refine g_iald C gok_38 rfl hb15 dX7_hasCard_15 ?_
    refine g_iload_n C 2 rfl 2 rfl dX7_hasCard_16 ?_
    refine g_icmp_ne C 36 (by decide) dX7_hasCard_17 (fun hc => ?_) (fun hc => ?_)
    · replace h := h.1 hc
      exact sX7_hasCard_36 C hr hno hI2 h
    · replace h := h.2 hc
      refine g_aload_n C 0 rfl 0 rfl dX7_hasCard_20 ?_
      refine fgX7_61 C dX7_hasCard_21 ?_
      refine g_bipush C 16 (by decide) dX7_hasCard_24 ?_
      refine g_iload_n C 1 rfl 1 rfl dX7_hasCard_26 ?_
      refine g_imul C dX7_hasCard_27 ?_
      refine g_iload_n C 3 rfl 3 rfl dX7_hasCard_28 ?_
      refine g_iadd C dX7_hasCard_29 ?_
      obtain ⟨hb30, h⟩ := h
      refine g_zald C gok_45 rfl hb30 dX7_hasCard_30 ?_
      refine g_if_eq C 36 (by decide) dX7_hasCard_31 (fun hc => ?_) (fun hc => ?_)
      · replace h := h.1 hc
        exact sX7_hasCard_36 C hr hno hI2 h
      · replace h := h.2 hc
        refine g_iconst C 1 (by decide) dX7_hasCard_34 ?_
        exact g_iret C hr rfl (Nat.le_of_ble_eq_true rfl) (Nat.le_of_ble_eq_true rfl) h dX7_hasCard_35
def LX7_hasCard_2 (L1 : Int32) (L2 : Int32) (L3 : Int32) (v : gMem) (Q : Int32 → gMem → Prop) (X : String → gMem → Prop) : Prop := ∀ I2 : Int32 → gMem → Prop, (∀ (L3 : Int32) (v : gMem), BX7_hasCard_2 I2 L1 L2 L3 v Q X → I2 L3 v) → I2 L3 v
theorem slX7_hasCard_2 (C : gC p l s m args meth c cX7_hasCard 4 RX7 L sz) (hr : meth.sig.returnType = (some .boolean)) (hno : ∀ x ∈ c.exceptionTable.toList, False) {L1 : Int32} {L2 : Int32} {L3 : Int32} {v : gMem} {Q : Int32 → gMem → Prop} {X : String → gMem → Prop} (h : LX7_hasCard_2 L1 L2 L3 v Q X) : gS p l e ({ frames := 0, cells := 0, slots := 0, locals := 0 } : Room) s m args below meth c 4 L sz (vx_MQ below (gQi L sz Q) (gXC L sz X) args s 0 0 (gA L sz)) 0 0 2 [(0, .ref (L.2.1 7 0)), (1, .int L1), (2, .int L2), (3, .int L3)] [] v := by
  refine h (fun L3 v => gS p l e ({ frames := 0, cells := 0, slots := 0, locals := 0 } : Room) s m args below meth c 4 L sz (vx_MQ below (gQi L sz Q) (gXC L sz X) args s 0 0 (gA L sz)) 0 0 2 [(0, .ref (L.2.1 7 0)), (1, .int L1), (2, .int L2), (3, .int L3)] [] v) (fun L3 v hb => ?_)
  exact sX7_hasCard_2 C hr hno (fun _ _ hs => hs) hb
def TX7_hasCard (L1 : Int32) (L2 : Int32) (v : gMem) (Q : Int32 → gMem → Prop) (X : String → gMem → Prop) : Prop := (LX7_hasCard_2 L1 L2 0 v Q X)
theorem kX7_hasCard (l : Launch) (hfl : l.stackTraces = false) (L : gL) (hL : gDist L) (L1 : Int32) (L2 : Int32) (v : gMem) (Q : Int32 → gMem → Prop) (X : String → gMem → Prop) (h : TX7_hasCard L1 L2 v Q X) (sz : Nat) : vx_Met l yX7_hasCard [.code yX7_hasCard cX7_hasCard 4 (some .boolean)] ({ frames := 0, cells := 0, slots := 0, locals := 0 } : Room) (gPc L sz [.ref (L.2.1 7 0), .int L1, .int L2] v) (gQi L sz Q) (gXC L sz X) 0 0 (gA L sz) := by
  refine g_ofW (by decide +kernel) hfl hL (Nat.le_of_ble_eq_true rfl) ?_
  intro p e s m args below meth c C hr hno
  refine g_sub [(0, .ref (L.2.1 7 0)), (1, .int L1), (2, .int L2)] [0, 1, 2] rfl ?_
  unfold TX7_hasCard at h
  refine g_iconst C 0 (by decide) dX7_hasCard_0 ?_
  refine g_istore_n C 3 rfl [(3, .int 0), (0, .ref (L.2.1 7 0)), (1, .int L1), (2, .int L2)] (Nat.le_of_ble_eq_true rfl) rfl dX7_hasCard_1 ?_
  refine g_sub [(0, .ref (L.2.1 7 0)), (1, .int L1), (2, .int L2), (3, .int 0)] [1, 2, 3, 0] rfl ?_
  exact slX7_hasCard_2 C hr hno h
def TX7_isIn (L1 : Int32) (L2 : Int32) (v : gMem) (Q : Int32 → gMem → Prop) (X : String → gMem → Prop) : Prop := (TX7_noGroup L1 L2 v (fun r3 v3 => ((r3 = 0 → (TX7_gather v3 (fun v12 => (vp_in L2 16 ∧ (TX7_hasCard L1 (v12 38 0 (Int32.toNatClampNeg L2)) v12 (fun r23 v23 => (narrow .boolean (.int r23) = .int r23 ∧ Q r23 v23)) X))) X)) ∧ (¬ r3 = 0 → (Q 0 v3)))) X)
theorem kX7_isIn (l : Launch) (hfl : l.stackTraces = false) (L : gL) (hL : gDist L) (L1 : Int32) (L2 : Int32) (v : gMem) (Q : Int32 → gMem → Prop) (X : String → gMem → Prop) (h : TX7_isIn L1 L2 v Q X) (sz : Nat) : vx_Met l yX7_isIn [.code yX7_isIn cX7_isIn 3 (some .boolean)] ({ frames := 2, cells := 0, slots := 0, locals := 44 } : Room) (gPc L sz [.ref (L.2.1 7 0), .int L1, .int L2] v) (gQi L sz Q) (gXC L sz X) 0 0 (gA L sz) := by
  refine g_ofW (by decide +kernel) hfl hL (Nat.le_of_ble_eq_true rfl) ?_
  intro p e s m args below meth c C hr hno
  refine g_sub [(0, .ref (L.2.1 7 0)), (1, .int L1), (2, .int L2)] [0, 1, 2] rfl ?_
  unfold TX7_isIn at h
  refine g_aload_n C 0 rfl 0 rfl dX7_isIn_0 ?_
  refine g_iload_n C 1 rfl 1 rfl dX7_isIn_1 ?_
  refine g_iload_n C 2 rfl 2 rfl dX7_isIn_2 ?_
  refine g_callVi C hno gok_7 rfl rfl [.int L1, .int L2] (fun sz9 => kX7_noGroup l C.2.2.2.2.2.2.1 L C.2.2.2.2.2.2.2.1 L1 L2 v _ X h sz9) wml_RX7_168 winst_X7_noGroup wsel_X7_noGroup wini_RX7 wcode_X7_noGroup rfl rfl (n := 2) (by decide +kernel) rfl ⟨(Nat.le_of_ble_eq_true rfl), (Nat.le_of_ble_eq_true rfl)⟩ ⟨(Nat.le_of_ble_eq_true rfl), (Nat.le_of_ble_eq_true rfl)⟩ ⟨(Nat.le_of_ble_eq_true rfl), (Nat.le_of_ble_eq_true rfl)⟩ (Nat.le_of_ble_eq_true rfl) dX7_isIn_3 (fun r3 v3 h => ?_)
  refine g_if_eq C 11 (by decide) dX7_isIn_6 (fun hc => ?_) (fun hc => ?_)
  · replace h := h.1 hc
    refine g_aload_n C 0 rfl 0 rfl dX7_isIn_11 ?_
    refine g_callVv C hno gok_7 rfl rfl [] (fun sz9 => kX7_gather l C.2.2.2.2.2.2.1 L C.2.2.2.2.2.2.2.1 v3 _ X h sz9) wml_RX7_130 winst_X7_gather wsel_X7_gather wini_RX7 wcode_X7_gather rfl rfl (n := 0) (by decide +kernel) rfl ⟨(Nat.le_of_ble_eq_true rfl), (Nat.le_of_ble_eq_true rfl)⟩ ⟨(Nat.le_of_ble_eq_true rfl), (Nat.le_of_ble_eq_true rfl)⟩ ⟨(Nat.le_of_ble_eq_true rfl), (Nat.le_of_ble_eq_true rfl)⟩ (Nat.le_of_ble_eq_true rfl) dX7_isIn_12 (fun v12 h => ?_)
    refine g_aload_n C 0 rfl 0 rfl dX7_isIn_15 ?_
    refine g_iload_n C 1 rfl 1 rfl dX7_isIn_16 ?_
    refine g_aload_n C 0 rfl 0 rfl dX7_isIn_17 ?_
    refine fgX7_38 C dX7_isIn_18 ?_
    refine g_iload_n C 2 rfl 2 rfl dX7_isIn_21 ?_
    obtain ⟨hb22, h⟩ := h
    refine g_iald C gok_38 rfl hb22 dX7_isIn_22 ?_
    refine g_callVi C hno gok_7 rfl rfl [.int L1, .int (v12 38 0 (Int32.toNatClampNeg L2))] (fun sz9 => kX7_hasCard l C.2.2.2.2.2.2.1 L C.2.2.2.2.2.2.2.1 L1 (v12 38 0 (Int32.toNatClampNeg L2)) v12 _ X h sz9) wml_RX7_174 winst_X7_hasCard wsel_X7_hasCard wini_RX7 wcode_X7_hasCard rfl rfl (n := 2) (by decide +kernel) rfl ⟨(Nat.le_of_ble_eq_true rfl), (Nat.le_of_ble_eq_true rfl)⟩ ⟨(Nat.le_of_ble_eq_true rfl), (Nat.le_of_ble_eq_true rfl)⟩ ⟨(Nat.le_of_ble_eq_true rfl), (Nat.le_of_ble_eq_true rfl)⟩ (Nat.le_of_ble_eq_true rfl) dX7_isIn_23 (fun r23 v23 h => ?_)
    exact g_iret C hr h.1 (Nat.le_of_ble_eq_true rfl) (Nat.le_of_ble_eq_true rfl) h.2 dX7_isIn_26
  · replace h := h.2 hc
    refine g_iconst C 0 (by decide) dX7_isIn_9 ?_
    exact g_iret C hr rfl (Nat.le_of_ble_eq_true rfl) (Nat.le_of_ble_eq_true rfl) h dX7_isIn_10
def BX7_personsIn_61 (I28 : Int32 → Int32 → gMem → Prop) (L1 : Int32) (L3 : Int32) (t0 : Int32) (t1 : Int32) (v : gMem) (Q : Int32 → gMem → Prop) (X : String → gMem → Prop) : Prop := (I28 (t0 + t1) (L3 + 1) v)
theorem sX7_personsIn_61 (C : gC p l s m args meth c cX7_personsIn 4 RX7 L sz) (hr : meth.sig.returnType = (some .int)) (hno : ∀ x ∈ c.exceptionTable.toList, False) {L1 : Int32} {L3 : Int32} {t0 : Int32} {t1 : Int32} {v : gMem} {Q : Int32 → gMem → Prop} {X : String → gMem → Prop} {I28 : Int32 → Int32 → gMem → Prop} (hI28 : ∀ (L2 : Int32) (L3 : Int32) (v : gMem), I28 L2 L3 v → gS p l e ({ frames := 1, cells := 0, slots := 0, locals := 23 } : Room) s m args below meth c 4 L sz (vx_MQ below (gQi L sz Q) (gXC L sz X) args s 0 0 (gA L sz)) 0 0 28 [(0, .ref (L.2.1 7 0)), (1, .int L1), (2, .int L2), (3, .int L3)] [] v) (h : BX7_personsIn_61 I28 L1 L3 t0 t1 v Q X) : gS p l e ({ frames := 1, cells := 0, slots := 0, locals := 23 } : Room) s m args below meth c 4 L sz (vx_MQ below (gQi L sz Q) (gXC L sz X) args s 0 0 (gA L sz)) 0 0 61 [(0, .ref (L.2.1 7 0)), (1, .int L1), (3, .int L3)] [.int t1, .int t0] v := by
  unfold BX7_personsIn_61 at h
  refine g_iadd C dX7_personsIn_61 ?_
  refine g_istore_n C 2 rfl [(2, .int (t0 + t1)), (0, .ref (L.2.1 7 0)), (1, .int L1), (3, .int L3)] (Nat.le_of_ble_eq_true rfl) rfl dX7_personsIn_62 ?_
  refine g_iinc C (k := 3) (L3 + 1) [(3, .int (L3 + 1)), (2, .int (t0 + t1)), (0, .ref (L.2.1 7 0)), (1, .int L1)] rfl rfl (Nat.le_of_ble_eq_true rfl) rfl dX7_personsIn_63 ?_
  refine g_goto C 28 (by decide) dX7_personsIn_66 ?_
  refine g_sub [(0, .ref (L.2.1 7 0)), (1, .int L1), (2, .int (t0 + t1)), (3, .int (L3 + 1))] [2, 3, 1, 0] rfl ?_
  exact hI28 _ _ _ h
def BX7_personsIn_60 (I28 : Int32 → Int32 → gMem → Prop) (L1 : Int32) (L3 : Int32) (t0 : Int32) (v : gMem) (Q : Int32 → gMem → Prop) (X : String → gMem → Prop) : Prop := (BX7_personsIn_61 I28 L1 L3 t0 0 v Q X)
theorem sX7_personsIn_60 (C : gC p l s m args meth c cX7_personsIn 4 RX7 L sz) (hr : meth.sig.returnType = (some .int)) (hno : ∀ x ∈ c.exceptionTable.toList, False) {L1 : Int32} {L3 : Int32} {t0 : Int32} {v : gMem} {Q : Int32 → gMem → Prop} {X : String → gMem → Prop} {I28 : Int32 → Int32 → gMem → Prop} (hI28 : ∀ (L2 : Int32) (L3 : Int32) (v : gMem), I28 L2 L3 v → gS p l e ({ frames := 1, cells := 0, slots := 0, locals := 23 } : Room) s m args below meth c 4 L sz (vx_MQ below (gQi L sz Q) (gXC L sz X) args s 0 0 (gA L sz)) 0 0 28 [(0, .ref (L.2.1 7 0)), (1, .int L1), (2, .int L2), (3, .int L3)] [] v) (h : BX7_personsIn_60 I28 L1 L3 t0 v Q X) : gS p l e ({ frames := 1, cells := 0, slots := 0, locals := 23 } : Room) s m args below meth c 4 L sz (vx_MQ below (gQi L sz Q) (gXC L sz X) args s 0 0 (gA L sz)) 0 0 60 [(0, .ref (L.2.1 7 0)), (1, .int L1), (3, .int L3)] [.int t0] v := by
  unfold BX7_personsIn_60 at h
  refine g_iconst C 0 (by decide) dX7_personsIn_60 ?_
  exact sX7_personsIn_61 C hr hno hI28 h
def BX7_personsIn_28 (I28 : Int32 → Int32 → gMem → Prop) (L1 : Int32) (L2 : Int32) (L3 : Int32) (v : gMem) (Q : Int32 → gMem → Prop) (X : String → gMem → Prop) : Prop := (((v 7 0 2) ≤ L3 → (Q L2 v)) ∧ (¬ (v 7 0 2) ≤ L3 → (vp_in L3 16 ∧ ((¬ (v 38 0 (Int32.toNatClampNeg L3)) = L3 → (BX7_personsIn_60 I28 L1 L3 L2 v Q X)) ∧ ((v 38 0 (Int32.toNatClampNeg L3)) = L3 → (TX7_hasCard L1 L3 v (fun r50 v50 => ((r50 = 0 → (BX7_personsIn_60 I28 L1 L3 L2 v50 Q X)) ∧ (¬ r50 = 0 → (BX7_personsIn_61 I28 L1 L3 L2 1 v50 Q X)))) X))))))
theorem sX7_personsIn_28 (C : gC p l s m args meth c cX7_personsIn 4 RX7 L sz) (hr : meth.sig.returnType = (some .int)) (hno : ∀ x ∈ c.exceptionTable.toList, False) {L1 : Int32} {L2 : Int32} {L3 : Int32} {v : gMem} {Q : Int32 → gMem → Prop} {X : String → gMem → Prop} {I28 : Int32 → Int32 → gMem → Prop} (hI28 : ∀ (L2 : Int32) (L3 : Int32) (v : gMem), I28 L2 L3 v → gS p l e ({ frames := 1, cells := 0, slots := 0, locals := 23 } : Room) s m args below meth c 4 L sz (vx_MQ below (gQi L sz Q) (gXC L sz X) args s 0 0 (gA L sz)) 0 0 28 [(0, .ref (L.2.1 7 0)), (1, .int L1), (2, .int L2), (3, .int L3)] [] v) (h : BX7_personsIn_28 I28 L1 L2 L3 v Q X) : gS p l e ({ frames := 1, cells := 0, slots := 0, locals := 23 } : Room) s m args below meth c 4 L sz (vx_MQ below (gQi L sz Q) (gXC L sz X) args s 0 0 (gA L sz)) 0 0 28 [(0, .ref (L.2.1 7 0)), (1, .int L1), (2, .int L2), (3, .int L3)] [] v := by
  unfold BX7_personsIn_28 at h
  refine g_iload_n C 3 rfl 3 rfl dX7_personsIn_28 ?_
  refine g_aload_n C 0 rfl 0 rfl dX7_personsIn_29 ?_
  refine fgX7_67 C dX7_personsIn_30 ?_
  refine g_icmp_ge C 69 (by decide) dX7_personsIn_33 (fun hc => ?_) (fun hc => ?_)
  · replace h := h.1 hc
    refine g_iload_n C 2 rfl 2 rfl dX7_personsIn_69 ?_
    exact g_iret C hr rfl (Nat.le_of_ble_eq_true rfl) (Nat.le_of_ble_eq_true rfl) h dX7_personsIn_70
  · replace h := h.2 hc
    refine g_iload_n C 2 rfl 2 rfl dX7_personsIn_36 ?_
    refine g_aload_n C 0 rfl 0 rfl dX7_personsIn_37 ?_
    refine fgX7_38 C dX7_personsIn_38 ?_
    refine g_iload_n C 3 rfl 3 rfl dX7_personsIn_41 ?_
    obtain ⟨hb42, h⟩ := h
    refine g_iald C gok_38 rfl hb42 dX7_personsIn_42 ?_
    refine g_iload_n C 3 rfl 3 rfl dX7_personsIn_43 ?_
    refine g_icmp_ne C 60 (by decide) dX7_personsIn_44 (fun hc => ?_) (fun hc => ?_)
    · replace h := h.1 hc
      refine g_sub [(0, .ref (L.2.1 7 0)), (1, .int L1), (3, .int L3)] [0, 1, 3] rfl ?_
      exact sX7_personsIn_60 C hr hno hI28 h
    · replace h := h.2 hc
      refine g_aload_n C 0 rfl 0 rfl dX7_personsIn_47 ?_
      refine g_iload_n C 1 rfl 1 rfl dX7_personsIn_48 ?_
      refine g_iload_n C 3 rfl 3 rfl dX7_personsIn_49 ?_
      refine g_callVi C hno gok_7 rfl rfl [.int L1, .int L3] (fun sz9 => kX7_hasCard l C.2.2.2.2.2.2.1 L C.2.2.2.2.2.2.2.1 L1 L3 v _ X h sz9) wml_RX7_174 winst_X7_hasCard wsel_X7_hasCard wini_RX7 wcode_X7_hasCard rfl rfl (n := 2) (by decide +kernel) rfl ⟨(Nat.le_of_ble_eq_true rfl), (Nat.le_of_ble_eq_true rfl)⟩ ⟨(Nat.le_of_ble_eq_true rfl), (Nat.le_of_ble_eq_true rfl)⟩ ⟨(Nat.le_of_ble_eq_true rfl), (Nat.le_of_ble_eq_true rfl)⟩ (Nat.le_of_ble_eq_true rfl) dX7_personsIn_50 (fun r50 v50 h => ?_)
      refine g_if_eq C 60 (by decide) dX7_personsIn_53 (fun hc => ?_) (fun hc => ?_)
      · replace h := h.1 hc
        refine g_sub [(0, .ref (L.2.1 7 0)), (1, .int L1), (3, .int L3)] [0, 1, 3] rfl ?_
        exact sX7_personsIn_60 C hr hno hI28 h
      · replace h := h.2 hc
        refine g_iconst C 1 (by decide) dX7_personsIn_56 ?_
        refine g_goto C 61 (by decide) dX7_personsIn_57 ?_
        refine g_sub [(0, .ref (L.2.1 7 0)), (1, .int L1), (3, .int L3)] [0, 1, 3] rfl ?_
        exact sX7_personsIn_61 C hr hno hI28 h
def LX7_personsIn_28 (L1 : Int32) (L2 : Int32) (L3 : Int32) (v : gMem) (Q : Int32 → gMem → Prop) (X : String → gMem → Prop) : Prop := ∀ I28 : Int32 → Int32 → gMem → Prop, (∀ (L2 : Int32) (L3 : Int32) (v : gMem), BX7_personsIn_28 I28 L1 L2 L3 v Q X → I28 L2 L3 v) → I28 L2 L3 v
theorem slX7_personsIn_28 (C : gC p l s m args meth c cX7_personsIn 4 RX7 L sz) (hr : meth.sig.returnType = (some .int)) (hno : ∀ x ∈ c.exceptionTable.toList, False) {L1 : Int32} {L2 : Int32} {L3 : Int32} {v : gMem} {Q : Int32 → gMem → Prop} {X : String → gMem → Prop} (h : LX7_personsIn_28 L1 L2 L3 v Q X) : gS p l e ({ frames := 1, cells := 0, slots := 0, locals := 23 } : Room) s m args below meth c 4 L sz (vx_MQ below (gQi L sz Q) (gXC L sz X) args s 0 0 (gA L sz)) 0 0 28 [(0, .ref (L.2.1 7 0)), (1, .int L1), (2, .int L2), (3, .int L3)] [] v := by
  refine h (fun L2 L3 v => gS p l e ({ frames := 1, cells := 0, slots := 0, locals := 23 } : Room) s m args below meth c 4 L sz (vx_MQ below (gQi L sz Q) (gXC L sz X) args s 0 0 (gA L sz)) 0 0 28 [(0, .ref (L.2.1 7 0)), (1, .int L1), (2, .int L2), (3, .int L3)] [] v) (fun L2 L3 v hb => ?_)
  exact sX7_personsIn_28 C hr hno (fun _ _ _ hs => hs) hb
def TX7_personsIn (L1 : Int32) (v : gMem) (Q : Int32 → gMem → Prop) (X : String → gMem → Prop) : Prop := (TX7_isWithin L1 0 3 v (fun r3 v3 => ((¬ r3 = 0 → (TX7_gather (gw v3 7 0 0 0) (fun v21 => (LX7_personsIn_28 L1 0 0 v21 Q X)) X)) ∧ (r3 = 0 → (TX7_fail 1 v3 (fun r11 v11 => (Q r11 v11)) X)))) X)
theorem kX7_personsIn (l : Launch) (hfl : l.stackTraces = false) (L : gL) (hL : gDist L) (L1 : Int32) (v : gMem) (Q : Int32 → gMem → Prop) (X : String → gMem → Prop) (h : TX7_personsIn L1 v Q X) (sz : Nat) : vx_Met l yX7_personsIn [.code yX7_personsIn cX7_personsIn 4 (some .int)] ({ frames := 1, cells := 0, slots := 0, locals := 23 } : Room) (gPc L sz [.ref (L.2.1 7 0), .int L1] v) (gQi L sz Q) (gXC L sz X) 0 0 (gA L sz) := by
  refine g_ofW (by decide +kernel) hfl hL (Nat.le_of_ble_eq_true rfl) ?_
  intro p e s m args below meth c C hr hno
  refine g_sub [(0, .ref (L.2.1 7 0)), (1, .int L1)] [0, 1] rfl ?_
  unfold TX7_personsIn at h
  refine g_iload_n C 1 rfl 1 rfl dX7_personsIn_0 ?_
  refine g_iconst C 0 (by decide) dX7_personsIn_1 ?_
  refine g_iconst C 3 (by decide) dX7_personsIn_2 ?_
  refine g_callSi C hno [.int L1, .int 0, .int 3] (fun sz9 => kX7_isWithin l C.2.2.2.2.2.2.1 L C.2.2.2.2.2.2.2.1 L1 0 3 v _ X h sz9) wml_RX7_70 wstat_X7_isWithin wini_RX7 wcode_X7_isWithin rfl rfl (n := 3) (by decide +kernel) rfl ⟨(Nat.le_of_ble_eq_true rfl), (Nat.le_of_ble_eq_true rfl)⟩ ⟨(Nat.le_of_ble_eq_true rfl), (Nat.le_of_ble_eq_true rfl)⟩ ⟨(Nat.le_of_ble_eq_true rfl), (Nat.le_of_ble_eq_true rfl)⟩ (Nat.le_of_ble_eq_true rfl) dX7_personsIn_3 (fun r3 v3 h => ?_)
  refine g_if_ne C 15 (by decide) dX7_personsIn_6 (fun hc => ?_) (fun hc => ?_)
  · replace h := h.1 hc
    refine g_aload_n C 0 rfl 0 rfl dX7_personsIn_15 ?_
    refine g_iconst C 0 (by decide) dX7_personsIn_16 ?_
    refine fpX7_64 C dX7_personsIn_17 ?_
    refine g_aload_n C 0 rfl 0 rfl dX7_personsIn_20 ?_
    refine g_callVv C hno gok_7 rfl rfl [] (fun sz9 => kX7_gather l C.2.2.2.2.2.2.1 L C.2.2.2.2.2.2.2.1 (gw v3 7 0 0 0) _ X h sz9) wml_RX7_130 winst_X7_gather wsel_X7_gather wini_RX7 wcode_X7_gather rfl rfl (n := 0) (by decide +kernel) rfl ⟨(Nat.le_of_ble_eq_true rfl), (Nat.le_of_ble_eq_true rfl)⟩ ⟨(Nat.le_of_ble_eq_true rfl), (Nat.le_of_ble_eq_true rfl)⟩ ⟨(Nat.le_of_ble_eq_true rfl), (Nat.le_of_ble_eq_true rfl)⟩ (Nat.le_of_ble_eq_true rfl) dX7_personsIn_21 (fun v21 h => ?_)
    refine g_iconst C 0 (by decide) dX7_personsIn_24 ?_
    refine g_istore_n C 2 rfl [(2, .int 0), (0, .ref (L.2.1 7 0)), (1, .int L1)] (Nat.le_of_ble_eq_true rfl) rfl dX7_personsIn_25 ?_
    refine g_iconst C 0 (by decide) dX7_personsIn_26 ?_
    refine g_istore_n C 3 rfl [(3, .int 0), (2, .int 0), (0, .ref (L.2.1 7 0)), (1, .int L1)] (Nat.le_of_ble_eq_true rfl) rfl dX7_personsIn_27 ?_
    refine g_sub [(0, .ref (L.2.1 7 0)), (1, .int L1), (2, .int 0), (3, .int 0)] [2, 3, 1, 0] rfl ?_
    exact slX7_personsIn_28 C hr hno h
  · replace h := h.2 hc
    refine g_aload_n C 0 rfl 0 rfl dX7_personsIn_9 ?_
    refine g_iconst C 1 (by decide) dX7_personsIn_10 ?_
    refine g_callVi C hno gok_7 rfl rfl [.int 1] (fun sz9 => kX7_fail l C.2.2.2.2.2.2.1 L C.2.2.2.2.2.2.2.1 1 v3 _ X h sz9) wml_RX7_78 winst_X7_fail wsel_X7_fail wini_RX7 wcode_X7_fail rfl rfl (n := 1) (by decide +kernel) rfl ⟨(Nat.le_of_ble_eq_true rfl), (Nat.le_of_ble_eq_true rfl)⟩ ⟨(Nat.le_of_ble_eq_true rfl), (Nat.le_of_ble_eq_true rfl)⟩ ⟨(Nat.le_of_ble_eq_true rfl), (Nat.le_of_ble_eq_true rfl)⟩ (Nat.le_of_ble_eq_true rfl) dX7_personsIn_11 (fun r11 v11 h => ?_)
    exact g_iret C hr rfl (Nat.le_of_ble_eq_true rfl) (Nat.le_of_ble_eq_true rfl) h dX7_personsIn_14
def TX7_type (L1 : Int32) (v : gMem) (Q : Int32 → gMem → Prop) (X : String → gMem → Prop) : Prop := (TX7_isLetter L1 v (fun r1 v1 => ((¬ r1 = 0 → ((¬ (v1 7 0 6) = 10 → (vp_in (160 + ((gw v1 7 0 0 0) 7 0 6)) 176 ∧ (Q (((gw (gw v1 7 0 0 0) 42 0 (Int32.toNatClampNeg (160 + ((gw v1 7 0 0 0) 7 0 6))) (vp_nar .char L1)) 7 0 6) + 1) (gw (gw (gw v1 7 0 0 0) 42 0 (Int32.toNatClampNeg (160 + ((gw v1 7 0 0 0) 7 0 6))) (vp_nar .char L1)) 7 0 6 (((gw (gw v1 7 0 0 0) 42 0 (Int32.toNatClampNeg (160 + ((gw v1 7 0 0 0) 7 0 6))) (vp_nar .char L1)) 7 0 6) + 1))))) ∧ ((v1 7 0 6) = 10 → (TX7_fail 2 v1 (fun r24 v24 => (Q r24 v24)) X)))) ∧ (r1 = 0 → (TX7_fail 1 v1 (fun r9 v9 => (Q r9 v9)) X)))) X)
theorem kX7_type (l : Launch) (hfl : l.stackTraces = false) (L : gL) (hL : gDist L) (L1 : Int32) (v : gMem) (Q : Int32 → gMem → Prop) (X : String → gMem → Prop) (h : TX7_type L1 v Q X) (sz : Nat) : vx_Met l yX7_type [.code yX7_type cX7_type 2 (some .int)] ({ frames := 1, cells := 0, slots := 0, locals := 21 } : Room) (gPc L sz [.ref (L.2.1 7 0), .int L1] v) (gQi L sz Q) (gXC L sz X) 0 0 (gA L sz) := by
  refine g_ofW (by decide +kernel) hfl hL (Nat.le_of_ble_eq_true rfl) ?_
  intro p e s m args below meth c C hr hno
  refine g_sub [(0, .ref (L.2.1 7 0)), (1, .int L1)] [0, 1] rfl ?_
  unfold TX7_type at h
  refine g_iload_n C 1 rfl 1 rfl dX7_type_0 ?_
  refine g_callSi C hno [.int L1] (fun sz9 => kX7_isLetter l C.2.2.2.2.2.2.1 L C.2.2.2.2.2.2.2.1 L1 v _ X h sz9) wml_RX7_85 wstat_X7_isLetter wini_RX7 wcode_X7_isLetter rfl rfl (n := 1) (by decide +kernel) rfl ⟨(Nat.le_of_ble_eq_true rfl), (Nat.le_of_ble_eq_true rfl)⟩ ⟨(Nat.le_of_ble_eq_true rfl), (Nat.le_of_ble_eq_true rfl)⟩ ⟨(Nat.le_of_ble_eq_true rfl), (Nat.le_of_ble_eq_true rfl)⟩ (Nat.le_of_ble_eq_true rfl) dX7_type_1 (fun r1 v1 h => ?_)
  refine g_if_ne C 13 (by decide) dX7_type_4 (fun hc => ?_) (fun hc => ?_)
  · replace h := h.1 hc
    refine g_aload_n C 0 rfl 0 rfl dX7_type_13 ?_
    refine fgX7_177 C dX7_type_14 ?_
    refine g_bipush C 10 (by decide) dX7_type_17 ?_
    refine g_icmp_ne C 28 (by decide) dX7_type_19 (fun hc => ?_) (fun hc => ?_)
    · replace h := h.1 hc
      refine g_aload_n C 0 rfl 0 rfl dX7_type_28 ?_
      refine g_iconst C 0 (by decide) dX7_type_29 ?_
      refine fpX7_64 C dX7_type_30 ?_
      refine g_aload_n C 0 rfl 0 rfl dX7_type_33 ?_
      refine fgX7_50 C dX7_type_34 ?_
      refine g_sipush C 160 (by decide) dX7_type_37 ?_
      refine g_aload_n C 0 rfl 0 rfl dX7_type_40 ?_
      refine fgX7_177 C dX7_type_41 ?_
      refine g_iadd C dX7_type_44 ?_
      refine g_iload_n C 1 rfl 1 rfl dX7_type_45 ?_
      obtain ⟨hb46, h⟩ := h
      refine g_cast C gok_42 (fun _ => rfl) hb46 dX7_type_46 ?_
      refine g_aload_n C 0 rfl 0 rfl dX7_type_47 ?_
      refine g_dup C rfl dX7_type_48 ?_
      refine fgX7_177 C dX7_type_49 ?_
      refine g_iconst C 1 (by decide) dX7_type_52 ?_
      refine g_iadd C dX7_type_53 ?_
      refine g_dup_x1 C rfl rfl dX7_type_54 ?_
      refine fpX7_177 C dX7_type_55 ?_
      exact g_iret C hr rfl (Nat.le_of_ble_eq_true rfl) (Nat.le_of_ble_eq_true rfl) h dX7_type_58
    · replace h := h.2 hc
      refine g_aload_n C 0 rfl 0 rfl dX7_type_22 ?_
      refine g_iconst C 2 (by decide) dX7_type_23 ?_
      refine g_callVi C hno gok_7 rfl rfl [.int 2] (fun sz9 => kX7_fail l C.2.2.2.2.2.2.1 L C.2.2.2.2.2.2.2.1 2 v1 _ X h sz9) wml_RX7_78 winst_X7_fail wsel_X7_fail wini_RX7 wcode_X7_fail rfl rfl (n := 1) (by decide +kernel) rfl ⟨(Nat.le_of_ble_eq_true rfl), (Nat.le_of_ble_eq_true rfl)⟩ ⟨(Nat.le_of_ble_eq_true rfl), (Nat.le_of_ble_eq_true rfl)⟩ ⟨(Nat.le_of_ble_eq_true rfl), (Nat.le_of_ble_eq_true rfl)⟩ (Nat.le_of_ble_eq_true rfl) dX7_type_24 (fun r24 v24 h => ?_)
      exact g_iret C hr rfl (Nat.le_of_ble_eq_true rfl) (Nat.le_of_ble_eq_true rfl) h dX7_type_27
  · replace h := h.2 hc
    refine g_aload_n C 0 rfl 0 rfl dX7_type_7 ?_
    refine g_iconst C 1 (by decide) dX7_type_8 ?_
    refine g_callVi C hno gok_7 rfl rfl [.int 1] (fun sz9 => kX7_fail l C.2.2.2.2.2.2.1 L C.2.2.2.2.2.2.2.1 1 v1 _ X h sz9) wml_RX7_78 winst_X7_fail wsel_X7_fail wini_RX7 wcode_X7_fail rfl rfl (n := 1) (by decide +kernel) rfl ⟨(Nat.le_of_ble_eq_true rfl), (Nat.le_of_ble_eq_true rfl)⟩ ⟨(Nat.le_of_ble_eq_true rfl), (Nat.le_of_ble_eq_true rfl)⟩ ⟨(Nat.le_of_ble_eq_true rfl), (Nat.le_of_ble_eq_true rfl)⟩ (Nat.le_of_ble_eq_true rfl) dX7_type_9 (fun r9 v9 h => ?_)
    exact g_iret C hr rfl (Nat.le_of_ble_eq_true rfl) (Nat.le_of_ble_eq_true rfl) h dX7_type_12
def TX7_clearQuery (v : gMem) (Q : Int32 → gMem → Prop) (X : String → gMem → Prop) : Prop := (Q (v 7 0 6) (gw v 7 0 6 0))
theorem kX7_clearQuery (l : Launch) (hfl : l.stackTraces = false) (L : gL) (hL : gDist L) (v : gMem) (Q : Int32 → gMem → Prop) (X : String → gMem → Prop) (h : TX7_clearQuery v Q X) (sz : Nat) : vx_Met l yX7_clearQuery [.code yX7_clearQuery cX7_clearQuery 2 (some .int)] ({ frames := 0, cells := 0, slots := 0, locals := 0 } : Room) (gPc L sz [.ref (L.2.1 7 0)] v) (gQi L sz Q) (gXC L sz X) 0 0 (gA L sz) := by
  refine g_ofW (by decide +kernel) hfl hL (Nat.le_of_ble_eq_true rfl) ?_
  intro p e s m args below meth c C hr hno
  refine g_sub [(0, .ref (L.2.1 7 0))] [0] rfl ?_
  unfold TX7_clearQuery at h
  refine g_aload_n C 0 rfl 0 rfl dX7_clearQuery_0 ?_
  refine fgX7_177 C dX7_clearQuery_1 ?_
  refine g_istore_n C 1 rfl [(1, .int (v 7 0 6)), (0, .ref (L.2.1 7 0))] (Nat.le_of_ble_eq_true rfl) rfl dX7_clearQuery_4 ?_
  refine g_aload_n C 0 rfl 1 rfl dX7_clearQuery_5 ?_
  refine g_iconst C 0 (by decide) dX7_clearQuery_6 ?_
  refine fpX7_177 C dX7_clearQuery_7 ?_
  refine g_iload_n C 1 rfl 0 rfl dX7_clearQuery_10 ?_
  exact g_iret C hr rfl (Nat.le_of_ble_eq_true rfl) (Nat.le_of_ble_eq_true rfl) h dX7_clearQuery_11
def BX7_isFound_44 (v : gMem) (Q : Int32 → gMem → Prop) (X : String → gMem → Prop) : Prop := (Q 0 v)
theorem sX7_isFound_44 (C : gC p l s m args meth c cX7_isFound 4 RX7 L sz) (hr : meth.sig.returnType = (some .boolean)) (hno : ∀ x ∈ c.exceptionTable.toList, False) {v : gMem} {Q : Int32 → gMem → Prop} {X : String → gMem → Prop} (h : BX7_isFound_44 v Q X) : gS p l e ({ frames := 3, cells := 0, slots := 0, locals := 72 } : Room) s m args below meth c 4 L sz (vx_MQ below (gQi L sz Q) (gXC L sz X) args s 0 0 (gA L sz)) 0 0 44 [] [] v := by
  unfold BX7_isFound_44 at h
  refine g_iconst C 0 (by decide) dX7_isFound_44 ?_
  exact g_iret C hr rfl (Nat.le_of_ble_eq_true rfl) (Nat.le_of_ble_eq_true rfl) h dX7_isFound_45
def BX7_isFound_48 (I48 : Int32 → gMem → Prop) (L1 : Int32) (L3 : Int32) (v : gMem) (Q : Int32 → gMem → Prop) (X : String → gMem → Prop) : Prop := (((v 7 0 6) ≤ L3 → (Q 1 v)) ∧ (¬ (v 7 0 6) ≤ L3 → (vp_in ((10 * L1) + L3) 176 ∧ (vp_in (160 + L3) 176 ∧ (((v 42 0 (Int32.toNatClampNeg ((10 * L1) + L3))) = (v 42 0 (Int32.toNatClampNeg (160 + L3))) → (I48 (L3 + 1) v)) ∧ (¬ (v 42 0 (Int32.toNatClampNeg ((10 * L1) + L3))) = (v 42 0 (Int32.toNatClampNeg (160 + L3))) → (Q 0 v)))))))
theorem sX7_isFound_48 (C : gC p l s m args meth c cX7_isFound 4 RX7 L sz) (hr : meth.sig.returnType = (some .boolean)) (hno : ∀ x ∈ c.exceptionTable.toList, False) {L1 : Int32} {L3 : Int32} {v : gMem} {Q : Int32 → gMem → Prop} {X : String → gMem → Prop} {I48 : Int32 → gMem → Prop} (hI48 : ∀ (L3 : Int32) (v : gMem), I48 L3 v → gS p l e ({ frames := 3, cells := 0, slots := 0, locals := 72 } : Room) s m args below meth c 4 L sz (vx_MQ below (gQi L sz Q) (gXC L sz X) args s 0 0 (gA L sz)) 0 0 48 [(0, .ref (L.2.1 7 0)), (1, .int L1), (3, .int L3)] [] v) (h : BX7_isFound_48 I48 L1 L3 v Q X) : gS p l e ({ frames := 3, cells := 0, slots := 0, locals := 72 } : Room) s m args below meth c 4 L sz (vx_MQ below (gQi L sz Q) (gXC L sz X) args s 0 0 (gA L sz)) 0 0 48 [(0, .ref (L.2.1 7 0)), (1, .int L1), (3, .int L3)] [] v := by
  unfold BX7_isFound_48 at h
  refine g_iload_n C 3 rfl 2 rfl dX7_isFound_48 ?_
  refine g_aload_n C 0 rfl 0 rfl dX7_isFound_49 ?_
  refine fgX7_177 C dX7_isFound_50 ?_
  refine g_icmp_ge C 88 (by decide) dX7_isFound_53 (fun hc => ?_) (fun hc => ?_)
  · replace h := h.1 hc
    refine g_iconst C 1 (by decide) dX7_isFound_88 ?_
    exact g_iret C hr rfl (Nat.le_of_ble_eq_true rfl) (Nat.le_of_ble_eq_true rfl) h dX7_isFound_89
  · replace h := h.2 hc
    refine g_aload_n C 0 rfl 0 rfl dX7_isFound_56 ?_
    refine fgX7_50 C dX7_isFound_57 ?_
    refine g_bipush C 10 (by decide) dX7_isFound_60 ?_
    refine g_iload_n C 1 rfl 1 rfl dX7_isFound_62 ?_
    refine g_imul C dX7_isFound_63 ?_
    refine g_iload_n C 3 rfl 2 rfl dX7_isFound_64 ?_
    refine g_iadd C dX7_isFound_65 ?_
    obtain ⟨hb66, h⟩ := h
    refine g_cald C gok_42 rfl hb66 dX7_isFound_66 ?_
    refine g_aload_n C 0 rfl 0 rfl dX7_isFound_67 ?_
    refine fgX7_50 C dX7_isFound_68 ?_
    refine g_sipush C 160 (by decide) dX7_isFound_71 ?_
    refine g_iload_n C 3 rfl 2 rfl dX7_isFound_74 ?_
    refine g_iadd C dX7_isFound_75 ?_
    obtain ⟨hb76, h⟩ := h
    refine g_cald C gok_42 rfl hb76 dX7_isFound_76 ?_
    refine g_icmp_eq C 82 (by decide) dX7_isFound_77 (fun hc => ?_) (fun hc => ?_)
    · replace h := h.1 hc
      refine g_iinc C (k := 2) (L3 + 1) [(3, .int (L3 + 1)), (0, .ref (L.2.1 7 0)), (1, .int L1)] rfl rfl (Nat.le_of_ble_eq_true rfl) rfl dX7_isFound_82 ?_
      refine g_goto C 48 (by decide) dX7_isFound_85 ?_
      refine g_sub [(0, .ref (L.2.1 7 0)), (1, .int L1), (3, .int (L3 + 1))] [1, 2, 0] rfl ?_
      exact hI48 _ _ h
    · replace h := h.2 hc
      refine g_iconst C 0 (by decide) dX7_isFound_80 ?_
      exact g_iret C hr rfl (Nat.le_of_ble_eq_true rfl) (Nat.le_of_ble_eq_true rfl) h dX7_isFound_81
def LX7_isFound_48 (L1 : Int32) (L3 : Int32) (v : gMem) (Q : Int32 → gMem → Prop) (X : String → gMem → Prop) : Prop := ∀ I48 : Int32 → gMem → Prop, (∀ (L3 : Int32) (v : gMem), BX7_isFound_48 I48 L1 L3 v Q X → I48 L3 v) → I48 L3 v
theorem slX7_isFound_48 (C : gC p l s m args meth c cX7_isFound 4 RX7 L sz) (hr : meth.sig.returnType = (some .boolean)) (hno : ∀ x ∈ c.exceptionTable.toList, False) {L1 : Int32} {L3 : Int32} {v : gMem} {Q : Int32 → gMem → Prop} {X : String → gMem → Prop} (h : LX7_isFound_48 L1 L3 v Q X) : gS p l e ({ frames := 3, cells := 0, slots := 0, locals := 72 } : Room) s m args below meth c 4 L sz (vx_MQ below (gQi L sz Q) (gXC L sz X) args s 0 0 (gA L sz)) 0 0 48 [(0, .ref (L.2.1 7 0)), (1, .int L1), (3, .int L3)] [] v := by
  refine h (fun L3 v => gS p l e ({ frames := 3, cells := 0, slots := 0, locals := 72 } : Room) s m args below meth c 4 L sz (vx_MQ below (gQi L sz Q) (gXC L sz X) args s 0 0 (gA L sz)) 0 0 48 [(0, .ref (L.2.1 7 0)), (1, .int L1), (3, .int L3)] [] v) (fun L3 v hb => ?_)
  exact sX7_isFound_48 C hr hno (fun _ _ hs => hs) hb
def TX7_isFound (L1 : Int32) (L2 : Int32) (v : gMem) (Q : Int32 → gMem → Prop) (X : String → gMem → Prop) : Prop := ((L2 = 0 → (vp_in L1 16 ∧ (((v 32 0 (Int32.toNatClampNeg L1)) = 0 → (BX7_isFound_44 v Q X)) ∧ (¬ (v 32 0 (Int32.toNatClampNeg L1)) = 0 → (vp_in L1 16 ∧ (((v 7 0 6) ≤ (v 32 0 (Int32.toNatClampNeg L1)) → (LX7_isFound_48 L1 0 v Q X)) ∧ (¬ (v 7 0 6) ≤ (v 32 0 (Int32.toNatClampNeg L1)) → (BX7_isFound_44 v Q X)))))))) ∧ (¬ L2 = 0 → (vp_in L1 16 ∧ (TX7_isSameSound L1 (v 32 0 (Int32.toNatClampNeg L1)) 16 (v 7 0 6) v (fun r18 v18 => (narrow .boolean (.int r18) = .int r18 ∧ Q r18 v18)) X))))
theorem kX7_isFound (l : Launch) (hfl : l.stackTraces = false) (L : gL) (hL : gDist L) (L1 : Int32) (L2 : Int32) (v : gMem) (Q : Int32 → gMem → Prop) (X : String → gMem → Prop) (h : TX7_isFound L1 L2 v Q X) (sz : Nat) : vx_Met l yX7_isFound [.code yX7_isFound cX7_isFound 4 (some .boolean)] ({ frames := 3, cells := 0, slots := 0, locals := 72 } : Room) (gPc L sz [.ref (L.2.1 7 0), .int L1, .int L2] v) (gQi L sz Q) (gXC L sz X) 0 0 (gA L sz) := by
  refine g_ofW (by decide +kernel) hfl hL (Nat.le_of_ble_eq_true rfl) ?_
  intro p e s m args below meth c C hr hno
  refine g_sub [(0, .ref (L.2.1 7 0)), (1, .int L1), (2, .int L2)] [0, 1, 2] rfl ?_
  unfold TX7_isFound at h
  refine g_iload_n C 2 rfl 2 rfl dX7_isFound_0 ?_
  refine g_if_eq C 22 (by decide) dX7_isFound_1 (fun hc => ?_) (fun hc => ?_)
  · replace h := h.1 hc
    refine g_aload_n C 0 rfl 0 rfl dX7_isFound_22 ?_
    refine fgX7_20 C dX7_isFound_23 ?_
    refine g_iload_n C 1 rfl 1 rfl dX7_isFound_26 ?_
    obtain ⟨hb27, h⟩ := h
    refine g_iald C gok_32 rfl hb27 dX7_isFound_27 ?_
    refine g_if_eq C 44 (by decide) dX7_isFound_28 (fun hc => ?_) (fun hc => ?_)
    · replace h := h.1 hc
      refine g_sub [] [] rfl ?_
      exact sX7_isFound_44 C hr hno h
    · replace h := h.2 hc
      refine g_aload_n C 0 rfl 0 rfl dX7_isFound_31 ?_
      refine fgX7_20 C dX7_isFound_32 ?_
      refine g_iload_n C 1 rfl 1 rfl dX7_isFound_35 ?_
      obtain ⟨hb36, h⟩ := h
      refine g_iald C gok_32 rfl hb36 dX7_isFound_36 ?_
      refine g_aload_n C 0 rfl 0 rfl dX7_isFound_37 ?_
      refine fgX7_177 C dX7_isFound_38 ?_
      refine g_icmp_ge C 46 (by decide) dX7_isFound_41 (fun hc => ?_) (fun hc => ?_)
      · replace h := h.1 hc
        refine g_iconst C 0 (by decide) dX7_isFound_46 ?_
        refine g_istore_n C 3 rfl [(3, .int 0), (0, .ref (L.2.1 7 0)), (1, .int L1), (2, .int L2)] (Nat.le_of_ble_eq_true rfl) rfl dX7_isFound_47 ?_
        refine g_sub [(0, .ref (L.2.1 7 0)), (1, .int L1), (3, .int 0)] [1, 2, 0] rfl ?_
        exact slX7_isFound_48 C hr hno h
      · replace h := h.2 hc
        refine g_sub [] [] rfl ?_
        exact sX7_isFound_44 C hr hno h
  · replace h := h.2 hc
    refine g_aload_n C 0 rfl 0 rfl dX7_isFound_4 ?_
    refine g_iload_n C 1 rfl 1 rfl dX7_isFound_5 ?_
    refine g_aload_n C 0 rfl 0 rfl dX7_isFound_6 ?_
    refine fgX7_20 C dX7_isFound_7 ?_
    refine g_iload_n C 1 rfl 1 rfl dX7_isFound_10 ?_
    obtain ⟨hb11, h⟩ := h
    refine g_iald C gok_32 rfl hb11 dX7_isFound_11 ?_
    refine g_bipush C 16 (by decide) dX7_isFound_12 ?_
    refine g_aload_n C 0 rfl 0 rfl dX7_isFound_14 ?_
    refine fgX7_177 C dX7_isFound_15 ?_
    refine g_callVi C hno gok_7 rfl rfl [.int L1, .int (v 32 0 (Int32.toNatClampNeg L1)), .int 16, .int (v 7 0 6)] (fun sz9 => kX7_isSameSound l C.2.2.2.2.2.2.1 L C.2.2.2.2.2.2.2.1 L1 (v 32 0 (Int32.toNatClampNeg L1)) 16 (v 7 0 6) v _ X h sz9) wml_RX7_104 winst_X7_isSameSound wsel_X7_isSameSound wini_RX7 wcode_X7_isSameSound rfl rfl (n := 4) (by decide +kernel) rfl ⟨(Nat.le_of_ble_eq_true rfl), (Nat.le_of_ble_eq_true rfl)⟩ ⟨(Nat.le_of_ble_eq_true rfl), (Nat.le_of_ble_eq_true rfl)⟩ ⟨(Nat.le_of_ble_eq_true rfl), (Nat.le_of_ble_eq_true rfl)⟩ (Nat.le_of_ble_eq_true rfl) dX7_isFound_18 (fun r18 v18 h => ?_)
    exact g_iret C hr h.1 (Nat.le_of_ble_eq_true rfl) (Nat.le_of_ble_eq_true rfl) h.2 dX7_isFound_21
def BX7_finds_91 (I9 : Int32 → Int32 → gMem → Prop) (L1 : Int32) (L2 : Int32) (L3 : Int32) (L4 : Int32) (v : gMem) (Q : Int32 → gMem → Prop) (X : String → gMem → Prop) : Prop := (I9 L3 (L4 + 1) v)
theorem sX7_finds_91 (C : gC p l s m args meth c cX7_finds 7 RX7 L sz) (hr : meth.sig.returnType = (some .int)) (hno : ∀ x ∈ c.exceptionTable.toList, False) {L1 : Int32} {L2 : Int32} {L3 : Int32} {L4 : Int32} {v : gMem} {Q : Int32 → gMem → Prop} {X : String → gMem → Prop} {I9 : Int32 → Int32 → gMem → Prop} (hI9 : ∀ (L3 : Int32) (L4 : Int32) (v : gMem), I9 L3 L4 v → gS p l e ({ frames := 4, cells := 0, slots := 0, locals := 95 } : Room) s m args below meth c 7 L sz (vx_MQ below (gQi L sz Q) (gXC L sz X) args s 0 0 (gA L sz)) 0 0 9 [(0, .ref (L.2.1 7 0)), (1, .int L1), (2, .int L2), (3, .int L3), (4, .int L4)] [] v) (h : BX7_finds_91 I9 L1 L2 L3 L4 v Q X) : gS p l e ({ frames := 4, cells := 0, slots := 0, locals := 95 } : Room) s m args below meth c 7 L sz (vx_MQ below (gQi L sz Q) (gXC L sz X) args s 0 0 (gA L sz)) 0 0 91 [(0, .ref (L.2.1 7 0)), (1, .int L1), (2, .int L2), (3, .int L3), (4, .int L4)] [] v := by
  unfold BX7_finds_91 at h
  refine g_iinc C (k := 4) (L4 + 1) [(4, .int (L4 + 1)), (0, .ref (L.2.1 7 0)), (1, .int L1), (2, .int L2), (3, .int L3)] rfl rfl (Nat.le_of_ble_eq_true rfl) rfl dX7_finds_91 ?_
  refine g_goto C 9 (by decide) dX7_finds_94 ?_
  refine g_sub [(0, .ref (L.2.1 7 0)), (1, .int L1), (2, .int L2), (3, .int L3), (4, .int (L4 + 1))] [1, 2, 3, 4, 0] rfl ?_
  exact hI9 _ _ _ h
def BX7_finds_63 (I9 : Int32 → Int32 → gMem → Prop) (I25 : Int32 → Int32 → gMem → Prop) (L1 : Int32) (L2 : Int32) (L3 : Int32) (L4 : Int32) (L6 : Int32) (t0 : Int32) (t1 : Int32) (v : gMem) (Q : Int32 → gMem → Prop) (X : String → gMem → Prop) : Prop := (I25 (t0 ||| t1) (L6 + 1) v)
theorem sX7_finds_63 (C : gC p l s m args meth c cX7_finds 7 RX7 L sz) (hr : meth.sig.returnType = (some .int)) (hno : ∀ x ∈ c.exceptionTable.toList, False) {L1 : Int32} {L2 : Int32} {L3 : Int32} {L4 : Int32} {L6 : Int32} {t0 : Int32} {t1 : Int32} {v : gMem} {Q : Int32 → gMem → Prop} {X : String → gMem → Prop} {I9 : Int32 → Int32 → gMem → Prop} (hI9 : ∀ (L3 : Int32) (L4 : Int32) (v : gMem), I9 L3 L4 v → gS p l e ({ frames := 4, cells := 0, slots := 0, locals := 95 } : Room) s m args below meth c 7 L sz (vx_MQ below (gQi L sz Q) (gXC L sz X) args s 0 0 (gA L sz)) 0 0 9 [(0, .ref (L.2.1 7 0)), (1, .int L1), (2, .int L2), (3, .int L3), (4, .int L4)] [] v) {I25 : Int32 → Int32 → gMem → Prop} (hI25 : ∀ (L5 : Int32) (L6 : Int32) (v : gMem), I25 L5 L6 v → gS p l e ({ frames := 4, cells := 0, slots := 0, locals := 95 } : Room) s m args below meth c 7 L sz (vx_MQ below (gQi L sz Q) (gXC L sz X) args s 0 0 (gA L sz)) 0 0 25 [(0, .ref (L.2.1 7 0)), (1, .int L1), (2, .int L2), (3, .int L3), (4, .int L4), (5, .int L5), (6, .int L6)] [] v) (h : BX7_finds_63 I9 I25 L1 L2 L3 L4 L6 t0 t1 v Q X) : gS p l e ({ frames := 4, cells := 0, slots := 0, locals := 95 } : Room) s m args below meth c 7 L sz (vx_MQ below (gQi L sz Q) (gXC L sz X) args s 0 0 (gA L sz)) 0 0 63 [(0, .ref (L.2.1 7 0)), (1, .int L1), (2, .int L2), (3, .int L3), (4, .int L4), (6, .int L6)] [.int t1, .int t0] v := by
  unfold BX7_finds_63 at h
  refine g_ior C dX7_finds_63 ?_
  refine g_istore C [(5, .int (t0 ||| t1)), (0, .ref (L.2.1 7 0)), (1, .int L1), (2, .int L2), (3, .int L3), (4, .int L4), (6, .int L6)] (Nat.le_of_ble_eq_true rfl) rfl dX7_finds_64 ?_
  refine g_iinc C (k := 6) (L6 + 1) [(6, .int (L6 + 1)), (5, .int (t0 ||| t1)), (0, .ref (L.2.1 7 0)), (1, .int L1), (2, .int L2), (3, .int L3), (4, .int L4)] rfl rfl (Nat.le_of_ble_eq_true rfl) rfl dX7_finds_66 ?_
  refine g_goto C 25 (by decide) dX7_finds_69 ?_
  refine g_sub [(0, .ref (L.2.1 7 0)), (1, .int L1), (2, .int L2), (3, .int L3), (4, .int L4), (5, .int (t0 ||| t1)), (6, .int (L6 + 1))] [2, 3, 4, 5, 6, 1, 0] rfl ?_
  exact hI25 _ _ _ h
def BX7_finds_62 (I9 : Int32 → Int32 → gMem → Prop) (I25 : Int32 → Int32 → gMem → Prop) (L1 : Int32) (L2 : Int32) (L3 : Int32) (L4 : Int32) (L6 : Int32) (t0 : Int32) (v : gMem) (Q : Int32 → gMem → Prop) (X : String → gMem → Prop) : Prop := (BX7_finds_63 I9 I25 L1 L2 L3 L4 L6 t0 0 v Q X)
theorem sX7_finds_62 (C : gC p l s m args meth c cX7_finds 7 RX7 L sz) (hr : meth.sig.returnType = (some .int)) (hno : ∀ x ∈ c.exceptionTable.toList, False) {L1 : Int32} {L2 : Int32} {L3 : Int32} {L4 : Int32} {L6 : Int32} {t0 : Int32} {v : gMem} {Q : Int32 → gMem → Prop} {X : String → gMem → Prop} {I9 : Int32 → Int32 → gMem → Prop} (hI9 : ∀ (L3 : Int32) (L4 : Int32) (v : gMem), I9 L3 L4 v → gS p l e ({ frames := 4, cells := 0, slots := 0, locals := 95 } : Room) s m args below meth c 7 L sz (vx_MQ below (gQi L sz Q) (gXC L sz X) args s 0 0 (gA L sz)) 0 0 9 [(0, .ref (L.2.1 7 0)), (1, .int L1), (2, .int L2), (3, .int L3), (4, .int L4)] [] v) {I25 : Int32 → Int32 → gMem → Prop} (hI25 : ∀ (L5 : Int32) (L6 : Int32) (v : gMem), I25 L5 L6 v → gS p l e ({ frames := 4, cells := 0, slots := 0, locals := 95 } : Room) s m args below meth c 7 L sz (vx_MQ below (gQi L sz Q) (gXC L sz X) args s 0 0 (gA L sz)) 0 0 25 [(0, .ref (L.2.1 7 0)), (1, .int L1), (2, .int L2), (3, .int L3), (4, .int L4), (5, .int L5), (6, .int L6)] [] v) (h : BX7_finds_62 I9 I25 L1 L2 L3 L4 L6 t0 v Q X) : gS p l e ({ frames := 4, cells := 0, slots := 0, locals := 95 } : Room) s m args below meth c 7 L sz (vx_MQ below (gQi L sz Q) (gXC L sz X) args s 0 0 (gA L sz)) 0 0 62 [(0, .ref (L.2.1 7 0)), (1, .int L1), (2, .int L2), (3, .int L3), (4, .int L4), (6, .int L6)] [.int t0] v := by
  unfold BX7_finds_62 at h
  refine g_iconst C 0 (by decide) dX7_finds_62 ?_
  exact sX7_finds_63 C hr hno hI9 hI25 h
def BX7_finds_25 (I9 : Int32 → Int32 → gMem → Prop) (I25 : Int32 → Int32 → gMem → Prop) (L1 : Int32) (L2 : Int32) (L3 : Int32) (L4 : Int32) (L5 : Int32) (L6 : Int32) (v : gMem) (Q : Int32 → gMem → Prop) (X : String → gMem → Prop) : Prop := (((v 7 0 2) ≤ L6 → ((¬ L5 = 0 → ((¬ L3 = L2 → (BX7_finds_91 I9 L1 L2 (L3 + 1) L4 v Q X)) ∧ (L3 = L2 → (Q L4 v)))) ∧ (L5 = 0 → (BX7_finds_91 I9 L1 L2 L3 L4 v Q X)))) ∧ (¬ (v 7 0 2) ≤ L6 → (vp_in L6 16 ∧ ((¬ (v 38 0 (Int32.toNatClampNeg L6)) = L4 → (BX7_finds_62 I9 I25 L1 L2 L3 L4 L6 L5 v Q X)) ∧ ((v 38 0 (Int32.toNatClampNeg L6)) = L4 → (TX7_isFound L6 L1 v (fun r52 v52 => ((r52 = 0 → (BX7_finds_62 I9 I25 L1 L2 L3 L4 L6 L5 v52 Q X)) ∧ (¬ r52 = 0 → (BX7_finds_63 I9 I25 L1 L2 L3 L4 L6 L5 1 v52 Q X)))) X))))))
theorem sX7_finds_25 (C : gC p l s m args meth c cX7_finds 7 RX7 L sz) (hr : meth.sig.returnType = (some .int)) (hno : ∀ x ∈ c.exceptionTable.toList, False) {L1 : Int32} {L2 : Int32} {L3 : Int32} {L4 : Int32} {L5 : Int32} {L6 : Int32} {v : gMem} {Q : Int32 → gMem → Prop} {X : String → gMem → Prop} {I9 : Int32 → Int32 → gMem → Prop} (hI9 : ∀ (L3 : Int32) (L4 : Int32) (v : gMem), I9 L3 L4 v → gS p l e ({ frames := 4, cells := 0, slots := 0, locals := 95 } : Room) s m args below meth c 7 L sz (vx_MQ below (gQi L sz Q) (gXC L sz X) args s 0 0 (gA L sz)) 0 0 9 [(0, .ref (L.2.1 7 0)), (1, .int L1), (2, .int L2), (3, .int L3), (4, .int L4)] [] v) {I25 : Int32 → Int32 → gMem → Prop} (hI25 : ∀ (L5 : Int32) (L6 : Int32) (v : gMem), I25 L5 L6 v → gS p l e ({ frames := 4, cells := 0, slots := 0, locals := 95 } : Room) s m args below meth c 7 L sz (vx_MQ below (gQi L sz Q) (gXC L sz X) args s 0 0 (gA L sz)) 0 0 25 [(0, .ref (L.2.1 7 0)), (1, .int L1), (2, .int L2), (3, .int L3), (4, .int L4), (5, .int L5), (6, .int L6)] [] v) (h : BX7_finds_25 I9 I25 L1 L2 L3 L4 L5 L6 v Q X) : gS p l e ({ frames := 4, cells := 0, slots := 0, locals := 95 } : Room) s m args below meth c 7 L sz (vx_MQ below (gQi L sz Q) (gXC L sz X) args s 0 0 (gA L sz)) 0 0 25 [(0, .ref (L.2.1 7 0)), (1, .int L1), (2, .int L2), (3, .int L3), (4, .int L4), (5, .int L5), (6, .int L6)] [] v := by
  unfold BX7_finds_25 at h
  refine g_iload C 6 rfl dX7_finds_25 ?_
  refine g_aload_n C 0 rfl 0 rfl dX7_finds_27 ?_
  refine fgX7_67 C dX7_finds_28 ?_
  refine g_icmp_ge C 72 (by decide) dX7_finds_31 (fun hc => ?_) (fun hc => ?_)
  · replace h := h.1 hc
    refine g_iload C 5 rfl dX7_finds_72 ?_
    refine g_if_ne C 80 (by decide) dX7_finds_74 (fun hc => ?_) (fun hc => ?_)
    · replace h := h.1 hc
      refine g_iload_n C 3 rfl 3 rfl dX7_finds_80 ?_
      refine g_iload_n C 2 rfl 2 rfl dX7_finds_81 ?_
      refine g_icmp_ne C 88 (by decide) dX7_finds_82 (fun hc => ?_) (fun hc => ?_)
      · replace h := h.1 hc
        refine g_iinc C (k := 3) (L3 + 1) [(3, .int (L3 + 1)), (0, .ref (L.2.1 7 0)), (1, .int L1), (2, .int L2), (4, .int L4), (5, .int L5), (6, .int L6)] rfl rfl (Nat.le_of_ble_eq_true rfl) rfl dX7_finds_88 ?_
        refine g_sub [(0, .ref (L.2.1 7 0)), (1, .int L1), (2, .int L2), (3, .int (L3 + 1)), (4, .int L4)] [1, 2, 3, 0, 4] rfl ?_
        exact sX7_finds_91 C hr hno hI9 h
      · replace h := h.2 hc
        refine g_iload C 4 rfl dX7_finds_85 ?_
        exact g_iret C hr rfl (Nat.le_of_ble_eq_true rfl) (Nat.le_of_ble_eq_true rfl) h dX7_finds_87
    · replace h := h.2 hc
      refine g_goto C 91 (by decide) dX7_finds_77 ?_
      refine g_sub [(0, .ref (L.2.1 7 0)), (1, .int L1), (2, .int L2), (3, .int L3), (4, .int L4)] [0, 1, 2, 3, 4] rfl ?_
      exact sX7_finds_91 C hr hno hI9 h
  · replace h := h.2 hc
    refine g_iload C 5 rfl dX7_finds_34 ?_
    refine g_aload_n C 0 rfl 0 rfl dX7_finds_36 ?_
    refine fgX7_38 C dX7_finds_37 ?_
    refine g_iload C 6 rfl dX7_finds_40 ?_
    obtain ⟨hb42, h⟩ := h
    refine g_iald C gok_38 rfl hb42 dX7_finds_42 ?_
    refine g_iload C 4 rfl dX7_finds_43 ?_
    refine g_icmp_ne C 62 (by decide) dX7_finds_45 (fun hc => ?_) (fun hc => ?_)
    · replace h := h.1 hc
      refine g_sub [(0, .ref (L.2.1 7 0)), (1, .int L1), (2, .int L2), (3, .int L3), (4, .int L4), (6, .int L6)] [0, 1, 2, 3, 4, 6] rfl ?_
      exact sX7_finds_62 C hr hno hI9 hI25 h
    · replace h := h.2 hc
      refine g_aload_n C 0 rfl 0 rfl dX7_finds_48 ?_
      refine g_iload C 6 rfl dX7_finds_49 ?_
      refine g_iload_n C 1 rfl 1 rfl dX7_finds_51 ?_
      refine g_callVi C hno gok_7 rfl rfl [.int L6, .int L1] (fun sz9 => kX7_isFound l C.2.2.2.2.2.2.1 L C.2.2.2.2.2.2.2.1 L6 L1 v _ X h sz9) wml_RX7_180 winst_X7_isFound wsel_X7_isFound wini_RX7 wcode_X7_isFound rfl rfl (n := 2) (by decide +kernel) rfl ⟨(Nat.le_of_ble_eq_true rfl), (Nat.le_of_ble_eq_true rfl)⟩ ⟨(Nat.le_of_ble_eq_true rfl), (Nat.le_of_ble_eq_true rfl)⟩ ⟨(Nat.le_of_ble_eq_true rfl), (Nat.le_of_ble_eq_true rfl)⟩ (Nat.le_of_ble_eq_true rfl) dX7_finds_52 (fun r52 v52 h => ?_)
      refine g_if_eq C 62 (by decide) dX7_finds_55 (fun hc => ?_) (fun hc => ?_)
      · replace h := h.1 hc
        refine g_sub [(0, .ref (L.2.1 7 0)), (1, .int L1), (2, .int L2), (3, .int L3), (4, .int L4), (6, .int L6)] [0, 1, 2, 3, 4, 6] rfl ?_
        exact sX7_finds_62 C hr hno hI9 hI25 h
      · replace h := h.2 hc
        refine g_iconst C 1 (by decide) dX7_finds_58 ?_
        refine g_goto C 63 (by decide) dX7_finds_59 ?_
        refine g_sub [(0, .ref (L.2.1 7 0)), (1, .int L1), (2, .int L2), (3, .int L3), (4, .int L4), (6, .int L6)] [0, 1, 2, 3, 4, 6] rfl ?_
        exact sX7_finds_63 C hr hno hI9 hI25 h
def LX7_finds_25 (I9 : Int32 → Int32 → gMem → Prop) (L1 : Int32) (L2 : Int32) (L3 : Int32) (L4 : Int32) (L5 : Int32) (L6 : Int32) (v : gMem) (Q : Int32 → gMem → Prop) (X : String → gMem → Prop) : Prop := ∀ I25 : Int32 → Int32 → gMem → Prop, (∀ (L5 : Int32) (L6 : Int32) (v : gMem), BX7_finds_25 I9 I25 L1 L2 L3 L4 L5 L6 v Q X → I25 L5 L6 v) → I25 L5 L6 v
theorem slX7_finds_25 (C : gC p l s m args meth c cX7_finds 7 RX7 L sz) (hr : meth.sig.returnType = (some .int)) (hno : ∀ x ∈ c.exceptionTable.toList, False) {L1 : Int32} {L2 : Int32} {L3 : Int32} {L4 : Int32} {L5 : Int32} {L6 : Int32} {v : gMem} {Q : Int32 → gMem → Prop} {X : String → gMem → Prop} {I9 : Int32 → Int32 → gMem → Prop} (hI9 : ∀ (L3 : Int32) (L4 : Int32) (v : gMem), I9 L3 L4 v → gS p l e ({ frames := 4, cells := 0, slots := 0, locals := 95 } : Room) s m args below meth c 7 L sz (vx_MQ below (gQi L sz Q) (gXC L sz X) args s 0 0 (gA L sz)) 0 0 9 [(0, .ref (L.2.1 7 0)), (1, .int L1), (2, .int L2), (3, .int L3), (4, .int L4)] [] v) (h : LX7_finds_25 I9 L1 L2 L3 L4 L5 L6 v Q X) : gS p l e ({ frames := 4, cells := 0, slots := 0, locals := 95 } : Room) s m args below meth c 7 L sz (vx_MQ below (gQi L sz Q) (gXC L sz X) args s 0 0 (gA L sz)) 0 0 25 [(0, .ref (L.2.1 7 0)), (1, .int L1), (2, .int L2), (3, .int L3), (4, .int L4), (5, .int L5), (6, .int L6)] [] v := by
  refine h (fun L5 L6 v => gS p l e ({ frames := 4, cells := 0, slots := 0, locals := 95 } : Room) s m args below meth c 7 L sz (vx_MQ below (gQi L sz Q) (gXC L sz X) args s 0 0 (gA L sz)) 0 0 25 [(0, .ref (L.2.1 7 0)), (1, .int L1), (2, .int L2), (3, .int L3), (4, .int L4), (5, .int L5), (6, .int L6)] [] v) (fun L5 L6 v hb => ?_)
  exact sX7_finds_25 C hr hno hI9 (fun _ _ _ hs => hs) hb
def BX7_finds_9 (I9 : Int32 → Int32 → gMem → Prop) (L1 : Int32) (L2 : Int32) (L3 : Int32) (L4 : Int32) (v : gMem) (Q : Int32 → gMem → Prop) (X : String → gMem → Prop) : Prop := (((v 7 0 2) ≤ L4 → (Q ((-1) - L3) v)) ∧ (¬ (v 7 0 2) ≤ L4 → (LX7_finds_25 I9 L1 L2 L3 L4 0 L4 v Q X)))
theorem sX7_finds_9 (C : gC p l s m args meth c cX7_finds 7 RX7 L sz) (hr : meth.sig.returnType = (some .int)) (hno : ∀ x ∈ c.exceptionTable.toList, False) {L1 : Int32} {L2 : Int32} {L3 : Int32} {L4 : Int32} {v : gMem} {Q : Int32 → gMem → Prop} {X : String → gMem → Prop} {I9 : Int32 → Int32 → gMem → Prop} (hI9 : ∀ (L3 : Int32) (L4 : Int32) (v : gMem), I9 L3 L4 v → gS p l e ({ frames := 4, cells := 0, slots := 0, locals := 95 } : Room) s m args below meth c 7 L sz (vx_MQ below (gQi L sz Q) (gXC L sz X) args s 0 0 (gA L sz)) 0 0 9 [(0, .ref (L.2.1 7 0)), (1, .int L1), (2, .int L2), (3, .int L3), (4, .int L4)] [] v) (h : BX7_finds_9 I9 L1 L2 L3 L4 v Q X) : gS p l e ({ frames := 4, cells := 0, slots := 0, locals := 95 } : Room) s m args below meth c 7 L sz (vx_MQ below (gQi L sz Q) (gXC L sz X) args s 0 0 (gA L sz)) 0 0 9 [(0, .ref (L.2.1 7 0)), (1, .int L1), (2, .int L2), (3, .int L3), (4, .int L4)] [] v := by
  unfold BX7_finds_9 at h
  refine g_iload C 4 rfl dX7_finds_9 ?_
  refine g_aload_n C 0 rfl 0 rfl dX7_finds_11 ?_
  refine fgX7_67 C dX7_finds_12 ?_
  refine g_icmp_ge C 97 (by decide) dX7_finds_15 (fun hc => ?_) (fun hc => ?_)
  · replace h := h.1 hc
    refine g_iconst C (-1) (by decide) dX7_finds_97 ?_
    refine g_iload_n C 3 rfl 3 rfl dX7_finds_98 ?_
    refine g_isub C dX7_finds_99 ?_
    exact g_iret C hr rfl (Nat.le_of_ble_eq_true rfl) (Nat.le_of_ble_eq_true rfl) h dX7_finds_100
  · replace h := h.2 hc
    refine g_iconst C 0 (by decide) dX7_finds_18 ?_
    refine g_istore C [(5, .int 0), (0, .ref (L.2.1 7 0)), (1, .int L1), (2, .int L2), (3, .int L3), (4, .int L4)] (Nat.le_of_ble_eq_true rfl) rfl dX7_finds_19 ?_
    refine g_iload C 5 rfl dX7_finds_21 ?_
    refine g_istore C [(6, .int L4), (5, .int 0), (0, .ref (L.2.1 7 0)), (1, .int L1), (2, .int L2), (3, .int L3), (4, .int L4)] (Nat.le_of_ble_eq_true rfl) rfl dX7_finds_23 ?_
    refine g_sub [(0, .ref (L.2.1 7 0)), (1, .int L1), (2, .int L2), (3, .int L3), (4, .int L4), (5, .int 0), (6, .int L4)] [2, 3, 4, 5, 6, 1, 0] rfl ?_
    exact slX7_finds_25 C hr hno hI9 h
def LX7_finds_9 (L1 : Int32) (L2 : Int32) (L3 : Int32) (L4 : Int32) (v : gMem) (Q : Int32 → gMem → Prop) (X : String → gMem → Prop) : Prop := ∀ I9 : Int32 → Int32 → gMem → Prop, (∀ (L3 : Int32) (L4 : Int32) (v : gMem), BX7_finds_9 I9 L1 L2 L3 L4 v Q X → I9 L3 L4 v) → I9 L3 L4 v
theorem slX7_finds_9 (C : gC p l s m args meth c cX7_finds 7 RX7 L sz) (hr : meth.sig.returnType = (some .int)) (hno : ∀ x ∈ c.exceptionTable.toList, False) {L1 : Int32} {L2 : Int32} {L3 : Int32} {L4 : Int32} {v : gMem} {Q : Int32 → gMem → Prop} {X : String → gMem → Prop} (h : LX7_finds_9 L1 L2 L3 L4 v Q X) : gS p l e ({ frames := 4, cells := 0, slots := 0, locals := 95 } : Room) s m args below meth c 7 L sz (vx_MQ below (gQi L sz Q) (gXC L sz X) args s 0 0 (gA L sz)) 0 0 9 [(0, .ref (L.2.1 7 0)), (1, .int L1), (2, .int L2), (3, .int L3), (4, .int L4)] [] v := by
  refine h (fun L3 L4 v => gS p l e ({ frames := 4, cells := 0, slots := 0, locals := 95 } : Room) s m args below meth c 7 L sz (vx_MQ below (gQi L sz Q) (gXC L sz X) args s 0 0 (gA L sz)) 0 0 9 [(0, .ref (L.2.1 7 0)), (1, .int L1), (2, .int L2), (3, .int L3), (4, .int L4)] [] v) (fun L3 L4 v hb => ?_)
  exact sX7_finds_9 C hr hno (fun _ _ _ hs => hs) hb
def TX7_finds (L1 : Int32) (L2 : Int32) (v : gMem) (Q : Int32 → gMem → Prop) (X : String → gMem → Prop) : Prop := (TX7_gather v (fun v1 => (LX7_finds_9 L1 L2 0 0 v1 Q X)) X)
theorem kX7_finds (l : Launch) (hfl : l.stackTraces = false) (L : gL) (hL : gDist L) (L1 : Int32) (L2 : Int32) (v : gMem) (Q : Int32 → gMem → Prop) (X : String → gMem → Prop) (h : TX7_finds L1 L2 v Q X) (sz : Nat) : vx_Met l yX7_finds [.code yX7_finds cX7_finds 7 (some .int)] ({ frames := 4, cells := 0, slots := 0, locals := 95 } : Room) (gPc L sz [.ref (L.2.1 7 0), .int L1, .int L2] v) (gQi L sz Q) (gXC L sz X) 0 0 (gA L sz) := by
  refine g_ofW (by decide +kernel) hfl hL (Nat.le_of_ble_eq_true rfl) ?_
  intro p e s m args below meth c C hr hno
  refine g_sub [(0, .ref (L.2.1 7 0)), (1, .int L1), (2, .int L2)] [0, 1, 2] rfl ?_
  unfold TX7_finds at h
  refine g_aload_n C 0 rfl 0 rfl dX7_finds_0 ?_
  refine g_callVv C hno gok_7 rfl rfl [] (fun sz9 => kX7_gather l C.2.2.2.2.2.2.1 L C.2.2.2.2.2.2.2.1 v _ X h sz9) wml_RX7_130 winst_X7_gather wsel_X7_gather wini_RX7 wcode_X7_gather rfl rfl (n := 0) (by decide +kernel) rfl ⟨(Nat.le_of_ble_eq_true rfl), (Nat.le_of_ble_eq_true rfl)⟩ ⟨(Nat.le_of_ble_eq_true rfl), (Nat.le_of_ble_eq_true rfl)⟩ ⟨(Nat.le_of_ble_eq_true rfl), (Nat.le_of_ble_eq_true rfl)⟩ (Nat.le_of_ble_eq_true rfl) dX7_finds_1 (fun v1 h => ?_)
  refine g_iconst C 0 (by decide) dX7_finds_4 ?_
  refine g_istore_n C 3 rfl [(3, .int 0), (0, .ref (L.2.1 7 0)), (1, .int L1), (2, .int L2)] (Nat.le_of_ble_eq_true rfl) rfl dX7_finds_5 ?_
  refine g_iconst C 0 (by decide) dX7_finds_6 ?_
  refine g_istore C [(4, .int 0), (3, .int 0), (0, .ref (L.2.1 7 0)), (1, .int L1), (2, .int L2)] (Nat.le_of_ble_eq_true rfl) rfl dX7_finds_7 ?_
  refine g_sub [(0, .ref (L.2.1 7 0)), (1, .int L1), (2, .int L2), (3, .int 0), (4, .int 0)] [2, 3, 4, 1, 0] rfl ?_
  exact slX7_finds_9 C hr hno h
def TX7_found (L1 : Int32) (v : gMem) (Q : Int32 → gMem → Prop) (X : String → gMem → Prop) : Prop := (TX7_finds L1 (-1) v (fun r4 v4 => (Q ((-1) - r4) v4)) X)
theorem kX7_found (l : Launch) (hfl : l.stackTraces = false) (L : gL) (hL : gDist L) (L1 : Int32) (v : gMem) (Q : Int32 → gMem → Prop) (X : String → gMem → Prop) (h : TX7_found L1 v Q X) (sz : Nat) : vx_Met l yX7_found [.code yX7_found cX7_found 2 (some .int)] ({ frames := 5, cells := 0, slots := 0, locals := 121 } : Room) (gPc L sz [.ref (L.2.1 7 0), .int L1] v) (gQi L sz Q) (gXC L sz X) 0 0 (gA L sz) := by
  refine g_ofW (by decide +kernel) hfl hL (Nat.le_of_ble_eq_true rfl) ?_
  intro p e s m args below meth c C hr hno
  refine g_sub [(0, .ref (L.2.1 7 0)), (1, .int L1)] [0, 1] rfl ?_
  unfold TX7_found at h
  refine g_iconst C (-1) (by decide) dX7_found_0 ?_
  refine g_aload_n C 0 rfl 0 rfl dX7_found_1 ?_
  refine g_iload_n C 1 rfl 1 rfl dX7_found_2 ?_
  refine g_iconst C (-1) (by decide) dX7_found_3 ?_
  refine g_callVi C hno gok_7 rfl rfl [.int L1, .int (-1)] (fun sz9 => kX7_finds l C.2.2.2.2.2.2.1 L C.2.2.2.2.2.2.2.1 L1 (-1) v _ X h sz9) wml_RX7_184 winst_X7_finds wsel_X7_finds wini_RX7 wcode_X7_finds rfl rfl (n := 2) (by decide +kernel) rfl ⟨(Nat.le_of_ble_eq_true rfl), (Nat.le_of_ble_eq_true rfl)⟩ ⟨(Nat.le_of_ble_eq_true rfl), (Nat.le_of_ble_eq_true rfl)⟩ ⟨(Nat.le_of_ble_eq_true rfl), (Nat.le_of_ble_eq_true rfl)⟩ (Nat.le_of_ble_eq_true rfl) dX7_found_4 (fun r4 v4 h => ?_)
  refine g_isub C dX7_found_7 ?_
  exact g_iret C hr rfl (Nat.le_of_ble_eq_true rfl) (Nat.le_of_ble_eq_true rfl) h dX7_found_8
def TX7_foundAt (L1 : Int32) (L2 : Int32) (v : gMem) (Q : Int32 → gMem → Prop) (X : String → gMem → Prop) : Prop := (TX7_finds L1 L2 v (fun r3 v3 => ((0 ≤ r3 → (Q r3 (gw v3 7 0 0 0))) ∧ (¬ 0 ≤ r3 → (TX7_fail 1 v3 (fun r13 v13 => (Q r13 v13)) X)))) X)
theorem kX7_foundAt (l : Launch) (hfl : l.stackTraces = false) (L : gL) (hL : gDist L) (L1 : Int32) (L2 : Int32) (v : gMem) (Q : Int32 → gMem → Prop) (X : String → gMem → Prop) (h : TX7_foundAt L1 L2 v Q X) (sz : Nat) : vx_Met l yX7_foundAt [.code yX7_foundAt cX7_foundAt 4 (some .int)] ({ frames := 5, cells := 0, slots := 0, locals := 121 } : Room) (gPc L sz [.ref (L.2.1 7 0), .int L1, .int L2] v) (gQi L sz Q) (gXC L sz X) 0 0 (gA L sz) := by
  refine g_ofW (by decide +kernel) hfl hL (Nat.le_of_ble_eq_true rfl) ?_
  intro p e s m args below meth c C hr hno
  refine g_sub [(0, .ref (L.2.1 7 0)), (1, .int L1), (2, .int L2)] [0, 1, 2] rfl ?_
  unfold TX7_foundAt at h
  refine g_aload_n C 0 rfl 0 rfl dX7_foundAt_0 ?_
  refine g_iload_n C 1 rfl 1 rfl dX7_foundAt_1 ?_
  refine g_iload_n C 2 rfl 2 rfl dX7_foundAt_2 ?_
  refine g_callVi C hno gok_7 rfl rfl [.int L1, .int L2] (fun sz9 => kX7_finds l C.2.2.2.2.2.2.1 L C.2.2.2.2.2.2.2.1 L1 L2 v _ X h sz9) wml_RX7_184 winst_X7_finds wsel_X7_finds wini_RX7 wcode_X7_finds rfl rfl (n := 2) (by decide +kernel) rfl ⟨(Nat.le_of_ble_eq_true rfl), (Nat.le_of_ble_eq_true rfl)⟩ ⟨(Nat.le_of_ble_eq_true rfl), (Nat.le_of_ble_eq_true rfl)⟩ ⟨(Nat.le_of_ble_eq_true rfl), (Nat.le_of_ble_eq_true rfl)⟩ (Nat.le_of_ble_eq_true rfl) dX7_foundAt_3 (fun r3 v3 h => ?_)
  refine g_istore_n C 3 rfl [(3, .int r3), (0, .ref (L.2.1 7 0)), (1, .int L1), (2, .int L2)] (Nat.le_of_ble_eq_true rfl) rfl dX7_foundAt_6 ?_
  refine g_iload_n C 3 rfl 0 rfl dX7_foundAt_7 ?_
  refine g_if_ge C 17 (by decide) dX7_foundAt_8 (fun hc => ?_) (fun hc => ?_)
  · replace h := h.1 hc
    refine g_aload_n C 0 rfl 1 rfl dX7_foundAt_17 ?_
    refine g_iconst C 0 (by decide) dX7_foundAt_18 ?_
    refine fpX7_64 C dX7_foundAt_19 ?_
    refine g_iload_n C 3 rfl 0 rfl dX7_foundAt_22 ?_
    exact g_iret C hr rfl (Nat.le_of_ble_eq_true rfl) (Nat.le_of_ble_eq_true rfl) h dX7_foundAt_23
  · replace h := h.2 hc
    refine g_aload_n C 0 rfl 1 rfl dX7_foundAt_11 ?_
    refine g_iconst C 1 (by decide) dX7_foundAt_12 ?_
    refine g_callVi C hno gok_7 rfl rfl [.int 1] (fun sz9 => kX7_fail l C.2.2.2.2.2.2.1 L C.2.2.2.2.2.2.2.1 1 v3 _ X h sz9) wml_RX7_78 winst_X7_fail wsel_X7_fail wini_RX7 wcode_X7_fail rfl rfl (n := 1) (by decide +kernel) rfl ⟨(Nat.le_of_ble_eq_true rfl), (Nat.le_of_ble_eq_true rfl)⟩ ⟨(Nat.le_of_ble_eq_true rfl), (Nat.le_of_ble_eq_true rfl)⟩ ⟨(Nat.le_of_ble_eq_true rfl), (Nat.le_of_ble_eq_true rfl)⟩ (Nat.le_of_ble_eq_true rfl) dX7_foundAt_13 (fun r13 v13 h => ?_)
    exact g_iret C hr rfl (Nat.le_of_ble_eq_true rfl) (Nat.le_of_ble_eq_true rfl) h dX7_foundAt_16
def BX7_mergedShare_61 (I33 : Int32 → Int32 → gMem → Prop) (L2 : Int32) (t0 : Int32) (t1 : Int32) (v : gMem) (Q : UInt32 → gMem → Prop) (X : String → gMem → Prop) : Prop := (I33 (t0 + t1) (L2 + 1) v)
theorem sX7_mergedShare_61 (C : gC p l s m args meth c cX7_mergedShare 3 RX7 L sz) (hr : meth.sig.returnType = (some .float)) (hno : ∀ x ∈ c.exceptionTable.toList, False) {L2 : Int32} {t0 : Int32} {t1 : Int32} {v : gMem} {Q : UInt32 → gMem → Prop} {X : String → gMem → Prop} {I33 : Int32 → Int32 → gMem → Prop} (hI33 : ∀ (L1 : Int32) (L2 : Int32) (v : gMem), I33 L1 L2 v → gS p l e ({ frames := 1, cells := 0, slots := 0, locals := 23 } : Room) s m args below meth c 3 L sz (vx_MQ below (gQf L sz Q) (gXC L sz X) args s 0 0 (gA L sz)) 0 0 33 [(0, .ref (L.2.1 7 0)), (1, .int L1), (2, .int L2)] [] v) (h : BX7_mergedShare_61 I33 L2 t0 t1 v Q X) : gS p l e ({ frames := 1, cells := 0, slots := 0, locals := 23 } : Room) s m args below meth c 3 L sz (vx_MQ below (gQf L sz Q) (gXC L sz X) args s 0 0 (gA L sz)) 0 0 61 [(0, .ref (L.2.1 7 0)), (2, .int L2)] [.int t1, .int t0] v := by
  unfold BX7_mergedShare_61 at h
  refine g_iadd C dX7_mergedShare_61 ?_
  refine g_istore_n C 1 rfl [(1, .int (t0 + t1)), (0, .ref (L.2.1 7 0)), (2, .int L2)] (Nat.le_of_ble_eq_true rfl) rfl dX7_mergedShare_62 ?_
  refine g_iinc C (k := 2) (L2 + 1) [(2, .int (L2 + 1)), (1, .int (t0 + t1)), (0, .ref (L.2.1 7 0))] rfl rfl (Nat.le_of_ble_eq_true rfl) rfl dX7_mergedShare_63 ?_
  refine g_goto C 33 (by decide) dX7_mergedShare_66 ?_
  refine g_sub [(0, .ref (L.2.1 7 0)), (1, .int (t0 + t1)), (2, .int (L2 + 1))] [2, 1, 0] rfl ?_
  exact hI33 _ _ _ h
def BX7_mergedShare_33 (I33 : Int32 → Int32 → gMem → Prop) (L1 : Int32) (L2 : Int32) (v : gMem) (Q : UInt32 → gMem → Prop) (X : String → gMem → Prop) : Prop := (((v 7 0 2) ≤ L2 → (vf_n32 (FP.fdiv (FP.i2f L1) (FP.i2f (v 7 0 2))) ∧ (Q (FP.fdiv (FP.i2f L1) (FP.i2f (v 7 0 2))) v))) ∧ (¬ (v 7 0 2) ≤ L2 → (vp_in L2 16 ∧ (TX7_sizeOf (v 38 0 (Int32.toNatClampNeg L2)) v (fun r49 v49 => ((r49 ≤ 1 → (BX7_mergedShare_61 I33 L2 L1 0 v49 Q X)) ∧ (¬ r49 ≤ 1 → (BX7_mergedShare_61 I33 L2 L1 1 v49 Q X)))) X))))
theorem sX7_mergedShare_33 (C : gC p l s m args meth c cX7_mergedShare 3 RX7 L sz) (hr : meth.sig.returnType = (some .float)) (hno : ∀ x ∈ c.exceptionTable.toList, False) {L1 : Int32} {L2 : Int32} {v : gMem} {Q : UInt32 → gMem → Prop} {X : String → gMem → Prop} {I33 : Int32 → Int32 → gMem → Prop} (hI33 : ∀ (L1 : Int32) (L2 : Int32) (v : gMem), I33 L1 L2 v → gS p l e ({ frames := 1, cells := 0, slots := 0, locals := 23 } : Room) s m args below meth c 3 L sz (vx_MQ below (gQf L sz Q) (gXC L sz X) args s 0 0 (gA L sz)) 0 0 33 [(0, .ref (L.2.1 7 0)), (1, .int L1), (2, .int L2)] [] v) (h : BX7_mergedShare_33 I33 L1 L2 v Q X) : gS p l e ({ frames := 1, cells := 0, slots := 0, locals := 23 } : Room) s m args below meth c 3 L sz (vx_MQ below (gQf L sz Q) (gXC L sz X) args s 0 0 (gA L sz)) 0 0 33 [(0, .ref (L.2.1 7 0)), (1, .int L1), (2, .int L2)] [] v := by
  unfold BX7_mergedShare_33 at h
  refine g_iload_n C 2 rfl 2 rfl dX7_mergedShare_33 ?_
  refine g_aload_n C 0 rfl 0 rfl dX7_mergedShare_34 ?_
  refine fgX7_67 C dX7_mergedShare_35 ?_
  refine g_icmp_ge C 69 (by decide) dX7_mergedShare_38 (fun hc => ?_) (fun hc => ?_)
  · replace h := h.1 hc
    refine g_iload_n C 1 rfl 1 rfl dX7_mergedShare_69 ?_
    refine g_i2f C dX7_mergedShare_70 ?_
    refine g_aload_n C 0 rfl 0 rfl dX7_mergedShare_71 ?_
    refine fgX7_67 C dX7_mergedShare_72 ?_
    refine g_i2f C dX7_mergedShare_75 ?_
    obtain ⟨hb76, h⟩ := h
    refine g_fdiv C hb76 dX7_mergedShare_76 ?_
    exact g_fret C hr (Nat.le_of_ble_eq_true rfl) (Nat.le_of_ble_eq_true rfl) h dX7_mergedShare_77
  · replace h := h.2 hc
    refine g_iload_n C 1 rfl 1 rfl dX7_mergedShare_41 ?_
    refine g_aload_n C 0 rfl 0 rfl dX7_mergedShare_42 ?_
    refine g_aload_n C 0 rfl 0 rfl dX7_mergedShare_43 ?_
    refine fgX7_38 C dX7_mergedShare_44 ?_
    refine g_iload_n C 2 rfl 2 rfl dX7_mergedShare_47 ?_
    obtain ⟨hb48, h⟩ := h
    refine g_iald C gok_38 rfl hb48 dX7_mergedShare_48 ?_
    refine g_callVi C hno gok_7 rfl rfl [.int (v 38 0 (Int32.toNatClampNeg L2))] (fun sz9 => kX7_sizeOf l C.2.2.2.2.2.2.1 L C.2.2.2.2.2.2.2.1 (v 38 0 (Int32.toNatClampNeg L2)) v _ X h sz9) wml_RX7_162 winst_X7_sizeOf wsel_X7_sizeOf wini_RX7 wcode_X7_sizeOf rfl rfl (n := 1) (by decide +kernel) rfl ⟨(Nat.le_of_ble_eq_true rfl), (Nat.le_of_ble_eq_true rfl)⟩ ⟨(Nat.le_of_ble_eq_true rfl), (Nat.le_of_ble_eq_true rfl)⟩ ⟨(Nat.le_of_ble_eq_true rfl), (Nat.le_of_ble_eq_true rfl)⟩ (Nat.le_of_ble_eq_true rfl) dX7_mergedShare_49 (fun r49 v49 h => ?_)
    refine g_iconst C 1 (by decide) dX7_mergedShare_52 ?_
    refine g_icmp_le C 60 (by decide) dX7_mergedShare_53 (fun hc => ?_) (fun hc => ?_)
    · replace h := h.1 hc
      refine g_iconst C 0 (by decide) dX7_mergedShare_60 ?_
      refine g_sub [(0, .ref (L.2.1 7 0)), (2, .int L2)] [0, 2] rfl ?_
      exact sX7_mergedShare_61 C hr hno hI33 h
    · replace h := h.2 hc
      refine g_iconst C 1 (by decide) dX7_mergedShare_56 ?_
      refine g_goto C 61 (by decide) dX7_mergedShare_57 ?_
      refine g_sub [(0, .ref (L.2.1 7 0)), (2, .int L2)] [0, 2] rfl ?_
      exact sX7_mergedShare_61 C hr hno hI33 h
def LX7_mergedShare_33 (L1 : Int32) (L2 : Int32) (v : gMem) (Q : UInt32 → gMem → Prop) (X : String → gMem → Prop) : Prop := ∀ I33 : Int32 → Int32 → gMem → Prop, (∀ (L1 : Int32) (L2 : Int32) (v : gMem), BX7_mergedShare_33 I33 L1 L2 v Q X → I33 L1 L2 v) → I33 L1 L2 v
theorem slX7_mergedShare_33 (C : gC p l s m args meth c cX7_mergedShare 3 RX7 L sz) (hr : meth.sig.returnType = (some .float)) (hno : ∀ x ∈ c.exceptionTable.toList, False) {L1 : Int32} {L2 : Int32} {v : gMem} {Q : UInt32 → gMem → Prop} {X : String → gMem → Prop} (h : LX7_mergedShare_33 L1 L2 v Q X) : gS p l e ({ frames := 1, cells := 0, slots := 0, locals := 23 } : Room) s m args below meth c 3 L sz (vx_MQ below (gQf L sz Q) (gXC L sz X) args s 0 0 (gA L sz)) 0 0 33 [(0, .ref (L.2.1 7 0)), (1, .int L1), (2, .int L2)] [] v := by
  refine h (fun L1 L2 v => gS p l e ({ frames := 1, cells := 0, slots := 0, locals := 23 } : Room) s m args below meth c 3 L sz (vx_MQ below (gQf L sz Q) (gXC L sz X) args s 0 0 (gA L sz)) 0 0 33 [(0, .ref (L.2.1 7 0)), (1, .int L1), (2, .int L2)] [] v) (fun L1 L2 v hb => ?_)
  exact sX7_mergedShare_33 C hr hno (fun _ _ _ hs => hs) hb
def BX7_mergedShare_13 (t1 : Int32) (v : gMem) (Q : UInt32 → gMem → Prop) (X : String → gMem → Prop) : Prop := ((¬ ((gw v 7 0 0 t1) 7 0 2) = 0 → (TX7_gather (gw v 7 0 0 t1) (fun v26 => (LX7_mergedShare_33 0 0 v26 Q X)) X)) ∧ (((gw v 7 0 0 t1) 7 0 2) = 0 → (Q FP.fconst0 (gw v 7 0 0 t1))))
theorem sX7_mergedShare_13 (C : gC p l s m args meth c cX7_mergedShare 3 RX7 L sz) (hr : meth.sig.returnType = (some .float)) (hno : ∀ x ∈ c.exceptionTable.toList, False) {t1 : Int32} {v : gMem} {Q : UInt32 → gMem → Prop} {X : String → gMem → Prop} (h : BX7_mergedShare_13 t1 v Q X) : gS p l e ({ frames := 1, cells := 0, slots := 0, locals := 23 } : Room) s m args below meth c 3 L sz (vx_MQ below (gQf L sz Q) (gXC L sz X) args s 0 0 (gA L sz)) 0 0 13 [(0, .ref (L.2.1 7 0))] [.int t1, .ref (L.2.1 7 0)] v := by
  unfold BX7_mergedShare_13 at h
  refine fpX7_64 C dX7_mergedShare_13 ?_
  refine g_aload_n C 0 rfl 0 rfl dX7_mergedShare_16 ?_
  refine fgX7_67 C dX7_mergedShare_17 ?_
  refine g_if_ne C 25 (by decide) dX7_mergedShare_20 (fun hc => ?_) (fun hc => ?_)
  · replace h := h.1 hc
    refine g_aload_n C 0 rfl 0 rfl dX7_mergedShare_25 ?_
    refine g_callVv C hno gok_7 rfl rfl [] (fun sz9 => kX7_gather l C.2.2.2.2.2.2.1 L C.2.2.2.2.2.2.2.1 (gw v 7 0 0 t1) _ X h sz9) wml_RX7_130 winst_X7_gather wsel_X7_gather wini_RX7 wcode_X7_gather rfl rfl (n := 0) (by decide +kernel) rfl ⟨(Nat.le_of_ble_eq_true rfl), (Nat.le_of_ble_eq_true rfl)⟩ ⟨(Nat.le_of_ble_eq_true rfl), (Nat.le_of_ble_eq_true rfl)⟩ ⟨(Nat.le_of_ble_eq_true rfl), (Nat.le_of_ble_eq_true rfl)⟩ (Nat.le_of_ble_eq_true rfl) dX7_mergedShare_26 (fun v26 h => ?_)
    refine g_iconst C 0 (by decide) dX7_mergedShare_29 ?_
    refine g_istore_n C 1 rfl [(1, .int 0), (0, .ref (L.2.1 7 0))] (Nat.le_of_ble_eq_true rfl) rfl dX7_mergedShare_30 ?_
    refine g_iconst C 0 (by decide) dX7_mergedShare_31 ?_
    refine g_istore_n C 2 rfl [(2, .int 0), (1, .int 0), (0, .ref (L.2.1 7 0))] (Nat.le_of_ble_eq_true rfl) rfl dX7_mergedShare_32 ?_
    refine g_sub [(0, .ref (L.2.1 7 0)), (1, .int 0), (2, .int 0)] [2, 1, 0] rfl ?_
    exact slX7_mergedShare_33 C hr hno h
  · replace h := h.2 hc
    refine g_fconst C dX7_mergedShare_23 ?_
    exact g_fret C hr (Nat.le_of_ble_eq_true rfl) (Nat.le_of_ble_eq_true rfl) h dX7_mergedShare_24
def TX7_mergedShare (v : gMem) (Q : UInt32 → gMem → Prop) (X : String → gMem → Prop) : Prop := ((¬ (v 7 0 2) = 0 → (BX7_mergedShare_13 0 v Q X)) ∧ ((v 7 0 2) = 0 → (BX7_mergedShare_13 1 v Q X)))
theorem kX7_mergedShare (l : Launch) (hfl : l.stackTraces = false) (L : gL) (hL : gDist L) (v : gMem) (Q : UInt32 → gMem → Prop) (X : String → gMem → Prop) (h : TX7_mergedShare v Q X) (sz : Nat) : vx_Met l yX7_mergedShare [.code yX7_mergedShare cX7_mergedShare 3 (some .float)] ({ frames := 1, cells := 0, slots := 0, locals := 23 } : Room) (gPc L sz [.ref (L.2.1 7 0)] v) (gQf L sz Q) (gXC L sz X) 0 0 (gA L sz) := by
  refine g_ofW (by decide +kernel) hfl hL (Nat.le_of_ble_eq_true rfl) ?_
  intro p e s m args below meth c C hr hno
  refine g_sub [(0, .ref (L.2.1 7 0))] [0] rfl ?_
  unfold TX7_mergedShare at h
  refine g_aload_n C 0 rfl 0 rfl dX7_mergedShare_0 ?_
  refine g_aload_n C 0 rfl 0 rfl dX7_mergedShare_1 ?_
  refine fgX7_67 C dX7_mergedShare_2 ?_
  refine g_if_ne C 12 (by decide) dX7_mergedShare_5 (fun hc => ?_) (fun hc => ?_)
  · replace h := h.1 hc
    refine g_iconst C 0 (by decide) dX7_mergedShare_12 ?_
    exact sX7_mergedShare_13 C hr hno h
  · replace h := h.2 hc
    refine g_iconst C 1 (by decide) dX7_mergedShare_8 ?_
    refine g_goto C 13 (by decide) dX7_mergedShare_9 ?_
    exact sX7_mergedShare_13 C hr hno h
end
