section
variable {p : Program} {l : Launch} {e : Env} {s : State} {m : MethodId} {args : Array Value} {below : List Frame} {meth : Method} {c : Code} {L : gL} {sz : Nat}
def BX6_requireNumberField_10 (v : gMem) (Q : gMem → Prop) (X : String → gMem → Prop) : Prop := (X "java/lang/IllegalArgumentException" v)
theorem sX6_requireNumberField_10 (C : gC p l s m args meth c cX6_requireNumberField 2 RX6 L sz) (hr : meth.sig.returnType = none) (hno : ∀ x ∈ c.exceptionTable.toList, False) {v : gMem} {Q : gMem → Prop} {X : String → gMem → Prop} (h : BX6_requireNumberField_10 v Q X) : gS p l e ({ frames := 6, cells := 1, slots := 6, locals := 82 } : Room) s m args below meth c 2 L sz (vx_MQ below (gQv L sz Q) (gXC L sz X) args s 1 6 (gA L sz)) 0 0 10 [] [] v := by
  unfold BX6_requireNumberField_10 at h
  exact g_throwSW C hno (text := "the field is not between 1 and 3") (is := 317) rfl (by decide) wcl_RX6_117 wini_java_lang_IllegalArgumentException (List.mem_of_getElem? (i := 7) rfl) wat_RX6_121 dX6_requireNumberField_10 dX6_requireNumberField_13 dX6_requireNumberField_14 dX6_requireNumberField_17 dX6_requireNumberField_20 (Nat.le_of_ble_eq_true rfl) (Nat.le_of_ble_eq_true rfl) ⟨(Nat.le_of_ble_eq_true rfl), (Nat.le_of_ble_eq_true rfl)⟩ (Nat.le_of_ble_eq_true rfl) (Nat.le_of_ble_eq_true rfl) h
def TX6_requireNumberField (L1 : Int32) (v : gMem) (Q : gMem → Prop) (X : String → gMem → Prop) : Prop := ((L1 < 1 → (BX6_requireNumberField_10 v Q X)) ∧ (¬ L1 < 1 → ((L1 < 4 → (Q v)) ∧ (¬ L1 < 4 → (BX6_requireNumberField_10 v Q X)))))
theorem kX6_requireNumberField (l : Launch) (hfl : l.stackTraces = false) (L : gL) (hL : gDist L) (L1 : Int32) (v : gMem) (Q : gMem → Prop) (X : String → gMem → Prop) (h : TX6_requireNumberField L1 v Q X) (sz : Nat) : vx_Met l yX6_requireNumberField [.code yX6_requireNumberField cX6_requireNumberField 2 none] ({ frames := 6, cells := 1, slots := 6, locals := 82 } : Room) (gPc L sz [.ref (L.2.1 6 0), .int L1] v) (gQv L sz Q) (gXC L sz X) 1 6 (gA L sz) := by
  refine g_ofW (by decide +kernel) hfl hL (Nat.le_of_ble_eq_true rfl) ?_
  intro p e s m args below meth c C hr hno
  refine g_sub [(0, .ref (L.2.1 6 0)), (1, .int L1)] [0, 1] rfl ?_
  unfold TX6_requireNumberField at h
  refine g_iload_n C 1 rfl 1 rfl dX6_requireNumberField_0 ?_
  refine g_iconst C 1 (by decide) dX6_requireNumberField_1 ?_
  refine g_icmp_lt C 10 (by decide) dX6_requireNumberField_2 (fun hc => ?_) (fun hc => ?_)
  · replace h := h.1 hc
    refine g_sub [] [] rfl ?_
    exact sX6_requireNumberField_10 C hr hno h
  · replace h := h.2 hc
    refine g_iload_n C 1 rfl 1 rfl dX6_requireNumberField_5 ?_
    refine g_iconst C 4 (by decide) dX6_requireNumberField_6 ?_
    refine g_icmp_lt C 21 (by decide) dX6_requireNumberField_7 (fun hc => ?_) (fun hc => ?_)
    · replace h := h.1 hc
      exact g_vret C hr (Nat.le_of_ble_eq_true rfl) (Nat.le_of_ble_eq_true rfl) h dX6_requireNumberField_21
    · replace h := h.2 hc
      refine g_sub [] [] rfl ?_
      exact sX6_requireNumberField_10 C hr hno h
def BX6_setNumber_22 (v : gMem) (Q : Int32 → gMem → Prop) (X : String → gMem → Prop) : Prop := (X "java/lang/IllegalArgumentException" v)
theorem sX6_setNumber_22 (C : gC p l s m args meth c cX6_setNumber 5 RX6 L sz) (hr : meth.sig.returnType = (some .int)) (hno : ∀ x ∈ c.exceptionTable.toList, False) {v : gMem} {Q : Int32 → gMem → Prop} {X : String → gMem → Prop} (h : BX6_setNumber_22 v Q X) : gS p l e ({ frames := 7, cells := 3, slots := 18, locals := 103 } : Room) s m args below meth c 5 L sz (vx_MQ below (gQi L sz Q) (gXC L sz X) args s 3 18 (gA L sz)) 2 12 22 [] [] v := by
  unfold BX6_setNumber_22 at h
  exact g_throwS C hno (text := "the number is not between -1 and 999") (is := 119) rfl (by decide) wcl_RX6_117 wini_java_lang_IllegalArgumentException (List.mem_of_getElem? (i := 8) rfl) wat_RX6_121 dX6_setNumber_22 dX6_setNumber_25 dX6_setNumber_26 dX6_setNumber_28 dX6_setNumber_31 (Nat.le_of_ble_eq_true rfl) (Nat.le_of_ble_eq_true rfl) ⟨(Nat.le_of_ble_eq_true rfl), (Nat.le_of_ble_eq_true rfl)⟩ (Nat.le_of_ble_eq_true rfl) (Nat.le_of_ble_eq_true rfl) h
def TX6_setNumber (L1 : Int32) (L2 : Int32) (L3 : Int32) (v : gMem) (Q : Int32 → gMem → Prop) (X : String → gMem → Prop) : Prop := (TX6_requireCard L1 v (fun v2 => (TX6_requireNumberField L2 v2 (fun v7 => ((L3 < (-1) → (BX6_setNumber_22 v7 Q X)) ∧ (¬ L3 < (-1) → ((L3 ≤ 999 → (vp_in L1 16 ∧ (vp_in L2 4 ∧ (vp_in L1 16 ∧ (vp_in L2 4 ∧ (Q (v7 23 (Int32.toNatClampNeg L1) (Int32.toNatClampNeg L2)) (gw v7 23 (Int32.toNatClampNeg L1) (Int32.toNatClampNeg L2) L3))))))) ∧ (¬ L3 ≤ 999 → (BX6_setNumber_22 v7 Q X)))))) X)) X)
theorem kX6_setNumber (l : Launch) (hfl : l.stackTraces = false) (L : gL) (hL : gDist L) (L1 : Int32) (L2 : Int32) (L3 : Int32) (v : gMem) (Q : Int32 → gMem → Prop) (X : String → gMem → Prop) (h : TX6_setNumber L1 L2 L3 v Q X) (sz : Nat) : vx_Met l yX6_setNumber [.code yX6_setNumber cX6_setNumber 5 (some .int)] ({ frames := 7, cells := 3, slots := 18, locals := 103 } : Room) (gPc L sz [.ref (L.2.1 6 0), .int L1, .int L2, .int L3] v) (gQi L sz Q) (gXC L sz X) 3 18 (gA L sz) := by
  refine g_ofW (by decide +kernel) hfl hL (Nat.le_of_ble_eq_true rfl) ?_
  intro p e s m args below meth c C hr hno
  refine g_sub [(0, .ref (L.2.1 6 0)), (1, .int L1), (2, .int L2), (3, .int L3)] [0, 1, 2, 3] rfl ?_
  unfold TX6_setNumber at h
  refine g_aload_n C 0 rfl 0 rfl dX6_setNumber_0 ?_
  refine g_iload_n C 1 rfl 1 rfl dX6_setNumber_1 ?_
  refine g_callVv C hno gok_6 rfl rfl [.int L1] (fun sz9 => kX6_requireCard l C.2.2.2.2.2.2.1 L C.2.2.2.2.2.2.2.1 L1 v _ X h sz9) wml_RX6_96 winst_X6_requireCard wsel_X6_requireCard wini_RX6 wcode_X6_requireCard rfl rfl (n := 1) (by decide +kernel) rfl ⟨(Nat.le_of_ble_eq_true rfl), (Nat.le_of_ble_eq_true rfl)⟩ ⟨(Nat.le_of_ble_eq_true rfl), (Nat.le_of_ble_eq_true rfl)⟩ ⟨(Nat.le_of_ble_eq_true rfl), (Nat.le_of_ble_eq_true rfl)⟩ (Nat.le_of_ble_eq_true rfl) dX6_setNumber_2 (fun v2 h => ?_)
  refine g_aload_n C 0 rfl 0 rfl dX6_setNumber_5 ?_
  refine g_iload_n C 2 rfl 2 rfl dX6_setNumber_6 ?_
  refine g_callVv C hno gok_6 rfl rfl [.int L2] (fun sz9 => kX6_requireNumberField l C.2.2.2.2.2.2.1 L C.2.2.2.2.2.2.2.1 L2 v2 _ X h sz9) wml_RX6_114 winst_X6_requireNumberField wsel_X6_requireNumberField wini_RX6 wcode_X6_requireNumberField rfl rfl (n := 1) (by decide +kernel) rfl ⟨(Nat.le_of_ble_eq_true rfl), (Nat.le_of_ble_eq_true rfl)⟩ ⟨(Nat.le_of_ble_eq_true rfl), (Nat.le_of_ble_eq_true rfl)⟩ ⟨(Nat.le_of_ble_eq_true rfl), (Nat.le_of_ble_eq_true rfl)⟩ (Nat.le_of_ble_eq_true rfl) dX6_setNumber_7 (fun v7 h => ?_)
  refine g_iload_n C 3 rfl 3 rfl dX6_setNumber_10 ?_
  refine g_iconst C (-1) (by decide) dX6_setNumber_11 ?_
  refine g_icmp_lt C 22 (by decide) dX6_setNumber_12 (fun hc => ?_) (fun hc => ?_)
  · replace h := h.1 hc
    refine g_sub [] [] rfl ?_
    exact sX6_setNumber_22 C hr hno h
  · replace h := h.2 hc
    refine g_iload_n C 3 rfl 3 rfl dX6_setNumber_15 ?_
    refine g_sipush C 999 (by decide) dX6_setNumber_16 ?_
    refine g_icmp_le C 32 (by decide) dX6_setNumber_19 (fun hc => ?_) (fun hc => ?_)
    · replace h := h.1 hc
      refine g_aload_n C 0 rfl 0 rfl dX6_setNumber_32 ?_
      refine fgX6_15 C dX6_setNumber_33 ?_
      refine g_iload_n C 1 rfl 1 rfl dX6_setNumber_36 ?_
      obtain ⟨hb37, h⟩ := h
      refine g_book C hb37 dX6_setNumber_37 ?_
      refine fgX6_122 C (gok_2 (vp_lt hb37)) dX6_setNumber_38 ?_
      refine g_iload_n C 2 rfl 2 rfl dX6_setNumber_41 ?_
      obtain ⟨hb42, h⟩ := h
      refine g_iald C (gok_23 (vp_lt hb37)) rfl hb42 dX6_setNumber_42 ?_
      refine g_istore C [(4, .int (v7 23 (Int32.toNatClampNeg L1) (Int32.toNatClampNeg L2))), (0, .ref (L.2.1 6 0)), (1, .int L1), (2, .int L2), (3, .int L3)] (Nat.le_of_ble_eq_true rfl) rfl dX6_setNumber_43 ?_
      refine g_aload_n C 0 rfl 1 rfl dX6_setNumber_45 ?_
      refine fgX6_15 C dX6_setNumber_46 ?_
      refine g_iload_n C 1 rfl 2 rfl dX6_setNumber_49 ?_
      obtain ⟨hb50, h⟩ := h
      refine g_book C hb50 dX6_setNumber_50 ?_
      refine fgX6_122 C (gok_2 (vp_lt hb50)) dX6_setNumber_51 ?_
      refine g_iload_n C 2 rfl 3 rfl dX6_setNumber_54 ?_
      refine g_iload_n C 3 rfl 4 rfl dX6_setNumber_55 ?_
      obtain ⟨hb56, h⟩ := h
      refine g_iast C (gok_23 (vp_lt hb50)) (fun _ => rfl) hb56 dX6_setNumber_56 ?_
      refine g_iload C 0 rfl dX6_setNumber_57 ?_
      exact g_iret C hr rfl (Nat.le_of_ble_eq_true rfl) (Nat.le_of_ble_eq_true rfl) h dX6_setNumber_59
    · replace h := h.2 hc
      refine g_sub [] [] rfl ?_
      exact sX6_setNumber_22 C hr hno h
def TX6_nameLength (L1 : Int32) (v : gMem) (Q : Int32 → gMem → Prop) (X : String → gMem → Prop) : Prop := (TX6_requireCard L1 v (fun v2 => (vp_in L1 16 ∧ (Q (v2 4 (Int32.toNatClampNeg L1) 1) v2))) X)
theorem kX6_nameLength (l : Launch) (hfl : l.stackTraces = false) (L : gL) (hL : gDist L) (L1 : Int32) (v : gMem) (Q : Int32 → gMem → Prop) (X : String → gMem → Prop) (h : TX6_nameLength L1 v Q X) (sz : Nat) : vx_Met l yX6_nameLength [.code yX6_nameLength cX6_nameLength 2 (some .int)] ({ frames := 7, cells := 1, slots := 6, locals := 103 } : Room) (gPc L sz [.ref (L.2.1 6 0), .int L1] v) (gQi L sz Q) (gXC L sz X) 1 6 (gA L sz) := by
  refine g_ofW (by decide +kernel) hfl hL (Nat.le_of_ble_eq_true rfl) ?_
  intro p e s m args below meth c C hr hno
  refine g_sub [(0, .ref (L.2.1 6 0)), (1, .int L1)] [0, 1] rfl ?_
  unfold TX6_nameLength at h
  refine g_aload_n C 0 rfl 0 rfl dX6_nameLength_0 ?_
  refine g_iload_n C 1 rfl 1 rfl dX6_nameLength_1 ?_
  refine g_callVv C hno gok_6 rfl rfl [.int L1] (fun sz9 => kX6_requireCard l C.2.2.2.2.2.2.1 L C.2.2.2.2.2.2.2.1 L1 v _ X h sz9) wml_RX6_96 winst_X6_requireCard wsel_X6_requireCard wini_RX6 wcode_X6_requireCard rfl rfl (n := 1) (by decide +kernel) rfl ⟨(Nat.le_of_ble_eq_true rfl), (Nat.le_of_ble_eq_true rfl)⟩ ⟨(Nat.le_of_ble_eq_true rfl), (Nat.le_of_ble_eq_true rfl)⟩ ⟨(Nat.le_of_ble_eq_true rfl), (Nat.le_of_ble_eq_true rfl)⟩ (Nat.le_of_ble_eq_true rfl) dX6_nameLength_2 (fun v2 h => ?_)
  refine g_aload_n C 0 rfl 0 rfl dX6_nameLength_5 ?_
  refine fgX6_15 C dX6_nameLength_6 ?_
  refine g_iload_n C 1 rfl 1 rfl dX6_nameLength_9 ?_
  obtain ⟨hb10, h⟩ := h
  refine g_book C hb10 dX6_nameLength_10 ?_
  refine fgX6_103 C (gok_2 (vp_lt hb10)) dX6_nameLength_11 ?_
  refine fgX6_125 C (gok_4 (Nat.lt_of_lt_of_le (vp_lt hb10) (by decide))) dX6_nameLength_14 ?_
  exact g_iret C hr rfl (Nat.le_of_ble_eq_true rfl) (Nat.le_of_ble_eq_true rfl) h dX6_nameLength_17
def BX6_nameAt_27 (v : gMem) (Q : Int32 → gMem → Prop) (X : String → gMem → Prop) : Prop := (X "java/util/NoSuchElementException" v)
theorem sX6_nameAt_27 (C : gC p l s m args meth c cX6_nameAt 4 RX6 L sz) (hr : meth.sig.returnType = (some .char)) (hno : ∀ x ∈ c.exceptionTable.toList, False) {v : gMem} {Q : Int32 → gMem → Prop} {X : String → gMem → Prop} (h : BX6_nameAt_27 v Q X) : gS p l e ({ frames := 7, cells := 2, slots := 12, locals := 103 } : Room) s m args below meth c 4 L sz (vx_MQ below (gQi L sz Q) (gXC L sz X) args s 2 12 (gA L sz)) 1 6 27 [] [] v := by
  unfold BX6_nameAt_27 at h
  exact g_throwN C hno (text := "no such letter") (is := 130) rfl (by decide) wcl_RX6_128 wini_java_util_NoSuchElementException (List.mem_of_getElem? (i := 9) rfl) wat_RX6_132 dX6_nameAt_27 dX6_nameAt_30 dX6_nameAt_31 dX6_nameAt_33 dX6_nameAt_36 (Nat.le_of_ble_eq_true rfl) (Nat.le_of_ble_eq_true rfl) ⟨(Nat.le_of_ble_eq_true rfl), (Nat.le_of_ble_eq_true rfl)⟩ (Nat.le_of_ble_eq_true rfl) (Nat.le_of_ble_eq_true rfl) h
def TX6_nameAt (L1 : Int32) (L2 : Int32) (v : gMem) (Q : Int32 → gMem → Prop) (X : String → gMem → Prop) : Prop := (TX6_requireCard L1 v (fun v2 => (vp_in L1 16 ∧ ((L2 < 0 → (BX6_nameAt_27 v2 Q X)) ∧ (¬ L2 < 0 → ((L2 < (v2 4 (Int32.toNatClampNeg L1) 1) → (vp_in L2 10 ∧ (narrow .char (.int (v2 21 (Int32.toNatClampNeg L1) (Int32.toNatClampNeg L2))) = .int (v2 21 (Int32.toNatClampNeg L1) (Int32.toNatClampNeg L2)) ∧ Q (v2 21 (Int32.toNatClampNeg L1) (Int32.toNatClampNeg L2)) v2))) ∧ (¬ L2 < (v2 4 (Int32.toNatClampNeg L1) 1) → (BX6_nameAt_27 v2 Q X))))))) X)
theorem kX6_nameAt (l : Launch) (hfl : l.stackTraces = false) (L : gL) (hL : gDist L) (L1 : Int32) (L2 : Int32) (v : gMem) (Q : Int32 → gMem → Prop) (X : String → gMem → Prop) (h : TX6_nameAt L1 L2 v Q X) (sz : Nat) : vx_Met l yX6_nameAt [.code yX6_nameAt cX6_nameAt 4 (some .char)] ({ frames := 7, cells := 2, slots := 12, locals := 103 } : Room) (gPc L sz [.ref (L.2.1 6 0), .int L1, .int L2] v) (gQi L sz Q) (gXC L sz X) 2 12 (gA L sz) := by
  refine g_ofW (by decide +kernel) hfl hL (Nat.le_of_ble_eq_true rfl) ?_
  intro p e s m args below meth c C hr hno
  refine g_sub [(0, .ref (L.2.1 6 0)), (1, .int L1), (2, .int L2)] [0, 1, 2] rfl ?_
  unfold TX6_nameAt at h
  refine g_aload_n C 0 rfl 0 rfl dX6_nameAt_0 ?_
  refine g_iload_n C 1 rfl 1 rfl dX6_nameAt_1 ?_
  refine g_callVv C hno gok_6 rfl rfl [.int L1] (fun sz9 => kX6_requireCard l C.2.2.2.2.2.2.1 L C.2.2.2.2.2.2.2.1 L1 v _ X h sz9) wml_RX6_96 winst_X6_requireCard wsel_X6_requireCard wini_RX6 wcode_X6_requireCard rfl rfl (n := 1) (by decide +kernel) rfl ⟨(Nat.le_of_ble_eq_true rfl), (Nat.le_of_ble_eq_true rfl)⟩ ⟨(Nat.le_of_ble_eq_true rfl), (Nat.le_of_ble_eq_true rfl)⟩ ⟨(Nat.le_of_ble_eq_true rfl), (Nat.le_of_ble_eq_true rfl)⟩ (Nat.le_of_ble_eq_true rfl) dX6_nameAt_2 (fun v2 h => ?_)
  refine g_aload_n C 0 rfl 0 rfl dX6_nameAt_5 ?_
  refine fgX6_15 C dX6_nameAt_6 ?_
  refine g_iload_n C 1 rfl 1 rfl dX6_nameAt_9 ?_
  obtain ⟨hb10, h⟩ := h
  refine g_book C hb10 dX6_nameAt_10 ?_
  refine fgX6_103 C (gok_2 (vp_lt hb10)) dX6_nameAt_11 ?_
  refine g_astore_n C 3 rfl [(3, .ref (L.2.1 4 (Int32.toNatClampNeg L1))), (0, .ref (L.2.1 6 0)), (1, .int L1), (2, .int L2)] (Nat.le_of_ble_eq_true rfl) rfl dX6_nameAt_14 ?_
  refine g_iload_n C 2 rfl 3 rfl dX6_nameAt_15 ?_
  refine g_if_lt C 27 (by decide) dX6_nameAt_16 (fun hc => ?_) (fun hc => ?_)
  · replace h := h.1 hc
    refine g_sub [] [] rfl ?_
    exact sX6_nameAt_27 C hr hno h
  · replace h := h.2 hc
    refine g_iload_n C 2 rfl 3 rfl dX6_nameAt_19 ?_
    refine g_aload_n C 3 rfl 0 rfl dX6_nameAt_20 ?_
    refine fgX6_125 C (gok_4 (Nat.lt_of_lt_of_le (vp_lt hb10) (by decide))) dX6_nameAt_21 ?_
    refine g_icmp_lt C 37 (by decide) dX6_nameAt_24 (fun hc => ?_) (fun hc => ?_)
    · replace h := h.1 hc
      refine g_aload_n C 3 rfl 0 rfl dX6_nameAt_37 ?_
      refine fgX6_133 C (gok_4 (Nat.lt_of_lt_of_le (vp_lt hb10) (by decide))) dX6_nameAt_38 ?_
      refine g_iload_n C 2 rfl 3 rfl dX6_nameAt_41 ?_
      obtain ⟨hb42, h⟩ := h
      refine g_cald C (gok_21 (Nat.lt_of_lt_of_le (vp_lt hb10) (by decide))) rfl hb42 dX6_nameAt_42 ?_
      exact g_iret C hr h.1 (Nat.le_of_ble_eq_true rfl) (Nat.le_of_ble_eq_true rfl) h.2 dX6_nameAt_43
    · replace h := h.2 hc
      refine g_sub [] [] rfl ?_
      exact sX6_nameAt_27 C hr hno h
def BX6_soundAt_27 (v : gMem) (Q : Int32 → gMem → Prop) (X : String → gMem → Prop) : Prop := (X "java/util/NoSuchElementException" v)
theorem sX6_soundAt_27 (C : gC p l s m args meth c cX6_soundAt 4 RX6 L sz) (hr : meth.sig.returnType = (some .char)) (hno : ∀ x ∈ c.exceptionTable.toList, False) {v : gMem} {Q : Int32 → gMem → Prop} {X : String → gMem → Prop} (h : BX6_soundAt_27 v Q X) : gS p l e ({ frames := 7, cells := 2, slots := 12, locals := 103 } : Room) s m args below meth c 4 L sz (vx_MQ below (gQi L sz Q) (gXC L sz X) args s 2 12 (gA L sz)) 1 6 27 [] [] v := by
  unfold BX6_soundAt_27 at h
  exact g_throwN C hno (text := "no such sign of the sound") (is := 140) rfl (by decide) wcl_RX6_128 wini_java_util_NoSuchElementException (List.mem_of_getElem? (i := 10) rfl) wat_RX6_132 dX6_soundAt_27 dX6_soundAt_30 dX6_soundAt_31 dX6_soundAt_33 dX6_soundAt_36 (Nat.le_of_ble_eq_true rfl) (Nat.le_of_ble_eq_true rfl) ⟨(Nat.le_of_ble_eq_true rfl), (Nat.le_of_ble_eq_true rfl)⟩ (Nat.le_of_ble_eq_true rfl) (Nat.le_of_ble_eq_true rfl) h
def TX6_soundAt (L1 : Int32) (L2 : Int32) (v : gMem) (Q : Int32 → gMem → Prop) (X : String → gMem → Prop) : Prop := (TX6_requireCard L1 v (fun v2 => (vp_in L1 16 ∧ ((L2 < 0 → (BX6_soundAt_27 v2 Q X)) ∧ (¬ L2 < 0 → ((L2 < (v2 4 (Int32.toNatClampNeg L1) 3) → (vp_in L2 4 ∧ (narrow .char (.int (v2 22 (Int32.toNatClampNeg L1) (Int32.toNatClampNeg L2))) = .int (v2 22 (Int32.toNatClampNeg L1) (Int32.toNatClampNeg L2)) ∧ Q (v2 22 (Int32.toNatClampNeg L1) (Int32.toNatClampNeg L2)) v2))) ∧ (¬ L2 < (v2 4 (Int32.toNatClampNeg L1) 3) → (BX6_soundAt_27 v2 Q X))))))) X)
theorem kX6_soundAt (l : Launch) (hfl : l.stackTraces = false) (L : gL) (hL : gDist L) (L1 : Int32) (L2 : Int32) (v : gMem) (Q : Int32 → gMem → Prop) (X : String → gMem → Prop) (h : TX6_soundAt L1 L2 v Q X) (sz : Nat) : vx_Met l yX6_soundAt [.code yX6_soundAt cX6_soundAt 4 (some .char)] ({ frames := 7, cells := 2, slots := 12, locals := 103 } : Room) (gPc L sz [.ref (L.2.1 6 0), .int L1, .int L2] v) (gQi L sz Q) (gXC L sz X) 2 12 (gA L sz) := by
  refine g_ofW (by decide +kernel) hfl hL (Nat.le_of_ble_eq_true rfl) ?_
  intro p e s m args below meth c C hr hno
  refine g_sub [(0, .ref (L.2.1 6 0)), (1, .int L1), (2, .int L2)] [0, 1, 2] rfl ?_
  unfold TX6_soundAt at h
  refine g_aload_n C 0 rfl 0 rfl dX6_soundAt_0 ?_
  refine g_iload_n C 1 rfl 1 rfl dX6_soundAt_1 ?_
  refine g_callVv C hno gok_6 rfl rfl [.int L1] (fun sz9 => kX6_requireCard l C.2.2.2.2.2.2.1 L C.2.2.2.2.2.2.2.1 L1 v _ X h sz9) wml_RX6_96 winst_X6_requireCard wsel_X6_requireCard wini_RX6 wcode_X6_requireCard rfl rfl (n := 1) (by decide +kernel) rfl ⟨(Nat.le_of_ble_eq_true rfl), (Nat.le_of_ble_eq_true rfl)⟩ ⟨(Nat.le_of_ble_eq_true rfl), (Nat.le_of_ble_eq_true rfl)⟩ ⟨(Nat.le_of_ble_eq_true rfl), (Nat.le_of_ble_eq_true rfl)⟩ (Nat.le_of_ble_eq_true rfl) dX6_soundAt_2 (fun v2 h => ?_)
  refine g_aload_n C 0 rfl 0 rfl dX6_soundAt_5 ?_
  refine fgX6_15 C dX6_soundAt_6 ?_
  refine g_iload_n C 1 rfl 1 rfl dX6_soundAt_9 ?_
  obtain ⟨hb10, h⟩ := h
  refine g_book C hb10 dX6_soundAt_10 ?_
  refine fgX6_103 C (gok_2 (vp_lt hb10)) dX6_soundAt_11 ?_
  refine g_astore_n C 3 rfl [(3, .ref (L.2.1 4 (Int32.toNatClampNeg L1))), (0, .ref (L.2.1 6 0)), (1, .int L1), (2, .int L2)] (Nat.le_of_ble_eq_true rfl) rfl dX6_soundAt_14 ?_
  refine g_iload_n C 2 rfl 3 rfl dX6_soundAt_15 ?_
  refine g_if_lt C 27 (by decide) dX6_soundAt_16 (fun hc => ?_) (fun hc => ?_)
  · replace h := h.1 hc
    refine g_sub [] [] rfl ?_
    exact sX6_soundAt_27 C hr hno h
  · replace h := h.2 hc
    refine g_iload_n C 2 rfl 3 rfl dX6_soundAt_19 ?_
    refine g_aload_n C 3 rfl 0 rfl dX6_soundAt_20 ?_
    refine fgX6_137 C (gok_4 (Nat.lt_of_lt_of_le (vp_lt hb10) (by decide))) dX6_soundAt_21 ?_
    refine g_icmp_lt C 37 (by decide) dX6_soundAt_24 (fun hc => ?_) (fun hc => ?_)
    · replace h := h.1 hc
      refine g_aload_n C 3 rfl 0 rfl dX6_soundAt_37 ?_
      refine fgX6_142 C (gok_4 (Nat.lt_of_lt_of_le (vp_lt hb10) (by decide))) dX6_soundAt_38 ?_
      refine g_iload_n C 2 rfl 3 rfl dX6_soundAt_41 ?_
      obtain ⟨hb42, h⟩ := h
      refine g_cald C (gok_22 (Nat.lt_of_lt_of_le (vp_lt hb10) (by decide))) rfl hb42 dX6_soundAt_42 ?_
      exact g_iret C hr h.1 (Nat.le_of_ble_eq_true rfl) (Nat.le_of_ble_eq_true rfl) h.2 dX6_soundAt_43
    · replace h := h.2 hc
      refine g_sub [] [] rfl ?_
      exact sX6_soundAt_27 C hr hno h
def TX6_number (L1 : Int32) (L2 : Int32) (v : gMem) (Q : Int32 → gMem → Prop) (X : String → gMem → Prop) : Prop := (TX6_requireCard L1 v (fun v2 => (TX6_requireNumberField L2 v2 (fun v7 => (vp_in L1 16 ∧ (vp_in L2 4 ∧ (Q (v7 23 (Int32.toNatClampNeg L1) (Int32.toNatClampNeg L2)) v7)))) X)) X)
theorem kX6_number (l : Launch) (hfl : l.stackTraces = false) (L : gL) (hL : gDist L) (L1 : Int32) (L2 : Int32) (v : gMem) (Q : Int32 → gMem → Prop) (X : String → gMem → Prop) (h : TX6_number L1 L2 v Q X) (sz : Nat) : vx_Met l yX6_number [.code yX6_number cX6_number 3 (some .int)] ({ frames := 7, cells := 2, slots := 12, locals := 103 } : Room) (gPc L sz [.ref (L.2.1 6 0), .int L1, .int L2] v) (gQi L sz Q) (gXC L sz X) 2 12 (gA L sz) := by
  refine g_ofW (by decide +kernel) hfl hL (Nat.le_of_ble_eq_true rfl) ?_
  intro p e s m args below meth c C hr hno
  refine g_sub [(0, .ref (L.2.1 6 0)), (1, .int L1), (2, .int L2)] [0, 1, 2] rfl ?_
  unfold TX6_number at h
  refine g_aload_n C 0 rfl 0 rfl dX6_number_0 ?_
  refine g_iload_n C 1 rfl 1 rfl dX6_number_1 ?_
  refine g_callVv C hno gok_6 rfl rfl [.int L1] (fun sz9 => kX6_requireCard l C.2.2.2.2.2.2.1 L C.2.2.2.2.2.2.2.1 L1 v _ X h sz9) wml_RX6_96 winst_X6_requireCard wsel_X6_requireCard wini_RX6 wcode_X6_requireCard rfl rfl (n := 1) (by decide +kernel) rfl ⟨(Nat.le_of_ble_eq_true rfl), (Nat.le_of_ble_eq_true rfl)⟩ ⟨(Nat.le_of_ble_eq_true rfl), (Nat.le_of_ble_eq_true rfl)⟩ ⟨(Nat.le_of_ble_eq_true rfl), (Nat.le_of_ble_eq_true rfl)⟩ (Nat.le_of_ble_eq_true rfl) dX6_number_2 (fun v2 h => ?_)
  refine g_aload_n C 0 rfl 0 rfl dX6_number_5 ?_
  refine g_iload_n C 2 rfl 2 rfl dX6_number_6 ?_
  refine g_callVv C hno gok_6 rfl rfl [.int L2] (fun sz9 => kX6_requireNumberField l C.2.2.2.2.2.2.1 L C.2.2.2.2.2.2.2.1 L2 v2 _ X h sz9) wml_RX6_114 winst_X6_requireNumberField wsel_X6_requireNumberField wini_RX6 wcode_X6_requireNumberField rfl rfl (n := 1) (by decide +kernel) rfl ⟨(Nat.le_of_ble_eq_true rfl), (Nat.le_of_ble_eq_true rfl)⟩ ⟨(Nat.le_of_ble_eq_true rfl), (Nat.le_of_ble_eq_true rfl)⟩ ⟨(Nat.le_of_ble_eq_true rfl), (Nat.le_of_ble_eq_true rfl)⟩ (Nat.le_of_ble_eq_true rfl) dX6_number_7 (fun v7 h => ?_)
  refine g_aload_n C 0 rfl 0 rfl dX6_number_10 ?_
  refine fgX6_15 C dX6_number_11 ?_
  refine g_iload_n C 1 rfl 1 rfl dX6_number_14 ?_
  obtain ⟨hb15, h⟩ := h
  refine g_book C hb15 dX6_number_15 ?_
  refine fgX6_122 C (gok_2 (vp_lt hb15)) dX6_number_16 ?_
  refine g_iload_n C 2 rfl 2 rfl dX6_number_19 ?_
  obtain ⟨hb20, h⟩ := h
  refine g_iald C (gok_23 (vp_lt hb15)) rfl hb20 dX6_number_20 ?_
  exact g_iret C hr rfl (Nat.le_of_ble_eq_true rfl) (Nat.le_of_ble_eq_true rfl) h dX6_number_21
def BX6_requireField_9 (v : gMem) (Q : gMem → Prop) (X : String → gMem → Prop) : Prop := (X "java/lang/IllegalArgumentException" v)
theorem sX6_requireField_9 (C : gC p l s m args meth c cX6_requireField 2 RX6 L sz) (hr : meth.sig.returnType = none) (hno : ∀ x ∈ c.exceptionTable.toList, False) {v : gMem} {Q : gMem → Prop} {X : String → gMem → Prop} (h : BX6_requireField_9 v Q X) : gS p l e ({ frames := 6, cells := 1, slots := 6, locals := 82 } : Room) s m args below meth c 2 L sz (vx_MQ below (gQv L sz Q) (gXC L sz X) args s 1 6 (gA L sz)) 0 0 9 [] [] v := by
  unfold BX6_requireField_9 at h
  exact g_throwSW C hno (text := "the field is not between 0 and 3") (is := 315) rfl (by decide) wcl_RX6_117 wini_java_lang_IllegalArgumentException (List.mem_of_getElem? (i := 11) rfl) wat_RX6_121 dX6_requireField_9 dX6_requireField_12 dX6_requireField_13 dX6_requireField_16 dX6_requireField_19 (Nat.le_of_ble_eq_true rfl) (Nat.le_of_ble_eq_true rfl) ⟨(Nat.le_of_ble_eq_true rfl), (Nat.le_of_ble_eq_true rfl)⟩ (Nat.le_of_ble_eq_true rfl) (Nat.le_of_ble_eq_true rfl) h
def TX6_requireField (L1 : Int32) (v : gMem) (Q : gMem → Prop) (X : String → gMem → Prop) : Prop := ((L1 < 0 → (BX6_requireField_9 v Q X)) ∧ (¬ L1 < 0 → ((L1 < 4 → (Q v)) ∧ (¬ L1 < 4 → (BX6_requireField_9 v Q X)))))
theorem kX6_requireField (l : Launch) (hfl : l.stackTraces = false) (L : gL) (hL : gDist L) (L1 : Int32) (v : gMem) (Q : gMem → Prop) (X : String → gMem → Prop) (h : TX6_requireField L1 v Q X) (sz : Nat) : vx_Met l yX6_requireField [.code yX6_requireField cX6_requireField 2 none] ({ frames := 6, cells := 1, slots := 6, locals := 82 } : Room) (gPc L sz [.ref (L.2.1 6 0), .int L1] v) (gQv L sz Q) (gXC L sz X) 1 6 (gA L sz) := by
  refine g_ofW (by decide +kernel) hfl hL (Nat.le_of_ble_eq_true rfl) ?_
  intro p e s m args below meth c C hr hno
  refine g_sub [(0, .ref (L.2.1 6 0)), (1, .int L1)] [0, 1] rfl ?_
  unfold TX6_requireField at h
  refine g_iload_n C 1 rfl 1 rfl dX6_requireField_0 ?_
  refine g_if_lt C 9 (by decide) dX6_requireField_1 (fun hc => ?_) (fun hc => ?_)
  · replace h := h.1 hc
    refine g_sub [] [] rfl ?_
    exact sX6_requireField_9 C hr hno h
  · replace h := h.2 hc
    refine g_iload_n C 1 rfl 1 rfl dX6_requireField_4 ?_
    refine g_iconst C 4 (by decide) dX6_requireField_5 ?_
    refine g_icmp_lt C 20 (by decide) dX6_requireField_6 (fun hc => ?_) (fun hc => ?_)
    · replace h := h.1 hc
      exact g_vret C hr (Nat.le_of_ble_eq_true rfl) (Nat.le_of_ble_eq_true rfl) h dX6_requireField_20
    · replace h := h.2 hc
      refine g_sub [] [] rfl ?_
      exact sX6_requireField_9 C hr hno h
def BX6_requireWeight_12 (v : gMem) (Q : gMem → Prop) (X : String → gMem → Prop) : Prop := (X "java/lang/IllegalArgumentException" v)
theorem sX6_requireWeight_12 (C : gC p l s m args meth c cX6_requireWeight 2 RX6 L sz) (hr : meth.sig.returnType = none) (hno : ∀ x ∈ c.exceptionTable.toList, False) {v : gMem} {Q : gMem → Prop} {X : String → gMem → Prop} (h : BX6_requireWeight_12 v Q X) : gS p l e ({ frames := 6, cells := 1, slots := 6, locals := 82 } : Room) s m args below meth c 2 L sz (vx_MQ below (gQv L sz Q) (gXC L sz X) args s 1 6 (gA L sz)) 0 0 12 [] [] v := by
  unfold BX6_requireWeight_12 at h
  exact g_throwSW C hno (text := "the weight is not between -9 and 9") (is := 319) rfl (by decide) wcl_RX6_117 wini_java_lang_IllegalArgumentException (List.mem_of_getElem? (i := 12) rfl) wat_RX6_121 dX6_requireWeight_12 dX6_requireWeight_15 dX6_requireWeight_16 dX6_requireWeight_19 dX6_requireWeight_22 (Nat.le_of_ble_eq_true rfl) (Nat.le_of_ble_eq_true rfl) ⟨(Nat.le_of_ble_eq_true rfl), (Nat.le_of_ble_eq_true rfl)⟩ (Nat.le_of_ble_eq_true rfl) (Nat.le_of_ble_eq_true rfl) h
def TX6_requireWeight (L1 : Int32) (v : gMem) (Q : gMem → Prop) (X : String → gMem → Prop) : Prop := ((L1 < (-9) → (BX6_requireWeight_12 v Q X)) ∧ (¬ L1 < (-9) → ((L1 ≤ 9 → (Q v)) ∧ (¬ L1 ≤ 9 → (BX6_requireWeight_12 v Q X)))))
theorem kX6_requireWeight (l : Launch) (hfl : l.stackTraces = false) (L : gL) (hL : gDist L) (L1 : Int32) (v : gMem) (Q : gMem → Prop) (X : String → gMem → Prop) (h : TX6_requireWeight L1 v Q X) (sz : Nat) : vx_Met l yX6_requireWeight [.code yX6_requireWeight cX6_requireWeight 2 none] ({ frames := 6, cells := 1, slots := 6, locals := 82 } : Room) (gPc L sz [.ref (L.2.1 6 0), .int L1] v) (gQv L sz Q) (gXC L sz X) 1 6 (gA L sz) := by
  refine g_ofW (by decide +kernel) hfl hL (Nat.le_of_ble_eq_true rfl) ?_
  intro p e s m args below meth c C hr hno
  refine g_sub [(0, .ref (L.2.1 6 0)), (1, .int L1)] [0, 1] rfl ?_
  unfold TX6_requireWeight at h
  refine g_iload_n C 1 rfl 1 rfl dX6_requireWeight_0 ?_
  refine g_bipush C (-9) (by decide) dX6_requireWeight_1 ?_
  refine g_icmp_lt C 12 (by decide) dX6_requireWeight_3 (fun hc => ?_) (fun hc => ?_)
  · replace h := h.1 hc
    refine g_sub [] [] rfl ?_
    exact sX6_requireWeight_12 C hr hno h
  · replace h := h.2 hc
    refine g_iload_n C 1 rfl 1 rfl dX6_requireWeight_6 ?_
    refine g_bipush C 9 (by decide) dX6_requireWeight_7 ?_
    refine g_icmp_le C 23 (by decide) dX6_requireWeight_9 (fun hc => ?_) (fun hc => ?_)
    · replace h := h.1 hc
      exact g_vret C hr (Nat.le_of_ble_eq_true rfl) (Nat.le_of_ble_eq_true rfl) h dX6_requireWeight_23
    · replace h := h.2 hc
      refine g_sub [] [] rfl ?_
      exact sX6_requireWeight_12 C hr hno h
def TX6_setWeights (L1 : Int32) (L2 : Int32) (L3 : Int32) (v : gMem) (Q : Int32 → gMem → Prop) (X : String → gMem → Prop) : Prop := (TX6_requireField L1 v (fun v2 => (TX6_requireWeight L2 v2 (fun v7 => (TX6_requireWeight L3 v7 (fun v12 => (vp_in L1 4 ∧ (vp_in L1 4 ∧ (vp_in L1 4 ∧ (Q (v12 12 0 (Int32.toNatClampNeg L1)) (gw (gw v12 12 0 (Int32.toNatClampNeg L1) L2) 13 0 (Int32.toNatClampNeg L1) L3)))))) X)) X)) X)
theorem kX6_setWeights (l : Launch) (hfl : l.stackTraces = false) (L : gL) (hL : gDist L) (L1 : Int32) (L2 : Int32) (L3 : Int32) (v : gMem) (Q : Int32 → gMem → Prop) (X : String → gMem → Prop) (h : TX6_setWeights L1 L2 L3 v Q X) (sz : Nat) : vx_Met l yX6_setWeights [.code yX6_setWeights cX6_setWeights 5 (some .int)] ({ frames := 7, cells := 3, slots := 18, locals := 103 } : Room) (gPc L sz [.ref (L.2.1 6 0), .int L1, .int L2, .int L3] v) (gQi L sz Q) (gXC L sz X) 3 18 (gA L sz) := by
  refine g_ofW (by decide +kernel) hfl hL (Nat.le_of_ble_eq_true rfl) ?_
  intro p e s m args below meth c C hr hno
  refine g_sub [(0, .ref (L.2.1 6 0)), (1, .int L1), (2, .int L2), (3, .int L3)] [0, 1, 2, 3] rfl ?_
  unfold TX6_setWeights at h
  refine g_aload_n C 0 rfl 0 rfl dX6_setWeights_0 ?_
  refine g_iload_n C 1 rfl 1 rfl dX6_setWeights_1 ?_
  refine g_callVv C hno gok_6 rfl rfl [.int L1] (fun sz9 => kX6_requireField l C.2.2.2.2.2.2.1 L C.2.2.2.2.2.2.2.1 L1 v _ X h sz9) wml_RX6_145 winst_X6_requireField wsel_X6_requireField wini_RX6 wcode_X6_requireField rfl rfl (n := 1) (by decide +kernel) rfl ⟨(Nat.le_of_ble_eq_true rfl), (Nat.le_of_ble_eq_true rfl)⟩ ⟨(Nat.le_of_ble_eq_true rfl), (Nat.le_of_ble_eq_true rfl)⟩ ⟨(Nat.le_of_ble_eq_true rfl), (Nat.le_of_ble_eq_true rfl)⟩ (Nat.le_of_ble_eq_true rfl) dX6_setWeights_2 (fun v2 h => ?_)
  refine g_aload_n C 0 rfl 0 rfl dX6_setWeights_5 ?_
  refine g_iload_n C 2 rfl 2 rfl dX6_setWeights_6 ?_
  refine g_callVv C hno gok_6 rfl rfl [.int L2] (fun sz9 => kX6_requireWeight l C.2.2.2.2.2.2.1 L C.2.2.2.2.2.2.2.1 L2 v2 _ X h sz9) wml_RX6_148 winst_X6_requireWeight wsel_X6_requireWeight wini_RX6 wcode_X6_requireWeight rfl rfl (n := 1) (by decide +kernel) rfl ⟨(Nat.le_of_ble_eq_true rfl), (Nat.le_of_ble_eq_true rfl)⟩ ⟨(Nat.le_of_ble_eq_true rfl), (Nat.le_of_ble_eq_true rfl)⟩ ⟨(Nat.le_of_ble_eq_true rfl), (Nat.le_of_ble_eq_true rfl)⟩ (Nat.le_of_ble_eq_true rfl) dX6_setWeights_7 (fun v7 h => ?_)
  refine g_aload_n C 0 rfl 0 rfl dX6_setWeights_10 ?_
  refine g_iload_n C 3 rfl 3 rfl dX6_setWeights_11 ?_
  refine g_callVv C hno gok_6 rfl rfl [.int L3] (fun sz9 => kX6_requireWeight l C.2.2.2.2.2.2.1 L C.2.2.2.2.2.2.2.1 L3 v7 _ X h sz9) wml_RX6_148 winst_X6_requireWeight wsel_X6_requireWeight wini_RX6 wcode_X6_requireWeight rfl rfl (n := 1) (by decide +kernel) rfl ⟨(Nat.le_of_ble_eq_true rfl), (Nat.le_of_ble_eq_true rfl)⟩ ⟨(Nat.le_of_ble_eq_true rfl), (Nat.le_of_ble_eq_true rfl)⟩ ⟨(Nat.le_of_ble_eq_true rfl), (Nat.le_of_ble_eq_true rfl)⟩ (Nat.le_of_ble_eq_true rfl) dX6_setWeights_12 (fun v12 h => ?_)
  refine g_aload_n C 0 rfl 0 rfl dX6_setWeights_15 ?_
  refine fgX6_19 C dX6_setWeights_16 ?_
  refine g_iload_n C 1 rfl 1 rfl dX6_setWeights_19 ?_
  obtain ⟨hb20, h⟩ := h
  refine g_iald C gok_12 rfl hb20 dX6_setWeights_20 ?_
  refine g_istore C [(4, .int (v12 12 0 (Int32.toNatClampNeg L1))), (0, .ref (L.2.1 6 0)), (1, .int L1), (2, .int L2), (3, .int L3)] (Nat.le_of_ble_eq_true rfl) rfl dX6_setWeights_21 ?_
  refine g_aload_n C 0 rfl 1 rfl dX6_setWeights_23 ?_
  refine fgX6_19 C dX6_setWeights_24 ?_
  refine g_iload_n C 1 rfl 2 rfl dX6_setWeights_27 ?_
  refine g_iload_n C 2 rfl 3 rfl dX6_setWeights_28 ?_
  obtain ⟨hb29, h⟩ := h
  refine g_iast C gok_12 (fun _ => rfl) hb29 dX6_setWeights_29 ?_
  refine g_aload_n C 0 rfl 1 rfl dX6_setWeights_30 ?_
  refine fgX6_22 C dX6_setWeights_31 ?_
  refine g_iload_n C 1 rfl 2 rfl dX6_setWeights_34 ?_
  refine g_iload_n C 3 rfl 4 rfl dX6_setWeights_35 ?_
  obtain ⟨hb36, h⟩ := h
  refine g_iast C gok_13 (fun _ => rfl) hb36 dX6_setWeights_36 ?_
  refine g_iload C 0 rfl dX6_setWeights_37 ?_
  exact g_iret C hr rfl (Nat.le_of_ble_eq_true rfl) (Nat.le_of_ble_eq_true rfl) h dX6_setWeights_39
def BX6_setThreshold_12 (v : gMem) (Q : Int32 → gMem → Prop) (X : String → gMem → Prop) : Prop := (X "java/lang/IllegalArgumentException" v)
theorem sX6_setThreshold_12 (C : gC p l s m args meth c cX6_setThreshold 3 RX6 L sz) (hr : meth.sig.returnType = (some .int)) (hno : ∀ x ∈ c.exceptionTable.toList, False) {v : gMem} {Q : Int32 → gMem → Prop} {X : String → gMem → Prop} (h : BX6_setThreshold_12 v Q X) : gS p l e ({ frames := 6, cells := 1, slots := 6, locals := 82 } : Room) s m args below meth c 3 L sz (vx_MQ below (gQi L sz Q) (gXC L sz X) args s 1 6 (gA L sz)) 0 0 12 [] [] v := by
  unfold BX6_setThreshold_12 at h
  exact g_throwS C hno (text := "the threshold is not between -40 and 40") (is := 151) rfl (by decide) wcl_RX6_117 wini_java_lang_IllegalArgumentException (List.mem_of_getElem? (i := 13) rfl) wat_RX6_121 dX6_setThreshold_12 dX6_setThreshold_15 dX6_setThreshold_16 dX6_setThreshold_18 dX6_setThreshold_21 (Nat.le_of_ble_eq_true rfl) (Nat.le_of_ble_eq_true rfl) ⟨(Nat.le_of_ble_eq_true rfl), (Nat.le_of_ble_eq_true rfl)⟩ (Nat.le_of_ble_eq_true rfl) (Nat.le_of_ble_eq_true rfl) h
def TX6_setThreshold (L1 : Int32) (v : gMem) (Q : Int32 → gMem → Prop) (X : String → gMem → Prop) : Prop := ((L1 < (-40) → (BX6_setThreshold_12 v Q X)) ∧ (¬ L1 < (-40) → ((L1 ≤ 40 → (Q (v 6 0 6) (gw v 6 0 6 L1))) ∧ (¬ L1 ≤ 40 → (BX6_setThreshold_12 v Q X)))))
theorem kX6_setThreshold (l : Launch) (hfl : l.stackTraces = false) (L : gL) (hL : gDist L) (L1 : Int32) (v : gMem) (Q : Int32 → gMem → Prop) (X : String → gMem → Prop) (h : TX6_setThreshold L1 v Q X) (sz : Nat) : vx_Met l yX6_setThreshold [.code yX6_setThreshold cX6_setThreshold 3 (some .int)] ({ frames := 6, cells := 1, slots := 6, locals := 82 } : Room) (gPc L sz [.ref (L.2.1 6 0), .int L1] v) (gQi L sz Q) (gXC L sz X) 1 6 (gA L sz) := by
  refine g_ofW (by decide +kernel) hfl hL (Nat.le_of_ble_eq_true rfl) ?_
  intro p e s m args below meth c C hr hno
  refine g_sub [(0, .ref (L.2.1 6 0)), (1, .int L1)] [0, 1] rfl ?_
  unfold TX6_setThreshold at h
  refine g_iload_n C 1 rfl 1 rfl dX6_setThreshold_0 ?_
  refine g_bipush C (-40) (by decide) dX6_setThreshold_1 ?_
  refine g_icmp_lt C 12 (by decide) dX6_setThreshold_3 (fun hc => ?_) (fun hc => ?_)
  · replace h := h.1 hc
    refine g_sub [] [] rfl ?_
    exact sX6_setThreshold_12 C hr hno h
  · replace h := h.2 hc
    refine g_iload_n C 1 rfl 1 rfl dX6_setThreshold_6 ?_
    refine g_bipush C 40 (by decide) dX6_setThreshold_7 ?_
    refine g_icmp_le C 22 (by decide) dX6_setThreshold_9 (fun hc => ?_) (fun hc => ?_)
    · replace h := h.1 hc
      refine g_aload_n C 0 rfl 0 rfl dX6_setThreshold_22 ?_
      refine fgX6_25 C dX6_setThreshold_23 ?_
      refine g_istore_n C 2 rfl [(2, .int (v 6 0 6)), (0, .ref (L.2.1 6 0)), (1, .int L1)] (Nat.le_of_ble_eq_true rfl) rfl dX6_setThreshold_26 ?_
      refine g_aload_n C 0 rfl 1 rfl dX6_setThreshold_27 ?_
      refine g_iload_n C 1 rfl 2 rfl dX6_setThreshold_28 ?_
      refine fpX6_25 C dX6_setThreshold_29 ?_
      refine g_iload_n C 2 rfl 0 rfl dX6_setThreshold_32 ?_
      exact g_iret C hr rfl (Nat.le_of_ble_eq_true rfl) (Nat.le_of_ble_eq_true rfl) h dX6_setThreshold_33
    · replace h := h.2 hc
      refine g_sub [] [] rfl ?_
      exact sX6_setThreshold_12 C hr hno h
def TX6_requireCards (L1 : Int32) (L2 : Int32) (v : gMem) (Q : gMem → Prop) (X : String → gMem → Prop) : Prop := (TX6_requireCard L1 v (fun v2 => (TX6_requireCard L2 v2 (fun v7 => (Q v7)) X)) X)
theorem kX6_requireCards (l : Launch) (hfl : l.stackTraces = false) (L : gL) (hL : gDist L) (L1 : Int32) (L2 : Int32) (v : gMem) (Q : gMem → Prop) (X : String → gMem → Prop) (h : TX6_requireCards L1 L2 v Q X) (sz : Nat) : vx_Met l yX6_requireCards [.code yX6_requireCards cX6_requireCards 3 none] ({ frames := 7, cells := 2, slots := 12, locals := 103 } : Room) (gPc L sz [.ref (L.2.1 6 0), .int L1, .int L2] v) (gQv L sz Q) (gXC L sz X) 2 12 (gA L sz) := by
  refine g_ofW (by decide +kernel) hfl hL (Nat.le_of_ble_eq_true rfl) ?_
  intro p e s m args below meth c C hr hno
  refine g_sub [(0, .ref (L.2.1 6 0)), (1, .int L1), (2, .int L2)] [0, 1, 2] rfl ?_
  unfold TX6_requireCards at h
  refine g_aload_n C 0 rfl 0 rfl dX6_requireCards_0 ?_
  refine g_iload_n C 1 rfl 1 rfl dX6_requireCards_1 ?_
  refine g_callVv C hno gok_6 rfl rfl [.int L1] (fun sz9 => kX6_requireCard l C.2.2.2.2.2.2.1 L C.2.2.2.2.2.2.2.1 L1 v _ X h sz9) wml_RX6_96 winst_X6_requireCard wsel_X6_requireCard wini_RX6 wcode_X6_requireCard rfl rfl (n := 1) (by decide +kernel) rfl ⟨(Nat.le_of_ble_eq_true rfl), (Nat.le_of_ble_eq_true rfl)⟩ ⟨(Nat.le_of_ble_eq_true rfl), (Nat.le_of_ble_eq_true rfl)⟩ ⟨(Nat.le_of_ble_eq_true rfl), (Nat.le_of_ble_eq_true rfl)⟩ (Nat.le_of_ble_eq_true rfl) dX6_requireCards_2 (fun v2 h => ?_)
  refine g_aload_n C 0 rfl 0 rfl dX6_requireCards_5 ?_
  refine g_iload_n C 2 rfl 2 rfl dX6_requireCards_6 ?_
  refine g_callVv C hno gok_6 rfl rfl [.int L2] (fun sz9 => kX6_requireCard l C.2.2.2.2.2.2.1 L C.2.2.2.2.2.2.2.1 L2 v2 _ X h sz9) wml_RX6_96 winst_X6_requireCard wsel_X6_requireCard wini_RX6 wcode_X6_requireCard rfl rfl (n := 1) (by decide +kernel) rfl ⟨(Nat.le_of_ble_eq_true rfl), (Nat.le_of_ble_eq_true rfl)⟩ ⟨(Nat.le_of_ble_eq_true rfl), (Nat.le_of_ble_eq_true rfl)⟩ ⟨(Nat.le_of_ble_eq_true rfl), (Nat.le_of_ble_eq_true rfl)⟩ (Nat.le_of_ble_eq_true rfl) dX6_requireCards_7 (fun v7 h => ?_)
  exact g_vret C hr (Nat.le_of_ble_eq_true rfl) (Nat.le_of_ble_eq_true rfl) h dX6_requireCards_10
def TX6_requireTwo (L1 : Int32) (L2 : Int32) (v : gMem) (Q : gMem → Prop) (X : String → gMem → Prop) : Prop := ((¬ L1 = L2 → (Q v)) ∧ (L1 = L2 → (X "java/lang/IllegalArgumentException" v)))
theorem kX6_requireTwo (l : Launch) (hfl : l.stackTraces = false) (L : gL) (hL : gDist L) (L1 : Int32) (L2 : Int32) (v : gMem) (Q : gMem → Prop) (X : String → gMem → Prop) (h : TX6_requireTwo L1 L2 v Q X) (sz : Nat) : vx_Met l yX6_requireTwo [.code yX6_requireTwo cX6_requireTwo 3 none] ({ frames := 6, cells := 1, slots := 6, locals := 82 } : Room) (gPc L sz [.ref (L.2.1 6 0), .int L1, .int L2] v) (gQv L sz Q) (gXC L sz X) 1 6 (gA L sz) := by
  refine g_ofW (by decide +kernel) hfl hL (Nat.le_of_ble_eq_true rfl) ?_
  intro p e s m args below meth c C hr hno
  refine g_sub [(0, .ref (L.2.1 6 0)), (1, .int L1), (2, .int L2)] [0, 1, 2] rfl ?_
  unfold TX6_requireTwo at h
  refine g_iload_n C 1 rfl 1 rfl dX6_requireTwo_0 ?_
  refine g_iload_n C 2 rfl 2 rfl dX6_requireTwo_1 ?_
  refine g_icmp_ne C 16 (by decide) dX6_requireTwo_2 (fun hc => ?_) (fun hc => ?_)
  · replace h := h.1 hc
    exact g_vret C hr (Nat.le_of_ble_eq_true rfl) (Nat.le_of_ble_eq_true rfl) h dX6_requireTwo_16
  · replace h := h.2 hc
    exact g_throwSW C hno (text := "both cards are the same") (is := 311) rfl (by decide) wcl_RX6_117 wini_java_lang_IllegalArgumentException (List.mem_of_getElem? (i := 14) rfl) wat_RX6_121 dX6_requireTwo_5 dX6_requireTwo_8 dX6_requireTwo_9 dX6_requireTwo_12 dX6_requireTwo_15 (Nat.le_of_ble_eq_true rfl) (Nat.le_of_ble_eq_true rfl) ⟨(Nat.le_of_ble_eq_true rfl), (Nat.le_of_ble_eq_true rfl)⟩ (Nat.le_of_ble_eq_true rfl) (Nat.le_of_ble_eq_true rfl) h
def BJ9_floorDiv_7cf53_21 (L2 : Int32) (v : gMem) (Q : Int32 → gMem → Prop) (X : String → gMem → Prop) : Prop := (Q L2 v)
theorem sJ9_floorDiv_7cf53_21 (C : gC p l s m args meth c cJ9_floorDiv_7cf53 3 RJ9 L sz) (hr : meth.sig.returnType = (some .int)) (hno : ∀ x ∈ c.exceptionTable.toList, False) {L2 : Int32} {v : gMem} {Q : Int32 → gMem → Prop} {X : String → gMem → Prop} (h : BJ9_floorDiv_7cf53_21 L2 v Q X) : gS p l e ({ frames := 0, cells := 0, slots := 0, locals := 0 } : Room) s m args below meth c 3 L sz (vx_MQ below (gQi L sz Q) (gXC L sz X) args s 0 0 (gA L sz)) 0 0 21 [(2, .int L2)] [] v := by
  unfold BJ9_floorDiv_7cf53_21 at h
  refine g_iload_n C 2 rfl 0 rfl dJ9_floorDiv_7cf53_21 ?_
  exact g_iret C hr rfl (Nat.le_of_ble_eq_true rfl) (Nat.le_of_ble_eq_true rfl) h dJ9_floorDiv_7cf53_22
def TJ9_floorDiv_7cf53 (L0 : Int32) (L1 : Int32) (v : gMem) (Q : Int32 → gMem → Prop) (X : String → gMem → Prop) : Prop := (¬ (L1 : Int32) = 0 ∧ ((0 ≤ (L0 ^^^ L1) → (BJ9_floorDiv_7cf53_21 (L0 / L1) v Q X)) ∧ (¬ 0 ≤ (L0 ^^^ L1) → ((((L0 / L1) * L1) = L0 → (BJ9_floorDiv_7cf53_21 (L0 / L1) v Q X)) ∧ (¬ ((L0 / L1) * L1) = L0 → (Q ((L0 / L1) - 1) v))))))
theorem kJ9_floorDiv_7cf53 (l : Launch) (hfl : l.stackTraces = false) (L : gL) (hL : gDist L) (L0 : Int32) (L1 : Int32) (v : gMem) (Q : Int32 → gMem → Prop) (X : String → gMem → Prop) (h : TJ9_floorDiv_7cf53 L0 L1 v Q X) (sz : Nat) : vx_Met l yJ9_floorDiv_7cf53 [.code yJ9_floorDiv_7cf53 cJ9_floorDiv_7cf53 3 (some .int)] ({ frames := 0, cells := 0, slots := 0, locals := 0 } : Room) (gPc L sz [.int L0, .int L1] v) (gQi L sz Q) (gXC L sz X) 0 0 (gA L sz) := by
  refine g_ofW (by decide +kernel) hfl hL (Nat.le_of_ble_eq_true rfl) ?_
  intro p e s m args below meth c C hr hno
  refine g_sub [(0, .int L0), (1, .int L1)] [0, 1] rfl ?_
  unfold TJ9_floorDiv_7cf53 at h
  refine g_iload_n C 0 rfl 0 rfl dJ9_floorDiv_7cf53_0 ?_
  refine g_iload_n C 1 rfl 1 rfl dJ9_floorDiv_7cf53_1 ?_
  obtain ⟨hb2, h⟩ := h
  refine g_idiv C hb2 dJ9_floorDiv_7cf53_2 ?_
  refine g_istore_n C 2 rfl [(2, .int (L0 / L1)), (0, .int L0), (1, .int L1)] (Nat.le_of_ble_eq_true rfl) rfl dJ9_floorDiv_7cf53_3 ?_
  refine g_iload_n C 0 rfl 1 rfl dJ9_floorDiv_7cf53_4 ?_
  refine g_iload_n C 1 rfl 2 rfl dJ9_floorDiv_7cf53_5 ?_
  refine g_ixor C dJ9_floorDiv_7cf53_6 ?_
  refine g_if_ge C 21 (by decide) dJ9_floorDiv_7cf53_7 (fun hc => ?_) (fun hc => ?_)
  · replace h := h.1 hc
    refine g_sub [(2, .int (L0 / L1))] [0] rfl ?_
    exact sJ9_floorDiv_7cf53_21 C hr hno h
  · replace h := h.2 hc
    refine g_iload_n C 2 rfl 0 rfl dJ9_floorDiv_7cf53_10 ?_
    refine g_iload_n C 1 rfl 2 rfl dJ9_floorDiv_7cf53_11 ?_
    refine g_imul C dJ9_floorDiv_7cf53_12 ?_
    refine g_iload_n C 0 rfl 1 rfl dJ9_floorDiv_7cf53_13 ?_
    refine g_icmp_eq C 21 (by decide) dJ9_floorDiv_7cf53_14 (fun hc => ?_) (fun hc => ?_)
    · replace h := h.1 hc
      refine g_sub [(2, .int (L0 / L1))] [0] rfl ?_
      exact sJ9_floorDiv_7cf53_21 C hr hno h
    · replace h := h.2 hc
      refine g_iload_n C 2 rfl 0 rfl dJ9_floorDiv_7cf53_17 ?_
      refine g_iconst C 1 (by decide) dJ9_floorDiv_7cf53_18 ?_
      refine g_isub C dJ9_floorDiv_7cf53_19 ?_
      exact g_iret C hr rfl (Nat.le_of_ble_eq_true rfl) (Nat.le_of_ble_eq_true rfl) h dJ9_floorDiv_7cf53_20
def BX6_fieldScore_16 (i1 : Nat) (i2 : Nat) (v : gMem) (Q : Int32 → gMem → Prop) (X : String → gMem → Prop) : Prop := (Q 0 v)
theorem sX6_fieldScore_16 (C : gC p l s m args meth c cX6_fieldScore 4 RX6 L sz) (hr : meth.sig.returnType = (some .int)) (hno : ∀ x ∈ c.exceptionTable.toList, False) {i1 : Nat} {i2 : Nat} (hi1 : i1 < 16) (hi2 : i2 < 16) {v : gMem} {Q : Int32 → gMem → Prop} {X : String → gMem → Prop} (h : BX6_fieldScore_16 i1 i2 v Q X) : gS p l e ({ frames := 2, cells := 0, slots := 0, locals := 44 } : Room) s m args below meth c 4 L sz (vx_MQ below (gQi L sz Q) (gXC L sz X) args s 0 0 (gA L sz)) 0 0 16 [] [] v := by
  unfold BX6_fieldScore_16 at h
  refine g_iconst C 0 (by decide) dX6_fieldScore_16 ?_
  exact g_iret C hr rfl (Nat.le_of_ble_eq_true rfl) (Nat.le_of_ble_eq_true rfl) h dX6_fieldScore_17
def BX6_fieldScore_63 (i1 : Nat) (i2 : Nat) (L3 : Int32) (v : gMem) (Q : Int32 → gMem → Prop) (X : String → gMem → Prop) : Prop := (vp_in L3 4 ∧ (Q (v 13 0 (Int32.toNatClampNeg L3)) v))
theorem sX6_fieldScore_63 (C : gC p l s m args meth c cX6_fieldScore 4 RX6 L sz) (hr : meth.sig.returnType = (some .int)) (hno : ∀ x ∈ c.exceptionTable.toList, False) {i1 : Nat} {i2 : Nat} (hi1 : i1 < 16) (hi2 : i2 < 16) {L3 : Int32} {v : gMem} {Q : Int32 → gMem → Prop} {X : String → gMem → Prop} (h : BX6_fieldScore_63 i1 i2 L3 v Q X) : gS p l e ({ frames := 2, cells := 0, slots := 0, locals := 44 } : Room) s m args below meth c 4 L sz (vx_MQ below (gQi L sz Q) (gXC L sz X) args s 0 0 (gA L sz)) 0 0 63 [(0, .ref (L.2.1 6 0)), (3, .int L3)] [] v := by
  unfold BX6_fieldScore_63 at h
  refine g_aload_n C 0 rfl 0 rfl dX6_fieldScore_63 ?_
  refine fgX6_22 C dX6_fieldScore_64 ?_
  refine g_iload_n C 3 rfl 1 rfl dX6_fieldScore_67 ?_
  obtain ⟨hb68, h⟩ := h
  refine g_iald C gok_13 rfl hb68 dX6_fieldScore_68 ?_
  exact g_iret C hr rfl (Nat.le_of_ble_eq_true rfl) (Nat.le_of_ble_eq_true rfl) h dX6_fieldScore_69
def TX6_fieldScore (i1 : Nat) (i2 : Nat) (L3 : Int32) (v : gMem) (Q : Int32 → gMem → Prop) (X : String → gMem → Prop) : Prop := (TX2_has i1 L3 v (fun r2 v2 => ((r2 = 0 → (BX6_fieldScore_16 i1 i2 v2 Q X)) ∧ (¬ r2 = 0 → (TX2_has i2 L3 v2 (fun r10 v10 => ((¬ r10 = 0 → (TX2_agrees i1 i2 L3 v10 (fun r21 v21 => ((r21 = 0 → ((¬ L3 = 0 → (BX6_fieldScore_63 i1 i2 L3 v21 Q X)) ∧ (L3 = 0 → (TX4_soundsLike i1 i2 v21 (fun r46 v46 => ((r46 = 0 → (BX6_fieldScore_63 i1 i2 L3 v46 Q X)) ∧ (¬ r46 = 0 → (vp_in 0 4 ∧ (TJ9_floorDiv_7cf53 (v46 12 0 (Int32.toNatClampNeg 0)) 2 v46 (fun r59 v59 => (Q r59 v59)) X))))) X)))) ∧ (¬ r21 = 0 → (vp_in L3 4 ∧ (Q (v21 12 0 (Int32.toNatClampNeg L3)) v21))))) X)) ∧ (r10 = 0 → (BX6_fieldScore_16 i1 i2 v10 Q X)))) X)))) X)
theorem kX6_fieldScore (l : Launch) (hfl : l.stackTraces = false) (L : gL) (hL : gDist L) {i1 : Nat} {i2 : Nat} (hi1 : i1 < 16) (hi2 : i2 < 16) (L3 : Int32) (v : gMem) (Q : Int32 → gMem → Prop) (X : String → gMem → Prop) (h : TX6_fieldScore i1 i2 L3 v Q X) (sz : Nat) : vx_Met l yX6_fieldScore [.code yX6_fieldScore cX6_fieldScore 4 (some .int)] ({ frames := 2, cells := 0, slots := 0, locals := 44 } : Room) (gPc L sz [.ref (L.2.1 6 0), .ref (L.2.1 2 i1), .ref (L.2.1 2 i2), .int L3] v) (gQi L sz Q) (gXC L sz X) 0 0 (gA L sz) := by
  refine g_ofW (by decide +kernel) hfl hL (Nat.le_of_ble_eq_true rfl) ?_
  intro p e s m args below meth c C hr hno
  refine g_sub [(0, .ref (L.2.1 6 0)), (1, .ref (L.2.1 2 i1)), (2, .ref (L.2.1 2 i2)), (3, .int L3)] [0, 1, 2, 3] rfl ?_
  unfold TX6_fieldScore at h
  refine g_aload_n C 1 rfl 1 rfl dX6_fieldScore_0 ?_
  refine g_iload_n C 3 rfl 3 rfl dX6_fieldScore_1 ?_
  refine g_callVi C hno (gok_2 hi1) rfl rfl [.int L3] (fun sz9 => kX2_has l C.2.2.2.2.2.2.1 L C.2.2.2.2.2.2.2.1 hi1 L3 v _ X h sz9) wml_RX6_344 winst_X2_has wsel_X2_has wini_RX2 wcode_X2_has rfl rfl (n := 1) (by decide +kernel) rfl ⟨(Nat.le_of_ble_eq_true rfl), (Nat.le_of_ble_eq_true rfl)⟩ ⟨(Nat.le_of_ble_eq_true rfl), (Nat.le_of_ble_eq_true rfl)⟩ ⟨(Nat.le_of_ble_eq_true rfl), (Nat.le_of_ble_eq_true rfl)⟩ (Nat.le_of_ble_eq_true rfl) dX6_fieldScore_2 (fun r2 v2 h => ?_)
  refine g_if_eq C 16 (by decide) dX6_fieldScore_5 (fun hc => ?_) (fun hc => ?_)
  · replace h := h.1 hc
    refine g_sub [] [] rfl ?_
    exact sX6_fieldScore_16 C hr hno hi1 hi2 h
  · replace h := h.2 hc
    refine g_aload_n C 2 rfl 2 rfl dX6_fieldScore_8 ?_
    refine g_iload_n C 3 rfl 3 rfl dX6_fieldScore_9 ?_
    refine g_callVi C hno (gok_2 hi2) rfl rfl [.int L3] (fun sz9 => kX2_has l C.2.2.2.2.2.2.1 L C.2.2.2.2.2.2.2.1 hi2 L3 v2 _ X h sz9) wml_RX6_344 winst_X2_has wsel_X2_has wini_RX2 wcode_X2_has rfl rfl (n := 1) (by decide +kernel) rfl ⟨(Nat.le_of_ble_eq_true rfl), (Nat.le_of_ble_eq_true rfl)⟩ ⟨(Nat.le_of_ble_eq_true rfl), (Nat.le_of_ble_eq_true rfl)⟩ ⟨(Nat.le_of_ble_eq_true rfl), (Nat.le_of_ble_eq_true rfl)⟩ (Nat.le_of_ble_eq_true rfl) dX6_fieldScore_10 (fun r10 v10 h => ?_)
    refine g_if_ne C 18 (by decide) dX6_fieldScore_13 (fun hc => ?_) (fun hc => ?_)
    · replace h := h.1 hc
      refine g_aload_n C 1 rfl 1 rfl dX6_fieldScore_18 ?_
      refine g_aload_n C 2 rfl 2 rfl dX6_fieldScore_19 ?_
      refine g_iload_n C 3 rfl 3 rfl dX6_fieldScore_20 ?_
      refine g_callVi C hno (gok_2 hi1) rfl rfl [.ref (L.2.1 2 i2), .int L3] (fun sz9 => kX2_agrees l C.2.2.2.2.2.2.1 L C.2.2.2.2.2.2.2.1 hi1 hi2 L3 v10 _ X h sz9) wml_RX6_348 winst_X2_agrees wsel_X2_agrees wini_RX2 wcode_X2_agrees rfl rfl (n := 2) (by decide +kernel) rfl ⟨(Nat.le_of_ble_eq_true rfl), (Nat.le_of_ble_eq_true rfl)⟩ ⟨(Nat.le_of_ble_eq_true rfl), (Nat.le_of_ble_eq_true rfl)⟩ ⟨(Nat.le_of_ble_eq_true rfl), (Nat.le_of_ble_eq_true rfl)⟩ (Nat.le_of_ble_eq_true rfl) dX6_fieldScore_21 (fun r21 v21 h => ?_)
      refine g_if_eq C 34 (by decide) dX6_fieldScore_24 (fun hc => ?_) (fun hc => ?_)
      · replace h := h.1 hc
        refine g_iload_n C 3 rfl 3 rfl dX6_fieldScore_34 ?_
        refine g_if_ne C 63 (by decide) dX6_fieldScore_35 (fun hc => ?_) (fun hc => ?_)
        · replace h := h.1 hc
          refine g_sub [(0, .ref (L.2.1 6 0)), (3, .int L3)] [0, 3] rfl ?_
          exact sX6_fieldScore_63 C hr hno hi1 hi2 h
        · replace h := h.2 hc
          refine g_aload_n C 1 rfl 1 rfl dX6_fieldScore_38 ?_
          refine fgX6_103 C (gok_2 hi1) dX6_fieldScore_39 ?_
          refine g_aload_n C 2 rfl 2 rfl dX6_fieldScore_42 ?_
          refine fgX6_103 C (gok_2 hi2) dX6_fieldScore_43 ?_
          refine g_callVi C hno (gok_4 (Nat.lt_of_lt_of_le hi1 (by decide))) rfl rfl [.ref (L.2.1 4 i2)] (fun sz9 => kX4_soundsLike l C.2.2.2.2.2.2.1 L C.2.2.2.2.2.2.2.1 (Nat.lt_of_lt_of_le hi1 (by decide)) (Nat.lt_of_lt_of_le hi2 (by decide)) v21 _ X h sz9) wml_RX6_352 winst_X4_soundsLike wsel_X4_soundsLike wini_RX4 wcode_X4_soundsLike rfl rfl (n := 1) (by decide +kernel) rfl ⟨(Nat.le_of_ble_eq_true rfl), (Nat.le_of_ble_eq_true rfl)⟩ ⟨(Nat.le_of_ble_eq_true rfl), (Nat.le_of_ble_eq_true rfl)⟩ ⟨(Nat.le_of_ble_eq_true rfl), (Nat.le_of_ble_eq_true rfl)⟩ (Nat.le_of_ble_eq_true rfl) dX6_fieldScore_46 (fun r46 v46 h => ?_)
          refine g_if_eq C 63 (by decide) dX6_fieldScore_49 (fun hc => ?_) (fun hc => ?_)
          · replace h := h.1 hc
            refine g_sub [(0, .ref (L.2.1 6 0)), (3, .int L3)] [0, 3] rfl ?_
            exact sX6_fieldScore_63 C hr hno hi1 hi2 h
          · replace h := h.2 hc
            refine g_aload_n C 0 rfl 0 rfl dX6_fieldScore_52 ?_
            refine fgX6_19 C dX6_fieldScore_53 ?_
            refine g_iconst C 0 (by decide) dX6_fieldScore_56 ?_
            obtain ⟨hb57, h⟩ := h
            refine g_iald C gok_12 rfl hb57 dX6_fieldScore_57 ?_
            refine g_iconst C 2 (by decide) dX6_fieldScore_58 ?_
            refine g_callSi C hno [.int (v46 12 0 (Int32.toNatClampNeg 0)), .int 2] (fun sz9 => kJ9_floorDiv_7cf53 l C.2.2.2.2.2.2.1 L C.2.2.2.2.2.2.2.1 (v46 12 0 (Int32.toNatClampNeg 0)) 2 v46 _ X h sz9) wml_RX6_356 wstat_J9_floorDiv_7cf53 wini_RJ9 wcode_J9_floorDiv_7cf53 rfl rfl (n := 2) (by decide +kernel) rfl ⟨(Nat.le_of_ble_eq_true rfl), (Nat.le_of_ble_eq_true rfl)⟩ ⟨(Nat.le_of_ble_eq_true rfl), (Nat.le_of_ble_eq_true rfl)⟩ ⟨(Nat.le_of_ble_eq_true rfl), (Nat.le_of_ble_eq_true rfl)⟩ (Nat.le_of_ble_eq_true rfl) dX6_fieldScore_59 (fun r59 v59 h => ?_)
            exact g_iret C hr rfl (Nat.le_of_ble_eq_true rfl) (Nat.le_of_ble_eq_true rfl) h dX6_fieldScore_62
      · replace h := h.2 hc
        refine g_aload_n C 0 rfl 0 rfl dX6_fieldScore_27 ?_
        refine fgX6_19 C dX6_fieldScore_28 ?_
        refine g_iload_n C 3 rfl 3 rfl dX6_fieldScore_31 ?_
        obtain ⟨hb32, h⟩ := h
        refine g_iald C gok_12 rfl hb32 dX6_fieldScore_32 ?_
        exact g_iret C hr rfl (Nat.le_of_ble_eq_true rfl) (Nat.le_of_ble_eq_true rfl) h dX6_fieldScore_33
    · replace h := h.2 hc
      refine g_sub [] [] rfl ?_
      exact sX6_fieldScore_16 C hr hno hi1 hi2 h
def BX6_scoreOf_5 (I5 : Int32 → Int32 → gMem → Prop) (L1 : Int32) (L2 : Int32) (L3 : Int32) (L4 : Int32) (v : gMem) (Q : Int32 → gMem → Prop) (X : String → gMem → Prop) : Prop := ((4 ≤ L4 → (Q L3 v)) ∧ (¬ 4 ≤ L4 → (vp_in L1 16 ∧ (vp_in L2 16 ∧ (TX6_fieldScore (Int32.toNatClampNeg L1) (Int32.toNatClampNeg L2) L4 v (fun r27 v27 => (I5 (L3 + r27) (L4 + 1) v27)) X)))))
theorem sX6_scoreOf_5 (C : gC p l s m args meth c cX6_scoreOf 5 RX6 L sz) (hr : meth.sig.returnType = (some .int)) (hno : ∀ x ∈ c.exceptionTable.toList, False) {L1 : Int32} {L2 : Int32} {L3 : Int32} {L4 : Int32} {v : gMem} {Q : Int32 → gMem → Prop} {X : String → gMem → Prop} {I5 : Int32 → Int32 → gMem → Prop} (hI5 : ∀ (L3 : Int32) (L4 : Int32) (v : gMem), I5 L3 L4 v → gS p l e ({ frames := 3, cells := 0, slots := 0, locals := 67 } : Room) s m args below meth c 5 L sz (vx_MQ below (gQi L sz Q) (gXC L sz X) args s 0 0 (gA L sz)) 0 0 5 [(0, .ref (L.2.1 6 0)), (1, .int L1), (2, .int L2), (3, .int L3), (4, .int L4)] [] v) (h : BX6_scoreOf_5 I5 L1 L2 L3 L4 v Q X) : gS p l e ({ frames := 3, cells := 0, slots := 0, locals := 67 } : Room) s m args below meth c 5 L sz (vx_MQ below (gQi L sz Q) (gXC L sz X) args s 0 0 (gA L sz)) 0 0 5 [(0, .ref (L.2.1 6 0)), (1, .int L1), (2, .int L2), (3, .int L3), (4, .int L4)] [] v := by
  unfold BX6_scoreOf_5 at h
  refine g_iload C 4 rfl dX6_scoreOf_5 ?_
  refine g_iconst C 4 (by decide) dX6_scoreOf_7 ?_
  refine g_icmp_ge C 38 (by decide) dX6_scoreOf_8 (fun hc => ?_) (fun hc => ?_)
  · replace h := h.1 hc
    refine g_iload_n C 3 rfl 3 rfl dX6_scoreOf_38 ?_
    exact g_iret C hr rfl (Nat.le_of_ble_eq_true rfl) (Nat.le_of_ble_eq_true rfl) h dX6_scoreOf_39
  · replace h := h.2 hc
    refine g_iload_n C 3 rfl 3 rfl dX6_scoreOf_11 ?_
    refine g_aload_n C 0 rfl 0 rfl dX6_scoreOf_12 ?_
    refine g_aload_n C 0 rfl 0 rfl dX6_scoreOf_13 ?_
    refine fgX6_15 C dX6_scoreOf_14 ?_
    refine g_iload_n C 1 rfl 1 rfl dX6_scoreOf_17 ?_
    obtain ⟨hb18, h⟩ := h
    refine g_book C hb18 dX6_scoreOf_18 ?_
    refine g_aload_n C 0 rfl 0 rfl dX6_scoreOf_19 ?_
    refine fgX6_15 C dX6_scoreOf_20 ?_
    refine g_iload_n C 2 rfl 2 rfl dX6_scoreOf_23 ?_
    obtain ⟨hb24, h⟩ := h
    refine g_book C hb24 dX6_scoreOf_24 ?_
    refine g_iload C 4 rfl dX6_scoreOf_25 ?_
    refine g_callVi C hno gok_6 rfl rfl [.ref (L.2.1 2 (Int32.toNatClampNeg L1)), .ref (L.2.1 2 (Int32.toNatClampNeg L2)), .int L4] (fun sz9 => kX6_fieldScore l C.2.2.2.2.2.2.1 L C.2.2.2.2.2.2.2.1 (vp_lt hb18) (vp_lt hb24) L4 v _ X h sz9) wml_RX6_340 winst_X6_fieldScore wsel_X6_fieldScore wini_RX6 wcode_X6_fieldScore rfl rfl (n := 3) (by decide +kernel) rfl ⟨(Nat.le_of_ble_eq_true rfl), (Nat.le_of_ble_eq_true rfl)⟩ ⟨(Nat.le_of_ble_eq_true rfl), (Nat.le_of_ble_eq_true rfl)⟩ ⟨(Nat.le_of_ble_eq_true rfl), (Nat.le_of_ble_eq_true rfl)⟩ (Nat.le_of_ble_eq_true rfl) dX6_scoreOf_27 (fun r27 v27 h => ?_)
    refine g_iadd C dX6_scoreOf_30 ?_
    refine g_istore_n C 3 rfl [(3, .int (L3 + r27)), (0, .ref (L.2.1 6 0)), (1, .int L1), (2, .int L2), (4, .int L4)] (Nat.le_of_ble_eq_true rfl) rfl dX6_scoreOf_31 ?_
    refine g_iinc C (k := 4) (L4 + 1) [(4, .int (L4 + 1)), (3, .int (L3 + r27)), (0, .ref (L.2.1 6 0)), (1, .int L1), (2, .int L2)] rfl rfl (Nat.le_of_ble_eq_true rfl) rfl dX6_scoreOf_32 ?_
    refine g_goto C 5 (by decide) dX6_scoreOf_35 ?_
    refine g_sub [(0, .ref (L.2.1 6 0)), (1, .int L1), (2, .int L2), (3, .int (L3 + r27)), (4, .int (L4 + 1))] [2, 3, 4, 1, 0] rfl ?_
    exact hI5 _ _ _ h
def LX6_scoreOf_5 (L1 : Int32) (L2 : Int32) (L3 : Int32) (L4 : Int32) (v : gMem) (Q : Int32 → gMem → Prop) (X : String → gMem → Prop) : Prop := ∀ I5 : Int32 → Int32 → gMem → Prop, (∀ (L3 : Int32) (L4 : Int32) (v : gMem), BX6_scoreOf_5 I5 L1 L2 L3 L4 v Q X → I5 L3 L4 v) → I5 L3 L4 v
theorem slX6_scoreOf_5 (C : gC p l s m args meth c cX6_scoreOf 5 RX6 L sz) (hr : meth.sig.returnType = (some .int)) (hno : ∀ x ∈ c.exceptionTable.toList, False) {L1 : Int32} {L2 : Int32} {L3 : Int32} {L4 : Int32} {v : gMem} {Q : Int32 → gMem → Prop} {X : String → gMem → Prop} (h : LX6_scoreOf_5 L1 L2 L3 L4 v Q X) : gS p l e ({ frames := 3, cells := 0, slots := 0, locals := 67 } : Room) s m args below meth c 5 L sz (vx_MQ below (gQi L sz Q) (gXC L sz X) args s 0 0 (gA L sz)) 0 0 5 [(0, .ref (L.2.1 6 0)), (1, .int L1), (2, .int L2), (3, .int L3), (4, .int L4)] [] v := by
  refine h (fun L3 L4 v => gS p l e ({ frames := 3, cells := 0, slots := 0, locals := 67 } : Room) s m args below meth c 5 L sz (vx_MQ below (gQi L sz Q) (gXC L sz X) args s 0 0 (gA L sz)) 0 0 5 [(0, .ref (L.2.1 6 0)), (1, .int L1), (2, .int L2), (3, .int L3), (4, .int L4)] [] v) (fun L3 L4 v hb => ?_)
  exact sX6_scoreOf_5 C hr hno (fun _ _ _ hs => hs) hb
def TX6_scoreOf (L1 : Int32) (L2 : Int32) (v : gMem) (Q : Int32 → gMem → Prop) (X : String → gMem → Prop) : Prop := (LX6_scoreOf_5 L1 L2 0 0 v Q X)
theorem kX6_scoreOf (l : Launch) (hfl : l.stackTraces = false) (L : gL) (hL : gDist L) (L1 : Int32) (L2 : Int32) (v : gMem) (Q : Int32 → gMem → Prop) (X : String → gMem → Prop) (h : TX6_scoreOf L1 L2 v Q X) (sz : Nat) : vx_Met l yX6_scoreOf [.code yX6_scoreOf cX6_scoreOf 5 (some .int)] ({ frames := 3, cells := 0, slots := 0, locals := 67 } : Room) (gPc L sz [.ref (L.2.1 6 0), .int L1, .int L2] v) (gQi L sz Q) (gXC L sz X) 0 0 (gA L sz) := by
  refine g_ofW (by decide +kernel) hfl hL (Nat.le_of_ble_eq_true rfl) ?_
  intro p e s m args below meth c C hr hno
  refine g_sub [(0, .ref (L.2.1 6 0)), (1, .int L1), (2, .int L2)] [0, 1, 2] rfl ?_
  unfold TX6_scoreOf at h
  refine g_iconst C 0 (by decide) dX6_scoreOf_0 ?_
  refine g_istore_n C 3 rfl [(3, .int 0), (0, .ref (L.2.1 6 0)), (1, .int L1), (2, .int L2)] (Nat.le_of_ble_eq_true rfl) rfl dX6_scoreOf_1 ?_
  refine g_iconst C 0 (by decide) dX6_scoreOf_2 ?_
  refine g_istore C [(4, .int 0), (3, .int 0), (0, .ref (L.2.1 6 0)), (1, .int L1), (2, .int L2)] (Nat.le_of_ble_eq_true rfl) rfl dX6_scoreOf_3 ?_
  refine g_sub [(0, .ref (L.2.1 6 0)), (1, .int L1), (2, .int L2), (3, .int 0), (4, .int 0)] [2, 3, 4, 1, 0] rfl ?_
  exact slX6_scoreOf_5 C hr hno h
def TX6_score (L1 : Int32) (L2 : Int32) (v : gMem) (Q : Int32 → gMem → Prop) (X : String → gMem → Prop) : Prop := (TX6_requireCards L1 L2 v (fun v3 => (TX6_requireTwo L1 L2 v3 (fun v9 => (TX6_scoreOf L1 L2 v9 (fun r15 v15 => (Q r15 v15)) X)) X)) X)
theorem kX6_score (l : Launch) (hfl : l.stackTraces = false) (L : gL) (hL : gDist L) (L1 : Int32) (L2 : Int32) (v : gMem) (Q : Int32 → gMem → Prop) (X : String → gMem → Prop) (h : TX6_score L1 L2 v Q X) (sz : Nat) : vx_Met l yX6_score [.code yX6_score cX6_score 3 (some .int)] ({ frames := 8, cells := 3, slots := 18, locals := 125 } : Room) (gPc L sz [.ref (L.2.1 6 0), .int L1, .int L2] v) (gQi L sz Q) (gXC L sz X) 3 18 (gA L sz) := by
  refine g_ofW (by decide +kernel) hfl hL (Nat.le_of_ble_eq_true rfl) ?_
  intro p e s m args below meth c C hr hno
  refine g_sub [(0, .ref (L.2.1 6 0)), (1, .int L1), (2, .int L2)] [0, 1, 2] rfl ?_
  unfold TX6_score at h
  refine g_aload_n C 0 rfl 0 rfl dX6_score_0 ?_
  refine g_iload_n C 1 rfl 1 rfl dX6_score_1 ?_
  refine g_iload_n C 2 rfl 2 rfl dX6_score_2 ?_
  refine g_callVv C hno gok_6 rfl rfl [.int L1, .int L2] (fun sz9 => kX6_requireCards l C.2.2.2.2.2.2.1 L C.2.2.2.2.2.2.2.1 L1 L2 v _ X h sz9) wml_RX6_153 winst_X6_requireCards wsel_X6_requireCards wini_RX6 wcode_X6_requireCards rfl rfl (n := 2) (by decide +kernel) rfl ⟨(Nat.le_of_ble_eq_true rfl), (Nat.le_of_ble_eq_true rfl)⟩ ⟨(Nat.le_of_ble_eq_true rfl), (Nat.le_of_ble_eq_true rfl)⟩ ⟨(Nat.le_of_ble_eq_true rfl), (Nat.le_of_ble_eq_true rfl)⟩ (Nat.le_of_ble_eq_true rfl) dX6_score_3 (fun v3 h => ?_)
  refine g_aload_n C 0 rfl 0 rfl dX6_score_6 ?_
  refine g_iload_n C 1 rfl 1 rfl dX6_score_7 ?_
  refine g_iload_n C 2 rfl 2 rfl dX6_score_8 ?_
  refine g_callVv C hno gok_6 rfl rfl [.int L1, .int L2] (fun sz9 => kX6_requireTwo l C.2.2.2.2.2.2.1 L C.2.2.2.2.2.2.2.1 L1 L2 v3 _ X h sz9) wml_RX6_157 winst_X6_requireTwo wsel_X6_requireTwo wini_RX6 wcode_X6_requireTwo rfl rfl (n := 2) (by decide +kernel) rfl ⟨(Nat.le_of_ble_eq_true rfl), (Nat.le_of_ble_eq_true rfl)⟩ ⟨(Nat.le_of_ble_eq_true rfl), (Nat.le_of_ble_eq_true rfl)⟩ ⟨(Nat.le_of_ble_eq_true rfl), (Nat.le_of_ble_eq_true rfl)⟩ (Nat.le_of_ble_eq_true rfl) dX6_score_9 (fun v9 h => ?_)
  refine g_aload_n C 0 rfl 0 rfl dX6_score_12 ?_
  refine g_iload_n C 1 rfl 1 rfl dX6_score_13 ?_
  refine g_iload_n C 2 rfl 2 rfl dX6_score_14 ?_
  refine g_callVi C hno gok_6 rfl rfl [.int L1, .int L2] (fun sz9 => kX6_scoreOf l C.2.2.2.2.2.2.1 L C.2.2.2.2.2.2.2.1 L1 L2 v9 _ X h sz9) wml_RX6_160 winst_X6_scoreOf wsel_X6_scoreOf wini_RX6 wcode_X6_scoreOf rfl rfl (n := 2) (by decide +kernel) rfl ⟨(Nat.le_of_ble_eq_true rfl), (Nat.le_of_ble_eq_true rfl)⟩ ⟨(Nat.le_of_ble_eq_true rfl), (Nat.le_of_ble_eq_true rfl)⟩ ⟨(Nat.le_of_ble_eq_true rfl), (Nat.le_of_ble_eq_true rfl)⟩ (Nat.le_of_ble_eq_true rfl) dX6_score_15 (fun r15 v15 h => ?_)
  exact g_iret C hr rfl (Nat.le_of_ble_eq_true rfl) (Nat.le_of_ble_eq_true rfl) h dX6_score_18
def BX6_sharesNumber_37 (t0 : Int32) (v : gMem) (Q : Int32 → gMem → Prop) (X : String → gMem → Prop) : Prop := (narrow .boolean (.int t0) = .int t0 ∧ Q t0 v)
theorem sX6_sharesNumber_37 (C : gC p l s m args meth c cX6_sharesNumber 4 RX6 L sz) (hr : meth.sig.returnType = (some .boolean)) (hno : ∀ x ∈ c.exceptionTable.toList, False) {t0 : Int32} {v : gMem} {Q : Int32 → gMem → Prop} {X : String → gMem → Prop} (h : BX6_sharesNumber_37 t0 v Q X) : gS p l e ({ frames := 2, cells := 0, slots := 0, locals := 44 } : Room) s m args below meth c 4 L sz (vx_MQ below (gQi L sz Q) (gXC L sz X) args s 0 0 (gA L sz)) 0 0 37 [] [.int t0] v := by
  unfold BX6_sharesNumber_37 at h
  exact g_iret C hr h.1 (Nat.le_of_ble_eq_true rfl) (Nat.le_of_ble_eq_true rfl) h.2 dX6_sharesNumber_37
def BX6_sharesNumber_36 (v : gMem) (Q : Int32 → gMem → Prop) (X : String → gMem → Prop) : Prop := (BX6_sharesNumber_37 0 v Q X)
theorem sX6_sharesNumber_36 (C : gC p l s m args meth c cX6_sharesNumber 4 RX6 L sz) (hr : meth.sig.returnType = (some .boolean)) (hno : ∀ x ∈ c.exceptionTable.toList, False) {v : gMem} {Q : Int32 → gMem → Prop} {X : String → gMem → Prop} (h : BX6_sharesNumber_36 v Q X) : gS p l e ({ frames := 2, cells := 0, slots := 0, locals := 44 } : Room) s m args below meth c 4 L sz (vx_MQ below (gQi L sz Q) (gXC L sz X) args s 0 0 (gA L sz)) 0 0 36 [] [] v := by
  unfold BX6_sharesNumber_36 at h
  refine g_iconst C 0 (by decide) dX6_sharesNumber_36 ?_
  exact sX6_sharesNumber_37 C hr hno h
def TX6_sharesNumber (L1 : Int32) (L2 : Int32) (L3 : Int32) (v : gMem) (Q : Int32 → gMem → Prop) (X : String → gMem → Prop) : Prop := (vp_in L1 16 ∧ (TX2_has (Int32.toNatClampNeg L1) L3 v (fun r7 v7 => ((r7 = 0 → (BX6_sharesNumber_36 v7 Q X)) ∧ (¬ r7 = 0 → (vp_in L1 16 ∧ (vp_in L2 16 ∧ (TX2_agrees (Int32.toNatClampNeg L1) (Int32.toNatClampNeg L2) L3 v7 (fun r26 v26 => ((r26 = 0 → (BX6_sharesNumber_36 v26 Q X)) ∧ (¬ r26 = 0 → (BX6_sharesNumber_37 1 v26 Q X)))) X)))))) X))
theorem kX6_sharesNumber (l : Launch) (hfl : l.stackTraces = false) (L : gL) (hL : gDist L) (L1 : Int32) (L2 : Int32) (L3 : Int32) (v : gMem) (Q : Int32 → gMem → Prop) (X : String → gMem → Prop) (h : TX6_sharesNumber L1 L2 L3 v Q X) (sz : Nat) : vx_Met l yX6_sharesNumber [.code yX6_sharesNumber cX6_sharesNumber 4 (some .boolean)] ({ frames := 2, cells := 0, slots := 0, locals := 44 } : Room) (gPc L sz [.ref (L.2.1 6 0), .int L1, .int L2, .int L3] v) (gQi L sz Q) (gXC L sz X) 0 0 (gA L sz) := by
  refine g_ofW (by decide +kernel) hfl hL (Nat.le_of_ble_eq_true rfl) ?_
  intro p e s m args below meth c C hr hno
  refine g_sub [(0, .ref (L.2.1 6 0)), (1, .int L1), (2, .int L2), (3, .int L3)] [0, 1, 2, 3] rfl ?_
  unfold TX6_sharesNumber at h
  refine g_aload_n C 0 rfl 0 rfl dX6_sharesNumber_0 ?_
  refine fgX6_15 C dX6_sharesNumber_1 ?_
  refine g_iload_n C 1 rfl 1 rfl dX6_sharesNumber_4 ?_
  obtain ⟨hb5, h⟩ := h
  refine g_book C hb5 dX6_sharesNumber_5 ?_
  refine g_iload_n C 3 rfl 3 rfl dX6_sharesNumber_6 ?_
  refine g_callVi C hno (gok_2 (vp_lt hb5)) rfl rfl [.int L3] (fun sz9 => kX2_has l C.2.2.2.2.2.2.1 L C.2.2.2.2.2.2.2.1 (vp_lt hb5) L3 v _ X h sz9) wml_RX6_344 winst_X2_has wsel_X2_has wini_RX2 wcode_X2_has rfl rfl (n := 1) (by decide +kernel) rfl ⟨(Nat.le_of_ble_eq_true rfl), (Nat.le_of_ble_eq_true rfl)⟩ ⟨(Nat.le_of_ble_eq_true rfl), (Nat.le_of_ble_eq_true rfl)⟩ ⟨(Nat.le_of_ble_eq_true rfl), (Nat.le_of_ble_eq_true rfl)⟩ (Nat.le_of_ble_eq_true rfl) dX6_sharesNumber_7 (fun r7 v7 h => ?_)
  refine g_if_eq C 36 (by decide) dX6_sharesNumber_10 (fun hc => ?_) (fun hc => ?_)
  · replace h := h.1 hc
    refine g_sub [] [] rfl ?_
    exact sX6_sharesNumber_36 C hr hno h
  · replace h := h.2 hc
    refine g_aload_n C 0 rfl 0 rfl dX6_sharesNumber_13 ?_
    refine fgX6_15 C dX6_sharesNumber_14 ?_
    refine g_iload_n C 1 rfl 1 rfl dX6_sharesNumber_17 ?_
    obtain ⟨hb18, h⟩ := h
    refine g_book C hb18 dX6_sharesNumber_18 ?_
    refine g_aload_n C 0 rfl 0 rfl dX6_sharesNumber_19 ?_
    refine fgX6_15 C dX6_sharesNumber_20 ?_
    refine g_iload_n C 2 rfl 2 rfl dX6_sharesNumber_23 ?_
    obtain ⟨hb24, h⟩ := h
    refine g_book C hb24 dX6_sharesNumber_24 ?_
    refine g_iload_n C 3 rfl 3 rfl dX6_sharesNumber_25 ?_
    refine g_callVi C hno (gok_2 (vp_lt hb18)) rfl rfl [.ref (L.2.1 2 (Int32.toNatClampNeg L2)), .int L3] (fun sz9 => kX2_agrees l C.2.2.2.2.2.2.1 L C.2.2.2.2.2.2.2.1 (vp_lt hb18) (vp_lt hb24) L3 v7 _ X h sz9) wml_RX6_348 winst_X2_agrees wsel_X2_agrees wini_RX2 wcode_X2_agrees rfl rfl (n := 2) (by decide +kernel) rfl ⟨(Nat.le_of_ble_eq_true rfl), (Nat.le_of_ble_eq_true rfl)⟩ ⟨(Nat.le_of_ble_eq_true rfl), (Nat.le_of_ble_eq_true rfl)⟩ ⟨(Nat.le_of_ble_eq_true rfl), (Nat.le_of_ble_eq_true rfl)⟩ (Nat.le_of_ble_eq_true rfl) dX6_sharesNumber_26 (fun r26 v26 h => ?_)
    refine g_if_eq C 36 (by decide) dX6_sharesNumber_29 (fun hc => ?_) (fun hc => ?_)
    · replace h := h.1 hc
      refine g_sub [] [] rfl ?_
      exact sX6_sharesNumber_36 C hr hno h
    · replace h := h.2 hc
      refine g_iconst C 1 (by decide) dX6_sharesNumber_32 ?_
      refine g_goto C 37 (by decide) dX6_sharesNumber_33 ?_
      refine g_sub [] [] rfl ?_
      exact sX6_sharesNumber_37 C hr hno h
def BX6_sharesKey_49 (t0 : Int32) (v : gMem) (Q : Int32 → gMem → Prop) (X : String → gMem → Prop) : Prop := (narrow .boolean (.int t0) = .int t0 ∧ Q t0 v)
theorem sX6_sharesKey_49 (C : gC p l s m args meth c cX6_sharesKey 3 RX6 L sz) (hr : meth.sig.returnType = (some .boolean)) (hno : ∀ x ∈ c.exceptionTable.toList, False) {t0 : Int32} {v : gMem} {Q : Int32 → gMem → Prop} {X : String → gMem → Prop} (h : BX6_sharesKey_49 t0 v Q X) : gS p l e ({ frames := 3, cells := 0, slots := 0, locals := 67 } : Room) s m args below meth c 3 L sz (vx_MQ below (gQi L sz Q) (gXC L sz X) args s 0 0 (gA L sz)) 0 0 49 [] [.int t0] v := by
  unfold BX6_sharesKey_49 at h
  exact g_iret C hr h.1 (Nat.le_of_ble_eq_true rfl) (Nat.le_of_ble_eq_true rfl) h.2 dX6_sharesKey_49
def BX6_sharesKey_44 (v : gMem) (Q : Int32 → gMem → Prop) (X : String → gMem → Prop) : Prop := (BX6_sharesKey_49 1 v Q X)
theorem sX6_sharesKey_44 (C : gC p l s m args meth c cX6_sharesKey 3 RX6 L sz) (hr : meth.sig.returnType = (some .boolean)) (hno : ∀ x ∈ c.exceptionTable.toList, False) {v : gMem} {Q : Int32 → gMem → Prop} {X : String → gMem → Prop} (h : BX6_sharesKey_44 v Q X) : gS p l e ({ frames := 3, cells := 0, slots := 0, locals := 67 } : Room) s m args below meth c 3 L sz (vx_MQ below (gQi L sz Q) (gXC L sz X) args s 0 0 (gA L sz)) 0 0 44 [] [] v := by
  unfold BX6_sharesKey_44 at h
  refine g_iconst C 1 (by decide) dX6_sharesKey_44 ?_
  refine g_goto C 49 (by decide) dX6_sharesKey_45 ?_
  exact sX6_sharesKey_49 C hr hno h
def TX6_sharesKey (L1 : Int32) (L2 : Int32) (v : gMem) (Q : Int32 → gMem → Prop) (X : String → gMem → Prop) : Prop := (TX6_sharesNumber L1 L2 1 v (fun r4 v4 => ((¬ r4 = 0 → (BX6_sharesKey_44 v4 Q X)) ∧ (r4 = 0 → (TX6_sharesNumber L1 L2 2 v4 (fun r14 v14 => ((¬ r14 = 0 → (BX6_sharesKey_44 v14 Q X)) ∧ (r14 = 0 → (vp_in L1 16 ∧ (vp_in L2 16 ∧ (TX4_soundsLike (Int32.toNatClampNeg L1) (Int32.toNatClampNeg L2) v14 (fun r38 v38 => ((r38 = 0 → (BX6_sharesKey_49 0 v38 Q X)) ∧ (¬ r38 = 0 → (BX6_sharesKey_44 v38 Q X)))) X)))))) X)))) X)
theorem kX6_sharesKey (l : Launch) (hfl : l.stackTraces = false) (L : gL) (hL : gDist L) (L1 : Int32) (L2 : Int32) (v : gMem) (Q : Int32 → gMem → Prop) (X : String → gMem → Prop) (h : TX6_sharesKey L1 L2 v Q X) (sz : Nat) : vx_Met l yX6_sharesKey [.code yX6_sharesKey cX6_sharesKey 3 (some .boolean)] ({ frames := 3, cells := 0, slots := 0, locals := 67 } : Room) (gPc L sz [.ref (L.2.1 6 0), .int L1, .int L2] v) (gQi L sz Q) (gXC L sz X) 0 0 (gA L sz) := by
  refine g_ofW (by decide +kernel) hfl hL (Nat.le_of_ble_eq_true rfl) ?_
  intro p e s m args below meth c C hr hno
  refine g_sub [(0, .ref (L.2.1 6 0)), (1, .int L1), (2, .int L2)] [0, 1, 2] rfl ?_
  unfold TX6_sharesKey at h
  refine g_aload_n C 0 rfl 0 rfl dX6_sharesKey_0 ?_
  refine g_iload_n C 1 rfl 1 rfl dX6_sharesKey_1 ?_
  refine g_iload_n C 2 rfl 2 rfl dX6_sharesKey_2 ?_
  refine g_iconst C 1 (by decide) dX6_sharesKey_3 ?_
  refine g_callVi C hno gok_6 rfl rfl [.int L1, .int L2, .int 1] (fun sz9 => kX6_sharesNumber l C.2.2.2.2.2.2.1 L C.2.2.2.2.2.2.2.1 L1 L2 1 v _ X h sz9) wml_RX6_361 winst_X6_sharesNumber wsel_X6_sharesNumber wini_RX6 wcode_X6_sharesNumber rfl rfl (n := 3) (by decide +kernel) rfl ⟨(Nat.le_of_ble_eq_true rfl), (Nat.le_of_ble_eq_true rfl)⟩ ⟨(Nat.le_of_ble_eq_true rfl), (Nat.le_of_ble_eq_true rfl)⟩ ⟨(Nat.le_of_ble_eq_true rfl), (Nat.le_of_ble_eq_true rfl)⟩ (Nat.le_of_ble_eq_true rfl) dX6_sharesKey_4 (fun r4 v4 h => ?_)
  refine g_if_ne C 44 (by decide) dX6_sharesKey_7 (fun hc => ?_) (fun hc => ?_)
  · replace h := h.1 hc
    refine g_sub [] [] rfl ?_
    exact sX6_sharesKey_44 C hr hno h
  · replace h := h.2 hc
    refine g_aload_n C 0 rfl 0 rfl dX6_sharesKey_10 ?_
    refine g_iload_n C 1 rfl 1 rfl dX6_sharesKey_11 ?_
    refine g_iload_n C 2 rfl 2 rfl dX6_sharesKey_12 ?_
    refine g_iconst C 2 (by decide) dX6_sharesKey_13 ?_
    refine g_callVi C hno gok_6 rfl rfl [.int L1, .int L2, .int 2] (fun sz9 => kX6_sharesNumber l C.2.2.2.2.2.2.1 L C.2.2.2.2.2.2.2.1 L1 L2 2 v4 _ X h sz9) wml_RX6_361 winst_X6_sharesNumber wsel_X6_sharesNumber wini_RX6 wcode_X6_sharesNumber rfl rfl (n := 3) (by decide +kernel) rfl ⟨(Nat.le_of_ble_eq_true rfl), (Nat.le_of_ble_eq_true rfl)⟩ ⟨(Nat.le_of_ble_eq_true rfl), (Nat.le_of_ble_eq_true rfl)⟩ ⟨(Nat.le_of_ble_eq_true rfl), (Nat.le_of_ble_eq_true rfl)⟩ (Nat.le_of_ble_eq_true rfl) dX6_sharesKey_14 (fun r14 v14 h => ?_)
    refine g_if_ne C 44 (by decide) dX6_sharesKey_17 (fun hc => ?_) (fun hc => ?_)
    · replace h := h.1 hc
      refine g_sub [] [] rfl ?_
      exact sX6_sharesKey_44 C hr hno h
    · replace h := h.2 hc
      refine g_aload_n C 0 rfl 0 rfl dX6_sharesKey_20 ?_
      refine fgX6_15 C dX6_sharesKey_21 ?_
      refine g_iload_n C 1 rfl 1 rfl dX6_sharesKey_24 ?_
      obtain ⟨hb25, h⟩ := h
      refine g_book C hb25 dX6_sharesKey_25 ?_
      refine fgX6_103 C (gok_2 (vp_lt hb25)) dX6_sharesKey_26 ?_
      refine g_aload_n C 0 rfl 0 rfl dX6_sharesKey_29 ?_
      refine fgX6_15 C dX6_sharesKey_30 ?_
      refine g_iload_n C 2 rfl 2 rfl dX6_sharesKey_33 ?_
      obtain ⟨hb34, h⟩ := h
      refine g_book C hb34 dX6_sharesKey_34 ?_
      refine fgX6_103 C (gok_2 (vp_lt hb34)) dX6_sharesKey_35 ?_
      refine g_callVi C hno (gok_4 (Nat.lt_of_lt_of_le (vp_lt hb25) (by decide))) rfl rfl [.ref (L.2.1 4 (Int32.toNatClampNeg L2))] (fun sz9 => kX4_soundsLike l C.2.2.2.2.2.2.1 L C.2.2.2.2.2.2.2.1 (Nat.lt_of_lt_of_le (vp_lt hb25) (by decide)) (Nat.lt_of_lt_of_le (vp_lt hb34) (by decide)) v14 _ X h sz9) wml_RX6_352 winst_X4_soundsLike wsel_X4_soundsLike wini_RX4 wcode_X4_soundsLike rfl rfl (n := 1) (by decide +kernel) rfl ⟨(Nat.le_of_ble_eq_true rfl), (Nat.le_of_ble_eq_true rfl)⟩ ⟨(Nat.le_of_ble_eq_true rfl), (Nat.le_of_ble_eq_true rfl)⟩ ⟨(Nat.le_of_ble_eq_true rfl), (Nat.le_of_ble_eq_true rfl)⟩ (Nat.le_of_ble_eq_true rfl) dX6_sharesKey_38 (fun r38 v38 h => ?_)
      refine g_if_eq C 48 (by decide) dX6_sharesKey_41 (fun hc => ?_) (fun hc => ?_)
      · replace h := h.1 hc
        refine g_iconst C 0 (by decide) dX6_sharesKey_48 ?_
        refine g_sub [] [] rfl ?_
        exact sX6_sharesKey_49 C hr hno h
      · replace h := h.2 hc
        refine g_sub [] [] rfl ?_
        exact sX6_sharesKey_44 C hr hno h
def BX6_canBeMerged_45 (t0 : Int32) (v : gMem) (Q : Int32 → gMem → Prop) (X : String → gMem → Prop) : Prop := (narrow .boolean (.int t0) = .int t0 ∧ Q t0 v)
theorem sX6_canBeMerged_45 (C : gC p l s m args meth c cX6_canBeMerged 5 RX6 L sz) (hr : meth.sig.returnType = (some .boolean)) (hno : ∀ x ∈ c.exceptionTable.toList, False) {t0 : Int32} {v : gMem} {Q : Int32 → gMem → Prop} {X : String → gMem → Prop} (h : BX6_canBeMerged_45 t0 v Q X) : gS p l e ({ frames := 3, cells := 0, slots := 0, locals := 68 } : Room) s m args below meth c 5 L sz (vx_MQ below (gQi L sz Q) (gXC L sz X) args s 0 0 (gA L sz)) 0 0 45 [] [.int t0] v := by
  unfold BX6_canBeMerged_45 at h
  exact g_iret C hr h.1 (Nat.le_of_ble_eq_true rfl) (Nat.le_of_ble_eq_true rfl) h.2 dX6_canBeMerged_45
def BX6_canBeMerged_44 (v : gMem) (Q : Int32 → gMem → Prop) (X : String → gMem → Prop) : Prop := (BX6_canBeMerged_45 0 v Q X)
theorem sX6_canBeMerged_44 (C : gC p l s m args meth c cX6_canBeMerged 5 RX6 L sz) (hr : meth.sig.returnType = (some .boolean)) (hno : ∀ x ∈ c.exceptionTable.toList, False) {v : gMem} {Q : Int32 → gMem → Prop} {X : String → gMem → Prop} (h : BX6_canBeMerged_44 v Q X) : gS p l e ({ frames := 3, cells := 0, slots := 0, locals := 68 } : Room) s m args below meth c 5 L sz (vx_MQ below (gQi L sz Q) (gXC L sz X) args s 0 0 (gA L sz)) 0 0 44 [] [] v := by
  unfold BX6_canBeMerged_44 at h
  refine g_iconst C 0 (by decide) dX6_canBeMerged_44 ?_
  exact sX6_canBeMerged_45 C hr hno h
def TX6_canBeMerged (L1 : Int32) (L2 : Int32) (v : gMem) (Q : Int32 → gMem → Prop) (X : String → gMem → Prop) : Prop := (TX3_joinedWith L1 v (fun r5 v5 => (TX3_joinedWith L2 v5 (fun r14 v14 => ((¬ (r5 &&& r14) = 0 → (BX6_canBeMerged_44 v14 Q X)) ∧ ((r5 &&& r14) = 0 → (TX5_partnersOfAll 0 r5 v14 (fun r31 v31 => ((¬ (r31 &&& r14) = 0 → (BX6_canBeMerged_44 v31 Q X)) ∧ ((r31 &&& r14) = 0 → (BX6_canBeMerged_45 1 v31 Q X)))) X)))) X)) X)
theorem kX6_canBeMerged (l : Launch) (hfl : l.stackTraces = false) (L : gL) (hL : gDist L) (L1 : Int32) (L2 : Int32) (v : gMem) (Q : Int32 → gMem → Prop) (X : String → gMem → Prop) (h : TX6_canBeMerged L1 L2 v Q X) (sz : Nat) : vx_Met l yX6_canBeMerged [.code yX6_canBeMerged cX6_canBeMerged 5 (some .boolean)] ({ frames := 3, cells := 0, slots := 0, locals := 68 } : Room) (gPc L sz [.ref (L.2.1 6 0), .int L1, .int L2] v) (gQi L sz Q) (gXC L sz X) 0 0 (gA L sz) := by
  refine g_ofW (by decide +kernel) hfl hL (Nat.le_of_ble_eq_true rfl) ?_
  intro p e s m args below meth c C hr hno
  refine g_sub [(0, .ref (L.2.1 6 0)), (1, .int L1), (2, .int L2)] [0, 1, 2] rfl ?_
  unfold TX6_canBeMerged at h
  refine g_aload_n C 0 rfl 0 rfl dX6_canBeMerged_0 ?_
  refine fgX6_39 C dX6_canBeMerged_1 ?_
  refine g_iload_n C 1 rfl 1 rfl dX6_canBeMerged_4 ?_
  refine g_callVi C hno gok_3 rfl rfl [.int L1] (fun sz9 => kX3_joinedWith l C.2.2.2.2.2.2.1 L C.2.2.2.2.2.2.2.1 L1 v _ X h sz9) wml_RX6_226 winst_X3_joinedWith wsel_X3_joinedWith wini_RX3 wcode_X3_joinedWith rfl rfl (n := 1) (by decide +kernel) rfl ⟨(Nat.le_of_ble_eq_true rfl), (Nat.le_of_ble_eq_true rfl)⟩ ⟨(Nat.le_of_ble_eq_true rfl), (Nat.le_of_ble_eq_true rfl)⟩ ⟨(Nat.le_of_ble_eq_true rfl), (Nat.le_of_ble_eq_true rfl)⟩ (Nat.le_of_ble_eq_true rfl) dX6_canBeMerged_5 (fun r5 v5 h => ?_)
  refine g_istore_n C 3 rfl [(3, .int r5), (0, .ref (L.2.1 6 0)), (1, .int L1), (2, .int L2)] (Nat.le_of_ble_eq_true rfl) rfl dX6_canBeMerged_8 ?_
  refine g_aload_n C 0 rfl 1 rfl dX6_canBeMerged_9 ?_
  refine fgX6_39 C dX6_canBeMerged_10 ?_
  refine g_iload_n C 2 rfl 3 rfl dX6_canBeMerged_13 ?_
  refine g_callVi C hno gok_3 rfl rfl [.int L2] (fun sz9 => kX3_joinedWith l C.2.2.2.2.2.2.1 L C.2.2.2.2.2.2.2.1 L2 v5 _ X h sz9) wml_RX6_226 winst_X3_joinedWith wsel_X3_joinedWith wini_RX3 wcode_X3_joinedWith rfl rfl (n := 1) (by decide +kernel) rfl ⟨(Nat.le_of_ble_eq_true rfl), (Nat.le_of_ble_eq_true rfl)⟩ ⟨(Nat.le_of_ble_eq_true rfl), (Nat.le_of_ble_eq_true rfl)⟩ ⟨(Nat.le_of_ble_eq_true rfl), (Nat.le_of_ble_eq_true rfl)⟩ (Nat.le_of_ble_eq_true rfl) dX6_canBeMerged_14 (fun r14 v14 h => ?_)
  refine g_istore C [(4, .int r14), (3, .int r5), (0, .ref (L.2.1 6 0)), (1, .int L1), (2, .int L2)] (Nat.le_of_ble_eq_true rfl) rfl dX6_canBeMerged_17 ?_
  refine g_iload_n C 3 rfl 1 rfl dX6_canBeMerged_19 ?_
  refine g_iload C 0 rfl dX6_canBeMerged_20 ?_
  refine g_iand C dX6_canBeMerged_22 ?_
  refine g_if_ne C 44 (by decide) dX6_canBeMerged_23 (fun hc => ?_) (fun hc => ?_)
  · replace h := h.1 hc
    refine g_sub [] [] rfl ?_
    exact sX6_canBeMerged_44 C hr hno h
  · replace h := h.2 hc
    refine g_aload_n C 0 rfl 2 rfl dX6_canBeMerged_26 ?_
    refine fgX6_32 C dX6_canBeMerged_27 ?_
    refine g_iload_n C 3 rfl 1 rfl dX6_canBeMerged_30 ?_
    refine g_callVi C hno (gok_5 (by decide : 0 < 2)) rfl rfl [.int r5] (fun sz9 => kX5_partnersOfAll l C.2.2.2.2.2.2.1 L C.2.2.2.2.2.2.2.1 (by decide : 0 < 2) r5 v14 _ X h sz9) wml_RX6_223 winst_X5_partnersOfAll wsel_X5_partnersOfAll wini_RX5 wcode_X5_partnersOfAll rfl rfl (n := 1) (by decide +kernel) rfl ⟨(Nat.le_of_ble_eq_true rfl), (Nat.le_of_ble_eq_true rfl)⟩ ⟨(Nat.le_of_ble_eq_true rfl), (Nat.le_of_ble_eq_true rfl)⟩ ⟨(Nat.le_of_ble_eq_true rfl), (Nat.le_of_ble_eq_true rfl)⟩ (Nat.le_of_ble_eq_true rfl) dX6_canBeMerged_31 (fun r31 v31 h => ?_)
    refine g_iload C 0 rfl dX6_canBeMerged_34 ?_
    refine g_iand C dX6_canBeMerged_36 ?_
    refine g_if_ne C 44 (by decide) dX6_canBeMerged_37 (fun hc => ?_) (fun hc => ?_)
    · replace h := h.1 hc
      refine g_sub [] [] rfl ?_
      exact sX6_canBeMerged_44 C hr hno h
    · replace h := h.2 hc
      refine g_iconst C 1 (by decide) dX6_canBeMerged_40 ?_
      refine g_goto C 45 (by decide) dX6_canBeMerged_41 ?_
      refine g_sub [] [] rfl ?_
      exact sX6_canBeMerged_45 C hr hno h
def BX6_candidates_58 (I4 : Int32 → Int32 → gMem → Prop) (I16 : Int32 → Int32 → gMem → Prop) (L1 : Int32) (L2 : Int32) (L3 : Int32) (v : gMem) (Q : Int32 → gMem → Prop) (X : String → gMem → Prop) : Prop := (I16 L1 (L3 + 1) v)
theorem sX6_candidates_58 (C : gC p l s m args meth c cX6_candidates 4 RX6 L sz) (hr : meth.sig.returnType = (some .int)) (hno : ∀ x ∈ c.exceptionTable.toList, False) {L1 : Int32} {L2 : Int32} {L3 : Int32} {v : gMem} {Q : Int32 → gMem → Prop} {X : String → gMem → Prop} {I4 : Int32 → Int32 → gMem → Prop} (hI4 : ∀ (L1 : Int32) (L2 : Int32) (v : gMem), I4 L1 L2 v → gS p l e ({ frames := 4, cells := 0, slots := 0, locals := 92 } : Room) s m args below meth c 4 L sz (vx_MQ below (gQi L sz Q) (gXC L sz X) args s 0 0 (gA L sz)) 0 0 4 [(0, .ref (L.2.1 6 0)), (1, .int L1), (2, .int L2)] [] v) {I16 : Int32 → Int32 → gMem → Prop} (hI16 : ∀ (L1 : Int32) (L3 : Int32) (v : gMem), I16 L1 L3 v → gS p l e ({ frames := 4, cells := 0, slots := 0, locals := 92 } : Room) s m args below meth c 4 L sz (vx_MQ below (gQi L sz Q) (gXC L sz X) args s 0 0 (gA L sz)) 0 0 16 [(0, .ref (L.2.1 6 0)), (1, .int L1), (2, .int L2), (3, .int L3)] [] v) (h : BX6_candidates_58 I4 I16 L1 L2 L3 v Q X) : gS p l e ({ frames := 4, cells := 0, slots := 0, locals := 92 } : Room) s m args below meth c 4 L sz (vx_MQ below (gQi L sz Q) (gXC L sz X) args s 0 0 (gA L sz)) 0 0 58 [(0, .ref (L.2.1 6 0)), (1, .int L1), (2, .int L2), (3, .int L3)] [] v := by
  unfold BX6_candidates_58 at h
  refine g_iinc C (k := 3) (L3 + 1) [(3, .int (L3 + 1)), (0, .ref (L.2.1 6 0)), (1, .int L1), (2, .int L2)] rfl rfl (Nat.le_of_ble_eq_true rfl) rfl dX6_candidates_58 ?_
  refine g_goto C 16 (by decide) dX6_candidates_61 ?_
  refine g_sub [(0, .ref (L.2.1 6 0)), (1, .int L1), (2, .int L2), (3, .int (L3 + 1))] [1, 2, 3, 0] rfl ?_
  exact hI16 _ _ _ h
def BX6_candidates_16 (I4 : Int32 → Int32 → gMem → Prop) (I16 : Int32 → Int32 → gMem → Prop) (L1 : Int32) (L2 : Int32) (L3 : Int32) (v : gMem) (Q : Int32 → gMem → Prop) (X : String → gMem → Prop) : Prop := (((v 6 0 3) ≤ L3 → (I4 L1 (L2 + 1) v)) ∧ (¬ (v 6 0 3) ≤ L3 → (TX6_sharesKey L2 L3 v (fun r27 v27 => ((r27 = 0 → (BX6_candidates_58 I4 I16 L1 L2 L3 v27 Q X)) ∧ (¬ r27 = 0 → (TX6_scoreOf L2 L3 v27 (fun r36 v36 => ((r36 < (v36 6 0 6) → (BX6_candidates_58 I4 I16 L1 L2 L3 v36 Q X)) ∧ (¬ r36 < (v36 6 0 6) → (TX6_canBeMerged L2 L3 v36 (fun r49 v49 => ((r49 = 0 → (BX6_candidates_58 I4 I16 L1 L2 L3 v49 Q X)) ∧ (¬ r49 = 0 → (BX6_candidates_58 I4 I16 (L1 + 1) L2 L3 v49 Q X)))) X)))) X)))) X)))
theorem sX6_candidates_16 (C : gC p l s m args meth c cX6_candidates 4 RX6 L sz) (hr : meth.sig.returnType = (some .int)) (hno : ∀ x ∈ c.exceptionTable.toList, False) {L1 : Int32} {L2 : Int32} {L3 : Int32} {v : gMem} {Q : Int32 → gMem → Prop} {X : String → gMem → Prop} {I4 : Int32 → Int32 → gMem → Prop} (hI4 : ∀ (L1 : Int32) (L2 : Int32) (v : gMem), I4 L1 L2 v → gS p l e ({ frames := 4, cells := 0, slots := 0, locals := 92 } : Room) s m args below meth c 4 L sz (vx_MQ below (gQi L sz Q) (gXC L sz X) args s 0 0 (gA L sz)) 0 0 4 [(0, .ref (L.2.1 6 0)), (1, .int L1), (2, .int L2)] [] v) {I16 : Int32 → Int32 → gMem → Prop} (hI16 : ∀ (L1 : Int32) (L3 : Int32) (v : gMem), I16 L1 L3 v → gS p l e ({ frames := 4, cells := 0, slots := 0, locals := 92 } : Room) s m args below meth c 4 L sz (vx_MQ below (gQi L sz Q) (gXC L sz X) args s 0 0 (gA L sz)) 0 0 16 [(0, .ref (L.2.1 6 0)), (1, .int L1), (2, .int L2), (3, .int L3)] [] v) (h : BX6_candidates_16 I4 I16 L1 L2 L3 v Q X) : gS p l e ({ frames := 4, cells := 0, slots := 0, locals := 92 } : Room) s m args below meth c 4 L sz (vx_MQ below (gQi L sz Q) (gXC L sz X) args s 0 0 (gA L sz)) 0 0 16 [(0, .ref (L.2.1 6 0)), (1, .int L1), (2, .int L2), (3, .int L3)] [] v := by
  unfold BX6_candidates_16 at h
  refine g_iload_n C 3 rfl 3 rfl dX6_candidates_16 ?_
  refine g_aload_n C 0 rfl 0 rfl dX6_candidates_17 ?_
  refine fgX6_88 C dX6_candidates_18 ?_
  refine g_icmp_ge C 64 (by decide) dX6_candidates_21 (fun hc => ?_) (fun hc => ?_)
  · replace h := h.1 hc
    refine g_iinc C (k := 2) (L2 + 1) [(2, .int (L2 + 1)), (0, .ref (L.2.1 6 0)), (1, .int L1), (3, .int L3)] rfl rfl (Nat.le_of_ble_eq_true rfl) rfl dX6_candidates_64 ?_
    refine g_goto C 4 (by decide) dX6_candidates_67 ?_
    refine g_sub [(0, .ref (L.2.1 6 0)), (1, .int L1), (2, .int (L2 + 1))] [1, 2, 0] rfl ?_
    exact hI4 _ _ _ h
  · replace h := h.2 hc
    refine g_aload_n C 0 rfl 0 rfl dX6_candidates_24 ?_
    refine g_iload_n C 2 rfl 2 rfl dX6_candidates_25 ?_
    refine g_iload_n C 3 rfl 3 rfl dX6_candidates_26 ?_
    refine g_callVi C hno gok_6 rfl rfl [.int L2, .int L3] (fun sz9 => kX6_sharesKey l C.2.2.2.2.2.2.1 L C.2.2.2.2.2.2.2.1 L2 L3 v _ X h sz9) wml_RX6_164 winst_X6_sharesKey wsel_X6_sharesKey wini_RX6 wcode_X6_sharesKey rfl rfl (n := 2) (by decide +kernel) rfl ⟨(Nat.le_of_ble_eq_true rfl), (Nat.le_of_ble_eq_true rfl)⟩ ⟨(Nat.le_of_ble_eq_true rfl), (Nat.le_of_ble_eq_true rfl)⟩ ⟨(Nat.le_of_ble_eq_true rfl), (Nat.le_of_ble_eq_true rfl)⟩ (Nat.le_of_ble_eq_true rfl) dX6_candidates_27 (fun r27 v27 h => ?_)
    refine g_if_eq C 58 (by decide) dX6_candidates_30 (fun hc => ?_) (fun hc => ?_)
    · replace h := h.1 hc
      exact sX6_candidates_58 C hr hno hI4 hI16 h
    · replace h := h.2 hc
      refine g_aload_n C 0 rfl 0 rfl dX6_candidates_33 ?_
      refine g_iload_n C 2 rfl 2 rfl dX6_candidates_34 ?_
      refine g_iload_n C 3 rfl 3 rfl dX6_candidates_35 ?_
      refine g_callVi C hno gok_6 rfl rfl [.int L2, .int L3] (fun sz9 => kX6_scoreOf l C.2.2.2.2.2.2.1 L C.2.2.2.2.2.2.2.1 L2 L3 v27 _ X h sz9) wml_RX6_160 winst_X6_scoreOf wsel_X6_scoreOf wini_RX6 wcode_X6_scoreOf rfl rfl (n := 2) (by decide +kernel) rfl ⟨(Nat.le_of_ble_eq_true rfl), (Nat.le_of_ble_eq_true rfl)⟩ ⟨(Nat.le_of_ble_eq_true rfl), (Nat.le_of_ble_eq_true rfl)⟩ ⟨(Nat.le_of_ble_eq_true rfl), (Nat.le_of_ble_eq_true rfl)⟩ (Nat.le_of_ble_eq_true rfl) dX6_candidates_36 (fun r36 v36 h => ?_)
      refine g_aload_n C 0 rfl 0 rfl dX6_candidates_39 ?_
      refine fgX6_25 C dX6_candidates_40 ?_
      refine g_icmp_lt C 58 (by decide) dX6_candidates_43 (fun hc => ?_) (fun hc => ?_)
      · replace h := h.1 hc
        exact sX6_candidates_58 C hr hno hI4 hI16 h
      · replace h := h.2 hc
        refine g_aload_n C 0 rfl 0 rfl dX6_candidates_46 ?_
        refine g_iload_n C 2 rfl 2 rfl dX6_candidates_47 ?_
        refine g_iload_n C 3 rfl 3 rfl dX6_candidates_48 ?_
        refine g_callVi C hno gok_6 rfl rfl [.int L2, .int L3] (fun sz9 => kX6_canBeMerged l C.2.2.2.2.2.2.1 L C.2.2.2.2.2.2.2.1 L2 L3 v36 _ X h sz9) wml_RX6_168 winst_X6_canBeMerged wsel_X6_canBeMerged wini_RX6 wcode_X6_canBeMerged rfl rfl (n := 2) (by decide +kernel) rfl ⟨(Nat.le_of_ble_eq_true rfl), (Nat.le_of_ble_eq_true rfl)⟩ ⟨(Nat.le_of_ble_eq_true rfl), (Nat.le_of_ble_eq_true rfl)⟩ ⟨(Nat.le_of_ble_eq_true rfl), (Nat.le_of_ble_eq_true rfl)⟩ (Nat.le_of_ble_eq_true rfl) dX6_candidates_49 (fun r49 v49 h => ?_)
        refine g_if_eq C 58 (by decide) dX6_candidates_52 (fun hc => ?_) (fun hc => ?_)
        · replace h := h.1 hc
          exact sX6_candidates_58 C hr hno hI4 hI16 h
        · replace h := h.2 hc
          refine g_iinc C (k := 1) (L1 + 1) [(1, .int (L1 + 1)), (0, .ref (L.2.1 6 0)), (2, .int L2), (3, .int L3)] rfl rfl (Nat.le_of_ble_eq_true rfl) rfl dX6_candidates_55 ?_
          refine g_sub [(0, .ref (L.2.1 6 0)), (1, .int (L1 + 1)), (2, .int L2), (3, .int L3)] [1, 0, 2, 3] rfl ?_
          exact sX6_candidates_58 C hr hno hI4 hI16 h
def LX6_candidates_16 (I4 : Int32 → Int32 → gMem → Prop) (L1 : Int32) (L2 : Int32) (L3 : Int32) (v : gMem) (Q : Int32 → gMem → Prop) (X : String → gMem → Prop) : Prop := ∀ I16 : Int32 → Int32 → gMem → Prop, (∀ (L1 : Int32) (L3 : Int32) (v : gMem), BX6_candidates_16 I4 I16 L1 L2 L3 v Q X → I16 L1 L3 v) → I16 L1 L3 v
theorem slX6_candidates_16 (C : gC p l s m args meth c cX6_candidates 4 RX6 L sz) (hr : meth.sig.returnType = (some .int)) (hno : ∀ x ∈ c.exceptionTable.toList, False) {L1 : Int32} {L2 : Int32} {L3 : Int32} {v : gMem} {Q : Int32 → gMem → Prop} {X : String → gMem → Prop} {I4 : Int32 → Int32 → gMem → Prop} (hI4 : ∀ (L1 : Int32) (L2 : Int32) (v : gMem), I4 L1 L2 v → gS p l e ({ frames := 4, cells := 0, slots := 0, locals := 92 } : Room) s m args below meth c 4 L sz (vx_MQ below (gQi L sz Q) (gXC L sz X) args s 0 0 (gA L sz)) 0 0 4 [(0, .ref (L.2.1 6 0)), (1, .int L1), (2, .int L2)] [] v) (h : LX6_candidates_16 I4 L1 L2 L3 v Q X) : gS p l e ({ frames := 4, cells := 0, slots := 0, locals := 92 } : Room) s m args below meth c 4 L sz (vx_MQ below (gQi L sz Q) (gXC L sz X) args s 0 0 (gA L sz)) 0 0 16 [(0, .ref (L.2.1 6 0)), (1, .int L1), (2, .int L2), (3, .int L3)] [] v := by
  refine h (fun L1 L3 v => gS p l e ({ frames := 4, cells := 0, slots := 0, locals := 92 } : Room) s m args below meth c 4 L sz (vx_MQ below (gQi L sz Q) (gXC L sz X) args s 0 0 (gA L sz)) 0 0 16 [(0, .ref (L.2.1 6 0)), (1, .int L1), (2, .int L2), (3, .int L3)] [] v) (fun L1 L3 v hb => ?_)
  exact sX6_candidates_16 C hr hno hI4 (fun _ _ _ hs => hs) hb
def BX6_candidates_4 (I4 : Int32 → Int32 → gMem → Prop) (L1 : Int32) (L2 : Int32) (v : gMem) (Q : Int32 → gMem → Prop) (X : String → gMem → Prop) : Prop := (((v 6 0 3) ≤ L2 → (Q L1 v)) ∧ (¬ (v 6 0 3) ≤ L2 → (LX6_candidates_16 I4 L1 L2 (L2 + 1) v Q X)))
theorem sX6_candidates_4 (C : gC p l s m args meth c cX6_candidates 4 RX6 L sz) (hr : meth.sig.returnType = (some .int)) (hno : ∀ x ∈ c.exceptionTable.toList, False) {L1 : Int32} {L2 : Int32} {v : gMem} {Q : Int32 → gMem → Prop} {X : String → gMem → Prop} {I4 : Int32 → Int32 → gMem → Prop} (hI4 : ∀ (L1 : Int32) (L2 : Int32) (v : gMem), I4 L1 L2 v → gS p l e ({ frames := 4, cells := 0, slots := 0, locals := 92 } : Room) s m args below meth c 4 L sz (vx_MQ below (gQi L sz Q) (gXC L sz X) args s 0 0 (gA L sz)) 0 0 4 [(0, .ref (L.2.1 6 0)), (1, .int L1), (2, .int L2)] [] v) (h : BX6_candidates_4 I4 L1 L2 v Q X) : gS p l e ({ frames := 4, cells := 0, slots := 0, locals := 92 } : Room) s m args below meth c 4 L sz (vx_MQ below (gQi L sz Q) (gXC L sz X) args s 0 0 (gA L sz)) 0 0 4 [(0, .ref (L.2.1 6 0)), (1, .int L1), (2, .int L2)] [] v := by
  unfold BX6_candidates_4 at h
  refine g_iload_n C 2 rfl 2 rfl dX6_candidates_4 ?_
  refine g_aload_n C 0 rfl 0 rfl dX6_candidates_5 ?_
  refine fgX6_88 C dX6_candidates_6 ?_
  refine g_icmp_ge C 70 (by decide) dX6_candidates_9 (fun hc => ?_) (fun hc => ?_)
  · replace h := h.1 hc
    refine g_iload_n C 1 rfl 1 rfl dX6_candidates_70 ?_
    exact g_iret C hr rfl (Nat.le_of_ble_eq_true rfl) (Nat.le_of_ble_eq_true rfl) h dX6_candidates_71
  · replace h := h.2 hc
    refine g_iload_n C 2 rfl 2 rfl dX6_candidates_12 ?_
    refine g_iconst C 1 (by decide) dX6_candidates_13 ?_
    refine g_iadd C dX6_candidates_14 ?_
    refine g_istore_n C 3 rfl [(3, .int (L2 + 1)), (0, .ref (L.2.1 6 0)), (1, .int L1), (2, .int L2)] (Nat.le_of_ble_eq_true rfl) rfl dX6_candidates_15 ?_
    refine g_sub [(0, .ref (L.2.1 6 0)), (1, .int L1), (2, .int L2), (3, .int (L2 + 1))] [1, 2, 3, 0] rfl ?_
    exact slX6_candidates_16 C hr hno hI4 h
def LX6_candidates_4 (L1 : Int32) (L2 : Int32) (v : gMem) (Q : Int32 → gMem → Prop) (X : String → gMem → Prop) : Prop := ∀ I4 : Int32 → Int32 → gMem → Prop, (∀ (L1 : Int32) (L2 : Int32) (v : gMem), BX6_candidates_4 I4 L1 L2 v Q X → I4 L1 L2 v) → I4 L1 L2 v
theorem slX6_candidates_4 (C : gC p l s m args meth c cX6_candidates 4 RX6 L sz) (hr : meth.sig.returnType = (some .int)) (hno : ∀ x ∈ c.exceptionTable.toList, False) {L1 : Int32} {L2 : Int32} {v : gMem} {Q : Int32 → gMem → Prop} {X : String → gMem → Prop} (h : LX6_candidates_4 L1 L2 v Q X) : gS p l e ({ frames := 4, cells := 0, slots := 0, locals := 92 } : Room) s m args below meth c 4 L sz (vx_MQ below (gQi L sz Q) (gXC L sz X) args s 0 0 (gA L sz)) 0 0 4 [(0, .ref (L.2.1 6 0)), (1, .int L1), (2, .int L2)] [] v := by
  refine h (fun L1 L2 v => gS p l e ({ frames := 4, cells := 0, slots := 0, locals := 92 } : Room) s m args below meth c 4 L sz (vx_MQ below (gQi L sz Q) (gXC L sz X) args s 0 0 (gA L sz)) 0 0 4 [(0, .ref (L.2.1 6 0)), (1, .int L1), (2, .int L2)] [] v) (fun L1 L2 v hb => ?_)
  exact sX6_candidates_4 C hr hno (fun _ _ _ hs => hs) hb
def TX6_candidates (v : gMem) (Q : Int32 → gMem → Prop) (X : String → gMem → Prop) : Prop := (LX6_candidates_4 0 0 v Q X)
theorem kX6_candidates (l : Launch) (hfl : l.stackTraces = false) (L : gL) (hL : gDist L) (v : gMem) (Q : Int32 → gMem → Prop) (X : String → gMem → Prop) (h : TX6_candidates v Q X) (sz : Nat) : vx_Met l yX6_candidates [.code yX6_candidates cX6_candidates 4 (some .int)] ({ frames := 4, cells := 0, slots := 0, locals := 92 } : Room) (gPc L sz [.ref (L.2.1 6 0)] v) (gQi L sz Q) (gXC L sz X) 0 0 (gA L sz) := by
  refine g_ofW (by decide +kernel) hfl hL (Nat.le_of_ble_eq_true rfl) ?_
  intro p e s m args below meth c C hr hno
  refine g_sub [(0, .ref (L.2.1 6 0))] [0] rfl ?_
  unfold TX6_candidates at h
  refine g_iconst C 0 (by decide) dX6_candidates_0 ?_
  refine g_istore_n C 1 rfl [(1, .int 0), (0, .ref (L.2.1 6 0))] (Nat.le_of_ble_eq_true rfl) rfl dX6_candidates_1 ?_
  refine g_iconst C 0 (by decide) dX6_candidates_2 ?_
  refine g_istore_n C 2 rfl [(2, .int 0), (1, .int 0), (0, .ref (L.2.1 6 0))] (Nat.le_of_ble_eq_true rfl) rfl dX6_candidates_3 ?_
  refine g_sub [(0, .ref (L.2.1 6 0)), (1, .int 0), (2, .int 0)] [2, 1, 0] rfl ?_
  exact slX6_candidates_4 C hr hno h
def BX6_gatherMates_73 (I25 : Int32 → gMem → Prop) (I73 : Int32 → gMem → Prop) (L1 : Int32) (L2 : Int32) (v : gMem) (Q : gMem → Prop) (X : String → gMem → Prop) : Prop := (((v 6 0 3) ≤ L2 → (I25 (L1 + 1) v)) ∧ (¬ (v 6 0 3) ≤ L2 → (vp_in L2 16 ∧ (vp_in L2 16 ∧ (TX2_key (Int32.toNatClampNeg L2) L1 v (fun r99 v99 => (TX1_holdersOf r99 v99 (fun r102 v102 => (vp_in L2 16 ∧ (I73 (L2 + 1) (gw v102 15 0 (Int32.toNatClampNeg L2) ((v 15 0 (Int32.toNatClampNeg L2)) ||| r102))))) X)) X)))))
theorem sX6_gatherMates_73 (C : gC p l s m args meth c cX6_gatherMates 3 RX6 L sz) (hr : meth.sig.returnType = none) (hno : ∀ x ∈ c.exceptionTable.toList, False) {L1 : Int32} {L2 : Int32} {v : gMem} {Q : gMem → Prop} {X : String → gMem → Prop} {I25 : Int32 → gMem → Prop} (hI25 : ∀ (L1 : Int32) (v : gMem), I25 L1 v → gS p l e ({ frames := 2, cells := 0, slots := 0, locals := 45 } : Room) s m args below meth c 3 L sz (vx_MQ below (gQv L sz Q) (gXC L sz X) args s 0 0 (gA L sz)) 0 0 25 [(0, .ref (L.2.1 6 0)), (1, .int L1)] [] v) {I73 : Int32 → gMem → Prop} (hI73 : ∀ (L2 : Int32) (v : gMem), I73 L2 v → gS p l e ({ frames := 2, cells := 0, slots := 0, locals := 45 } : Room) s m args below meth c 3 L sz (vx_MQ below (gQv L sz Q) (gXC L sz X) args s 0 0 (gA L sz)) 0 0 73 [(0, .ref (L.2.1 6 0)), (1, .int L1), (2, .int L2)] [] v) (h : BX6_gatherMates_73 I25 I73 L1 L2 v Q X) : gS p l e ({ frames := 2, cells := 0, slots := 0, locals := 45 } : Room) s m args below meth c 3 L sz (vx_MQ below (gQv L sz Q) (gXC L sz X) args s 0 0 (gA L sz)) 0 0 73 [(0, .ref (L.2.1 6 0)), (1, .int L1), (2, .int L2)] [] v := by
  unfold BX6_gatherMates_73 at h
  refine g_iload_n C 2 rfl 2 rfl dX6_gatherMates_73 ?_
  refine g_aload_n C 0 rfl 0 rfl dX6_gatherMates_74 ?_
  refine fgX6_88 C dX6_gatherMates_75 ?_
  refine g_icmp_ge C 113 (by decide) dX6_gatherMates_78 (fun hc => ?_) (fun hc => ?_)
  · replace h := h.1 hc
    refine g_iinc C (k := 1) (L1 + 1) [(1, .int (L1 + 1)), (0, .ref (L.2.1 6 0)), (2, .int L2)] rfl rfl (Nat.le_of_ble_eq_true rfl) rfl dX6_gatherMates_113 ?_
    refine g_goto C 25 (by decide) dX6_gatherMates_116 ?_
    refine g_sub [(0, .ref (L.2.1 6 0)), (1, .int (L1 + 1))] [1, 0] rfl ?_
    exact hI25 _ _ h
  · replace h := h.2 hc
    refine g_aload_n C 0 rfl 0 rfl dX6_gatherMates_81 ?_
    refine fgX6_67 C dX6_gatherMates_82 ?_
    refine g_iload_n C 2 rfl 2 rfl dX6_gatherMates_85 ?_
    refine g_dup2 C rfl rfl dX6_gatherMates_86 ?_
    obtain ⟨hb87, h⟩ := h
    refine g_iald C gok_15 rfl hb87 dX6_gatherMates_87 ?_
    refine g_aload_n C 0 rfl 0 rfl dX6_gatherMates_88 ?_
    refine fgX6_63 C dX6_gatherMates_89 ?_
    refine g_aload_n C 0 rfl 0 rfl dX6_gatherMates_92 ?_
    refine fgX6_15 C dX6_gatherMates_93 ?_
    refine g_iload_n C 2 rfl 2 rfl dX6_gatherMates_96 ?_
    obtain ⟨hb97, h⟩ := h
    refine g_book C hb97 dX6_gatherMates_97 ?_
    refine g_iload_n C 1 rfl 1 rfl dX6_gatherMates_98 ?_
    refine g_callVi C hno (gok_2 (vp_lt hb97)) rfl rfl [.int L1] (fun sz9 => kX2_key l C.2.2.2.2.2.2.1 L C.2.2.2.2.2.2.2.1 (vp_lt hb97) L1 v _ X h sz9) wml_RX6_380 winst_X2_key wsel_X2_key wini_RX2 wcode_X2_key rfl rfl (n := 1) (by decide +kernel) rfl ⟨(Nat.le_of_ble_eq_true rfl), (Nat.le_of_ble_eq_true rfl)⟩ ⟨(Nat.le_of_ble_eq_true rfl), (Nat.le_of_ble_eq_true rfl)⟩ ⟨(Nat.le_of_ble_eq_true rfl), (Nat.le_of_ble_eq_true rfl)⟩ (Nat.le_of_ble_eq_true rfl) dX6_gatherMates_99 (fun r99 v99 h => ?_)
    refine g_callVi C hno gok_1 rfl rfl [.int r99] (fun sz9 => kX1_holdersOf l C.2.2.2.2.2.2.1 L C.2.2.2.2.2.2.2.1 r99 v99 _ X h sz9) wml_RX6_386 winst_X1_holdersOf wsel_X1_holdersOf wini_RX1 wcode_X1_holdersOf rfl rfl (n := 1) (by decide +kernel) rfl ⟨(Nat.le_of_ble_eq_true rfl), (Nat.le_of_ble_eq_true rfl)⟩ ⟨(Nat.le_of_ble_eq_true rfl), (Nat.le_of_ble_eq_true rfl)⟩ ⟨(Nat.le_of_ble_eq_true rfl), (Nat.le_of_ble_eq_true rfl)⟩ (Nat.le_of_ble_eq_true rfl) dX6_gatherMates_102 (fun r102 v102 h => ?_)
    refine g_ior C dX6_gatherMates_105 ?_
    obtain ⟨hb106, h⟩ := h
    refine g_iast C gok_15 (fun _ => rfl) hb106 dX6_gatherMates_106 ?_
    refine g_iinc C (k := 2) (L2 + 1) [(2, .int (L2 + 1)), (0, .ref (L.2.1 6 0)), (1, .int L1)] rfl rfl (Nat.le_of_ble_eq_true rfl) rfl dX6_gatherMates_107 ?_
    refine g_goto C 73 (by decide) dX6_gatherMates_110 ?_
    refine g_sub [(0, .ref (L.2.1 6 0)), (1, .int L1), (2, .int (L2 + 1))] [1, 2, 0] rfl ?_
    exact hI73 _ _ h
def LX6_gatherMates_73 (I25 : Int32 → gMem → Prop) (L1 : Int32) (L2 : Int32) (v : gMem) (Q : gMem → Prop) (X : String → gMem → Prop) : Prop := ∀ I73 : Int32 → gMem → Prop, (∀ (L2 : Int32) (v : gMem), BX6_gatherMates_73 I25 I73 L1 L2 v Q X → I73 L2 v) → I73 L2 v
theorem slX6_gatherMates_73 (C : gC p l s m args meth c cX6_gatherMates 3 RX6 L sz) (hr : meth.sig.returnType = none) (hno : ∀ x ∈ c.exceptionTable.toList, False) {L1 : Int32} {L2 : Int32} {v : gMem} {Q : gMem → Prop} {X : String → gMem → Prop} {I25 : Int32 → gMem → Prop} (hI25 : ∀ (L1 : Int32) (v : gMem), I25 L1 v → gS p l e ({ frames := 2, cells := 0, slots := 0, locals := 45 } : Room) s m args below meth c 3 L sz (vx_MQ below (gQv L sz Q) (gXC L sz X) args s 0 0 (gA L sz)) 0 0 25 [(0, .ref (L.2.1 6 0)), (1, .int L1)] [] v) (h : LX6_gatherMates_73 I25 L1 L2 v Q X) : gS p l e ({ frames := 2, cells := 0, slots := 0, locals := 45 } : Room) s m args below meth c 3 L sz (vx_MQ below (gQv L sz Q) (gXC L sz X) args s 0 0 (gA L sz)) 0 0 73 [(0, .ref (L.2.1 6 0)), (1, .int L1), (2, .int L2)] [] v := by
  refine h (fun L2 v => gS p l e ({ frames := 2, cells := 0, slots := 0, locals := 45 } : Room) s m args below meth c 3 L sz (vx_MQ below (gQv L sz Q) (gXC L sz X) args s 0 0 (gA L sz)) 0 0 73 [(0, .ref (L.2.1 6 0)), (1, .int L1), (2, .int L2)] [] v) (fun L2 v hb => ?_)
  exact sX6_gatherMates_73 C hr hno hI25 (fun _ _ hs => hs) hb
def BX6_gatherMates_39 (I25 : Int32 → gMem → Prop) (I39 : Int32 → gMem → Prop) (L1 : Int32) (L2 : Int32) (v : gMem) (Q : gMem → Prop) (X : String → gMem → Prop) : Prop := (((v 6 0 3) ≤ L2 → (LX6_gatherMates_73 I25 L1 0 v Q X)) ∧ (¬ (v 6 0 3) ≤ L2 → (vp_in L2 16 ∧ (TX2_key (Int32.toNatClampNeg L2) L1 v (fun r58 v58 => (TX1_put r58 L2 v58 (fun v62 => (I39 (L2 + 1) v62)) X)) X))))
theorem sX6_gatherMates_39 (C : gC p l s m args meth c cX6_gatherMates 3 RX6 L sz) (hr : meth.sig.returnType = none) (hno : ∀ x ∈ c.exceptionTable.toList, False) {L1 : Int32} {L2 : Int32} {v : gMem} {Q : gMem → Prop} {X : String → gMem → Prop} {I25 : Int32 → gMem → Prop} (hI25 : ∀ (L1 : Int32) (v : gMem), I25 L1 v → gS p l e ({ frames := 2, cells := 0, slots := 0, locals := 45 } : Room) s m args below meth c 3 L sz (vx_MQ below (gQv L sz Q) (gXC L sz X) args s 0 0 (gA L sz)) 0 0 25 [(0, .ref (L.2.1 6 0)), (1, .int L1)] [] v) {I39 : Int32 → gMem → Prop} (hI39 : ∀ (L2 : Int32) (v : gMem), I39 L2 v → gS p l e ({ frames := 2, cells := 0, slots := 0, locals := 45 } : Room) s m args below meth c 3 L sz (vx_MQ below (gQv L sz Q) (gXC L sz X) args s 0 0 (gA L sz)) 0 0 39 [(0, .ref (L.2.1 6 0)), (1, .int L1), (2, .int L2)] [] v) (h : BX6_gatherMates_39 I25 I39 L1 L2 v Q X) : gS p l e ({ frames := 2, cells := 0, slots := 0, locals := 45 } : Room) s m args below meth c 3 L sz (vx_MQ below (gQv L sz Q) (gXC L sz X) args s 0 0 (gA L sz)) 0 0 39 [(0, .ref (L.2.1 6 0)), (1, .int L1), (2, .int L2)] [] v := by
  unfold BX6_gatherMates_39 at h
  refine g_iload_n C 2 rfl 2 rfl dX6_gatherMates_39 ?_
  refine g_aload_n C 0 rfl 0 rfl dX6_gatherMates_40 ?_
  refine fgX6_88 C dX6_gatherMates_41 ?_
  refine g_icmp_ge C 71 (by decide) dX6_gatherMates_44 (fun hc => ?_) (fun hc => ?_)
  · replace h := h.1 hc
    refine g_iconst C 0 (by decide) dX6_gatherMates_71 ?_
    refine g_istore_n C 2 rfl [(2, .int 0), (0, .ref (L.2.1 6 0)), (1, .int L1)] (Nat.le_of_ble_eq_true rfl) rfl dX6_gatherMates_72 ?_
    refine g_sub [(0, .ref (L.2.1 6 0)), (1, .int L1), (2, .int 0)] [1, 2, 0] rfl ?_
    exact slX6_gatherMates_73 C hr hno hI25 h
  · replace h := h.2 hc
    refine g_aload_n C 0 rfl 0 rfl dX6_gatherMates_47 ?_
    refine fgX6_63 C dX6_gatherMates_48 ?_
    refine g_aload_n C 0 rfl 0 rfl dX6_gatherMates_51 ?_
    refine fgX6_15 C dX6_gatherMates_52 ?_
    refine g_iload_n C 2 rfl 2 rfl dX6_gatherMates_55 ?_
    obtain ⟨hb56, h⟩ := h
    refine g_book C hb56 dX6_gatherMates_56 ?_
    refine g_iload_n C 1 rfl 1 rfl dX6_gatherMates_57 ?_
    refine g_callVi C hno (gok_2 (vp_lt hb56)) rfl rfl [.int L1] (fun sz9 => kX2_key l C.2.2.2.2.2.2.1 L C.2.2.2.2.2.2.2.1 (vp_lt hb56) L1 v _ X h sz9) wml_RX6_380 winst_X2_key wsel_X2_key wini_RX2 wcode_X2_key rfl rfl (n := 1) (by decide +kernel) rfl ⟨(Nat.le_of_ble_eq_true rfl), (Nat.le_of_ble_eq_true rfl)⟩ ⟨(Nat.le_of_ble_eq_true rfl), (Nat.le_of_ble_eq_true rfl)⟩ ⟨(Nat.le_of_ble_eq_true rfl), (Nat.le_of_ble_eq_true rfl)⟩ (Nat.le_of_ble_eq_true rfl) dX6_gatherMates_58 (fun r58 v58 h => ?_)
    refine g_iload_n C 2 rfl 2 rfl dX6_gatherMates_61 ?_
    refine g_callVv C hno gok_1 rfl rfl [.int r58, .int L2] (fun sz9 => kX1_put l C.2.2.2.2.2.2.1 L C.2.2.2.2.2.2.2.1 r58 L2 v58 _ X h sz9) wml_RX6_383 winst_X1_put wsel_X1_put wini_RX1 wcode_X1_put rfl rfl (n := 2) (by decide +kernel) rfl ⟨(Nat.le_of_ble_eq_true rfl), (Nat.le_of_ble_eq_true rfl)⟩ ⟨(Nat.le_of_ble_eq_true rfl), (Nat.le_of_ble_eq_true rfl)⟩ ⟨(Nat.le_of_ble_eq_true rfl), (Nat.le_of_ble_eq_true rfl)⟩ (Nat.le_of_ble_eq_true rfl) dX6_gatherMates_62 (fun v62 h => ?_)
    refine g_iinc C (k := 2) (L2 + 1) [(2, .int (L2 + 1)), (0, .ref (L.2.1 6 0)), (1, .int L1)] rfl rfl (Nat.le_of_ble_eq_true rfl) rfl dX6_gatherMates_65 ?_
    refine g_goto C 39 (by decide) dX6_gatherMates_68 ?_
    refine g_sub [(0, .ref (L.2.1 6 0)), (1, .int L1), (2, .int (L2 + 1))] [1, 2, 0] rfl ?_
    exact hI39 _ _ h
def LX6_gatherMates_39 (I25 : Int32 → gMem → Prop) (L1 : Int32) (L2 : Int32) (v : gMem) (Q : gMem → Prop) (X : String → gMem → Prop) : Prop := ∀ I39 : Int32 → gMem → Prop, (∀ (L2 : Int32) (v : gMem), BX6_gatherMates_39 I25 I39 L1 L2 v Q X → I39 L2 v) → I39 L2 v
theorem slX6_gatherMates_39 (C : gC p l s m args meth c cX6_gatherMates 3 RX6 L sz) (hr : meth.sig.returnType = none) (hno : ∀ x ∈ c.exceptionTable.toList, False) {L1 : Int32} {L2 : Int32} {v : gMem} {Q : gMem → Prop} {X : String → gMem → Prop} {I25 : Int32 → gMem → Prop} (hI25 : ∀ (L1 : Int32) (v : gMem), I25 L1 v → gS p l e ({ frames := 2, cells := 0, slots := 0, locals := 45 } : Room) s m args below meth c 3 L sz (vx_MQ below (gQv L sz Q) (gXC L sz X) args s 0 0 (gA L sz)) 0 0 25 [(0, .ref (L.2.1 6 0)), (1, .int L1)] [] v) (h : LX6_gatherMates_39 I25 L1 L2 v Q X) : gS p l e ({ frames := 2, cells := 0, slots := 0, locals := 45 } : Room) s m args below meth c 3 L sz (vx_MQ below (gQv L sz Q) (gXC L sz X) args s 0 0 (gA L sz)) 0 0 39 [(0, .ref (L.2.1 6 0)), (1, .int L1), (2, .int L2)] [] v := by
  refine h (fun L2 v => gS p l e ({ frames := 2, cells := 0, slots := 0, locals := 45 } : Room) s m args below meth c 3 L sz (vx_MQ below (gQv L sz Q) (gXC L sz X) args s 0 0 (gA L sz)) 0 0 39 [(0, .ref (L.2.1 6 0)), (1, .int L1), (2, .int L2)] [] v) (fun L2 v hb => ?_)
  exact sX6_gatherMates_39 C hr hno hI25 (fun _ _ hs => hs) hb
def BX6_gatherMates_25 (I25 : Int32 → gMem → Prop) (L1 : Int32) (v : gMem) (Q : gMem → Prop) (X : String → gMem → Prop) : Prop := ((2 < L1 → (Q v)) ∧ (¬ 2 < L1 → (TX1_empty v (fun v34 => (LX6_gatherMates_39 I25 L1 0 v34 Q X)) X)))
theorem sX6_gatherMates_25 (C : gC p l s m args meth c cX6_gatherMates 3 RX6 L sz) (hr : meth.sig.returnType = none) (hno : ∀ x ∈ c.exceptionTable.toList, False) {L1 : Int32} {v : gMem} {Q : gMem → Prop} {X : String → gMem → Prop} {I25 : Int32 → gMem → Prop} (hI25 : ∀ (L1 : Int32) (v : gMem), I25 L1 v → gS p l e ({ frames := 2, cells := 0, slots := 0, locals := 45 } : Room) s m args below meth c 3 L sz (vx_MQ below (gQv L sz Q) (gXC L sz X) args s 0 0 (gA L sz)) 0 0 25 [(0, .ref (L.2.1 6 0)), (1, .int L1)] [] v) (h : BX6_gatherMates_25 I25 L1 v Q X) : gS p l e ({ frames := 2, cells := 0, slots := 0, locals := 45 } : Room) s m args below meth c 3 L sz (vx_MQ below (gQv L sz Q) (gXC L sz X) args s 0 0 (gA L sz)) 0 0 25 [(0, .ref (L.2.1 6 0)), (1, .int L1)] [] v := by
  unfold BX6_gatherMates_25 at h
  refine g_iload_n C 1 rfl 1 rfl dX6_gatherMates_25 ?_
  refine g_iconst C 2 (by decide) dX6_gatherMates_26 ?_
  refine g_icmp_gt C 119 (by decide) dX6_gatherMates_27 (fun hc => ?_) (fun hc => ?_)
  · replace h := h.1 hc
    exact g_vret C hr (Nat.le_of_ble_eq_true rfl) (Nat.le_of_ble_eq_true rfl) h dX6_gatherMates_119
  · replace h := h.2 hc
    refine g_aload_n C 0 rfl 0 rfl dX6_gatherMates_30 ?_
    refine fgX6_63 C dX6_gatherMates_31 ?_
    refine g_callVv C hno gok_1 rfl rfl [] (fun sz9 => kX1_empty l C.2.2.2.2.2.2.1 L C.2.2.2.2.2.2.2.1 v _ X h sz9) wml_RX6_378 winst_X1_empty wsel_X1_empty wini_RX1 wcode_X1_empty rfl rfl (n := 0) (by decide +kernel) rfl ⟨(Nat.le_of_ble_eq_true rfl), (Nat.le_of_ble_eq_true rfl)⟩ ⟨(Nat.le_of_ble_eq_true rfl), (Nat.le_of_ble_eq_true rfl)⟩ ⟨(Nat.le_of_ble_eq_true rfl), (Nat.le_of_ble_eq_true rfl)⟩ (Nat.le_of_ble_eq_true rfl) dX6_gatherMates_34 (fun v34 h => ?_)
    refine g_iconst C 0 (by decide) dX6_gatherMates_37 ?_
    refine g_istore_n C 2 rfl [(2, .int 0), (0, .ref (L.2.1 6 0)), (1, .int L1)] (Nat.le_of_ble_eq_true rfl) rfl dX6_gatherMates_38 ?_
    refine g_sub [(0, .ref (L.2.1 6 0)), (1, .int L1), (2, .int 0)] [1, 2, 0] rfl ?_
    exact slX6_gatherMates_39 C hr hno hI25 h
def LX6_gatherMates_25 (L1 : Int32) (v : gMem) (Q : gMem → Prop) (X : String → gMem → Prop) : Prop := ∀ I25 : Int32 → gMem → Prop, (∀ (L1 : Int32) (v : gMem), BX6_gatherMates_25 I25 L1 v Q X → I25 L1 v) → I25 L1 v
theorem slX6_gatherMates_25 (C : gC p l s m args meth c cX6_gatherMates 3 RX6 L sz) (hr : meth.sig.returnType = none) (hno : ∀ x ∈ c.exceptionTable.toList, False) {L1 : Int32} {v : gMem} {Q : gMem → Prop} {X : String → gMem → Prop} (h : LX6_gatherMates_25 L1 v Q X) : gS p l e ({ frames := 2, cells := 0, slots := 0, locals := 45 } : Room) s m args below meth c 3 L sz (vx_MQ below (gQv L sz Q) (gXC L sz X) args s 0 0 (gA L sz)) 0 0 25 [(0, .ref (L.2.1 6 0)), (1, .int L1)] [] v := by
  refine h (fun L1 v => gS p l e ({ frames := 2, cells := 0, slots := 0, locals := 45 } : Room) s m args below meth c 3 L sz (vx_MQ below (gQv L sz Q) (gXC L sz X) args s 0 0 (gA L sz)) 0 0 25 [(0, .ref (L.2.1 6 0)), (1, .int L1)] [] v) (fun L1 v hb => ?_)
  exact sX6_gatherMates_25 C hr hno (fun _ _ hs => hs) hb
def BX6_gatherMates_2 (I2 : Int32 → gMem → Prop) (L1 : Int32) (v : gMem) (Q : gMem → Prop) (X : String → gMem → Prop) : Prop := (((v 6 0 3) ≤ L1 → (LX6_gatherMates_25 0 v Q X)) ∧ (¬ (v 6 0 3) ≤ L1 → (vp_in L1 16 ∧ (I2 (L1 + 1) (gw v 15 0 (Int32.toNatClampNeg L1) 0)))))
theorem sX6_gatherMates_2 (C : gC p l s m args meth c cX6_gatherMates 3 RX6 L sz) (hr : meth.sig.returnType = none) (hno : ∀ x ∈ c.exceptionTable.toList, False) {L1 : Int32} {v : gMem} {Q : gMem → Prop} {X : String → gMem → Prop} {I2 : Int32 → gMem → Prop} (hI2 : ∀ (L1 : Int32) (v : gMem), I2 L1 v → gS p l e ({ frames := 2, cells := 0, slots := 0, locals := 45 } : Room) s m args below meth c 3 L sz (vx_MQ below (gQv L sz Q) (gXC L sz X) args s 0 0 (gA L sz)) 0 0 2 [(0, .ref (L.2.1 6 0)), (1, .int L1)] [] v) (h : BX6_gatherMates_2 I2 L1 v Q X) : gS p l e ({ frames := 2, cells := 0, slots := 0, locals := 45 } : Room) s m args below meth c 3 L sz (vx_MQ below (gQv L sz Q) (gXC L sz X) args s 0 0 (gA L sz)) 0 0 2 [(0, .ref (L.2.1 6 0)), (1, .int L1)] [] v := by
  unfold BX6_gatherMates_2 at h
  refine g_iload_n C 1 rfl 1 rfl dX6_gatherMates_2 ?_
  refine g_aload_n C 0 rfl 0 rfl dX6_gatherMates_3 ?_
  refine fgX6_88 C dX6_gatherMates_4 ?_
  refine g_icmp_ge C 23 (by decide) dX6_gatherMates_7 (fun hc => ?_) (fun hc => ?_)
  · replace h := h.1 hc
    refine g_iconst C 0 (by decide) dX6_gatherMates_23 ?_
    refine g_istore_n C 1 rfl [(1, .int 0), (0, .ref (L.2.1 6 0))] (Nat.le_of_ble_eq_true rfl) rfl dX6_gatherMates_24 ?_
    refine g_sub [(0, .ref (L.2.1 6 0)), (1, .int 0)] [1, 0] rfl ?_
    exact slX6_gatherMates_25 C hr hno h
  · replace h := h.2 hc
    refine g_aload_n C 0 rfl 0 rfl dX6_gatherMates_10 ?_
    refine fgX6_67 C dX6_gatherMates_11 ?_
    refine g_iload_n C 1 rfl 1 rfl dX6_gatherMates_14 ?_
    refine g_iconst C 0 (by decide) dX6_gatherMates_15 ?_
    obtain ⟨hb16, h⟩ := h
    refine g_iast C gok_15 (fun _ => rfl) hb16 dX6_gatherMates_16 ?_
    refine g_iinc C (k := 1) (L1 + 1) [(1, .int (L1 + 1)), (0, .ref (L.2.1 6 0))] rfl rfl (Nat.le_of_ble_eq_true rfl) rfl dX6_gatherMates_17 ?_
    refine g_goto C 2 (by decide) dX6_gatherMates_20 ?_
    refine g_sub [(0, .ref (L.2.1 6 0)), (1, .int (L1 + 1))] [1, 0] rfl ?_
    exact hI2 _ _ h
def LX6_gatherMates_2 (L1 : Int32) (v : gMem) (Q : gMem → Prop) (X : String → gMem → Prop) : Prop := ∀ I2 : Int32 → gMem → Prop, (∀ (L1 : Int32) (v : gMem), BX6_gatherMates_2 I2 L1 v Q X → I2 L1 v) → I2 L1 v
theorem slX6_gatherMates_2 (C : gC p l s m args meth c cX6_gatherMates 3 RX6 L sz) (hr : meth.sig.returnType = none) (hno : ∀ x ∈ c.exceptionTable.toList, False) {L1 : Int32} {v : gMem} {Q : gMem → Prop} {X : String → gMem → Prop} (h : LX6_gatherMates_2 L1 v Q X) : gS p l e ({ frames := 2, cells := 0, slots := 0, locals := 45 } : Room) s m args below meth c 3 L sz (vx_MQ below (gQv L sz Q) (gXC L sz X) args s 0 0 (gA L sz)) 0 0 2 [(0, .ref (L.2.1 6 0)), (1, .int L1)] [] v := by
  refine h (fun L1 v => gS p l e ({ frames := 2, cells := 0, slots := 0, locals := 45 } : Room) s m args below meth c 3 L sz (vx_MQ below (gQv L sz Q) (gXC L sz X) args s 0 0 (gA L sz)) 0 0 2 [(0, .ref (L.2.1 6 0)), (1, .int L1)] [] v) (fun L1 v hb => ?_)
  exact sX6_gatherMates_2 C hr hno (fun _ _ hs => hs) hb
def TX6_gatherMates (v : gMem) (Q : gMem → Prop) (X : String → gMem → Prop) : Prop := (LX6_gatherMates_2 0 v Q X)
theorem kX6_gatherMates (l : Launch) (hfl : l.stackTraces = false) (L : gL) (hL : gDist L) (v : gMem) (Q : gMem → Prop) (X : String → gMem → Prop) (h : TX6_gatherMates v Q X) (sz : Nat) : vx_Met l yX6_gatherMates [.code yX6_gatherMates cX6_gatherMates 3 none] ({ frames := 2, cells := 0, slots := 0, locals := 45 } : Room) (gPc L sz [.ref (L.2.1 6 0)] v) (gQv L sz Q) (gXC L sz X) 0 0 (gA L sz) := by
  refine g_ofW (by decide +kernel) hfl hL (Nat.le_of_ble_eq_true rfl) ?_
  intro p e s m args below meth c C hr hno
  refine g_sub [(0, .ref (L.2.1 6 0))] [0] rfl ?_
  unfold TX6_gatherMates at h
  refine g_iconst C 0 (by decide) dX6_gatherMates_0 ?_
  refine g_istore_n C 1 rfl [(1, .int 0), (0, .ref (L.2.1 6 0))] (Nat.le_of_ble_eq_true rfl) rfl dX6_gatherMates_1 ?_
  refine g_sub [(0, .ref (L.2.1 6 0)), (1, .int 0)] [1, 0] rfl ?_
  exact slX6_gatherMates_2 C hr hno h
def BX6_offer_34 (v : gMem) (Q : gMem → Prop) (X : String → gMem → Prop) : Prop := (Q v)
theorem sX6_offer_34 (C : gC p l s m args meth c cX6_offer 4 RX6 L sz) (hr : meth.sig.returnType = none) (hno : ∀ x ∈ c.exceptionTable.toList, False) {v : gMem} {Q : gMem → Prop} {X : String → gMem → Prop} (h : BX6_offer_34 v Q X) : gS p l e ({ frames := 4, cells := 0, slots := 0, locals := 92 } : Room) s m args below meth c 4 L sz (vx_MQ below (gQv L sz Q) (gXC L sz X) args s 0 0 (gA L sz)) 0 0 34 [] [] v := by
  unfold BX6_offer_34 at h
  exact g_vret C hr (Nat.le_of_ble_eq_true rfl) (Nat.le_of_ble_eq_true rfl) h dX6_offer_34
def TX6_offer (L1 : Int32) (L2 : Int32) (v : gMem) (Q : gMem → Prop) (X : String → gMem → Prop) : Prop := (TX6_scoreOf L1 L2 v (fun r3 v3 => ((r3 < (v3 6 0 6) → (BX6_offer_34 v3 Q X)) ∧ (¬ r3 < (v3 6 0 6) → (TX6_canBeMerged L1 L2 v3 (fun r18 v18 => ((r18 = 0 → (BX6_offer_34 v18 Q X)) ∧ (¬ r18 = 0 → (TX0_consider r3 L1 L2 v18 (fun v31 => (BX6_offer_34 v31 Q X)) X)))) X)))) X)
theorem kX6_offer (l : Launch) (hfl : l.stackTraces = false) (L : gL) (hL : gDist L) (L1 : Int32) (L2 : Int32) (v : gMem) (Q : gMem → Prop) (X : String → gMem → Prop) (h : TX6_offer L1 L2 v Q X) (sz : Nat) : vx_Met l yX6_offer [.code yX6_offer cX6_offer 4 none] ({ frames := 4, cells := 0, slots := 0, locals := 92 } : Room) (gPc L sz [.ref (L.2.1 6 0), .int L1, .int L2] v) (gQv L sz Q) (gXC L sz X) 0 0 (gA L sz) := by
  refine g_ofW (by decide +kernel) hfl hL (Nat.le_of_ble_eq_true rfl) ?_
  intro p e s m args below meth c C hr hno
  refine g_sub [(0, .ref (L.2.1 6 0)), (1, .int L1), (2, .int L2)] [0, 1, 2] rfl ?_
  unfold TX6_offer at h
  refine g_aload_n C 0 rfl 0 rfl dX6_offer_0 ?_
  refine g_iload_n C 1 rfl 1 rfl dX6_offer_1 ?_
  refine g_iload_n C 2 rfl 2 rfl dX6_offer_2 ?_
  refine g_callVi C hno gok_6 rfl rfl [.int L1, .int L2] (fun sz9 => kX6_scoreOf l C.2.2.2.2.2.2.1 L C.2.2.2.2.2.2.2.1 L1 L2 v _ X h sz9) wml_RX6_160 winst_X6_scoreOf wsel_X6_scoreOf wini_RX6 wcode_X6_scoreOf rfl rfl (n := 2) (by decide +kernel) rfl ⟨(Nat.le_of_ble_eq_true rfl), (Nat.le_of_ble_eq_true rfl)⟩ ⟨(Nat.le_of_ble_eq_true rfl), (Nat.le_of_ble_eq_true rfl)⟩ ⟨(Nat.le_of_ble_eq_true rfl), (Nat.le_of_ble_eq_true rfl)⟩ (Nat.le_of_ble_eq_true rfl) dX6_offer_3 (fun r3 v3 h => ?_)
  refine g_istore_n C 3 rfl [(3, .int r3), (0, .ref (L.2.1 6 0)), (1, .int L1), (2, .int L2)] (Nat.le_of_ble_eq_true rfl) rfl dX6_offer_6 ?_
  refine g_iload_n C 3 rfl 0 rfl dX6_offer_7 ?_
  refine g_aload_n C 0 rfl 1 rfl dX6_offer_8 ?_
  refine fgX6_25 C dX6_offer_9 ?_
  refine g_icmp_lt C 34 (by decide) dX6_offer_12 (fun hc => ?_) (fun hc => ?_)
  · replace h := h.1 hc
    refine g_sub [] [] rfl ?_
    exact sX6_offer_34 C hr hno h
  · replace h := h.2 hc
    refine g_aload_n C 0 rfl 1 rfl dX6_offer_15 ?_
    refine g_iload_n C 1 rfl 2 rfl dX6_offer_16 ?_
    refine g_iload_n C 2 rfl 3 rfl dX6_offer_17 ?_
    refine g_callVi C hno gok_6 rfl rfl [.int L1, .int L2] (fun sz9 => kX6_canBeMerged l C.2.2.2.2.2.2.1 L C.2.2.2.2.2.2.2.1 L1 L2 v3 _ X h sz9) wml_RX6_168 winst_X6_canBeMerged wsel_X6_canBeMerged wini_RX6 wcode_X6_canBeMerged rfl rfl (n := 2) (by decide +kernel) rfl ⟨(Nat.le_of_ble_eq_true rfl), (Nat.le_of_ble_eq_true rfl)⟩ ⟨(Nat.le_of_ble_eq_true rfl), (Nat.le_of_ble_eq_true rfl)⟩ ⟨(Nat.le_of_ble_eq_true rfl), (Nat.le_of_ble_eq_true rfl)⟩ (Nat.le_of_ble_eq_true rfl) dX6_offer_18 (fun r18 v18 h => ?_)
    refine g_if_eq C 34 (by decide) dX6_offer_21 (fun hc => ?_) (fun hc => ?_)
    · replace h := h.1 hc
      refine g_sub [] [] rfl ?_
      exact sX6_offer_34 C hr hno h
    · replace h := h.2 hc
      refine g_aload_n C 0 rfl 1 rfl dX6_offer_24 ?_
      refine fgX6_56 C dX6_offer_25 ?_
      refine g_iload_n C 3 rfl 0 rfl dX6_offer_28 ?_
      refine g_iload_n C 1 rfl 2 rfl dX6_offer_29 ?_
      refine g_iload_n C 2 rfl 3 rfl dX6_offer_30 ?_
      refine g_callVv C hno gok_0 rfl rfl [.int r3, .int L1, .int L2] (fun sz9 => kX0_consider l C.2.2.2.2.2.2.1 L C.2.2.2.2.2.2.2.1 r3 L1 L2 v18 _ X h sz9) wml_RX6_374 winst_X0_consider wsel_X0_consider wini_RX0 wcode_X0_consider rfl rfl (n := 3) (by decide +kernel) rfl ⟨(Nat.le_of_ble_eq_true rfl), (Nat.le_of_ble_eq_true rfl)⟩ ⟨(Nat.le_of_ble_eq_true rfl), (Nat.le_of_ble_eq_true rfl)⟩ ⟨(Nat.le_of_ble_eq_true rfl), (Nat.le_of_ble_eq_true rfl)⟩ (Nat.le_of_ble_eq_true rfl) dX6_offer_31 (fun v31 h => ?_)
      refine g_sub [] [] rfl ?_
      exact sX6_offer_34 C hr hno h
def BX6_findBestByKeys_52 (I13 : Int32 → gMem → Prop) (I25 : Int32 → gMem → Prop) (L1 : Int32) (L2 : Int32) (v : gMem) (Q : gMem → Prop) (X : String → gMem → Prop) : Prop := (I25 (L2 + 1) v)
theorem sX6_findBestByKeys_52 (C : gC p l s m args meth c cX6_findBestByKeys 3 RX6 L sz) (hr : meth.sig.returnType = none) (hno : ∀ x ∈ c.exceptionTable.toList, False) {L1 : Int32} {L2 : Int32} {v : gMem} {Q : gMem → Prop} {X : String → gMem → Prop} {I13 : Int32 → gMem → Prop} (hI13 : ∀ (L1 : Int32) (v : gMem), I13 L1 v → gS p l e ({ frames := 5, cells := 0, slots := 0, locals := 115 } : Room) s m args below meth c 3 L sz (vx_MQ below (gQv L sz Q) (gXC L sz X) args s 0 0 (gA L sz)) 0 0 13 [(0, .ref (L.2.1 6 0)), (1, .int L1)] [] v) {I25 : Int32 → gMem → Prop} (hI25 : ∀ (L2 : Int32) (v : gMem), I25 L2 v → gS p l e ({ frames := 5, cells := 0, slots := 0, locals := 115 } : Room) s m args below meth c 3 L sz (vx_MQ below (gQv L sz Q) (gXC L sz X) args s 0 0 (gA L sz)) 0 0 25 [(0, .ref (L.2.1 6 0)), (1, .int L1), (2, .int L2)] [] v) (h : BX6_findBestByKeys_52 I13 I25 L1 L2 v Q X) : gS p l e ({ frames := 5, cells := 0, slots := 0, locals := 115 } : Room) s m args below meth c 3 L sz (vx_MQ below (gQv L sz Q) (gXC L sz X) args s 0 0 (gA L sz)) 0 0 52 [(0, .ref (L.2.1 6 0)), (1, .int L1), (2, .int L2)] [] v := by
  unfold BX6_findBestByKeys_52 at h
  refine g_iinc C (k := 2) (L2 + 1) [(2, .int (L2 + 1)), (0, .ref (L.2.1 6 0)), (1, .int L1)] rfl rfl (Nat.le_of_ble_eq_true rfl) rfl dX6_findBestByKeys_52 ?_
  refine g_goto C 25 (by decide) dX6_findBestByKeys_55 ?_
  refine g_sub [(0, .ref (L.2.1 6 0)), (1, .int L1), (2, .int (L2 + 1))] [1, 2, 0] rfl ?_
  exact hI25 _ _ h
def BX6_findBestByKeys_25 (I13 : Int32 → gMem → Prop) (I25 : Int32 → gMem → Prop) (L1 : Int32) (L2 : Int32) (v : gMem) (Q : gMem → Prop) (X : String → gMem → Prop) : Prop := (((v 6 0 3) ≤ L2 → (I13 (L1 + 1) v)) ∧ (¬ (v 6 0 3) ≤ L2 → (vp_in L1 16 ∧ (TX6_contains (v 15 0 (Int32.toNatClampNeg L1)) L2 v (fun r40 v40 => ((r40 = 0 → (BX6_findBestByKeys_52 I13 I25 L1 L2 v40 Q X)) ∧ (¬ r40 = 0 → (TX6_offer L1 L2 v40 (fun v49 => (BX6_findBestByKeys_52 I13 I25 L1 L2 v49 Q X)) X)))) X))))
theorem sX6_findBestByKeys_25 (C : gC p l s m args meth c cX6_findBestByKeys 3 RX6 L sz) (hr : meth.sig.returnType = none) (hno : ∀ x ∈ c.exceptionTable.toList, False) {L1 : Int32} {L2 : Int32} {v : gMem} {Q : gMem → Prop} {X : String → gMem → Prop} {I13 : Int32 → gMem → Prop} (hI13 : ∀ (L1 : Int32) (v : gMem), I13 L1 v → gS p l e ({ frames := 5, cells := 0, slots := 0, locals := 115 } : Room) s m args below meth c 3 L sz (vx_MQ below (gQv L sz Q) (gXC L sz X) args s 0 0 (gA L sz)) 0 0 13 [(0, .ref (L.2.1 6 0)), (1, .int L1)] [] v) {I25 : Int32 → gMem → Prop} (hI25 : ∀ (L2 : Int32) (v : gMem), I25 L2 v → gS p l e ({ frames := 5, cells := 0, slots := 0, locals := 115 } : Room) s m args below meth c 3 L sz (vx_MQ below (gQv L sz Q) (gXC L sz X) args s 0 0 (gA L sz)) 0 0 25 [(0, .ref (L.2.1 6 0)), (1, .int L1), (2, .int L2)] [] v) (h : BX6_findBestByKeys_25 I13 I25 L1 L2 v Q X) : gS p l e ({ frames := 5, cells := 0, slots := 0, locals := 115 } : Room) s m args below meth c 3 L sz (vx_MQ below (gQv L sz Q) (gXC L sz X) args s 0 0 (gA L sz)) 0 0 25 [(0, .ref (L.2.1 6 0)), (1, .int L1), (2, .int L2)] [] v := by
  unfold BX6_findBestByKeys_25 at h
  refine g_iload_n C 2 rfl 2 rfl dX6_findBestByKeys_25 ?_
  refine g_aload_n C 0 rfl 0 rfl dX6_findBestByKeys_26 ?_
  refine fgX6_88 C dX6_findBestByKeys_27 ?_
  refine g_icmp_ge C 58 (by decide) dX6_findBestByKeys_30 (fun hc => ?_) (fun hc => ?_)
  · replace h := h.1 hc
    refine g_iinc C (k := 1) (L1 + 1) [(1, .int (L1 + 1)), (0, .ref (L.2.1 6 0)), (2, .int L2)] rfl rfl (Nat.le_of_ble_eq_true rfl) rfl dX6_findBestByKeys_58 ?_
    refine g_goto C 13 (by decide) dX6_findBestByKeys_61 ?_
    refine g_sub [(0, .ref (L.2.1 6 0)), (1, .int (L1 + 1))] [1, 0] rfl ?_
    exact hI13 _ _ h
  · replace h := h.2 hc
    refine g_aload_n C 0 rfl 0 rfl dX6_findBestByKeys_33 ?_
    refine fgX6_67 C dX6_findBestByKeys_34 ?_
    refine g_iload_n C 1 rfl 1 rfl dX6_findBestByKeys_37 ?_
    obtain ⟨hb38, h⟩ := h
    refine g_iald C gok_15 rfl hb38 dX6_findBestByKeys_38 ?_
    refine g_iload_n C 2 rfl 2 rfl dX6_findBestByKeys_39 ?_
    refine g_callSi C hno [.int (v 15 0 (Int32.toNatClampNeg L1)), .int L2] (fun sz9 => kX6_contains l C.2.2.2.2.2.2.1 L C.2.2.2.2.2.2.2.1 (v 15 0 (Int32.toNatClampNeg L1)) L2 v _ X h sz9) wml_RX6_287 wstat_X6_contains wini_RX6 wcode_X6_contains rfl rfl (n := 2) (by decide +kernel) rfl ⟨(Nat.le_of_ble_eq_true rfl), (Nat.le_of_ble_eq_true rfl)⟩ ⟨(Nat.le_of_ble_eq_true rfl), (Nat.le_of_ble_eq_true rfl)⟩ ⟨(Nat.le_of_ble_eq_true rfl), (Nat.le_of_ble_eq_true rfl)⟩ (Nat.le_of_ble_eq_true rfl) dX6_findBestByKeys_40 (fun r40 v40 h => ?_)
    refine g_if_eq C 52 (by decide) dX6_findBestByKeys_43 (fun hc => ?_) (fun hc => ?_)
    · replace h := h.1 hc
      exact sX6_findBestByKeys_52 C hr hno hI13 hI25 h
    · replace h := h.2 hc
      refine g_aload_n C 0 rfl 0 rfl dX6_findBestByKeys_46 ?_
      refine g_iload_n C 1 rfl 1 rfl dX6_findBestByKeys_47 ?_
      refine g_iload_n C 2 rfl 2 rfl dX6_findBestByKeys_48 ?_
      refine g_callVv C hno gok_6 rfl rfl [.int L1, .int L2] (fun sz9 => kX6_offer l C.2.2.2.2.2.2.1 L C.2.2.2.2.2.2.2.1 L1 L2 v40 _ X h sz9) wml_RX6_368 winst_X6_offer wsel_X6_offer wini_RX6 wcode_X6_offer rfl rfl (n := 2) (by decide +kernel) rfl ⟨(Nat.le_of_ble_eq_true rfl), (Nat.le_of_ble_eq_true rfl)⟩ ⟨(Nat.le_of_ble_eq_true rfl), (Nat.le_of_ble_eq_true rfl)⟩ ⟨(Nat.le_of_ble_eq_true rfl), (Nat.le_of_ble_eq_true rfl)⟩ (Nat.le_of_ble_eq_true rfl) dX6_findBestByKeys_49 (fun v49 h => ?_)
      exact sX6_findBestByKeys_52 C hr hno hI13 hI25 h
def LX6_findBestByKeys_25 (I13 : Int32 → gMem → Prop) (L1 : Int32) (L2 : Int32) (v : gMem) (Q : gMem → Prop) (X : String → gMem → Prop) : Prop := ∀ I25 : Int32 → gMem → Prop, (∀ (L2 : Int32) (v : gMem), BX6_findBestByKeys_25 I13 I25 L1 L2 v Q X → I25 L2 v) → I25 L2 v
theorem slX6_findBestByKeys_25 (C : gC p l s m args meth c cX6_findBestByKeys 3 RX6 L sz) (hr : meth.sig.returnType = none) (hno : ∀ x ∈ c.exceptionTable.toList, False) {L1 : Int32} {L2 : Int32} {v : gMem} {Q : gMem → Prop} {X : String → gMem → Prop} {I13 : Int32 → gMem → Prop} (hI13 : ∀ (L1 : Int32) (v : gMem), I13 L1 v → gS p l e ({ frames := 5, cells := 0, slots := 0, locals := 115 } : Room) s m args below meth c 3 L sz (vx_MQ below (gQv L sz Q) (gXC L sz X) args s 0 0 (gA L sz)) 0 0 13 [(0, .ref (L.2.1 6 0)), (1, .int L1)] [] v) (h : LX6_findBestByKeys_25 I13 L1 L2 v Q X) : gS p l e ({ frames := 5, cells := 0, slots := 0, locals := 115 } : Room) s m args below meth c 3 L sz (vx_MQ below (gQv L sz Q) (gXC L sz X) args s 0 0 (gA L sz)) 0 0 25 [(0, .ref (L.2.1 6 0)), (1, .int L1), (2, .int L2)] [] v := by
  refine h (fun L2 v => gS p l e ({ frames := 5, cells := 0, slots := 0, locals := 115 } : Room) s m args below meth c 3 L sz (vx_MQ below (gQv L sz Q) (gXC L sz X) args s 0 0 (gA L sz)) 0 0 25 [(0, .ref (L.2.1 6 0)), (1, .int L1), (2, .int L2)] [] v) (fun L2 v hb => ?_)
  exact sX6_findBestByKeys_25 C hr hno hI13 (fun _ _ hs => hs) hb
def BX6_findBestByKeys_13 (I13 : Int32 → gMem → Prop) (L1 : Int32) (v : gMem) (Q : gMem → Prop) (X : String → gMem → Prop) : Prop := (((v 6 0 3) ≤ L1 → (Q v)) ∧ (¬ (v 6 0 3) ≤ L1 → (LX6_findBestByKeys_25 I13 L1 (L1 + 1) v Q X)))
theorem sX6_findBestByKeys_13 (C : gC p l s m args meth c cX6_findBestByKeys 3 RX6 L sz) (hr : meth.sig.returnType = none) (hno : ∀ x ∈ c.exceptionTable.toList, False) {L1 : Int32} {v : gMem} {Q : gMem → Prop} {X : String → gMem → Prop} {I13 : Int32 → gMem → Prop} (hI13 : ∀ (L1 : Int32) (v : gMem), I13 L1 v → gS p l e ({ frames := 5, cells := 0, slots := 0, locals := 115 } : Room) s m args below meth c 3 L sz (vx_MQ below (gQv L sz Q) (gXC L sz X) args s 0 0 (gA L sz)) 0 0 13 [(0, .ref (L.2.1 6 0)), (1, .int L1)] [] v) (h : BX6_findBestByKeys_13 I13 L1 v Q X) : gS p l e ({ frames := 5, cells := 0, slots := 0, locals := 115 } : Room) s m args below meth c 3 L sz (vx_MQ below (gQv L sz Q) (gXC L sz X) args s 0 0 (gA L sz)) 0 0 13 [(0, .ref (L.2.1 6 0)), (1, .int L1)] [] v := by
  unfold BX6_findBestByKeys_13 at h
  refine g_iload_n C 1 rfl 1 rfl dX6_findBestByKeys_13 ?_
  refine g_aload_n C 0 rfl 0 rfl dX6_findBestByKeys_14 ?_
  refine fgX6_88 C dX6_findBestByKeys_15 ?_
  refine g_icmp_ge C 64 (by decide) dX6_findBestByKeys_18 (fun hc => ?_) (fun hc => ?_)
  · replace h := h.1 hc
    exact g_vret C hr (Nat.le_of_ble_eq_true rfl) (Nat.le_of_ble_eq_true rfl) h dX6_findBestByKeys_64
  · replace h := h.2 hc
    refine g_iload_n C 1 rfl 1 rfl dX6_findBestByKeys_21 ?_
    refine g_iconst C 1 (by decide) dX6_findBestByKeys_22 ?_
    refine g_iadd C dX6_findBestByKeys_23 ?_
    refine g_istore_n C 2 rfl [(2, .int (L1 + 1)), (0, .ref (L.2.1 6 0)), (1, .int L1)] (Nat.le_of_ble_eq_true rfl) rfl dX6_findBestByKeys_24 ?_
    refine g_sub [(0, .ref (L.2.1 6 0)), (1, .int L1), (2, .int (L1 + 1))] [1, 2, 0] rfl ?_
    exact slX6_findBestByKeys_25 C hr hno hI13 h
def LX6_findBestByKeys_13 (L1 : Int32) (v : gMem) (Q : gMem → Prop) (X : String → gMem → Prop) : Prop := ∀ I13 : Int32 → gMem → Prop, (∀ (L1 : Int32) (v : gMem), BX6_findBestByKeys_13 I13 L1 v Q X → I13 L1 v) → I13 L1 v
theorem slX6_findBestByKeys_13 (C : gC p l s m args meth c cX6_findBestByKeys 3 RX6 L sz) (hr : meth.sig.returnType = none) (hno : ∀ x ∈ c.exceptionTable.toList, False) {L1 : Int32} {v : gMem} {Q : gMem → Prop} {X : String → gMem → Prop} (h : LX6_findBestByKeys_13 L1 v Q X) : gS p l e ({ frames := 5, cells := 0, slots := 0, locals := 115 } : Room) s m args below meth c 3 L sz (vx_MQ below (gQv L sz Q) (gXC L sz X) args s 0 0 (gA L sz)) 0 0 13 [(0, .ref (L.2.1 6 0)), (1, .int L1)] [] v := by
  refine h (fun L1 v => gS p l e ({ frames := 5, cells := 0, slots := 0, locals := 115 } : Room) s m args below meth c 3 L sz (vx_MQ below (gQv L sz Q) (gXC L sz X) args s 0 0 (gA L sz)) 0 0 13 [(0, .ref (L.2.1 6 0)), (1, .int L1)] [] v) (fun L1 v hb => ?_)
  exact sX6_findBestByKeys_13 C hr hno (fun _ _ hs => hs) hb
def TX6_findBestByKeys (v : gMem) (Q : gMem → Prop) (X : String → gMem → Prop) : Prop := (TX0_forget v (fun v4 => (TX6_gatherMates v4 (fun v8 => (LX6_findBestByKeys_13 0 v8 Q X)) X)) X)
theorem kX6_findBestByKeys (l : Launch) (hfl : l.stackTraces = false) (L : gL) (hL : gDist L) (v : gMem) (Q : gMem → Prop) (X : String → gMem → Prop) (h : TX6_findBestByKeys v Q X) (sz : Nat) : vx_Met l yX6_findBestByKeys [.code yX6_findBestByKeys cX6_findBestByKeys 3 none] ({ frames := 5, cells := 0, slots := 0, locals := 115 } : Room) (gPc L sz [.ref (L.2.1 6 0)] v) (gQv L sz Q) (gXC L sz X) 0 0 (gA L sz) := by
  refine g_ofW (by decide +kernel) hfl hL (Nat.le_of_ble_eq_true rfl) ?_
  intro p e s m args below meth c C hr hno
  refine g_sub [(0, .ref (L.2.1 6 0))] [0] rfl ?_
  unfold TX6_findBestByKeys at h
  refine g_aload_n C 0 rfl 0 rfl dX6_findBestByKeys_0 ?_
  refine fgX6_56 C dX6_findBestByKeys_1 ?_
  refine g_callVv C hno gok_0 rfl rfl [] (fun sz9 => kX0_forget l C.2.2.2.2.2.2.1 L C.2.2.2.2.2.2.2.1 v _ X h sz9) wml_RX6_365 winst_X0_forget wsel_X0_forget wini_RX0 wcode_X0_forget rfl rfl (n := 0) (by decide +kernel) rfl ⟨(Nat.le_of_ble_eq_true rfl), (Nat.le_of_ble_eq_true rfl)⟩ ⟨(Nat.le_of_ble_eq_true rfl), (Nat.le_of_ble_eq_true rfl)⟩ ⟨(Nat.le_of_ble_eq_true rfl), (Nat.le_of_ble_eq_true rfl)⟩ (Nat.le_of_ble_eq_true rfl) dX6_findBestByKeys_4 (fun v4 h => ?_)
  refine g_aload_n C 0 rfl 0 rfl dX6_findBestByKeys_7 ?_
  refine g_callVv C hno gok_6 rfl rfl [] (fun sz9 => kX6_gatherMates l C.2.2.2.2.2.2.1 L C.2.2.2.2.2.2.2.1 v4 _ X h sz9) wml_RX6_371 winst_X6_gatherMates wsel_X6_gatherMates wini_RX6 wcode_X6_gatherMates rfl rfl (n := 0) (by decide +kernel) rfl ⟨(Nat.le_of_ble_eq_true rfl), (Nat.le_of_ble_eq_true rfl)⟩ ⟨(Nat.le_of_ble_eq_true rfl), (Nat.le_of_ble_eq_true rfl)⟩ ⟨(Nat.le_of_ble_eq_true rfl), (Nat.le_of_ble_eq_true rfl)⟩ (Nat.le_of_ble_eq_true rfl) dX6_findBestByKeys_8 (fun v8 h => ?_)
  refine g_iconst C 0 (by decide) dX6_findBestByKeys_11 ?_
  refine g_istore_n C 1 rfl [(1, .int 0), (0, .ref (L.2.1 6 0))] (Nat.le_of_ble_eq_true rfl) rfl dX6_findBestByKeys_12 ?_
  refine g_sub [(0, .ref (L.2.1 6 0)), (1, .int 0)] [1, 0] rfl ?_
  exact slX6_findBestByKeys_13 C hr hno h
def TX6_requireBest (v : gMem) (Q : gMem → Prop) (X : String → gMem → Prop) : Prop := (TX0_isMissing v (fun r4 v4 => ((r4 = 0 → (Q v4)) ∧ (¬ r4 = 0 → (X "java/util/NoSuchElementException" v4)))) X)
theorem kX6_requireBest (l : Launch) (hfl : l.stackTraces = false) (L : gL) (hL : gDist L) (v : gMem) (Q : gMem → Prop) (X : String → gMem → Prop) (h : TX6_requireBest v Q X) (sz : Nat) : vx_Met l yX6_requireBest [.code yX6_requireBest cX6_requireBest 1 none] ({ frames := 6, cells := 1, slots := 6, locals := 82 } : Room) (gPc L sz [.ref (L.2.1 6 0)] v) (gQv L sz Q) (gXC L sz X) 1 6 (gA L sz) := by
  refine g_ofW (by decide +kernel) hfl hL (Nat.le_of_ble_eq_true rfl) ?_
  intro p e s m args below meth c C hr hno
  refine g_sub [(0, .ref (L.2.1 6 0))] [0] rfl ?_
  unfold TX6_requireBest at h
  refine g_aload_n C 0 rfl 0 rfl dX6_requireBest_0 ?_
  refine fgX6_56 C dX6_requireBest_1 ?_
  refine g_callVi C hno gok_0 rfl rfl [] (fun sz9 => kX0_isMissing l C.2.2.2.2.2.2.1 L C.2.2.2.2.2.2.2.1 v _ X h sz9) wml_RX6_328 winst_X0_isMissing wsel_X0_isMissing wini_RX0 wcode_X0_isMissing rfl rfl (n := 0) (by decide +kernel) rfl ⟨(Nat.le_of_ble_eq_true rfl), (Nat.le_of_ble_eq_true rfl)⟩ ⟨(Nat.le_of_ble_eq_true rfl), (Nat.le_of_ble_eq_true rfl)⟩ ⟨(Nat.le_of_ble_eq_true rfl), (Nat.le_of_ble_eq_true rfl)⟩ (Nat.le_of_ble_eq_true rfl) dX6_requireBest_4 (fun r4 v4 h => ?_)
  refine g_if_eq C 21 (by decide) dX6_requireBest_7 (fun hc => ?_) (fun hc => ?_)
  · replace h := h.1 hc
    exact g_vret C hr (Nat.le_of_ble_eq_true rfl) (Nat.le_of_ble_eq_true rfl) h dX6_requireBest_21
  · replace h := h.2 hc
    exact g_throwNW C hno (text := "there are no candidates") (is := 331) rfl (by decide) wcl_RX6_128 wini_java_util_NoSuchElementException (List.mem_of_getElem? (i := 15) rfl) wat_RX6_132 dX6_requireBest_10 dX6_requireBest_13 dX6_requireBest_14 dX6_requireBest_17 dX6_requireBest_20 (Nat.le_of_ble_eq_true rfl) (Nat.le_of_ble_eq_true rfl) ⟨(Nat.le_of_ble_eq_true rfl), (Nat.le_of_ble_eq_true rfl)⟩ (Nat.le_of_ble_eq_true rfl) (Nat.le_of_ble_eq_true rfl) h
def TX6_bestScore (v : gMem) (Q : Int32 → gMem → Prop) (X : String → gMem → Prop) : Prop := (TX6_findBestByKeys v (fun v1 => (TX6_requireBest v1 (fun v5 => (Q (v5 0 0 2) v5)) X)) X)
theorem kX6_bestScore (l : Launch) (hfl : l.stackTraces = false) (L : gL) (hL : gDist L) (v : gMem) (Q : Int32 → gMem → Prop) (X : String → gMem → Prop) (h : TX6_bestScore v Q X) (sz : Nat) : vx_Met l yX6_bestScore [.code yX6_bestScore cX6_bestScore 1 (some .int)] ({ frames := 7, cells := 1, slots := 6, locals := 137 } : Room) (gPc L sz [.ref (L.2.1 6 0)] v) (gQi L sz Q) (gXC L sz X) 1 6 (gA L sz) := by
  refine g_ofW (by decide +kernel) hfl hL (Nat.le_of_ble_eq_true rfl) ?_
  intro p e s m args below meth c C hr hno
  refine g_sub [(0, .ref (L.2.1 6 0))] [0] rfl ?_
  unfold TX6_bestScore at h
  refine g_aload_n C 0 rfl 0 rfl dX6_bestScore_0 ?_
  refine g_callVv C hno gok_6 rfl rfl [] (fun sz9 => kX6_findBestByKeys l C.2.2.2.2.2.2.1 L C.2.2.2.2.2.2.2.1 v _ X h sz9) wml_RX6_171 winst_X6_findBestByKeys wsel_X6_findBestByKeys wini_RX6 wcode_X6_findBestByKeys rfl rfl (n := 0) (by decide +kernel) rfl ⟨(Nat.le_of_ble_eq_true rfl), (Nat.le_of_ble_eq_true rfl)⟩ ⟨(Nat.le_of_ble_eq_true rfl), (Nat.le_of_ble_eq_true rfl)⟩ ⟨(Nat.le_of_ble_eq_true rfl), (Nat.le_of_ble_eq_true rfl)⟩ (Nat.le_of_ble_eq_true rfl) dX6_bestScore_1 (fun v1 h => ?_)
  refine g_aload_n C 0 rfl 0 rfl dX6_bestScore_4 ?_
  refine g_callVv C hno gok_6 rfl rfl [] (fun sz9 => kX6_requireBest l C.2.2.2.2.2.2.1 L C.2.2.2.2.2.2.2.1 v1 _ X h sz9) wml_RX6_174 winst_X6_requireBest wsel_X6_requireBest wini_RX6 wcode_X6_requireBest rfl rfl (n := 0) (by decide +kernel) rfl ⟨(Nat.le_of_ble_eq_true rfl), (Nat.le_of_ble_eq_true rfl)⟩ ⟨(Nat.le_of_ble_eq_true rfl), (Nat.le_of_ble_eq_true rfl)⟩ ⟨(Nat.le_of_ble_eq_true rfl), (Nat.le_of_ble_eq_true rfl)⟩ (Nat.le_of_ble_eq_true rfl) dX6_bestScore_5 (fun v5 h => ?_)
  refine g_aload_n C 0 rfl 0 rfl dX6_bestScore_8 ?_
  refine fgX6_56 C dX6_bestScore_9 ?_
  refine fgX6_177 C dX6_bestScore_12 ?_
  exact g_iret C hr rfl (Nat.le_of_ble_eq_true rfl) (Nat.le_of_ble_eq_true rfl) h dX6_bestScore_15
def BX6_findBestByPairs_44 (I9 : Int32 → gMem → Prop) (I21 : Int32 → gMem → Prop) (L1 : Int32) (L2 : Int32) (v : gMem) (Q : gMem → Prop) (X : String → gMem → Prop) : Prop := (I21 (L2 + 1) v)
theorem sX6_findBestByPairs_44 (C : gC p l s m args meth c cX6_findBestByPairs 3 RX6 L sz) (hr : meth.sig.returnType = none) (hno : ∀ x ∈ c.exceptionTable.toList, False) {L1 : Int32} {L2 : Int32} {v : gMem} {Q : gMem → Prop} {X : String → gMem → Prop} {I9 : Int32 → gMem → Prop} (hI9 : ∀ (L1 : Int32) (v : gMem), I9 L1 v → gS p l e ({ frames := 5, cells := 0, slots := 0, locals := 115 } : Room) s m args below meth c 3 L sz (vx_MQ below (gQv L sz Q) (gXC L sz X) args s 0 0 (gA L sz)) 0 0 9 [(0, .ref (L.2.1 6 0)), (1, .int L1)] [] v) {I21 : Int32 → gMem → Prop} (hI21 : ∀ (L2 : Int32) (v : gMem), I21 L2 v → gS p l e ({ frames := 5, cells := 0, slots := 0, locals := 115 } : Room) s m args below meth c 3 L sz (vx_MQ below (gQv L sz Q) (gXC L sz X) args s 0 0 (gA L sz)) 0 0 21 [(0, .ref (L.2.1 6 0)), (1, .int L1), (2, .int L2)] [] v) (h : BX6_findBestByPairs_44 I9 I21 L1 L2 v Q X) : gS p l e ({ frames := 5, cells := 0, slots := 0, locals := 115 } : Room) s m args below meth c 3 L sz (vx_MQ below (gQv L sz Q) (gXC L sz X) args s 0 0 (gA L sz)) 0 0 44 [(0, .ref (L.2.1 6 0)), (1, .int L1), (2, .int L2)] [] v := by
  unfold BX6_findBestByPairs_44 at h
  refine g_iinc C (k := 2) (L2 + 1) [(2, .int (L2 + 1)), (0, .ref (L.2.1 6 0)), (1, .int L1)] rfl rfl (Nat.le_of_ble_eq_true rfl) rfl dX6_findBestByPairs_44 ?_
  refine g_goto C 21 (by decide) dX6_findBestByPairs_47 ?_
  refine g_sub [(0, .ref (L.2.1 6 0)), (1, .int L1), (2, .int (L2 + 1))] [1, 2, 0] rfl ?_
  exact hI21 _ _ h
def BX6_findBestByPairs_21 (I9 : Int32 → gMem → Prop) (I21 : Int32 → gMem → Prop) (L1 : Int32) (L2 : Int32) (v : gMem) (Q : gMem → Prop) (X : String → gMem → Prop) : Prop := (((v 6 0 3) ≤ L2 → (I9 (L1 + 1) v)) ∧ (¬ (v 6 0 3) ≤ L2 → (TX6_sharesKey L1 L2 v (fun r32 v32 => ((r32 = 0 → (BX6_findBestByPairs_44 I9 I21 L1 L2 v32 Q X)) ∧ (¬ r32 = 0 → (TX6_offer L1 L2 v32 (fun v41 => (BX6_findBestByPairs_44 I9 I21 L1 L2 v41 Q X)) X)))) X)))
theorem sX6_findBestByPairs_21 (C : gC p l s m args meth c cX6_findBestByPairs 3 RX6 L sz) (hr : meth.sig.returnType = none) (hno : ∀ x ∈ c.exceptionTable.toList, False) {L1 : Int32} {L2 : Int32} {v : gMem} {Q : gMem → Prop} {X : String → gMem → Prop} {I9 : Int32 → gMem → Prop} (hI9 : ∀ (L1 : Int32) (v : gMem), I9 L1 v → gS p l e ({ frames := 5, cells := 0, slots := 0, locals := 115 } : Room) s m args below meth c 3 L sz (vx_MQ below (gQv L sz Q) (gXC L sz X) args s 0 0 (gA L sz)) 0 0 9 [(0, .ref (L.2.1 6 0)), (1, .int L1)] [] v) {I21 : Int32 → gMem → Prop} (hI21 : ∀ (L2 : Int32) (v : gMem), I21 L2 v → gS p l e ({ frames := 5, cells := 0, slots := 0, locals := 115 } : Room) s m args below meth c 3 L sz (vx_MQ below (gQv L sz Q) (gXC L sz X) args s 0 0 (gA L sz)) 0 0 21 [(0, .ref (L.2.1 6 0)), (1, .int L1), (2, .int L2)] [] v) (h : BX6_findBestByPairs_21 I9 I21 L1 L2 v Q X) : gS p l e ({ frames := 5, cells := 0, slots := 0, locals := 115 } : Room) s m args below meth c 3 L sz (vx_MQ below (gQv L sz Q) (gXC L sz X) args s 0 0 (gA L sz)) 0 0 21 [(0, .ref (L.2.1 6 0)), (1, .int L1), (2, .int L2)] [] v := by
  unfold BX6_findBestByPairs_21 at h
  refine g_iload_n C 2 rfl 2 rfl dX6_findBestByPairs_21 ?_
  refine g_aload_n C 0 rfl 0 rfl dX6_findBestByPairs_22 ?_
  refine fgX6_88 C dX6_findBestByPairs_23 ?_
  refine g_icmp_ge C 50 (by decide) dX6_findBestByPairs_26 (fun hc => ?_) (fun hc => ?_)
  · replace h := h.1 hc
    refine g_iinc C (k := 1) (L1 + 1) [(1, .int (L1 + 1)), (0, .ref (L.2.1 6 0)), (2, .int L2)] rfl rfl (Nat.le_of_ble_eq_true rfl) rfl dX6_findBestByPairs_50 ?_
    refine g_goto C 9 (by decide) dX6_findBestByPairs_53 ?_
    refine g_sub [(0, .ref (L.2.1 6 0)), (1, .int (L1 + 1))] [1, 0] rfl ?_
    exact hI9 _ _ h
  · replace h := h.2 hc
    refine g_aload_n C 0 rfl 0 rfl dX6_findBestByPairs_29 ?_
    refine g_iload_n C 1 rfl 1 rfl dX6_findBestByPairs_30 ?_
    refine g_iload_n C 2 rfl 2 rfl dX6_findBestByPairs_31 ?_
    refine g_callVi C hno gok_6 rfl rfl [.int L1, .int L2] (fun sz9 => kX6_sharesKey l C.2.2.2.2.2.2.1 L C.2.2.2.2.2.2.2.1 L1 L2 v _ X h sz9) wml_RX6_164 winst_X6_sharesKey wsel_X6_sharesKey wini_RX6 wcode_X6_sharesKey rfl rfl (n := 2) (by decide +kernel) rfl ⟨(Nat.le_of_ble_eq_true rfl), (Nat.le_of_ble_eq_true rfl)⟩ ⟨(Nat.le_of_ble_eq_true rfl), (Nat.le_of_ble_eq_true rfl)⟩ ⟨(Nat.le_of_ble_eq_true rfl), (Nat.le_of_ble_eq_true rfl)⟩ (Nat.le_of_ble_eq_true rfl) dX6_findBestByPairs_32 (fun r32 v32 h => ?_)
    refine g_if_eq C 44 (by decide) dX6_findBestByPairs_35 (fun hc => ?_) (fun hc => ?_)
    · replace h := h.1 hc
      exact sX6_findBestByPairs_44 C hr hno hI9 hI21 h
    · replace h := h.2 hc
      refine g_aload_n C 0 rfl 0 rfl dX6_findBestByPairs_38 ?_
      refine g_iload_n C 1 rfl 1 rfl dX6_findBestByPairs_39 ?_
      refine g_iload_n C 2 rfl 2 rfl dX6_findBestByPairs_40 ?_
      refine g_callVv C hno gok_6 rfl rfl [.int L1, .int L2] (fun sz9 => kX6_offer l C.2.2.2.2.2.2.1 L C.2.2.2.2.2.2.2.1 L1 L2 v32 _ X h sz9) wml_RX6_368 winst_X6_offer wsel_X6_offer wini_RX6 wcode_X6_offer rfl rfl (n := 2) (by decide +kernel) rfl ⟨(Nat.le_of_ble_eq_true rfl), (Nat.le_of_ble_eq_true rfl)⟩ ⟨(Nat.le_of_ble_eq_true rfl), (Nat.le_of_ble_eq_true rfl)⟩ ⟨(Nat.le_of_ble_eq_true rfl), (Nat.le_of_ble_eq_true rfl)⟩ (Nat.le_of_ble_eq_true rfl) dX6_findBestByPairs_41 (fun v41 h => ?_)
      exact sX6_findBestByPairs_44 C hr hno hI9 hI21 h
def LX6_findBestByPairs_21 (I9 : Int32 → gMem → Prop) (L1 : Int32) (L2 : Int32) (v : gMem) (Q : gMem → Prop) (X : String → gMem → Prop) : Prop := ∀ I21 : Int32 → gMem → Prop, (∀ (L2 : Int32) (v : gMem), BX6_findBestByPairs_21 I9 I21 L1 L2 v Q X → I21 L2 v) → I21 L2 v
theorem slX6_findBestByPairs_21 (C : gC p l s m args meth c cX6_findBestByPairs 3 RX6 L sz) (hr : meth.sig.returnType = none) (hno : ∀ x ∈ c.exceptionTable.toList, False) {L1 : Int32} {L2 : Int32} {v : gMem} {Q : gMem → Prop} {X : String → gMem → Prop} {I9 : Int32 → gMem → Prop} (hI9 : ∀ (L1 : Int32) (v : gMem), I9 L1 v → gS p l e ({ frames := 5, cells := 0, slots := 0, locals := 115 } : Room) s m args below meth c 3 L sz (vx_MQ below (gQv L sz Q) (gXC L sz X) args s 0 0 (gA L sz)) 0 0 9 [(0, .ref (L.2.1 6 0)), (1, .int L1)] [] v) (h : LX6_findBestByPairs_21 I9 L1 L2 v Q X) : gS p l e ({ frames := 5, cells := 0, slots := 0, locals := 115 } : Room) s m args below meth c 3 L sz (vx_MQ below (gQv L sz Q) (gXC L sz X) args s 0 0 (gA L sz)) 0 0 21 [(0, .ref (L.2.1 6 0)), (1, .int L1), (2, .int L2)] [] v := by
  refine h (fun L2 v => gS p l e ({ frames := 5, cells := 0, slots := 0, locals := 115 } : Room) s m args below meth c 3 L sz (vx_MQ below (gQv L sz Q) (gXC L sz X) args s 0 0 (gA L sz)) 0 0 21 [(0, .ref (L.2.1 6 0)), (1, .int L1), (2, .int L2)] [] v) (fun L2 v hb => ?_)
  exact sX6_findBestByPairs_21 C hr hno hI9 (fun _ _ hs => hs) hb
def BX6_findBestByPairs_9 (I9 : Int32 → gMem → Prop) (L1 : Int32) (v : gMem) (Q : gMem → Prop) (X : String → gMem → Prop) : Prop := (((v 6 0 3) ≤ L1 → (Q v)) ∧ (¬ (v 6 0 3) ≤ L1 → (LX6_findBestByPairs_21 I9 L1 (L1 + 1) v Q X)))
theorem sX6_findBestByPairs_9 (C : gC p l s m args meth c cX6_findBestByPairs 3 RX6 L sz) (hr : meth.sig.returnType = none) (hno : ∀ x ∈ c.exceptionTable.toList, False) {L1 : Int32} {v : gMem} {Q : gMem → Prop} {X : String → gMem → Prop} {I9 : Int32 → gMem → Prop} (hI9 : ∀ (L1 : Int32) (v : gMem), I9 L1 v → gS p l e ({ frames := 5, cells := 0, slots := 0, locals := 115 } : Room) s m args below meth c 3 L sz (vx_MQ below (gQv L sz Q) (gXC L sz X) args s 0 0 (gA L sz)) 0 0 9 [(0, .ref (L.2.1 6 0)), (1, .int L1)] [] v) (h : BX6_findBestByPairs_9 I9 L1 v Q X) : gS p l e ({ frames := 5, cells := 0, slots := 0, locals := 115 } : Room) s m args below meth c 3 L sz (vx_MQ below (gQv L sz Q) (gXC L sz X) args s 0 0 (gA L sz)) 0 0 9 [(0, .ref (L.2.1 6 0)), (1, .int L1)] [] v := by
  unfold BX6_findBestByPairs_9 at h
  refine g_iload_n C 1 rfl 1 rfl dX6_findBestByPairs_9 ?_
  refine g_aload_n C 0 rfl 0 rfl dX6_findBestByPairs_10 ?_
  refine fgX6_88 C dX6_findBestByPairs_11 ?_
  refine g_icmp_ge C 56 (by decide) dX6_findBestByPairs_14 (fun hc => ?_) (fun hc => ?_)
  · replace h := h.1 hc
    exact g_vret C hr (Nat.le_of_ble_eq_true rfl) (Nat.le_of_ble_eq_true rfl) h dX6_findBestByPairs_56
  · replace h := h.2 hc
    refine g_iload_n C 1 rfl 1 rfl dX6_findBestByPairs_17 ?_
    refine g_iconst C 1 (by decide) dX6_findBestByPairs_18 ?_
    refine g_iadd C dX6_findBestByPairs_19 ?_
    refine g_istore_n C 2 rfl [(2, .int (L1 + 1)), (0, .ref (L.2.1 6 0)), (1, .int L1)] (Nat.le_of_ble_eq_true rfl) rfl dX6_findBestByPairs_20 ?_
    refine g_sub [(0, .ref (L.2.1 6 0)), (1, .int L1), (2, .int (L1 + 1))] [1, 2, 0] rfl ?_
    exact slX6_findBestByPairs_21 C hr hno hI9 h
def LX6_findBestByPairs_9 (L1 : Int32) (v : gMem) (Q : gMem → Prop) (X : String → gMem → Prop) : Prop := ∀ I9 : Int32 → gMem → Prop, (∀ (L1 : Int32) (v : gMem), BX6_findBestByPairs_9 I9 L1 v Q X → I9 L1 v) → I9 L1 v
theorem slX6_findBestByPairs_9 (C : gC p l s m args meth c cX6_findBestByPairs 3 RX6 L sz) (hr : meth.sig.returnType = none) (hno : ∀ x ∈ c.exceptionTable.toList, False) {L1 : Int32} {v : gMem} {Q : gMem → Prop} {X : String → gMem → Prop} (h : LX6_findBestByPairs_9 L1 v Q X) : gS p l e ({ frames := 5, cells := 0, slots := 0, locals := 115 } : Room) s m args below meth c 3 L sz (vx_MQ below (gQv L sz Q) (gXC L sz X) args s 0 0 (gA L sz)) 0 0 9 [(0, .ref (L.2.1 6 0)), (1, .int L1)] [] v := by
  refine h (fun L1 v => gS p l e ({ frames := 5, cells := 0, slots := 0, locals := 115 } : Room) s m args below meth c 3 L sz (vx_MQ below (gQv L sz Q) (gXC L sz X) args s 0 0 (gA L sz)) 0 0 9 [(0, .ref (L.2.1 6 0)), (1, .int L1)] [] v) (fun L1 v hb => ?_)
  exact sX6_findBestByPairs_9 C hr hno (fun _ _ hs => hs) hb
def TX6_findBestByPairs (v : gMem) (Q : gMem → Prop) (X : String → gMem → Prop) : Prop := (TX0_forget v (fun v4 => (LX6_findBestByPairs_9 0 v4 Q X)) X)
theorem kX6_findBestByPairs (l : Launch) (hfl : l.stackTraces = false) (L : gL) (hL : gDist L) (v : gMem) (Q : gMem → Prop) (X : String → gMem → Prop) (h : TX6_findBestByPairs v Q X) (sz : Nat) : vx_Met l yX6_findBestByPairs [.code yX6_findBestByPairs cX6_findBestByPairs 3 none] ({ frames := 5, cells := 0, slots := 0, locals := 115 } : Room) (gPc L sz [.ref (L.2.1 6 0)] v) (gQv L sz Q) (gXC L sz X) 0 0 (gA L sz) := by
  refine g_ofW (by decide +kernel) hfl hL (Nat.le_of_ble_eq_true rfl) ?_
  intro p e s m args below meth c C hr hno
  refine g_sub [(0, .ref (L.2.1 6 0))] [0] rfl ?_
  unfold TX6_findBestByPairs at h
  refine g_aload_n C 0 rfl 0 rfl dX6_findBestByPairs_0 ?_
  refine fgX6_56 C dX6_findBestByPairs_1 ?_
  refine g_callVv C hno gok_0 rfl rfl [] (fun sz9 => kX0_forget l C.2.2.2.2.2.2.1 L C.2.2.2.2.2.2.2.1 v _ X h sz9) wml_RX6_365 winst_X0_forget wsel_X0_forget wini_RX0 wcode_X0_forget rfl rfl (n := 0) (by decide +kernel) rfl ⟨(Nat.le_of_ble_eq_true rfl), (Nat.le_of_ble_eq_true rfl)⟩ ⟨(Nat.le_of_ble_eq_true rfl), (Nat.le_of_ble_eq_true rfl)⟩ ⟨(Nat.le_of_ble_eq_true rfl), (Nat.le_of_ble_eq_true rfl)⟩ (Nat.le_of_ble_eq_true rfl) dX6_findBestByPairs_4 (fun v4 h => ?_)
  refine g_iconst C 0 (by decide) dX6_findBestByPairs_7 ?_
  refine g_istore_n C 1 rfl [(1, .int 0), (0, .ref (L.2.1 6 0))] (Nat.le_of_ble_eq_true rfl) rfl dX6_findBestByPairs_8 ?_
  refine g_sub [(0, .ref (L.2.1 6 0)), (1, .int 0)] [1, 0] rfl ?_
  exact slX6_findBestByPairs_9 C hr hno h
def TX6_bestScoreByPairs (v : gMem) (Q : Int32 → gMem → Prop) (X : String → gMem → Prop) : Prop := (TX6_findBestByPairs v (fun v1 => (TX6_requireBest v1 (fun v5 => (Q (v5 0 0 2) v5)) X)) X)
theorem kX6_bestScoreByPairs (l : Launch) (hfl : l.stackTraces = false) (L : gL) (hL : gDist L) (v : gMem) (Q : Int32 → gMem → Prop) (X : String → gMem → Prop) (h : TX6_bestScoreByPairs v Q X) (sz : Nat) : vx_Met l yX6_bestScoreByPairs [.code yX6_bestScoreByPairs cX6_bestScoreByPairs 1 (some .int)] ({ frames := 7, cells := 1, slots := 6, locals := 137 } : Room) (gPc L sz [.ref (L.2.1 6 0)] v) (gQi L sz Q) (gXC L sz X) 1 6 (gA L sz) := by
  refine g_ofW (by decide +kernel) hfl hL (Nat.le_of_ble_eq_true rfl) ?_
  intro p e s m args below meth c C hr hno
  refine g_sub [(0, .ref (L.2.1 6 0))] [0] rfl ?_
  unfold TX6_bestScoreByPairs at h
  refine g_aload_n C 0 rfl 0 rfl dX6_bestScoreByPairs_0 ?_
  refine g_callVv C hno gok_6 rfl rfl [] (fun sz9 => kX6_findBestByPairs l C.2.2.2.2.2.2.1 L C.2.2.2.2.2.2.2.1 v _ X h sz9) wml_RX6_180 winst_X6_findBestByPairs wsel_X6_findBestByPairs wini_RX6 wcode_X6_findBestByPairs rfl rfl (n := 0) (by decide +kernel) rfl ⟨(Nat.le_of_ble_eq_true rfl), (Nat.le_of_ble_eq_true rfl)⟩ ⟨(Nat.le_of_ble_eq_true rfl), (Nat.le_of_ble_eq_true rfl)⟩ ⟨(Nat.le_of_ble_eq_true rfl), (Nat.le_of_ble_eq_true rfl)⟩ (Nat.le_of_ble_eq_true rfl) dX6_bestScoreByPairs_1 (fun v1 h => ?_)
  refine g_aload_n C 0 rfl 0 rfl dX6_bestScoreByPairs_4 ?_
  refine g_callVv C hno gok_6 rfl rfl [] (fun sz9 => kX6_requireBest l C.2.2.2.2.2.2.1 L C.2.2.2.2.2.2.2.1 v1 _ X h sz9) wml_RX6_174 winst_X6_requireBest wsel_X6_requireBest wini_RX6 wcode_X6_requireBest rfl rfl (n := 0) (by decide +kernel) rfl ⟨(Nat.le_of_ble_eq_true rfl), (Nat.le_of_ble_eq_true rfl)⟩ ⟨(Nat.le_of_ble_eq_true rfl), (Nat.le_of_ble_eq_true rfl)⟩ ⟨(Nat.le_of_ble_eq_true rfl), (Nat.le_of_ble_eq_true rfl)⟩ (Nat.le_of_ble_eq_true rfl) dX6_bestScoreByPairs_5 (fun v5 h => ?_)
  refine g_aload_n C 0 rfl 0 rfl dX6_bestScoreByPairs_8 ?_
  refine fgX6_56 C dX6_bestScoreByPairs_9 ?_
  refine fgX6_177 C dX6_bestScoreByPairs_12 ?_
  exact g_iret C hr rfl (Nat.le_of_ble_eq_true rfl) (Nat.le_of_ble_eq_true rfl) h dX6_bestScoreByPairs_15
def TX6_bestOne (v : gMem) (Q : Int32 → gMem → Prop) (X : String → gMem → Prop) : Prop := (TX6_findBestByKeys v (fun v1 => (TX6_requireBest v1 (fun v5 => (Q (v5 0 0 0) v5)) X)) X)
theorem kX6_bestOne (l : Launch) (hfl : l.stackTraces = false) (L : gL) (hL : gDist L) (v : gMem) (Q : Int32 → gMem → Prop) (X : String → gMem → Prop) (h : TX6_bestOne v Q X) (sz : Nat) : vx_Met l yX6_bestOne [.code yX6_bestOne cX6_bestOne 1 (some .int)] ({ frames := 7, cells := 1, slots := 6, locals := 137 } : Room) (gPc L sz [.ref (L.2.1 6 0)] v) (gQi L sz Q) (gXC L sz X) 1 6 (gA L sz) := by
  refine g_ofW (by decide +kernel) hfl hL (Nat.le_of_ble_eq_true rfl) ?_
  intro p e s m args below meth c C hr hno
  refine g_sub [(0, .ref (L.2.1 6 0))] [0] rfl ?_
  unfold TX6_bestOne at h
  refine g_aload_n C 0 rfl 0 rfl dX6_bestOne_0 ?_
  refine g_callVv C hno gok_6 rfl rfl [] (fun sz9 => kX6_findBestByKeys l C.2.2.2.2.2.2.1 L C.2.2.2.2.2.2.2.1 v _ X h sz9) wml_RX6_171 winst_X6_findBestByKeys wsel_X6_findBestByKeys wini_RX6 wcode_X6_findBestByKeys rfl rfl (n := 0) (by decide +kernel) rfl ⟨(Nat.le_of_ble_eq_true rfl), (Nat.le_of_ble_eq_true rfl)⟩ ⟨(Nat.le_of_ble_eq_true rfl), (Nat.le_of_ble_eq_true rfl)⟩ ⟨(Nat.le_of_ble_eq_true rfl), (Nat.le_of_ble_eq_true rfl)⟩ (Nat.le_of_ble_eq_true rfl) dX6_bestOne_1 (fun v1 h => ?_)
  refine g_aload_n C 0 rfl 0 rfl dX6_bestOne_4 ?_
  refine g_callVv C hno gok_6 rfl rfl [] (fun sz9 => kX6_requireBest l C.2.2.2.2.2.2.1 L C.2.2.2.2.2.2.2.1 v1 _ X h sz9) wml_RX6_174 winst_X6_requireBest wsel_X6_requireBest wini_RX6 wcode_X6_requireBest rfl rfl (n := 0) (by decide +kernel) rfl ⟨(Nat.le_of_ble_eq_true rfl), (Nat.le_of_ble_eq_true rfl)⟩ ⟨(Nat.le_of_ble_eq_true rfl), (Nat.le_of_ble_eq_true rfl)⟩ ⟨(Nat.le_of_ble_eq_true rfl), (Nat.le_of_ble_eq_true rfl)⟩ (Nat.le_of_ble_eq_true rfl) dX6_bestOne_5 (fun v5 h => ?_)
  refine g_aload_n C 0 rfl 0 rfl dX6_bestOne_8 ?_
  refine fgX6_56 C dX6_bestOne_9 ?_
  refine fgX6_183 C dX6_bestOne_12 ?_
  exact g_iret C hr rfl (Nat.le_of_ble_eq_true rfl) (Nat.le_of_ble_eq_true rfl) h dX6_bestOne_15
def TX6_bestOther (v : gMem) (Q : Int32 → gMem → Prop) (X : String → gMem → Prop) : Prop := (TX6_findBestByKeys v (fun v1 => (TX6_requireBest v1 (fun v5 => (Q (v5 0 0 1) v5)) X)) X)
theorem kX6_bestOther (l : Launch) (hfl : l.stackTraces = false) (L : gL) (hL : gDist L) (v : gMem) (Q : Int32 → gMem → Prop) (X : String → gMem → Prop) (h : TX6_bestOther v Q X) (sz : Nat) : vx_Met l yX6_bestOther [.code yX6_bestOther cX6_bestOther 1 (some .int)] ({ frames := 7, cells := 1, slots := 6, locals := 137 } : Room) (gPc L sz [.ref (L.2.1 6 0)] v) (gQi L sz Q) (gXC L sz X) 1 6 (gA L sz) := by
  refine g_ofW (by decide +kernel) hfl hL (Nat.le_of_ble_eq_true rfl) ?_
  intro p e s m args below meth c C hr hno
  refine g_sub [(0, .ref (L.2.1 6 0))] [0] rfl ?_
  unfold TX6_bestOther at h
  refine g_aload_n C 0 rfl 0 rfl dX6_bestOther_0 ?_
  refine g_callVv C hno gok_6 rfl rfl [] (fun sz9 => kX6_findBestByKeys l C.2.2.2.2.2.2.1 L C.2.2.2.2.2.2.2.1 v _ X h sz9) wml_RX6_171 winst_X6_findBestByKeys wsel_X6_findBestByKeys wini_RX6 wcode_X6_findBestByKeys rfl rfl (n := 0) (by decide +kernel) rfl ⟨(Nat.le_of_ble_eq_true rfl), (Nat.le_of_ble_eq_true rfl)⟩ ⟨(Nat.le_of_ble_eq_true rfl), (Nat.le_of_ble_eq_true rfl)⟩ ⟨(Nat.le_of_ble_eq_true rfl), (Nat.le_of_ble_eq_true rfl)⟩ (Nat.le_of_ble_eq_true rfl) dX6_bestOther_1 (fun v1 h => ?_)
  refine g_aload_n C 0 rfl 0 rfl dX6_bestOther_4 ?_
  refine g_callVv C hno gok_6 rfl rfl [] (fun sz9 => kX6_requireBest l C.2.2.2.2.2.2.1 L C.2.2.2.2.2.2.2.1 v1 _ X h sz9) wml_RX6_174 winst_X6_requireBest wsel_X6_requireBest wini_RX6 wcode_X6_requireBest rfl rfl (n := 0) (by decide +kernel) rfl ⟨(Nat.le_of_ble_eq_true rfl), (Nat.le_of_ble_eq_true rfl)⟩ ⟨(Nat.le_of_ble_eq_true rfl), (Nat.le_of_ble_eq_true rfl)⟩ ⟨(Nat.le_of_ble_eq_true rfl), (Nat.le_of_ble_eq_true rfl)⟩ (Nat.le_of_ble_eq_true rfl) dX6_bestOther_5 (fun v5 h => ?_)
  refine g_aload_n C 0 rfl 0 rfl dX6_bestOther_8 ?_
  refine fgX6_56 C dX6_bestOther_9 ?_
  refine fgX6_186 C dX6_bestOther_12 ?_
  exact g_iret C hr rfl (Nat.le_of_ble_eq_true rfl) (Nat.le_of_ble_eq_true rfl) h dX6_bestOther_15
def TX6_isOnePerson (L1 : Int32) (L2 : Int32) (v : gMem) (Q : Int32 → gMem → Prop) (X : String → gMem → Prop) : Prop := (TX3_joinedWith L1 v (fun r5 v5 => (TX6_contains r5 L2 v5 (fun r9 v9 => (narrow .boolean (.int r9) = .int r9 ∧ Q r9 v9)) X)) X)
theorem kX6_isOnePerson (l : Launch) (hfl : l.stackTraces = false) (L : gL) (hL : gDist L) (L1 : Int32) (L2 : Int32) (v : gMem) (Q : Int32 → gMem → Prop) (X : String → gMem → Prop) (h : TX6_isOnePerson L1 L2 v Q X) (sz : Nat) : vx_Met l yX6_isOnePerson [.code yX6_isOnePerson cX6_isOnePerson 3 (some .boolean)] ({ frames := 3, cells := 0, slots := 0, locals := 68 } : Room) (gPc L sz [.ref (L.2.1 6 0), .int L1, .int L2] v) (gQi L sz Q) (gXC L sz X) 0 0 (gA L sz) := by
  refine g_ofW (by decide +kernel) hfl hL (Nat.le_of_ble_eq_true rfl) ?_
  intro p e s m args below meth c C hr hno
  refine g_sub [(0, .ref (L.2.1 6 0)), (1, .int L1), (2, .int L2)] [0, 1, 2] rfl ?_
  unfold TX6_isOnePerson at h
  refine g_aload_n C 0 rfl 0 rfl dX6_isOnePerson_0 ?_
  refine fgX6_39 C dX6_isOnePerson_1 ?_
  refine g_iload_n C 1 rfl 1 rfl dX6_isOnePerson_4 ?_
  refine g_callVi C hno gok_3 rfl rfl [.int L1] (fun sz9 => kX3_joinedWith l C.2.2.2.2.2.2.1 L C.2.2.2.2.2.2.2.1 L1 v _ X h sz9) wml_RX6_226 winst_X3_joinedWith wsel_X3_joinedWith wini_RX3 wcode_X3_joinedWith rfl rfl (n := 1) (by decide +kernel) rfl ⟨(Nat.le_of_ble_eq_true rfl), (Nat.le_of_ble_eq_true rfl)⟩ ⟨(Nat.le_of_ble_eq_true rfl), (Nat.le_of_ble_eq_true rfl)⟩ ⟨(Nat.le_of_ble_eq_true rfl), (Nat.le_of_ble_eq_true rfl)⟩ (Nat.le_of_ble_eq_true rfl) dX6_isOnePerson_5 (fun r5 v5 h => ?_)
  refine g_iload_n C 2 rfl 2 rfl dX6_isOnePerson_8 ?_
  refine g_callSi C hno [.int r5, .int L2] (fun sz9 => kX6_contains l C.2.2.2.2.2.2.1 L C.2.2.2.2.2.2.2.1 r5 L2 v5 _ X h sz9) wml_RX6_287 wstat_X6_contains wini_RX6 wcode_X6_contains rfl rfl (n := 2) (by decide +kernel) rfl ⟨(Nat.le_of_ble_eq_true rfl), (Nat.le_of_ble_eq_true rfl)⟩ ⟨(Nat.le_of_ble_eq_true rfl), (Nat.le_of_ble_eq_true rfl)⟩ ⟨(Nat.le_of_ble_eq_true rfl), (Nat.le_of_ble_eq_true rfl)⟩ (Nat.le_of_ble_eq_true rfl) dX6_isOnePerson_9 (fun r9 v9 h => ?_)
  exact g_iret C hr h.1 (Nat.le_of_ble_eq_true rfl) (Nat.le_of_ble_eq_true rfl) h.2 dX6_isOnePerson_12
def BX6_forbid_52 (v : gMem) (Q : Int32 → gMem → Prop) (X : String → gMem → Prop) : Prop := (X "java/lang/IllegalStateException" v)
theorem sX6_forbid_52 (C : gC p l s m args meth c cX6_forbid 3 RX6 L sz) (hr : meth.sig.returnType = (some .int)) (hno : ∀ x ∈ c.exceptionTable.toList, False) {v : gMem} {Q : Int32 → gMem → Prop} {X : String → gMem → Prop} (h : BX6_forbid_52 v Q X) : gS p l e ({ frames := 8, cells := 4, slots := 24, locals := 125 } : Room) s m args below meth c 3 L sz (vx_MQ below (gQi L sz Q) (gXC L sz X) args s 4 24 (gA L sz)) 3 18 52 [] [] v := by
  unfold BX6_forbid_52 at h
  exact g_throwS C hno (text := "the cards are forbidden, or there are 12 pairs") (is := 203) rfl (by decide) wcl_RX6_78 wini_java_lang_IllegalStateException (List.mem_of_getElem? (i := 17) rfl) wat_RX6_82 dX6_forbid_52 dX6_forbid_55 dX6_forbid_56 dX6_forbid_58 dX6_forbid_61 (Nat.le_of_ble_eq_true rfl) (Nat.le_of_ble_eq_true rfl) ⟨(Nat.le_of_ble_eq_true rfl), (Nat.le_of_ble_eq_true rfl)⟩ (Nat.le_of_ble_eq_true rfl) (Nat.le_of_ble_eq_true rfl) h
def TX6_forbid (L1 : Int32) (L2 : Int32) (v : gMem) (Q : Int32 → gMem → Prop) (X : String → gMem → Prop) : Prop := (TX6_requireCards L1 L2 v (fun v3 => (TX6_requireTwo L1 L2 v3 (fun v9 => (TX6_isOnePerson L1 L2 v9 (fun r15 v15 => ((r15 = 0 → (TX5_holds 0 L1 L2 v15 (fun r37 v37 => ((¬ r37 = 0 → (BX6_forbid_52 v37 Q X)) ∧ (r37 = 0 → (((v37 6 0 8) < 12 → (TX5_tie 0 L1 L2 v37 (fun v68 => (Q ((gw v68 6 0 8 ((v68 6 0 8) + 1)) 6 0 8) (gw v68 6 0 8 ((v68 6 0 8) + 1)))) X)) ∧ (¬ (v37 6 0 8) < 12 → (BX6_forbid_52 v37 Q X)))))) X)) ∧ (¬ r15 = 0 → (X "java/lang/UnsupportedOperationException" v15)))) X)) X)) X)
theorem kX6_forbid (l : Launch) (hfl : l.stackTraces = false) (L : gL) (hL : gDist L) (L1 : Int32) (L2 : Int32) (v : gMem) (Q : Int32 → gMem → Prop) (X : String → gMem → Prop) (h : TX6_forbid L1 L2 v Q X) (sz : Nat) : vx_Met l yX6_forbid [.code yX6_forbid cX6_forbid 3 (some .int)] ({ frames := 8, cells := 4, slots := 24, locals := 125 } : Room) (gPc L sz [.ref (L.2.1 6 0), .int L1, .int L2] v) (gQi L sz Q) (gXC L sz X) 4 24 (gA L sz) := by
  refine g_ofW (by decide +kernel) hfl hL (Nat.le_of_ble_eq_true rfl) ?_
  intro p e s m args below meth c C hr hno
  refine g_sub [(0, .ref (L.2.1 6 0)), (1, .int L1), (2, .int L2)] [0, 1, 2] rfl ?_
  unfold TX6_forbid at h
  refine g_aload_n C 0 rfl 0 rfl dX6_forbid_0 ?_
  refine g_iload_n C 1 rfl 1 rfl dX6_forbid_1 ?_
  refine g_iload_n C 2 rfl 2 rfl dX6_forbid_2 ?_
  refine g_callVv C hno gok_6 rfl rfl [.int L1, .int L2] (fun sz9 => kX6_requireCards l C.2.2.2.2.2.2.1 L C.2.2.2.2.2.2.2.1 L1 L2 v _ X h sz9) wml_RX6_153 winst_X6_requireCards wsel_X6_requireCards wini_RX6 wcode_X6_requireCards rfl rfl (n := 2) (by decide +kernel) rfl ⟨(Nat.le_of_ble_eq_true rfl), (Nat.le_of_ble_eq_true rfl)⟩ ⟨(Nat.le_of_ble_eq_true rfl), (Nat.le_of_ble_eq_true rfl)⟩ ⟨(Nat.le_of_ble_eq_true rfl), (Nat.le_of_ble_eq_true rfl)⟩ (Nat.le_of_ble_eq_true rfl) dX6_forbid_3 (fun v3 h => ?_)
  refine g_aload_n C 0 rfl 0 rfl dX6_forbid_6 ?_
  refine g_iload_n C 1 rfl 1 rfl dX6_forbid_7 ?_
  refine g_iload_n C 2 rfl 2 rfl dX6_forbid_8 ?_
  refine g_callVv C hno gok_6 rfl rfl [.int L1, .int L2] (fun sz9 => kX6_requireTwo l C.2.2.2.2.2.2.1 L C.2.2.2.2.2.2.2.1 L1 L2 v3 _ X h sz9) wml_RX6_157 winst_X6_requireTwo wsel_X6_requireTwo wini_RX6 wcode_X6_requireTwo rfl rfl (n := 2) (by decide +kernel) rfl ⟨(Nat.le_of_ble_eq_true rfl), (Nat.le_of_ble_eq_true rfl)⟩ ⟨(Nat.le_of_ble_eq_true rfl), (Nat.le_of_ble_eq_true rfl)⟩ ⟨(Nat.le_of_ble_eq_true rfl), (Nat.le_of_ble_eq_true rfl)⟩ (Nat.le_of_ble_eq_true rfl) dX6_forbid_9 (fun v9 h => ?_)
  refine g_aload_n C 0 rfl 0 rfl dX6_forbid_12 ?_
  refine g_iload_n C 1 rfl 1 rfl dX6_forbid_13 ?_
  refine g_iload_n C 2 rfl 2 rfl dX6_forbid_14 ?_
  refine g_callVi C hno gok_6 rfl rfl [.int L1, .int L2] (fun sz9 => kX6_isOnePerson l C.2.2.2.2.2.2.1 L C.2.2.2.2.2.2.2.1 L1 L2 v9 _ X h sz9) wml_RX6_189 winst_X6_isOnePerson wsel_X6_isOnePerson wini_RX6 wcode_X6_isOnePerson rfl rfl (n := 2) (by decide +kernel) rfl ⟨(Nat.le_of_ble_eq_true rfl), (Nat.le_of_ble_eq_true rfl)⟩ ⟨(Nat.le_of_ble_eq_true rfl), (Nat.le_of_ble_eq_true rfl)⟩ ⟨(Nat.le_of_ble_eq_true rfl), (Nat.le_of_ble_eq_true rfl)⟩ (Nat.le_of_ble_eq_true rfl) dX6_forbid_15 (fun r15 v15 h => ?_)
  refine g_if_eq C 31 (by decide) dX6_forbid_18 (fun hc => ?_) (fun hc => ?_)
  · replace h := h.1 hc
    refine g_aload_n C 0 rfl 0 rfl dX6_forbid_31 ?_
    refine fgX6_32 C dX6_forbid_32 ?_
    refine g_iload_n C 1 rfl 1 rfl dX6_forbid_35 ?_
    refine g_iload_n C 2 rfl 2 rfl dX6_forbid_36 ?_
    refine g_callVi C hno (gok_5 (by decide : 0 < 2)) rfl rfl [.int L1, .int L2] (fun sz9 => kX5_holds l C.2.2.2.2.2.2.1 L C.2.2.2.2.2.2.2.1 (by decide : 0 < 2) L1 L2 v15 _ X h sz9) wml_RX6_197 winst_X5_holds wsel_X5_holds wini_RX5 wcode_X5_holds rfl rfl (n := 2) (by decide +kernel) rfl ⟨(Nat.le_of_ble_eq_true rfl), (Nat.le_of_ble_eq_true rfl)⟩ ⟨(Nat.le_of_ble_eq_true rfl), (Nat.le_of_ble_eq_true rfl)⟩ ⟨(Nat.le_of_ble_eq_true rfl), (Nat.le_of_ble_eq_true rfl)⟩ (Nat.le_of_ble_eq_true rfl) dX6_forbid_37 (fun r37 v37 h => ?_)
    refine g_if_ne C 52 (by decide) dX6_forbid_40 (fun hc => ?_) (fun hc => ?_)
    · replace h := h.1 hc
      refine g_sub [] [] rfl ?_
      exact sX6_forbid_52 C hr hno h
    · replace h := h.2 hc
      refine g_aload_n C 0 rfl 0 rfl dX6_forbid_43 ?_
      refine fgX6_200 C dX6_forbid_44 ?_
      refine g_bipush C 12 (by decide) dX6_forbid_47 ?_
      refine g_icmp_lt C 62 (by decide) dX6_forbid_49 (fun hc => ?_) (fun hc => ?_)
      · replace h := h.1 hc
        refine g_aload_n C 0 rfl 0 rfl dX6_forbid_62 ?_
        refine fgX6_32 C dX6_forbid_63 ?_
        refine g_iload_n C 1 rfl 1 rfl dX6_forbid_66 ?_
        refine g_iload_n C 2 rfl 2 rfl dX6_forbid_67 ?_
        refine g_callVv C hno (gok_5 (by decide : 0 < 2)) rfl rfl [.int L1, .int L2] (fun sz9 => kX5_tie l C.2.2.2.2.2.2.1 L C.2.2.2.2.2.2.2.1 (by decide : 0 < 2) L1 L2 v37 _ X h sz9) wml_RX6_205 winst_X5_tie wsel_X5_tie wini_RX5 wcode_X5_tie rfl rfl (n := 2) (by decide +kernel) rfl ⟨(Nat.le_of_ble_eq_true rfl), (Nat.le_of_ble_eq_true rfl)⟩ ⟨(Nat.le_of_ble_eq_true rfl), (Nat.le_of_ble_eq_true rfl)⟩ ⟨(Nat.le_of_ble_eq_true rfl), (Nat.le_of_ble_eq_true rfl)⟩ (Nat.le_of_ble_eq_true rfl) dX6_forbid_68 (fun v68 h => ?_)
        refine g_aload_n C 0 rfl 0 rfl dX6_forbid_71 ?_
        refine g_dup C rfl dX6_forbid_72 ?_
        refine fgX6_200 C dX6_forbid_73 ?_
        refine g_iconst C 1 (by decide) dX6_forbid_76 ?_
        refine g_iadd C dX6_forbid_77 ?_
        refine fpX6_200 C dX6_forbid_78 ?_
        refine g_aload_n C 0 rfl 0 rfl dX6_forbid_81 ?_
        refine fgX6_200 C dX6_forbid_82 ?_
        exact g_iret C hr rfl (Nat.le_of_ble_eq_true rfl) (Nat.le_of_ble_eq_true rfl) h dX6_forbid_85
      · replace h := h.2 hc
        refine g_sub [] [] rfl ?_
        exact sX6_forbid_52 C hr hno h
  · replace h := h.2 hc
    exact g_throwS C hno (text := "the cards are one person") (is := 194) rfl (by decide) wcl_RX6_192 wini_java_lang_UnsupportedOperationException (List.mem_of_getElem? (i := 16) rfl) wat_RX6_196 dX6_forbid_21 dX6_forbid_24 dX6_forbid_25 dX6_forbid_27 dX6_forbid_30 (Nat.le_of_ble_eq_true rfl) (Nat.le_of_ble_eq_true rfl) ⟨(Nat.le_of_ble_eq_true rfl), (Nat.le_of_ble_eq_true rfl)⟩ (Nat.le_of_ble_eq_true rfl) (Nat.le_of_ble_eq_true rfl) h
def TX6_allow (L1 : Int32) (L2 : Int32) (v : gMem) (Q : Int32 → gMem → Prop) (X : String → gMem → Prop) : Prop := (TX6_requireCards L1 L2 v (fun v3 => (TX5_holds 0 L1 L2 v3 (fun r12 v12 => ((¬ r12 = 0 → (TX5_cut 0 L1 L2 v12 (fun v34 => (Q ((gw v34 6 0 8 ((v34 6 0 8) - 1)) 6 0 8) (gw v34 6 0 8 ((v34 6 0 8) - 1)))) X)) ∧ (r12 = 0 → (X "java/util/NoSuchElementException" v12)))) X)) X)
theorem kX6_allow (l : Launch) (hfl : l.stackTraces = false) (L : gL) (hL : gDist L) (L1 : Int32) (L2 : Int32) (v : gMem) (Q : Int32 → gMem → Prop) (X : String → gMem → Prop) (h : TX6_allow L1 L2 v Q X) (sz : Nat) : vx_Met l yX6_allow [.code yX6_allow cX6_allow 3 (some .int)] ({ frames := 8, cells := 3, slots := 18, locals := 125 } : Room) (gPc L sz [.ref (L.2.1 6 0), .int L1, .int L2] v) (gQi L sz Q) (gXC L sz X) 3 18 (gA L sz) := by
  refine g_ofW (by decide +kernel) hfl hL (Nat.le_of_ble_eq_true rfl) ?_
  intro p e s m args below meth c C hr hno
  refine g_sub [(0, .ref (L.2.1 6 0)), (1, .int L1), (2, .int L2)] [0, 1, 2] rfl ?_
  unfold TX6_allow at h
  refine g_aload_n C 0 rfl 0 rfl dX6_allow_0 ?_
  refine g_iload_n C 1 rfl 1 rfl dX6_allow_1 ?_
  refine g_iload_n C 2 rfl 2 rfl dX6_allow_2 ?_
  refine g_callVv C hno gok_6 rfl rfl [.int L1, .int L2] (fun sz9 => kX6_requireCards l C.2.2.2.2.2.2.1 L C.2.2.2.2.2.2.2.1 L1 L2 v _ X h sz9) wml_RX6_153 winst_X6_requireCards wsel_X6_requireCards wini_RX6 wcode_X6_requireCards rfl rfl (n := 2) (by decide +kernel) rfl ⟨(Nat.le_of_ble_eq_true rfl), (Nat.le_of_ble_eq_true rfl)⟩ ⟨(Nat.le_of_ble_eq_true rfl), (Nat.le_of_ble_eq_true rfl)⟩ ⟨(Nat.le_of_ble_eq_true rfl), (Nat.le_of_ble_eq_true rfl)⟩ (Nat.le_of_ble_eq_true rfl) dX6_allow_3 (fun v3 h => ?_)
  refine g_aload_n C 0 rfl 0 rfl dX6_allow_6 ?_
  refine fgX6_32 C dX6_allow_7 ?_
  refine g_iload_n C 1 rfl 1 rfl dX6_allow_10 ?_
  refine g_iload_n C 2 rfl 2 rfl dX6_allow_11 ?_
  refine g_callVi C hno (gok_5 (by decide : 0 < 2)) rfl rfl [.int L1, .int L2] (fun sz9 => kX5_holds l C.2.2.2.2.2.2.1 L C.2.2.2.2.2.2.2.1 (by decide : 0 < 2) L1 L2 v3 _ X h sz9) wml_RX6_197 winst_X5_holds wsel_X5_holds wini_RX5 wcode_X5_holds rfl rfl (n := 2) (by decide +kernel) rfl ⟨(Nat.le_of_ble_eq_true rfl), (Nat.le_of_ble_eq_true rfl)⟩ ⟨(Nat.le_of_ble_eq_true rfl), (Nat.le_of_ble_eq_true rfl)⟩ ⟨(Nat.le_of_ble_eq_true rfl), (Nat.le_of_ble_eq_true rfl)⟩ (Nat.le_of_ble_eq_true rfl) dX6_allow_12 (fun r12 v12 h => ?_)
  refine g_if_ne C 28 (by decide) dX6_allow_15 (fun hc => ?_) (fun hc => ?_)
  · replace h := h.1 hc
    refine g_aload_n C 0 rfl 0 rfl dX6_allow_28 ?_
    refine fgX6_32 C dX6_allow_29 ?_
    refine g_iload_n C 1 rfl 1 rfl dX6_allow_32 ?_
    refine g_iload_n C 2 rfl 2 rfl dX6_allow_33 ?_
    refine g_callVv C hno (gok_5 (by decide : 0 < 2)) rfl rfl [.int L1, .int L2] (fun sz9 => kX5_cut l C.2.2.2.2.2.2.1 L C.2.2.2.2.2.2.2.1 (by decide : 0 < 2) L1 L2 v12 _ X h sz9) wml_RX6_210 winst_X5_cut wsel_X5_cut wini_RX5 wcode_X5_cut rfl rfl (n := 2) (by decide +kernel) rfl ⟨(Nat.le_of_ble_eq_true rfl), (Nat.le_of_ble_eq_true rfl)⟩ ⟨(Nat.le_of_ble_eq_true rfl), (Nat.le_of_ble_eq_true rfl)⟩ ⟨(Nat.le_of_ble_eq_true rfl), (Nat.le_of_ble_eq_true rfl)⟩ (Nat.le_of_ble_eq_true rfl) dX6_allow_34 (fun v34 h => ?_)
    refine g_aload_n C 0 rfl 0 rfl dX6_allow_37 ?_
    refine g_dup C rfl dX6_allow_38 ?_
    refine fgX6_200 C dX6_allow_39 ?_
    refine g_iconst C 1 (by decide) dX6_allow_42 ?_
    refine g_isub C dX6_allow_43 ?_
    refine fpX6_200 C dX6_allow_44 ?_
    refine g_aload_n C 0 rfl 0 rfl dX6_allow_47 ?_
    refine fgX6_200 C dX6_allow_48 ?_
    exact g_iret C hr rfl (Nat.le_of_ble_eq_true rfl) (Nat.le_of_ble_eq_true rfl) h dX6_allow_51
  · replace h := h.2 hc
    exact g_throwN C hno (text := "the cards are not forbidden") (is := 208) rfl (by decide) wcl_RX6_128 wini_java_util_NoSuchElementException (List.mem_of_getElem? (i := 18) rfl) wat_RX6_132 dX6_allow_18 dX6_allow_21 dX6_allow_22 dX6_allow_24 dX6_allow_27 (Nat.le_of_ble_eq_true rfl) (Nat.le_of_ble_eq_true rfl) ⟨(Nat.le_of_ble_eq_true rfl), (Nat.le_of_ble_eq_true rfl)⟩ (Nat.le_of_ble_eq_true rfl) (Nat.le_of_ble_eq_true rfl) h
def TX6_barsBetween (L1 : Int32) (L2 : Int32) (v : gMem) (Q : Int32 → gMem → Prop) (X : String → gMem → Prop) : Prop := (TX3_joinedWith L1 v (fun r5 v5 => (TX3_joinedWith L2 v5 (fun r17 v17 => (TX5_partnersOfAll 0 r17 v17 (fun r20 v20 => (Q (r5 &&& r20) v20)) X)) X)) X)
theorem kX6_barsBetween (l : Launch) (hfl : l.stackTraces = false) (L : gL) (hL : gDist L) (L1 : Int32) (L2 : Int32) (v : gMem) (Q : Int32 → gMem → Prop) (X : String → gMem → Prop) (h : TX6_barsBetween L1 L2 v Q X) (sz : Nat) : vx_Met l yX6_barsBetween [.code yX6_barsBetween cX6_barsBetween 3 (some .int)] ({ frames := 3, cells := 0, slots := 0, locals := 68 } : Room) (gPc L sz [.ref (L.2.1 6 0), .int L1, .int L2] v) (gQi L sz Q) (gXC L sz X) 0 0 (gA L sz) := by
  refine g_ofW (by decide +kernel) hfl hL (Nat.le_of_ble_eq_true rfl) ?_
  intro p e s m args below meth c C hr hno
  refine g_sub [(0, .ref (L.2.1 6 0)), (1, .int L1), (2, .int L2)] [0, 1, 2] rfl ?_
  unfold TX6_barsBetween at h
  refine g_aload_n C 0 rfl 0 rfl dX6_barsBetween_0 ?_
  refine fgX6_39 C dX6_barsBetween_1 ?_
  refine g_iload_n C 1 rfl 1 rfl dX6_barsBetween_4 ?_
  refine g_callVi C hno gok_3 rfl rfl [.int L1] (fun sz9 => kX3_joinedWith l C.2.2.2.2.2.2.1 L C.2.2.2.2.2.2.2.1 L1 v _ X h sz9) wml_RX6_226 winst_X3_joinedWith wsel_X3_joinedWith wini_RX3 wcode_X3_joinedWith rfl rfl (n := 1) (by decide +kernel) rfl ⟨(Nat.le_of_ble_eq_true rfl), (Nat.le_of_ble_eq_true rfl)⟩ ⟨(Nat.le_of_ble_eq_true rfl), (Nat.le_of_ble_eq_true rfl)⟩ ⟨(Nat.le_of_ble_eq_true rfl), (Nat.le_of_ble_eq_true rfl)⟩ (Nat.le_of_ble_eq_true rfl) dX6_barsBetween_5 (fun r5 v5 h => ?_)
  refine g_aload_n C 0 rfl 0 rfl dX6_barsBetween_8 ?_
  refine fgX6_32 C dX6_barsBetween_9 ?_
  refine g_aload_n C 0 rfl 0 rfl dX6_barsBetween_12 ?_
  refine fgX6_39 C dX6_barsBetween_13 ?_
  refine g_iload_n C 2 rfl 2 rfl dX6_barsBetween_16 ?_
  refine g_callVi C hno gok_3 rfl rfl [.int L2] (fun sz9 => kX3_joinedWith l C.2.2.2.2.2.2.1 L C.2.2.2.2.2.2.2.1 L2 v5 _ X h sz9) wml_RX6_226 winst_X3_joinedWith wsel_X3_joinedWith wini_RX3 wcode_X3_joinedWith rfl rfl (n := 1) (by decide +kernel) rfl ⟨(Nat.le_of_ble_eq_true rfl), (Nat.le_of_ble_eq_true rfl)⟩ ⟨(Nat.le_of_ble_eq_true rfl), (Nat.le_of_ble_eq_true rfl)⟩ ⟨(Nat.le_of_ble_eq_true rfl), (Nat.le_of_ble_eq_true rfl)⟩ (Nat.le_of_ble_eq_true rfl) dX6_barsBetween_17 (fun r17 v17 h => ?_)
  refine g_callVi C hno (gok_5 (by decide : 0 < 2)) rfl rfl [.int r17] (fun sz9 => kX5_partnersOfAll l C.2.2.2.2.2.2.1 L C.2.2.2.2.2.2.2.1 (by decide : 0 < 2) r17 v17 _ X h sz9) wml_RX6_223 winst_X5_partnersOfAll wsel_X5_partnersOfAll wini_RX5 wcode_X5_partnersOfAll rfl rfl (n := 1) (by decide +kernel) rfl ⟨(Nat.le_of_ble_eq_true rfl), (Nat.le_of_ble_eq_true rfl)⟩ ⟨(Nat.le_of_ble_eq_true rfl), (Nat.le_of_ble_eq_true rfl)⟩ ⟨(Nat.le_of_ble_eq_true rfl), (Nat.le_of_ble_eq_true rfl)⟩ (Nat.le_of_ble_eq_true rfl) dX6_barsBetween_20 (fun r20 v20 h => ?_)
  refine g_iand C dX6_barsBetween_23 ?_
  exact g_iret C hr rfl (Nat.le_of_ble_eq_true rfl) (Nat.le_of_ble_eq_true rfl) h dX6_barsBetween_24
def BX6_why_49 (t0 : Int32) (v : gMem) (Q : Int32 → gMem → Prop) (X : String → gMem → Prop) : Prop := (narrow .char (.int t0) = .int t0 ∧ Q t0 v)
theorem sX6_why_49 (C : gC p l s m args meth c cX6_why 3 RX6 L sz) (hr : meth.sig.returnType = (some .char)) (hno : ∀ x ∈ c.exceptionTable.toList, False) {t0 : Int32} {v : gMem} {Q : Int32 → gMem → Prop} {X : String → gMem → Prop} (h : BX6_why_49 t0 v Q X) : gS p l e ({ frames := 8, cells := 2, slots := 12, locals := 125 } : Room) s m args below meth c 3 L sz (vx_MQ below (gQi L sz Q) (gXC L sz X) args s 2 12 (gA L sz)) 2 12 49 [] [.int t0] v := by
  unfold BX6_why_49 at h
  exact g_iret C hr h.1 (Nat.le_of_ble_eq_true rfl) (Nat.le_of_ble_eq_true rfl) h.2 dX6_why_49
def TX6_why (L1 : Int32) (L2 : Int32) (v : gMem) (Q : Int32 → gMem → Prop) (X : String → gMem → Prop) : Prop := (TX6_requireCards L1 L2 v (fun v3 => (TX6_isOnePerson L1 L2 v3 (fun r9 v9 => ((r9 = 0 → (TX5_holds 0 L1 L2 v9 (fun r24 v24 => ((r24 = 0 → (TX6_barsBetween L1 L2 v24 (fun r36 v36 => ((r36 = 0 → (BX6_why_49 45 v36 Q X)) ∧ (¬ r36 = 0 → (BX6_why_49 105 v36 Q X)))) X)) ∧ (¬ r24 = 0 → (Q 100 v24)))) X)) ∧ (¬ r9 = 0 → (Q 116 v9)))) X)) X)
theorem kX6_why (l : Launch) (hfl : l.stackTraces = false) (L : gL) (hL : gDist L) (L1 : Int32) (L2 : Int32) (v : gMem) (Q : Int32 → gMem → Prop) (X : String → gMem → Prop) (h : TX6_why L1 L2 v Q X) (sz : Nat) : vx_Met l yX6_why [.code yX6_why cX6_why 3 (some .char)] ({ frames := 8, cells := 2, slots := 12, locals := 125 } : Room) (gPc L sz [.ref (L.2.1 6 0), .int L1, .int L2] v) (gQi L sz Q) (gXC L sz X) 2 12 (gA L sz) := by
  refine g_ofW (by decide +kernel) hfl hL (Nat.le_of_ble_eq_true rfl) ?_
  intro p e s m args below meth c C hr hno
  refine g_sub [(0, .ref (L.2.1 6 0)), (1, .int L1), (2, .int L2)] [0, 1, 2] rfl ?_
  unfold TX6_why at h
  refine g_aload_n C 0 rfl 0 rfl dX6_why_0 ?_
  refine g_iload_n C 1 rfl 1 rfl dX6_why_1 ?_
  refine g_iload_n C 2 rfl 2 rfl dX6_why_2 ?_
  refine g_callVv C hno gok_6 rfl rfl [.int L1, .int L2] (fun sz9 => kX6_requireCards l C.2.2.2.2.2.2.1 L C.2.2.2.2.2.2.2.1 L1 L2 v _ X h sz9) wml_RX6_153 winst_X6_requireCards wsel_X6_requireCards wini_RX6 wcode_X6_requireCards rfl rfl (n := 2) (by decide +kernel) rfl ⟨(Nat.le_of_ble_eq_true rfl), (Nat.le_of_ble_eq_true rfl)⟩ ⟨(Nat.le_of_ble_eq_true rfl), (Nat.le_of_ble_eq_true rfl)⟩ ⟨(Nat.le_of_ble_eq_true rfl), (Nat.le_of_ble_eq_true rfl)⟩ (Nat.le_of_ble_eq_true rfl) dX6_why_3 (fun v3 h => ?_)
  refine g_aload_n C 0 rfl 0 rfl dX6_why_6 ?_
  refine g_iload_n C 1 rfl 1 rfl dX6_why_7 ?_
  refine g_iload_n C 2 rfl 2 rfl dX6_why_8 ?_
  refine g_callVi C hno gok_6 rfl rfl [.int L1, .int L2] (fun sz9 => kX6_isOnePerson l C.2.2.2.2.2.2.1 L C.2.2.2.2.2.2.2.1 L1 L2 v3 _ X h sz9) wml_RX6_189 winst_X6_isOnePerson wsel_X6_isOnePerson wini_RX6 wcode_X6_isOnePerson rfl rfl (n := 2) (by decide +kernel) rfl ⟨(Nat.le_of_ble_eq_true rfl), (Nat.le_of_ble_eq_true rfl)⟩ ⟨(Nat.le_of_ble_eq_true rfl), (Nat.le_of_ble_eq_true rfl)⟩ ⟨(Nat.le_of_ble_eq_true rfl), (Nat.le_of_ble_eq_true rfl)⟩ (Nat.le_of_ble_eq_true rfl) dX6_why_9 (fun r9 v9 h => ?_)
  refine g_if_eq C 18 (by decide) dX6_why_12 (fun hc => ?_) (fun hc => ?_)
  · replace h := h.1 hc
    refine g_aload_n C 0 rfl 0 rfl dX6_why_18 ?_
    refine fgX6_32 C dX6_why_19 ?_
    refine g_iload_n C 1 rfl 1 rfl dX6_why_22 ?_
    refine g_iload_n C 2 rfl 2 rfl dX6_why_23 ?_
    refine g_callVi C hno (gok_5 (by decide : 0 < 2)) rfl rfl [.int L1, .int L2] (fun sz9 => kX5_holds l C.2.2.2.2.2.2.1 L C.2.2.2.2.2.2.2.1 (by decide : 0 < 2) L1 L2 v9 _ X h sz9) wml_RX6_197 winst_X5_holds wsel_X5_holds wini_RX5 wcode_X5_holds rfl rfl (n := 2) (by decide +kernel) rfl ⟨(Nat.le_of_ble_eq_true rfl), (Nat.le_of_ble_eq_true rfl)⟩ ⟨(Nat.le_of_ble_eq_true rfl), (Nat.le_of_ble_eq_true rfl)⟩ ⟨(Nat.le_of_ble_eq_true rfl), (Nat.le_of_ble_eq_true rfl)⟩ (Nat.le_of_ble_eq_true rfl) dX6_why_24 (fun r24 v24 h => ?_)
    refine g_if_eq C 33 (by decide) dX6_why_27 (fun hc => ?_) (fun hc => ?_)
    · replace h := h.1 hc
      refine g_aload_n C 0 rfl 0 rfl dX6_why_33 ?_
      refine g_iload_n C 1 rfl 1 rfl dX6_why_34 ?_
      refine g_iload_n C 2 rfl 2 rfl dX6_why_35 ?_
      refine g_callVi C hno gok_6 rfl rfl [.int L1, .int L2] (fun sz9 => kX6_barsBetween l C.2.2.2.2.2.2.1 L C.2.2.2.2.2.2.2.1 L1 L2 v24 _ X h sz9) wml_RX6_213 winst_X6_barsBetween wsel_X6_barsBetween wini_RX6 wcode_X6_barsBetween rfl rfl (n := 2) (by decide +kernel) rfl ⟨(Nat.le_of_ble_eq_true rfl), (Nat.le_of_ble_eq_true rfl)⟩ ⟨(Nat.le_of_ble_eq_true rfl), (Nat.le_of_ble_eq_true rfl)⟩ ⟨(Nat.le_of_ble_eq_true rfl), (Nat.le_of_ble_eq_true rfl)⟩ (Nat.le_of_ble_eq_true rfl) dX6_why_36 (fun r36 v36 h => ?_)
      refine g_if_eq C 47 (by decide) dX6_why_39 (fun hc => ?_) (fun hc => ?_)
      · replace h := h.1 hc
        refine g_bipush C 45 (by decide) dX6_why_47 ?_
        refine g_sub [] [] rfl ?_
        exact sX6_why_49 C hr hno h
      · replace h := h.2 hc
        refine g_bipush C 105 (by decide) dX6_why_42 ?_
        refine g_goto C 49 (by decide) dX6_why_44 ?_
        refine g_sub [] [] rfl ?_
        exact sX6_why_49 C hr hno h
    · replace h := h.2 hc
      refine g_bipush C 100 (by decide) dX6_why_30 ?_
      exact g_iret C hr rfl (Nat.le_of_ble_eq_true rfl) (Nat.le_of_ble_eq_true rfl) h dX6_why_32
  · replace h := h.2 hc
    refine g_bipush C 116 (by decide) dX6_why_15 ?_
    exact g_iret C hr rfl (Nat.le_of_ble_eq_true rfl) (Nat.le_of_ble_eq_true rfl) h dX6_why_17
def TX6_requireBars (L1 : Int32) (v : gMem) (Q : gMem → Prop) (X : String → gMem → Prop) : Prop := ((¬ L1 = 0 → (Q v)) ∧ (L1 = 0 → (X "java/util/NoSuchElementException" v)))
theorem kX6_requireBars (l : Launch) (hfl : l.stackTraces = false) (L : gL) (hL : gDist L) (L1 : Int32) (v : gMem) (Q : gMem → Prop) (X : String → gMem → Prop) (h : TX6_requireBars L1 v Q X) (sz : Nat) : vx_Met l yX6_requireBars [.code yX6_requireBars cX6_requireBars 2 none] ({ frames := 6, cells := 1, slots := 6, locals := 82 } : Room) (gPc L sz [.ref (L.2.1 6 0), .int L1] v) (gQv L sz Q) (gXC L sz X) 1 6 (gA L sz) := by
  refine g_ofW (by decide +kernel) hfl hL (Nat.le_of_ble_eq_true rfl) ?_
  intro p e s m args below meth c C hr hno
  refine g_sub [(0, .ref (L.2.1 6 0)), (1, .int L1)] [0, 1] rfl ?_
  unfold TX6_requireBars at h
  refine g_iload_n C 1 rfl 1 rfl dX6_requireBars_0 ?_
  refine g_if_ne C 15 (by decide) dX6_requireBars_1 (fun hc => ?_) (fun hc => ?_)
  · replace h := h.1 hc
    exact g_vret C hr (Nat.le_of_ble_eq_true rfl) (Nat.le_of_ble_eq_true rfl) h dX6_requireBars_15
  · replace h := h.2 hc
    exact g_throwNW C hno (text := "the persons are not barred from one another") (is := 333) rfl (by decide) wcl_RX6_128 wini_java_util_NoSuchElementException (List.mem_of_getElem? (i := 19) rfl) wat_RX6_132 dX6_requireBars_4 dX6_requireBars_7 dX6_requireBars_8 dX6_requireBars_11 dX6_requireBars_14 (Nat.le_of_ble_eq_true rfl) (Nat.le_of_ble_eq_true rfl) ⟨(Nat.le_of_ble_eq_true rfl), (Nat.le_of_ble_eq_true rfl)⟩ (Nat.le_of_ble_eq_true rfl) (Nat.le_of_ble_eq_true rfl) h
end
