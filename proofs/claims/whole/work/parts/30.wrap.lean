section
variable {p : Program} {l : Launch} {e : Env} {s : State} {m : MethodId} {args : Array Value} {below : List Frame} {meth : Method} {c : Code} {L : gL} {sz : Nat}
def TL_addSource (L1 : Int32) (v : gMem) (Q : Int32 → gMem → Prop) (X : String → gMem → Prop) : Prop := (TX6_addSource L1 v (fun r4 v4 => (Q 0 (gw v4 50 0 0 r4))) (fun E v4 => (E = "java/lang/IllegalArgumentException" ∧ (Q 1 v4)) ∨ (E = "java/lang/IllegalStateException" ∧ (Q 2 v4))))
theorem kL_addSource (l : Launch) (hfl : l.stackTraces = false) (L : gL) (hL : gDist L) (L1 : Int32) (v : gMem) (Q : Int32 → gMem → Prop) (X : String → gMem → Prop) (h : TL_addSource L1 v Q X) (sz : Nat) : vx_Met l yL_addSource [.codeWith yL_addSource cL_addSource 4 (some .int) [(0, 9, 12, 13), (0, 9, 15, 15)]] ({ frames := 8, cells := 2, slots := 12, locals := 124 } : Room) (gPc L sz [.ref (L.2.1 6 0), .int L1, .ref (L.2.1 50 0)] v) (gQi L sz Q) (gXC L sz X) 2 12 (gA L sz) := by
  refine g_ofWH (by decide +kernel) hfl hL (Nat.le_of_ble_eq_true rfl) ?_
  intro p e s m args below meth c C hr htab
  refine g_sub [(0, .ref (L.2.1 6 0)), (1, .int L1), (2, .ref (L.2.1 50 0))] [0, 1, 2] rfl ?_
  unfold TL_addSource at h
  refine g_aload_n C 2 rfl 2 rfl dL_addSource_0 ?_
  refine g_iconst C 0 (by decide) dL_addSource_1 ?_
  refine g_aload_n C 0 rfl 0 rfl dL_addSource_2 ?_
  refine g_iload_n C 1 rfl 1 rfl dL_addSource_3 ?_
  refine g_gcallVi C gok_6 rfl rfl [.int L1] (fun sz9 => kX6_addSource l C.2.2.2.2.2.2.1 L C.2.2.2.2.2.2.2.1 L1 v _ _ h sz9) wml_RL_7 winst_X6_addSource wsel_X6_addSource wini_RX6 wcode_X6_addSource rfl rfl (n := 1) (by decide +kernel) rfl ⟨(Nat.le_of_ble_eq_true rfl), (Nat.le_of_ble_eq_true rfl)⟩ ⟨(Nat.le_of_ble_eq_true rfl), (Nat.le_of_ble_eq_true rfl)⟩ (Nat.le_of_ble_eq_true rfl) dL_addSource_4 (fun E v4 hx => ?_) (fun r4 v4 h => ?_)
  · rcases hx with ⟨rfl, h⟩ | ⟨rfl, h⟩
    · refine g_catch C (name := "java/lang/IllegalArgumentException") [] { startPc := 0, endPc := 9, handlerPc := 12, catchType := 13 } [{ startPc := 0, endPc := 9, handlerPc := 15, catchType := 15 }] (htab.trans rfl) (fun z hz => by cases hz) (by decide) (by decide) wcl_RL_13 wcast_java_lang_IllegalArgumentException (fun q9 => ?_)
      refine g_astore_n C 3 rfl [(3, .ref q9), (0, .ref (L.2.1 6 0)), (1, .int L1), (2, .ref (L.2.1 50 0))] (Nat.le_of_ble_eq_true rfl) rfl dL_addSource_12 ?_
      refine g_iconst C 1 (by decide) dL_addSource_13 ?_
      exact g_iret C hr rfl (Nat.le_of_ble_eq_true rfl) (Nat.le_of_ble_eq_true rfl) h dL_addSource_14
    · refine g_catch C (name := "java/lang/IllegalStateException") [{ startPc := 0, endPc := 9, handlerPc := 12, catchType := 13 }] { startPc := 0, endPc := 9, handlerPc := 15, catchType := 15 } [] (htab.trans rfl) (List.forall_mem_cons.mpr ⟨⟨by decide, "java/lang/IllegalArgumentException", wcl_RL_13, by decide⟩, (fun z hz => by cases hz)⟩) (by decide) (by decide) wcl_RL_15 wcast_java_lang_IllegalStateException (fun q9 => ?_)
      refine g_astore_n C 3 rfl [(3, .ref q9), (0, .ref (L.2.1 6 0)), (1, .int L1), (2, .ref (L.2.1 50 0))] (Nat.le_of_ble_eq_true rfl) rfl dL_addSource_15 ?_
      refine g_iconst C 2 (by decide) dL_addSource_16 ?_
      exact g_iret C hr rfl (Nat.le_of_ble_eq_true rfl) (Nat.le_of_ble_eq_true rfl) h dL_addSource_17
  · refine g_i2l C dL_addSource_7 ?_
    refine g_lastore C dL_addSource_8 ?_
    refine g_goto C 18 (by decide) dL_addSource_9 ?_
    refine g_iconst C 0 (by decide) dL_addSource_18 ?_
    exact g_iret C hr rfl (Nat.le_of_ble_eq_true rfl) (Nat.le_of_ble_eq_true rfl) h dL_addSource_19
def TL_setRank (L1 : Int32) (L2 : Int32) (v : gMem) (Q : Int32 → gMem → Prop) (X : String → gMem → Prop) : Prop := (TX6_setRank L1 L2 v (fun r5 v5 => (Q 0 (gw v5 50 0 0 r5))) (fun E v5 => (E = "java/lang/IndexOutOfBoundsException" ∧ (Q 1 v5)) ∨ (E = "java/lang/IllegalArgumentException" ∧ (Q 2 v5))))
theorem kL_setRank (l : Launch) (hfl : l.stackTraces = false) (L : gL) (hL : gDist L) (L1 : Int32) (L2 : Int32) (v : gMem) (Q : Int32 → gMem → Prop) (X : String → gMem → Prop) (h : TL_setRank L1 L2 v Q X) (sz : Nat) : vx_Met l yL_setRank [.codeWith yL_setRank cL_setRank 5 (some .int) [(0, 10, 13, 21), (0, 10, 17, 13)]] ({ frames := 8, cells := 2, slots := 12, locals := 126 } : Room) (gPc L sz [.ref (L.2.1 6 0), .int L1, .int L2, .ref (L.2.1 50 0)] v) (gQi L sz Q) (gXC L sz X) 2 12 (gA L sz) := by
  refine g_ofWH (by decide +kernel) hfl hL (Nat.le_of_ble_eq_true rfl) ?_
  intro p e s m args below meth c C hr htab
  refine g_sub [(0, .ref (L.2.1 6 0)), (1, .int L1), (2, .int L2), (3, .ref (L.2.1 50 0))] [0, 1, 2, 3] rfl ?_
  unfold TL_setRank at h
  refine g_aload_n C 3 rfl 3 rfl dL_setRank_0 ?_
  refine g_iconst C 0 (by decide) dL_setRank_1 ?_
  refine g_aload_n C 0 rfl 0 rfl dL_setRank_2 ?_
  refine g_iload_n C 1 rfl 1 rfl dL_setRank_3 ?_
  refine g_iload_n C 2 rfl 2 rfl dL_setRank_4 ?_
  refine g_gcallVi C gok_6 rfl rfl [.int L1, .int L2] (fun sz9 => kX6_setRank l C.2.2.2.2.2.2.1 L C.2.2.2.2.2.2.2.1 L1 L2 v _ _ h sz9) wml_RL_17 winst_X6_setRank wsel_X6_setRank wini_RX6 wcode_X6_setRank rfl rfl (n := 2) (by decide +kernel) rfl ⟨(Nat.le_of_ble_eq_true rfl), (Nat.le_of_ble_eq_true rfl)⟩ ⟨(Nat.le_of_ble_eq_true rfl), (Nat.le_of_ble_eq_true rfl)⟩ (Nat.le_of_ble_eq_true rfl) dL_setRank_5 (fun E v5 hx => ?_) (fun r5 v5 h => ?_)
  · rcases hx with ⟨rfl, h⟩ | ⟨rfl, h⟩
    · refine g_catch C (name := "java/lang/IndexOutOfBoundsException") [] { startPc := 0, endPc := 10, handlerPc := 13, catchType := 21 } [{ startPc := 0, endPc := 10, handlerPc := 17, catchType := 13 }] (htab.trans rfl) (fun z hz => by cases hz) (by decide) (by decide) wcl_RL_21 wcast_java_lang_IndexOutOfBoundsException (fun q9 => ?_)
      refine g_astore C [(4, .ref q9), (0, .ref (L.2.1 6 0)), (1, .int L1), (2, .int L2), (3, .ref (L.2.1 50 0))] (Nat.le_of_ble_eq_true rfl) rfl dL_setRank_13 ?_
      refine g_iconst C 1 (by decide) dL_setRank_15 ?_
      exact g_iret C hr rfl (Nat.le_of_ble_eq_true rfl) (Nat.le_of_ble_eq_true rfl) h dL_setRank_16
    · refine g_catch C (name := "java/lang/IllegalArgumentException") [{ startPc := 0, endPc := 10, handlerPc := 13, catchType := 21 }] { startPc := 0, endPc := 10, handlerPc := 17, catchType := 13 } [] (htab.trans rfl) (List.forall_mem_cons.mpr ⟨⟨by decide, "java/lang/IndexOutOfBoundsException", wcl_RL_21, by decide⟩, (fun z hz => by cases hz)⟩) (by decide) (by decide) wcl_RL_13 wcast_java_lang_IllegalArgumentException (fun q9 => ?_)
      refine g_astore C [(4, .ref q9), (0, .ref (L.2.1 6 0)), (1, .int L1), (2, .int L2), (3, .ref (L.2.1 50 0))] (Nat.le_of_ble_eq_true rfl) rfl dL_setRank_17 ?_
      refine g_iconst C 2 (by decide) dL_setRank_19 ?_
      exact g_iret C hr rfl (Nat.le_of_ble_eq_true rfl) (Nat.le_of_ble_eq_true rfl) h dL_setRank_20
  · refine g_i2l C dL_setRank_8 ?_
    refine g_lastore C dL_setRank_9 ?_
    refine g_goto C 21 (by decide) dL_setRank_10 ?_
    refine g_iconst C 0 (by decide) dL_setRank_21 ?_
    exact g_iret C hr rfl (Nat.le_of_ble_eq_true rfl) (Nat.le_of_ble_eq_true rfl) h dL_setRank_22
def TL_addCard (L1 : Int32) (v : gMem) (Q : Int32 → gMem → Prop) (X : String → gMem → Prop) : Prop := (TX6_addCard L1 v (fun r4 v4 => (Q 0 (gw v4 50 0 0 r4))) (fun E v4 => (E = "java/lang/IndexOutOfBoundsException" ∧ (Q 1 v4)) ∨ (E = "java/lang/IllegalStateException" ∧ (Q 2 v4))))
theorem kL_addCard (l : Launch) (hfl : l.stackTraces = false) (L : gL) (hL : gDist L) (L1 : Int32) (v : gMem) (Q : Int32 → gMem → Prop) (X : String → gMem → Prop) (h : TL_addCard L1 v Q X) (sz : Nat) : vx_Met l yL_addCard [.codeWith yL_addCard cL_addCard 4 (some .int) [(0, 9, 12, 21), (0, 9, 15, 15)]] ({ frames := 8, cells := 2, slots := 12, locals := 124 } : Room) (gPc L sz [.ref (L.2.1 6 0), .int L1, .ref (L.2.1 50 0)] v) (gQi L sz Q) (gXC L sz X) 2 12 (gA L sz) := by
  refine g_ofWH (by decide +kernel) hfl hL (Nat.le_of_ble_eq_true rfl) ?_
  intro p e s m args below meth c C hr htab
  refine g_sub [(0, .ref (L.2.1 6 0)), (1, .int L1), (2, .ref (L.2.1 50 0))] [0, 1, 2] rfl ?_
  unfold TL_addCard at h
  refine g_aload_n C 2 rfl 2 rfl dL_addCard_0 ?_
  refine g_iconst C 0 (by decide) dL_addCard_1 ?_
  refine g_aload_n C 0 rfl 0 rfl dL_addCard_2 ?_
  refine g_iload_n C 1 rfl 1 rfl dL_addCard_3 ?_
  refine g_gcallVi C gok_6 rfl rfl [.int L1] (fun sz9 => kX6_addCard l C.2.2.2.2.2.2.1 L C.2.2.2.2.2.2.2.1 L1 v _ _ h sz9) wml_RL_23 winst_X6_addCard wsel_X6_addCard wini_RX6 wcode_X6_addCard rfl rfl (n := 1) (by decide +kernel) rfl ⟨(Nat.le_of_ble_eq_true rfl), (Nat.le_of_ble_eq_true rfl)⟩ ⟨(Nat.le_of_ble_eq_true rfl), (Nat.le_of_ble_eq_true rfl)⟩ (Nat.le_of_ble_eq_true rfl) dL_addCard_4 (fun E v4 hx => ?_) (fun r4 v4 h => ?_)
  · rcases hx with ⟨rfl, h⟩ | ⟨rfl, h⟩
    · refine g_catch C (name := "java/lang/IndexOutOfBoundsException") [] { startPc := 0, endPc := 9, handlerPc := 12, catchType := 21 } [{ startPc := 0, endPc := 9, handlerPc := 15, catchType := 15 }] (htab.trans rfl) (fun z hz => by cases hz) (by decide) (by decide) wcl_RL_21 wcast_java_lang_IndexOutOfBoundsException (fun q9 => ?_)
      refine g_astore_n C 3 rfl [(3, .ref q9), (0, .ref (L.2.1 6 0)), (1, .int L1), (2, .ref (L.2.1 50 0))] (Nat.le_of_ble_eq_true rfl) rfl dL_addCard_12 ?_
      refine g_iconst C 1 (by decide) dL_addCard_13 ?_
      exact g_iret C hr rfl (Nat.le_of_ble_eq_true rfl) (Nat.le_of_ble_eq_true rfl) h dL_addCard_14
    · refine g_catch C (name := "java/lang/IllegalStateException") [{ startPc := 0, endPc := 9, handlerPc := 12, catchType := 21 }] { startPc := 0, endPc := 9, handlerPc := 15, catchType := 15 } [] (htab.trans rfl) (List.forall_mem_cons.mpr ⟨⟨by decide, "java/lang/IndexOutOfBoundsException", wcl_RL_21, by decide⟩, (fun z hz => by cases hz)⟩) (by decide) (by decide) wcl_RL_15 wcast_java_lang_IllegalStateException (fun q9 => ?_)
      refine g_astore_n C 3 rfl [(3, .ref q9), (0, .ref (L.2.1 6 0)), (1, .int L1), (2, .ref (L.2.1 50 0))] (Nat.le_of_ble_eq_true rfl) rfl dL_addCard_15 ?_
      refine g_iconst C 2 (by decide) dL_addCard_16 ?_
      exact g_iret C hr rfl (Nat.le_of_ble_eq_true rfl) (Nat.le_of_ble_eq_true rfl) h dL_addCard_17
  · refine g_i2l C dL_addCard_7 ?_
    refine g_lastore C dL_addCard_8 ?_
    refine g_goto C 18 (by decide) dL_addCard_9 ?_
    refine g_iconst C 0 (by decide) dL_addCard_18 ?_
    exact g_iret C hr rfl (Nat.le_of_ble_eq_true rfl) (Nat.le_of_ble_eq_true rfl) h dL_addCard_19
def TL_letter (L1 : Int32) (L2 : Int32) (v : gMem) (Q : Int32 → gMem → Prop) (X : String → gMem → Prop) : Prop := (TX6_letter L1 L2 v (fun r5 v5 => (Q 0 (gw v5 50 0 0 r5))) (fun E v5 => (E = "java/lang/IndexOutOfBoundsException" ∧ (Q 1 v5)) ∨ (E = "java/lang/IllegalArgumentException" ∧ (Q 2 v5)) ∨ (E = "java/lang/IllegalStateException" ∧ (Q 3 v5))))
theorem kL_letter (l : Launch) (hfl : l.stackTraces = false) (L : gL) (hL : gDist L) (L1 : Int32) (L2 : Int32) (v : gMem) (Q : Int32 → gMem → Prop) (X : String → gMem → Prop) (h : TL_letter L1 L2 v Q X) (sz : Nat) : vx_Met l yL_letter [.codeWith yL_letter cL_letter 5 (some .int) [(0, 10, 13, 21), (0, 10, 17, 13), (0, 10, 21, 15)]] ({ frames := 8, cells := 3, slots := 18, locals := 126 } : Room) (gPc L sz [.ref (L.2.1 6 0), .int L1, .int L2, .ref (L.2.1 50 0)] v) (gQi L sz Q) (gXC L sz X) 3 18 (gA L sz) := by
  refine g_ofWH (by decide +kernel) hfl hL (Nat.le_of_ble_eq_true rfl) ?_
  intro p e s m args below meth c C hr htab
  refine g_sub [(0, .ref (L.2.1 6 0)), (1, .int L1), (2, .int L2), (3, .ref (L.2.1 50 0))] [0, 1, 2, 3] rfl ?_
  unfold TL_letter at h
  refine g_aload_n C 3 rfl 3 rfl dL_letter_0 ?_
  refine g_iconst C 0 (by decide) dL_letter_1 ?_
  refine g_aload_n C 0 rfl 0 rfl dL_letter_2 ?_
  refine g_iload_n C 1 rfl 1 rfl dL_letter_3 ?_
  refine g_iload_n C 2 rfl 2 rfl dL_letter_4 ?_
  refine g_gcallVi C gok_6 rfl rfl [.int L1, .int L2] (fun sz9 => kX6_letter l C.2.2.2.2.2.2.1 L C.2.2.2.2.2.2.2.1 L1 L2 v _ _ h sz9) wml_RL_26 winst_X6_letter wsel_X6_letter wini_RX6 wcode_X6_letter rfl rfl (n := 2) (by decide +kernel) rfl ⟨(Nat.le_of_ble_eq_true rfl), (Nat.le_of_ble_eq_true rfl)⟩ ⟨(Nat.le_of_ble_eq_true rfl), (Nat.le_of_ble_eq_true rfl)⟩ (Nat.le_of_ble_eq_true rfl) dL_letter_5 (fun E v5 hx => ?_) (fun r5 v5 h => ?_)
  · rcases hx with ⟨rfl, h⟩ | ⟨rfl, h⟩ | ⟨rfl, h⟩
    · refine g_catch C (name := "java/lang/IndexOutOfBoundsException") [] { startPc := 0, endPc := 10, handlerPc := 13, catchType := 21 } [{ startPc := 0, endPc := 10, handlerPc := 17, catchType := 13 }, { startPc := 0, endPc := 10, handlerPc := 21, catchType := 15 }] (htab.trans rfl) (fun z hz => by cases hz) (by decide) (by decide) wcl_RL_21 wcast_java_lang_IndexOutOfBoundsException (fun q9 => ?_)
      refine g_astore C [(4, .ref q9), (0, .ref (L.2.1 6 0)), (1, .int L1), (2, .int L2), (3, .ref (L.2.1 50 0))] (Nat.le_of_ble_eq_true rfl) rfl dL_letter_13 ?_
      refine g_iconst C 1 (by decide) dL_letter_15 ?_
      exact g_iret C hr rfl (Nat.le_of_ble_eq_true rfl) (Nat.le_of_ble_eq_true rfl) h dL_letter_16
    · refine g_catch C (name := "java/lang/IllegalArgumentException") [{ startPc := 0, endPc := 10, handlerPc := 13, catchType := 21 }] { startPc := 0, endPc := 10, handlerPc := 17, catchType := 13 } [{ startPc := 0, endPc := 10, handlerPc := 21, catchType := 15 }] (htab.trans rfl) (List.forall_mem_cons.mpr ⟨⟨by decide, "java/lang/IndexOutOfBoundsException", wcl_RL_21, by decide⟩, (fun z hz => by cases hz)⟩) (by decide) (by decide) wcl_RL_13 wcast_java_lang_IllegalArgumentException (fun q9 => ?_)
      refine g_astore C [(4, .ref q9), (0, .ref (L.2.1 6 0)), (1, .int L1), (2, .int L2), (3, .ref (L.2.1 50 0))] (Nat.le_of_ble_eq_true rfl) rfl dL_letter_17 ?_
      refine g_iconst C 2 (by decide) dL_letter_19 ?_
      exact g_iret C hr rfl (Nat.le_of_ble_eq_true rfl) (Nat.le_of_ble_eq_true rfl) h dL_letter_20
    · refine g_catch C (name := "java/lang/IllegalStateException") [{ startPc := 0, endPc := 10, handlerPc := 13, catchType := 21 }, { startPc := 0, endPc := 10, handlerPc := 17, catchType := 13 }] { startPc := 0, endPc := 10, handlerPc := 21, catchType := 15 } [] (htab.trans rfl) (List.forall_mem_cons.mpr ⟨⟨by decide, "java/lang/IndexOutOfBoundsException", wcl_RL_21, by decide⟩, (List.forall_mem_cons.mpr ⟨⟨by decide, "java/lang/IllegalArgumentException", wcl_RL_13, by decide⟩, (fun z hz => by cases hz)⟩)⟩) (by decide) (by decide) wcl_RL_15 wcast_java_lang_IllegalStateException (fun q9 => ?_)
      refine g_astore C [(4, .ref q9), (0, .ref (L.2.1 6 0)), (1, .int L1), (2, .int L2), (3, .ref (L.2.1 50 0))] (Nat.le_of_ble_eq_true rfl) rfl dL_letter_21 ?_
      refine g_iconst C 3 (by decide) dL_letter_23 ?_
      exact g_iret C hr rfl (Nat.le_of_ble_eq_true rfl) (Nat.le_of_ble_eq_true rfl) h dL_letter_24
  · refine g_i2l C dL_letter_8 ?_
    refine g_lastore C dL_letter_9 ?_
    refine g_goto C 25 (by decide) dL_letter_10 ?_
    refine g_iconst C 0 (by decide) dL_letter_25 ?_
    exact g_iret C hr rfl (Nat.le_of_ble_eq_true rfl) (Nat.le_of_ble_eq_true rfl) h dL_letter_26
def TL_clearName (L1 : Int32) (v : gMem) (Q : Int32 → gMem → Prop) (X : String → gMem → Prop) : Prop := (TX6_clearName L1 v (fun r4 v4 => (Q 0 (gw v4 50 0 0 r4))) (fun E v4 => (E = "java/lang/IndexOutOfBoundsException" ∧ (Q 1 v4))))
theorem kL_clearName (l : Launch) (hfl : l.stackTraces = false) (L : gL) (hL : gDist L) (L1 : Int32) (v : gMem) (Q : Int32 → gMem → Prop) (X : String → gMem → Prop) (h : TL_clearName L1 v Q X) (sz : Nat) : vx_Met l yL_clearName [.codeWith yL_clearName cL_clearName 4 (some .int) [(0, 9, 12, 21)]] ({ frames := 8, cells := 1, slots := 6, locals := 124 } : Room) (gPc L sz [.ref (L.2.1 6 0), .int L1, .ref (L.2.1 50 0)] v) (gQi L sz Q) (gXC L sz X) 1 6 (gA L sz) := by
  refine g_ofWH (by decide +kernel) hfl hL (Nat.le_of_ble_eq_true rfl) ?_
  intro p e s m args below meth c C hr htab
  refine g_sub [(0, .ref (L.2.1 6 0)), (1, .int L1), (2, .ref (L.2.1 50 0))] [0, 1, 2] rfl ?_
  unfold TL_clearName at h
  refine g_aload_n C 2 rfl 2 rfl dL_clearName_0 ?_
  refine g_iconst C 0 (by decide) dL_clearName_1 ?_
  refine g_aload_n C 0 rfl 0 rfl dL_clearName_2 ?_
  refine g_iload_n C 1 rfl 1 rfl dL_clearName_3 ?_
  refine g_gcallVi C gok_6 rfl rfl [.int L1] (fun sz9 => kX6_clearName l C.2.2.2.2.2.2.1 L C.2.2.2.2.2.2.2.1 L1 v _ _ h sz9) wml_RL_30 winst_X6_clearName wsel_X6_clearName wini_RX6 wcode_X6_clearName rfl rfl (n := 1) (by decide +kernel) rfl ⟨(Nat.le_of_ble_eq_true rfl), (Nat.le_of_ble_eq_true rfl)⟩ ⟨(Nat.le_of_ble_eq_true rfl), (Nat.le_of_ble_eq_true rfl)⟩ (Nat.le_of_ble_eq_true rfl) dL_clearName_4 (fun E v4 hx => ?_) (fun r4 v4 h => ?_)
  · obtain ⟨rfl, h⟩ := hx
    refine g_catch C (name := "java/lang/IndexOutOfBoundsException") [] { startPc := 0, endPc := 9, handlerPc := 12, catchType := 21 } [] (htab.trans rfl) (fun z hz => by cases hz) (by decide) (by decide) wcl_RL_21 wcast_java_lang_IndexOutOfBoundsException (fun q9 => ?_)
    refine g_astore_n C 3 rfl [(3, .ref q9), (0, .ref (L.2.1 6 0)), (1, .int L1), (2, .ref (L.2.1 50 0))] (Nat.le_of_ble_eq_true rfl) rfl dL_clearName_12 ?_
    refine g_iconst C 1 (by decide) dL_clearName_13 ?_
    exact g_iret C hr rfl (Nat.le_of_ble_eq_true rfl) (Nat.le_of_ble_eq_true rfl) h dL_clearName_14
  · refine g_i2l C dL_clearName_7 ?_
    refine g_lastore C dL_clearName_8 ?_
    refine g_goto C 15 (by decide) dL_clearName_9 ?_
    refine g_iconst C 0 (by decide) dL_clearName_15 ?_
    exact g_iret C hr rfl (Nat.le_of_ble_eq_true rfl) (Nat.le_of_ble_eq_true rfl) h dL_clearName_16
def TL_setNumber (L1 : Int32) (L2 : Int32) (L3 : Int32) (v : gMem) (Q : Int32 → gMem → Prop) (X : String → gMem → Prop) : Prop := (TX6_setNumber L1 L2 L3 v (fun r7 v7 => (Q 0 (gw v7 50 0 0 r7))) (fun E v7 => (E = "java/lang/IndexOutOfBoundsException" ∧ (Q 1 v7)) ∨ (E = "java/lang/IllegalArgumentException" ∧ (Q 2 v7))))
theorem kL_setNumber (l : Launch) (hfl : l.stackTraces = false) (L : gL) (hL : gDist L) (L1 : Int32) (L2 : Int32) (L3 : Int32) (v : gMem) (Q : Int32 → gMem → Prop) (X : String → gMem → Prop) (h : TL_setNumber L1 L2 L3 v Q X) (sz : Nat) : vx_Met l yL_setNumber [.codeWith yL_setNumber cL_setNumber 6 (some .int) [(0, 12, 15, 21), (0, 12, 19, 13)]] ({ frames := 8, cells := 3, slots := 18, locals := 127 } : Room) (gPc L sz [.ref (L.2.1 6 0), .int L1, .int L2, .int L3, .ref (L.2.1 50 0)] v) (gQi L sz Q) (gXC L sz X) 3 18 (gA L sz) := by
  refine g_ofWH (by decide +kernel) hfl hL (Nat.le_of_ble_eq_true rfl) ?_
  intro p e s m args below meth c C hr htab
  refine g_sub [(0, .ref (L.2.1 6 0)), (1, .int L1), (2, .int L2), (3, .int L3), (4, .ref (L.2.1 50 0))] [0, 1, 2, 3, 4] rfl ?_
  unfold TL_setNumber at h
  refine g_aload C 4 rfl dL_setNumber_0 ?_
  refine g_iconst C 0 (by decide) dL_setNumber_2 ?_
  refine g_aload_n C 0 rfl 0 rfl dL_setNumber_3 ?_
  refine g_iload_n C 1 rfl 1 rfl dL_setNumber_4 ?_
  refine g_iload_n C 2 rfl 2 rfl dL_setNumber_5 ?_
  refine g_iload_n C 3 rfl 3 rfl dL_setNumber_6 ?_
  refine g_gcallVi C gok_6 rfl rfl [.int L1, .int L2, .int L3] (fun sz9 => kX6_setNumber l C.2.2.2.2.2.2.1 L C.2.2.2.2.2.2.2.1 L1 L2 L3 v _ _ h sz9) wml_RL_33 winst_X6_setNumber wsel_X6_setNumber wini_RX6 wcode_X6_setNumber rfl rfl (n := 3) (by decide +kernel) rfl ⟨(Nat.le_of_ble_eq_true rfl), (Nat.le_of_ble_eq_true rfl)⟩ ⟨(Nat.le_of_ble_eq_true rfl), (Nat.le_of_ble_eq_true rfl)⟩ (Nat.le_of_ble_eq_true rfl) dL_setNumber_7 (fun E v7 hx => ?_) (fun r7 v7 h => ?_)
  · rcases hx with ⟨rfl, h⟩ | ⟨rfl, h⟩
    · refine g_catch C (name := "java/lang/IndexOutOfBoundsException") [] { startPc := 0, endPc := 12, handlerPc := 15, catchType := 21 } [{ startPc := 0, endPc := 12, handlerPc := 19, catchType := 13 }] (htab.trans rfl) (fun z hz => by cases hz) (by decide) (by decide) wcl_RL_21 wcast_java_lang_IndexOutOfBoundsException (fun q9 => ?_)
      refine g_astore C [(5, .ref q9), (0, .ref (L.2.1 6 0)), (1, .int L1), (2, .int L2), (3, .int L3), (4, .ref (L.2.1 50 0))] (Nat.le_of_ble_eq_true rfl) rfl dL_setNumber_15 ?_
      refine g_iconst C 1 (by decide) dL_setNumber_17 ?_
      exact g_iret C hr rfl (Nat.le_of_ble_eq_true rfl) (Nat.le_of_ble_eq_true rfl) h dL_setNumber_18
    · refine g_catch C (name := "java/lang/IllegalArgumentException") [{ startPc := 0, endPc := 12, handlerPc := 15, catchType := 21 }] { startPc := 0, endPc := 12, handlerPc := 19, catchType := 13 } [] (htab.trans rfl) (List.forall_mem_cons.mpr ⟨⟨by decide, "java/lang/IndexOutOfBoundsException", wcl_RL_21, by decide⟩, (fun z hz => by cases hz)⟩) (by decide) (by decide) wcl_RL_13 wcast_java_lang_IllegalArgumentException (fun q9 => ?_)
      refine g_astore C [(5, .ref q9), (0, .ref (L.2.1 6 0)), (1, .int L1), (2, .int L2), (3, .int L3), (4, .ref (L.2.1 50 0))] (Nat.le_of_ble_eq_true rfl) rfl dL_setNumber_19 ?_
      refine g_iconst C 2 (by decide) dL_setNumber_21 ?_
      exact g_iret C hr rfl (Nat.le_of_ble_eq_true rfl) (Nat.le_of_ble_eq_true rfl) h dL_setNumber_22
  · refine g_i2l C dL_setNumber_10 ?_
    refine g_lastore C dL_setNumber_11 ?_
    refine g_goto C 23 (by decide) dL_setNumber_12 ?_
    refine g_iconst C 0 (by decide) dL_setNumber_23 ?_
    exact g_iret C hr rfl (Nat.le_of_ble_eq_true rfl) (Nat.le_of_ble_eq_true rfl) h dL_setNumber_24
def TL_nameLength (L1 : Int32) (v : gMem) (Q : Int32 → gMem → Prop) (X : String → gMem → Prop) : Prop := (TX6_nameLength L1 v (fun r4 v4 => (Q 0 (gw v4 50 0 0 r4))) (fun E v4 => (E = "java/lang/IndexOutOfBoundsException" ∧ (Q 1 v4))))
theorem kL_nameLength (l : Launch) (hfl : l.stackTraces = false) (L : gL) (hL : gDist L) (L1 : Int32) (v : gMem) (Q : Int32 → gMem → Prop) (X : String → gMem → Prop) (h : TL_nameLength L1 v Q X) (sz : Nat) : vx_Met l yL_nameLength [.codeWith yL_nameLength cL_nameLength 4 (some .int) [(0, 9, 12, 21)]] ({ frames := 8, cells := 1, slots := 6, locals := 124 } : Room) (gPc L sz [.ref (L.2.1 6 0), .int L1, .ref (L.2.1 50 0)] v) (gQi L sz Q) (gXC L sz X) 1 6 (gA L sz) := by
  refine g_ofWH (by decide +kernel) hfl hL (Nat.le_of_ble_eq_true rfl) ?_
  intro p e s m args below meth c C hr htab
  refine g_sub [(0, .ref (L.2.1 6 0)), (1, .int L1), (2, .ref (L.2.1 50 0))] [0, 1, 2] rfl ?_
  unfold TL_nameLength at h
  refine g_aload_n C 2 rfl 2 rfl dL_nameLength_0 ?_
  refine g_iconst C 0 (by decide) dL_nameLength_1 ?_
  refine g_aload_n C 0 rfl 0 rfl dL_nameLength_2 ?_
  refine g_iload_n C 1 rfl 1 rfl dL_nameLength_3 ?_
  refine g_gcallVi C gok_6 rfl rfl [.int L1] (fun sz9 => kX6_nameLength l C.2.2.2.2.2.2.1 L C.2.2.2.2.2.2.2.1 L1 v _ _ h sz9) wml_RL_37 winst_X6_nameLength wsel_X6_nameLength wini_RX6 wcode_X6_nameLength rfl rfl (n := 1) (by decide +kernel) rfl ⟨(Nat.le_of_ble_eq_true rfl), (Nat.le_of_ble_eq_true rfl)⟩ ⟨(Nat.le_of_ble_eq_true rfl), (Nat.le_of_ble_eq_true rfl)⟩ (Nat.le_of_ble_eq_true rfl) dL_nameLength_4 (fun E v4 hx => ?_) (fun r4 v4 h => ?_)
  · obtain ⟨rfl, h⟩ := hx
    refine g_catch C (name := "java/lang/IndexOutOfBoundsException") [] { startPc := 0, endPc := 9, handlerPc := 12, catchType := 21 } [] (htab.trans rfl) (fun z hz => by cases hz) (by decide) (by decide) wcl_RL_21 wcast_java_lang_IndexOutOfBoundsException (fun q9 => ?_)
    refine g_astore_n C 3 rfl [(3, .ref q9), (0, .ref (L.2.1 6 0)), (1, .int L1), (2, .ref (L.2.1 50 0))] (Nat.le_of_ble_eq_true rfl) rfl dL_nameLength_12 ?_
    refine g_iconst C 1 (by decide) dL_nameLength_13 ?_
    exact g_iret C hr rfl (Nat.le_of_ble_eq_true rfl) (Nat.le_of_ble_eq_true rfl) h dL_nameLength_14
  · refine g_i2l C dL_nameLength_7 ?_
    refine g_lastore C dL_nameLength_8 ?_
    refine g_goto C 15 (by decide) dL_nameLength_9 ?_
    refine g_iconst C 0 (by decide) dL_nameLength_15 ?_
    exact g_iret C hr rfl (Nat.le_of_ble_eq_true rfl) (Nat.le_of_ble_eq_true rfl) h dL_nameLength_16
def TL_nameAt (L1 : Int32) (L2 : Int32) (v : gMem) (Q : Int32 → gMem → Prop) (X : String → gMem → Prop) : Prop := (TX6_nameAt L1 L2 v (fun r5 v5 => (Q 0 (gw v5 50 0 0 r5))) (fun E v5 => (E = "java/lang/IndexOutOfBoundsException" ∧ (Q 1 v5)) ∨ (E = "java/util/NoSuchElementException" ∧ (Q 2 v5))))
theorem kL_nameAt (l : Launch) (hfl : l.stackTraces = false) (L : gL) (hL : gDist L) (L1 : Int32) (L2 : Int32) (v : gMem) (Q : Int32 → gMem → Prop) (X : String → gMem → Prop) (h : TL_nameAt L1 L2 v Q X) (sz : Nat) : vx_Met l yL_nameAt [.codeWith yL_nameAt cL_nameAt 5 (some .int) [(0, 10, 13, 21), (0, 10, 17, 44)]] ({ frames := 8, cells := 2, slots := 12, locals := 126 } : Room) (gPc L sz [.ref (L.2.1 6 0), .int L1, .int L2, .ref (L.2.1 50 0)] v) (gQi L sz Q) (gXC L sz X) 2 12 (gA L sz) := by
  refine g_ofWH (by decide +kernel) hfl hL (Nat.le_of_ble_eq_true rfl) ?_
  intro p e s m args below meth c C hr htab
  refine g_sub [(0, .ref (L.2.1 6 0)), (1, .int L1), (2, .int L2), (3, .ref (L.2.1 50 0))] [0, 1, 2, 3] rfl ?_
  unfold TL_nameAt at h
  refine g_aload_n C 3 rfl 3 rfl dL_nameAt_0 ?_
  refine g_iconst C 0 (by decide) dL_nameAt_1 ?_
  refine g_aload_n C 0 rfl 0 rfl dL_nameAt_2 ?_
  refine g_iload_n C 1 rfl 1 rfl dL_nameAt_3 ?_
  refine g_iload_n C 2 rfl 2 rfl dL_nameAt_4 ?_
  refine g_gcallVi C gok_6 rfl rfl [.int L1, .int L2] (fun sz9 => kX6_nameAt l C.2.2.2.2.2.2.1 L C.2.2.2.2.2.2.2.1 L1 L2 v _ _ h sz9) wml_RL_40 winst_X6_nameAt wsel_X6_nameAt wini_RX6 wcode_X6_nameAt rfl rfl (n := 2) (by decide +kernel) rfl ⟨(Nat.le_of_ble_eq_true rfl), (Nat.le_of_ble_eq_true rfl)⟩ ⟨(Nat.le_of_ble_eq_true rfl), (Nat.le_of_ble_eq_true rfl)⟩ (Nat.le_of_ble_eq_true rfl) dL_nameAt_5 (fun E v5 hx => ?_) (fun r5 v5 h => ?_)
  · rcases hx with ⟨rfl, h⟩ | ⟨rfl, h⟩
    · refine g_catch C (name := "java/lang/IndexOutOfBoundsException") [] { startPc := 0, endPc := 10, handlerPc := 13, catchType := 21 } [{ startPc := 0, endPc := 10, handlerPc := 17, catchType := 44 }] (htab.trans rfl) (fun z hz => by cases hz) (by decide) (by decide) wcl_RL_21 wcast_java_lang_IndexOutOfBoundsException (fun q9 => ?_)
      refine g_astore C [(4, .ref q9), (0, .ref (L.2.1 6 0)), (1, .int L1), (2, .int L2), (3, .ref (L.2.1 50 0))] (Nat.le_of_ble_eq_true rfl) rfl dL_nameAt_13 ?_
      refine g_iconst C 1 (by decide) dL_nameAt_15 ?_
      exact g_iret C hr rfl (Nat.le_of_ble_eq_true rfl) (Nat.le_of_ble_eq_true rfl) h dL_nameAt_16
    · refine g_catch C (name := "java/util/NoSuchElementException") [{ startPc := 0, endPc := 10, handlerPc := 13, catchType := 21 }] { startPc := 0, endPc := 10, handlerPc := 17, catchType := 44 } [] (htab.trans rfl) (List.forall_mem_cons.mpr ⟨⟨by decide, "java/lang/IndexOutOfBoundsException", wcl_RL_21, by decide⟩, (fun z hz => by cases hz)⟩) (by decide) (by decide) wcl_RL_44 wcast_java_util_NoSuchElementException (fun q9 => ?_)
      refine g_astore C [(4, .ref q9), (0, .ref (L.2.1 6 0)), (1, .int L1), (2, .int L2), (3, .ref (L.2.1 50 0))] (Nat.le_of_ble_eq_true rfl) rfl dL_nameAt_17 ?_
      refine g_iconst C 2 (by decide) dL_nameAt_19 ?_
      exact g_iret C hr rfl (Nat.le_of_ble_eq_true rfl) (Nat.le_of_ble_eq_true rfl) h dL_nameAt_20
  · refine g_i2l C dL_nameAt_8 ?_
    refine g_lastore C dL_nameAt_9 ?_
    refine g_goto C 21 (by decide) dL_nameAt_10 ?_
    refine g_iconst C 0 (by decide) dL_nameAt_21 ?_
    exact g_iret C hr rfl (Nat.le_of_ble_eq_true rfl) (Nat.le_of_ble_eq_true rfl) h dL_nameAt_22
def TL_soundAt (L1 : Int32) (L2 : Int32) (v : gMem) (Q : Int32 → gMem → Prop) (X : String → gMem → Prop) : Prop := (TX6_soundAt L1 L2 v (fun r5 v5 => (Q 0 (gw v5 50 0 0 r5))) (fun E v5 => (E = "java/lang/IndexOutOfBoundsException" ∧ (Q 1 v5)) ∨ (E = "java/util/NoSuchElementException" ∧ (Q 2 v5))))
theorem kL_soundAt (l : Launch) (hfl : l.stackTraces = false) (L : gL) (hL : gDist L) (L1 : Int32) (L2 : Int32) (v : gMem) (Q : Int32 → gMem → Prop) (X : String → gMem → Prop) (h : TL_soundAt L1 L2 v Q X) (sz : Nat) : vx_Met l yL_soundAt [.codeWith yL_soundAt cL_soundAt 5 (some .int) [(0, 10, 13, 21), (0, 10, 17, 44)]] ({ frames := 8, cells := 2, slots := 12, locals := 126 } : Room) (gPc L sz [.ref (L.2.1 6 0), .int L1, .int L2, .ref (L.2.1 50 0)] v) (gQi L sz Q) (gXC L sz X) 2 12 (gA L sz) := by
  refine g_ofWH (by decide +kernel) hfl hL (Nat.le_of_ble_eq_true rfl) ?_
  intro p e s m args below meth c C hr htab
  refine g_sub [(0, .ref (L.2.1 6 0)), (1, .int L1), (2, .int L2), (3, .ref (L.2.1 50 0))] [0, 1, 2, 3] rfl ?_
  unfold TL_soundAt at h
  refine g_aload_n C 3 rfl 3 rfl dL_soundAt_0 ?_
  refine g_iconst C 0 (by decide) dL_soundAt_1 ?_
  refine g_aload_n C 0 rfl 0 rfl dL_soundAt_2 ?_
  refine g_iload_n C 1 rfl 1 rfl dL_soundAt_3 ?_
  refine g_iload_n C 2 rfl 2 rfl dL_soundAt_4 ?_
  refine g_gcallVi C gok_6 rfl rfl [.int L1, .int L2] (fun sz9 => kX6_soundAt l C.2.2.2.2.2.2.1 L C.2.2.2.2.2.2.2.1 L1 L2 v _ _ h sz9) wml_RL_46 winst_X6_soundAt wsel_X6_soundAt wini_RX6 wcode_X6_soundAt rfl rfl (n := 2) (by decide +kernel) rfl ⟨(Nat.le_of_ble_eq_true rfl), (Nat.le_of_ble_eq_true rfl)⟩ ⟨(Nat.le_of_ble_eq_true rfl), (Nat.le_of_ble_eq_true rfl)⟩ (Nat.le_of_ble_eq_true rfl) dL_soundAt_5 (fun E v5 hx => ?_) (fun r5 v5 h => ?_)
  · rcases hx with ⟨rfl, h⟩ | ⟨rfl, h⟩
    · refine g_catch C (name := "java/lang/IndexOutOfBoundsException") [] { startPc := 0, endPc := 10, handlerPc := 13, catchType := 21 } [{ startPc := 0, endPc := 10, handlerPc := 17, catchType := 44 }] (htab.trans rfl) (fun z hz => by cases hz) (by decide) (by decide) wcl_RL_21 wcast_java_lang_IndexOutOfBoundsException (fun q9 => ?_)
      refine g_astore C [(4, .ref q9), (0, .ref (L.2.1 6 0)), (1, .int L1), (2, .int L2), (3, .ref (L.2.1 50 0))] (Nat.le_of_ble_eq_true rfl) rfl dL_soundAt_13 ?_
      refine g_iconst C 1 (by decide) dL_soundAt_15 ?_
      exact g_iret C hr rfl (Nat.le_of_ble_eq_true rfl) (Nat.le_of_ble_eq_true rfl) h dL_soundAt_16
    · refine g_catch C (name := "java/util/NoSuchElementException") [{ startPc := 0, endPc := 10, handlerPc := 13, catchType := 21 }] { startPc := 0, endPc := 10, handlerPc := 17, catchType := 44 } [] (htab.trans rfl) (List.forall_mem_cons.mpr ⟨⟨by decide, "java/lang/IndexOutOfBoundsException", wcl_RL_21, by decide⟩, (fun z hz => by cases hz)⟩) (by decide) (by decide) wcl_RL_44 wcast_java_util_NoSuchElementException (fun q9 => ?_)
      refine g_astore C [(4, .ref q9), (0, .ref (L.2.1 6 0)), (1, .int L1), (2, .int L2), (3, .ref (L.2.1 50 0))] (Nat.le_of_ble_eq_true rfl) rfl dL_soundAt_17 ?_
      refine g_iconst C 2 (by decide) dL_soundAt_19 ?_
      exact g_iret C hr rfl (Nat.le_of_ble_eq_true rfl) (Nat.le_of_ble_eq_true rfl) h dL_soundAt_20
  · refine g_i2l C dL_soundAt_8 ?_
    refine g_lastore C dL_soundAt_9 ?_
    refine g_goto C 21 (by decide) dL_soundAt_10 ?_
    refine g_iconst C 0 (by decide) dL_soundAt_21 ?_
    exact g_iret C hr rfl (Nat.le_of_ble_eq_true rfl) (Nat.le_of_ble_eq_true rfl) h dL_soundAt_22
def TL_number (L1 : Int32) (L2 : Int32) (v : gMem) (Q : Int32 → gMem → Prop) (X : String → gMem → Prop) : Prop := (TX6_number L1 L2 v (fun r5 v5 => (Q 0 (gw v5 50 0 0 r5))) (fun E v5 => (E = "java/lang/IndexOutOfBoundsException" ∧ (Q 1 v5)) ∨ (E = "java/lang/IllegalArgumentException" ∧ (Q 2 v5))))
theorem kL_number (l : Launch) (hfl : l.stackTraces = false) (L : gL) (hL : gDist L) (L1 : Int32) (L2 : Int32) (v : gMem) (Q : Int32 → gMem → Prop) (X : String → gMem → Prop) (h : TL_number L1 L2 v Q X) (sz : Nat) : vx_Met l yL_number [.codeWith yL_number cL_number 5 (some .int) [(0, 10, 13, 21), (0, 10, 17, 13)]] ({ frames := 8, cells := 2, slots := 12, locals := 125 } : Room) (gPc L sz [.ref (L.2.1 6 0), .int L1, .int L2, .ref (L.2.1 50 0)] v) (gQi L sz Q) (gXC L sz X) 2 12 (gA L sz) := by
  refine g_ofWH (by decide +kernel) hfl hL (Nat.le_of_ble_eq_true rfl) ?_
  intro p e s m args below meth c C hr htab
  refine g_sub [(0, .ref (L.2.1 6 0)), (1, .int L1), (2, .int L2), (3, .ref (L.2.1 50 0))] [0, 1, 2, 3] rfl ?_
  unfold TL_number at h
  refine g_aload_n C 3 rfl 3 rfl dL_number_0 ?_
  refine g_iconst C 0 (by decide) dL_number_1 ?_
  refine g_aload_n C 0 rfl 0 rfl dL_number_2 ?_
  refine g_iload_n C 1 rfl 1 rfl dL_number_3 ?_
  refine g_iload_n C 2 rfl 2 rfl dL_number_4 ?_
  refine g_gcallVi C gok_6 rfl rfl [.int L1, .int L2] (fun sz9 => kX6_number l C.2.2.2.2.2.2.1 L C.2.2.2.2.2.2.2.1 L1 L2 v _ _ h sz9) wml_RL_49 winst_X6_number wsel_X6_number wini_RX6 wcode_X6_number rfl rfl (n := 2) (by decide +kernel) rfl ⟨(Nat.le_of_ble_eq_true rfl), (Nat.le_of_ble_eq_true rfl)⟩ ⟨(Nat.le_of_ble_eq_true rfl), (Nat.le_of_ble_eq_true rfl)⟩ (Nat.le_of_ble_eq_true rfl) dL_number_5 (fun E v5 hx => ?_) (fun r5 v5 h => ?_)
  · rcases hx with ⟨rfl, h⟩ | ⟨rfl, h⟩
    · refine g_catch C (name := "java/lang/IndexOutOfBoundsException") [] { startPc := 0, endPc := 10, handlerPc := 13, catchType := 21 } [{ startPc := 0, endPc := 10, handlerPc := 17, catchType := 13 }] (htab.trans rfl) (fun z hz => by cases hz) (by decide) (by decide) wcl_RL_21 wcast_java_lang_IndexOutOfBoundsException (fun q9 => ?_)
      refine g_astore C [(4, .ref q9), (0, .ref (L.2.1 6 0)), (1, .int L1), (2, .int L2), (3, .ref (L.2.1 50 0))] (Nat.le_of_ble_eq_true rfl) rfl dL_number_13 ?_
      refine g_iconst C 1 (by decide) dL_number_15 ?_
      exact g_iret C hr rfl (Nat.le_of_ble_eq_true rfl) (Nat.le_of_ble_eq_true rfl) h dL_number_16
    · refine g_catch C (name := "java/lang/IllegalArgumentException") [{ startPc := 0, endPc := 10, handlerPc := 13, catchType := 21 }] { startPc := 0, endPc := 10, handlerPc := 17, catchType := 13 } [] (htab.trans rfl) (List.forall_mem_cons.mpr ⟨⟨by decide, "java/lang/IndexOutOfBoundsException", wcl_RL_21, by decide⟩, (fun z hz => by cases hz)⟩) (by decide) (by decide) wcl_RL_13 wcast_java_lang_IllegalArgumentException (fun q9 => ?_)
      refine g_astore C [(4, .ref q9), (0, .ref (L.2.1 6 0)), (1, .int L1), (2, .int L2), (3, .ref (L.2.1 50 0))] (Nat.le_of_ble_eq_true rfl) rfl dL_number_17 ?_
      refine g_iconst C 2 (by decide) dL_number_19 ?_
      exact g_iret C hr rfl (Nat.le_of_ble_eq_true rfl) (Nat.le_of_ble_eq_true rfl) h dL_number_20
  · refine g_i2l C dL_number_8 ?_
    refine g_lastore C dL_number_9 ?_
    refine g_goto C 21 (by decide) dL_number_10 ?_
    refine g_iconst C 0 (by decide) dL_number_21 ?_
    exact g_iret C hr rfl (Nat.le_of_ble_eq_true rfl) (Nat.le_of_ble_eq_true rfl) h dL_number_22
def TL_setWeights (L1 : Int32) (L2 : Int32) (L3 : Int32) (v : gMem) (Q : Int32 → gMem → Prop) (X : String → gMem → Prop) : Prop := (TX6_setWeights L1 L2 L3 v (fun r7 v7 => (Q 0 (gw v7 50 0 0 r7))) (fun E v7 => (E = "java/lang/IllegalArgumentException" ∧ (Q 1 v7))))
theorem kL_setWeights (l : Launch) (hfl : l.stackTraces = false) (L : gL) (hL : gDist L) (L1 : Int32) (L2 : Int32) (L3 : Int32) (v : gMem) (Q : Int32 → gMem → Prop) (X : String → gMem → Prop) (h : TL_setWeights L1 L2 L3 v Q X) (sz : Nat) : vx_Met l yL_setWeights [.codeWith yL_setWeights cL_setWeights 6 (some .int) [(0, 12, 15, 13)]] ({ frames := 8, cells := 3, slots := 18, locals := 127 } : Room) (gPc L sz [.ref (L.2.1 6 0), .int L1, .int L2, .int L3, .ref (L.2.1 50 0)] v) (gQi L sz Q) (gXC L sz X) 3 18 (gA L sz) := by
  refine g_ofWH (by decide +kernel) hfl hL (Nat.le_of_ble_eq_true rfl) ?_
  intro p e s m args below meth c C hr htab
  refine g_sub [(0, .ref (L.2.1 6 0)), (1, .int L1), (2, .int L2), (3, .int L3), (4, .ref (L.2.1 50 0))] [0, 1, 2, 3, 4] rfl ?_
  unfold TL_setWeights at h
  refine g_aload C 4 rfl dL_setWeights_0 ?_
  refine g_iconst C 0 (by decide) dL_setWeights_2 ?_
  refine g_aload_n C 0 rfl 0 rfl dL_setWeights_3 ?_
  refine g_iload_n C 1 rfl 1 rfl dL_setWeights_4 ?_
  refine g_iload_n C 2 rfl 2 rfl dL_setWeights_5 ?_
  refine g_iload_n C 3 rfl 3 rfl dL_setWeights_6 ?_
  refine g_gcallVi C gok_6 rfl rfl [.int L1, .int L2, .int L3] (fun sz9 => kX6_setWeights l C.2.2.2.2.2.2.1 L C.2.2.2.2.2.2.2.1 L1 L2 L3 v _ _ h sz9) wml_RL_52 winst_X6_setWeights wsel_X6_setWeights wini_RX6 wcode_X6_setWeights rfl rfl (n := 3) (by decide +kernel) rfl ⟨(Nat.le_of_ble_eq_true rfl), (Nat.le_of_ble_eq_true rfl)⟩ ⟨(Nat.le_of_ble_eq_true rfl), (Nat.le_of_ble_eq_true rfl)⟩ (Nat.le_of_ble_eq_true rfl) dL_setWeights_7 (fun E v7 hx => ?_) (fun r7 v7 h => ?_)
  · obtain ⟨rfl, h⟩ := hx
    refine g_catch C (name := "java/lang/IllegalArgumentException") [] { startPc := 0, endPc := 12, handlerPc := 15, catchType := 13 } [] (htab.trans rfl) (fun z hz => by cases hz) (by decide) (by decide) wcl_RL_13 wcast_java_lang_IllegalArgumentException (fun q9 => ?_)
    refine g_astore C [(5, .ref q9), (0, .ref (L.2.1 6 0)), (1, .int L1), (2, .int L2), (3, .int L3), (4, .ref (L.2.1 50 0))] (Nat.le_of_ble_eq_true rfl) rfl dL_setWeights_15 ?_
    refine g_iconst C 1 (by decide) dL_setWeights_17 ?_
    exact g_iret C hr rfl (Nat.le_of_ble_eq_true rfl) (Nat.le_of_ble_eq_true rfl) h dL_setWeights_18
  · refine g_i2l C dL_setWeights_10 ?_
    refine g_lastore C dL_setWeights_11 ?_
    refine g_goto C 19 (by decide) dL_setWeights_12 ?_
    refine g_iconst C 0 (by decide) dL_setWeights_19 ?_
    exact g_iret C hr rfl (Nat.le_of_ble_eq_true rfl) (Nat.le_of_ble_eq_true rfl) h dL_setWeights_20
def TL_setThreshold (L1 : Int32) (v : gMem) (Q : Int32 → gMem → Prop) (X : String → gMem → Prop) : Prop := (TX6_setThreshold L1 v (fun r4 v4 => (Q 0 (gw v4 50 0 0 r4))) (fun E v4 => (E = "java/lang/IllegalArgumentException" ∧ (Q 1 v4))))
theorem kL_setThreshold (l : Launch) (hfl : l.stackTraces = false) (L : gL) (hL : gDist L) (L1 : Int32) (v : gMem) (Q : Int32 → gMem → Prop) (X : String → gMem → Prop) (h : TL_setThreshold L1 v Q X) (sz : Nat) : vx_Met l yL_setThreshold [.codeWith yL_setThreshold cL_setThreshold 4 (some .int) [(0, 9, 12, 13)]] ({ frames := 7, cells := 1, slots := 6, locals := 104 } : Room) (gPc L sz [.ref (L.2.1 6 0), .int L1, .ref (L.2.1 50 0)] v) (gQi L sz Q) (gXC L sz X) 1 6 (gA L sz) := by
  refine g_ofWH (by decide +kernel) hfl hL (Nat.le_of_ble_eq_true rfl) ?_
  intro p e s m args below meth c C hr htab
  refine g_sub [(0, .ref (L.2.1 6 0)), (1, .int L1), (2, .ref (L.2.1 50 0))] [0, 1, 2] rfl ?_
  unfold TL_setThreshold at h
  refine g_aload_n C 2 rfl 2 rfl dL_setThreshold_0 ?_
  refine g_iconst C 0 (by decide) dL_setThreshold_1 ?_
  refine g_aload_n C 0 rfl 0 rfl dL_setThreshold_2 ?_
  refine g_iload_n C 1 rfl 1 rfl dL_setThreshold_3 ?_
  refine g_gcallVi C gok_6 rfl rfl [.int L1] (fun sz9 => kX6_setThreshold l C.2.2.2.2.2.2.1 L C.2.2.2.2.2.2.2.1 L1 v _ _ h sz9) wml_RL_55 winst_X6_setThreshold wsel_X6_setThreshold wini_RX6 wcode_X6_setThreshold rfl rfl (n := 1) (by decide +kernel) rfl ⟨(Nat.le_of_ble_eq_true rfl), (Nat.le_of_ble_eq_true rfl)⟩ ⟨(Nat.le_of_ble_eq_true rfl), (Nat.le_of_ble_eq_true rfl)⟩ (Nat.le_of_ble_eq_true rfl) dL_setThreshold_4 (fun E v4 hx => ?_) (fun r4 v4 h => ?_)
  · obtain ⟨rfl, h⟩ := hx
    refine g_catch C (name := "java/lang/IllegalArgumentException") [] { startPc := 0, endPc := 9, handlerPc := 12, catchType := 13 } [] (htab.trans rfl) (fun z hz => by cases hz) (by decide) (by decide) wcl_RL_13 wcast_java_lang_IllegalArgumentException (fun q9 => ?_)
    refine g_astore_n C 3 rfl [(3, .ref q9), (0, .ref (L.2.1 6 0)), (1, .int L1), (2, .ref (L.2.1 50 0))] (Nat.le_of_ble_eq_true rfl) rfl dL_setThreshold_12 ?_
    refine g_iconst C 1 (by decide) dL_setThreshold_13 ?_
    exact g_iret C hr rfl (Nat.le_of_ble_eq_true rfl) (Nat.le_of_ble_eq_true rfl) h dL_setThreshold_14
  · refine g_i2l C dL_setThreshold_7 ?_
    refine g_lastore C dL_setThreshold_8 ?_
    refine g_goto C 15 (by decide) dL_setThreshold_9 ?_
    refine g_iconst C 0 (by decide) dL_setThreshold_15 ?_
    exact g_iret C hr rfl (Nat.le_of_ble_eq_true rfl) (Nat.le_of_ble_eq_true rfl) h dL_setThreshold_16
def TL_score (L1 : Int32) (L2 : Int32) (v : gMem) (Q : Int32 → gMem → Prop) (X : String → gMem → Prop) : Prop := (TX6_score L1 L2 v (fun r5 v5 => (Q 0 (gw v5 50 0 0 r5))) (fun E v5 => (E = "java/lang/IndexOutOfBoundsException" ∧ (Q 1 v5)) ∨ (E = "java/lang/IllegalArgumentException" ∧ (Q 2 v5))))
theorem kL_score (l : Launch) (hfl : l.stackTraces = false) (L : gL) (hL : gDist L) (L1 : Int32) (L2 : Int32) (v : gMem) (Q : Int32 → gMem → Prop) (X : String → gMem → Prop) (h : TL_score L1 L2 v Q X) (sz : Nat) : vx_Met l yL_score [.codeWith yL_score cL_score 5 (some .int) [(0, 10, 13, 21), (0, 10, 17, 13)]] ({ frames := 9, cells := 3, slots := 18, locals := 147 } : Room) (gPc L sz [.ref (L.2.1 6 0), .int L1, .int L2, .ref (L.2.1 50 0)] v) (gQi L sz Q) (gXC L sz X) 3 18 (gA L sz) := by
  refine g_ofWH (by decide +kernel) hfl hL (Nat.le_of_ble_eq_true rfl) ?_
  intro p e s m args below meth c C hr htab
  refine g_sub [(0, .ref (L.2.1 6 0)), (1, .int L1), (2, .int L2), (3, .ref (L.2.1 50 0))] [0, 1, 2, 3] rfl ?_
  unfold TL_score at h
  refine g_aload_n C 3 rfl 3 rfl dL_score_0 ?_
  refine g_iconst C 0 (by decide) dL_score_1 ?_
  refine g_aload_n C 0 rfl 0 rfl dL_score_2 ?_
  refine g_iload_n C 1 rfl 1 rfl dL_score_3 ?_
  refine g_iload_n C 2 rfl 2 rfl dL_score_4 ?_
  refine g_gcallVi C gok_6 rfl rfl [.int L1, .int L2] (fun sz9 => kX6_score l C.2.2.2.2.2.2.1 L C.2.2.2.2.2.2.2.1 L1 L2 v _ _ h sz9) wml_RL_58 winst_X6_score wsel_X6_score wini_RX6 wcode_X6_score rfl rfl (n := 2) (by decide +kernel) rfl ⟨(Nat.le_of_ble_eq_true rfl), (Nat.le_of_ble_eq_true rfl)⟩ ⟨(Nat.le_of_ble_eq_true rfl), (Nat.le_of_ble_eq_true rfl)⟩ (Nat.le_of_ble_eq_true rfl) dL_score_5 (fun E v5 hx => ?_) (fun r5 v5 h => ?_)
  · rcases hx with ⟨rfl, h⟩ | ⟨rfl, h⟩
    · refine g_catch C (name := "java/lang/IndexOutOfBoundsException") [] { startPc := 0, endPc := 10, handlerPc := 13, catchType := 21 } [{ startPc := 0, endPc := 10, handlerPc := 17, catchType := 13 }] (htab.trans rfl) (fun z hz => by cases hz) (by decide) (by decide) wcl_RL_21 wcast_java_lang_IndexOutOfBoundsException (fun q9 => ?_)
      refine g_astore C [(4, .ref q9), (0, .ref (L.2.1 6 0)), (1, .int L1), (2, .int L2), (3, .ref (L.2.1 50 0))] (Nat.le_of_ble_eq_true rfl) rfl dL_score_13 ?_
      refine g_iconst C 1 (by decide) dL_score_15 ?_
      exact g_iret C hr rfl (Nat.le_of_ble_eq_true rfl) (Nat.le_of_ble_eq_true rfl) h dL_score_16
    · refine g_catch C (name := "java/lang/IllegalArgumentException") [{ startPc := 0, endPc := 10, handlerPc := 13, catchType := 21 }] { startPc := 0, endPc := 10, handlerPc := 17, catchType := 13 } [] (htab.trans rfl) (List.forall_mem_cons.mpr ⟨⟨by decide, "java/lang/IndexOutOfBoundsException", wcl_RL_21, by decide⟩, (fun z hz => by cases hz)⟩) (by decide) (by decide) wcl_RL_13 wcast_java_lang_IllegalArgumentException (fun q9 => ?_)
      refine g_astore C [(4, .ref q9), (0, .ref (L.2.1 6 0)), (1, .int L1), (2, .int L2), (3, .ref (L.2.1 50 0))] (Nat.le_of_ble_eq_true rfl) rfl dL_score_17 ?_
      refine g_iconst C 2 (by decide) dL_score_19 ?_
      exact g_iret C hr rfl (Nat.le_of_ble_eq_true rfl) (Nat.le_of_ble_eq_true rfl) h dL_score_20
  · refine g_i2l C dL_score_8 ?_
    refine g_lastore C dL_score_9 ?_
    refine g_goto C 21 (by decide) dL_score_10 ?_
    refine g_iconst C 0 (by decide) dL_score_21 ?_
    exact g_iret C hr rfl (Nat.le_of_ble_eq_true rfl) (Nat.le_of_ble_eq_true rfl) h dL_score_22
def TL_bestScore (v : gMem) (Q : Int32 → gMem → Prop) (X : String → gMem → Prop) : Prop := (TX6_bestScore v (fun r3 v3 => (Q 0 (gw v3 50 0 0 r3))) (fun E v3 => (E = "java/util/NoSuchElementException" ∧ (Q 1 v3))))
theorem kL_bestScore (l : Launch) (hfl : l.stackTraces = false) (L : gL) (hL : gDist L) (v : gMem) (Q : Int32 → gMem → Prop) (X : String → gMem → Prop) (h : TL_bestScore v Q X) (sz : Nat) : vx_Met l yL_bestScore [.codeWith yL_bestScore cL_bestScore 3 (some .int) [(0, 8, 11, 44)]] ({ frames := 8, cells := 1, slots := 6, locals := 157 } : Room) (gPc L sz [.ref (L.2.1 6 0), .ref (L.2.1 50 0)] v) (gQi L sz Q) (gXC L sz X) 1 6 (gA L sz) := by
  refine g_ofWH (by decide +kernel) hfl hL (Nat.le_of_ble_eq_true rfl) ?_
  intro p e s m args below meth c C hr htab
  refine g_sub [(0, .ref (L.2.1 6 0)), (1, .ref (L.2.1 50 0))] [0, 1] rfl ?_
  unfold TL_bestScore at h
  refine g_aload_n C 1 rfl 1 rfl dL_bestScore_0 ?_
  refine g_iconst C 0 (by decide) dL_bestScore_1 ?_
  refine g_aload_n C 0 rfl 0 rfl dL_bestScore_2 ?_
  refine g_gcallVi C gok_6 rfl rfl [] (fun sz9 => kX6_bestScore l C.2.2.2.2.2.2.1 L C.2.2.2.2.2.2.2.1 v _ _ h sz9) wml_RL_61 winst_X6_bestScore wsel_X6_bestScore wini_RX6 wcode_X6_bestScore rfl rfl (n := 0) (by decide +kernel) rfl ⟨(Nat.le_of_ble_eq_true rfl), (Nat.le_of_ble_eq_true rfl)⟩ ⟨(Nat.le_of_ble_eq_true rfl), (Nat.le_of_ble_eq_true rfl)⟩ (Nat.le_of_ble_eq_true rfl) dL_bestScore_3 (fun E v3 hx => ?_) (fun r3 v3 h => ?_)
  · obtain ⟨rfl, h⟩ := hx
    refine g_catch C (name := "java/util/NoSuchElementException") [] { startPc := 0, endPc := 8, handlerPc := 11, catchType := 44 } [] (htab.trans rfl) (fun z hz => by cases hz) (by decide) (by decide) wcl_RL_44 wcast_java_util_NoSuchElementException (fun q9 => ?_)
    refine g_astore_n C 2 rfl [(2, .ref q9), (0, .ref (L.2.1 6 0)), (1, .ref (L.2.1 50 0))] (Nat.le_of_ble_eq_true rfl) rfl dL_bestScore_11 ?_
    refine g_iconst C 1 (by decide) dL_bestScore_12 ?_
    exact g_iret C hr rfl (Nat.le_of_ble_eq_true rfl) (Nat.le_of_ble_eq_true rfl) h dL_bestScore_13
  · refine g_i2l C dL_bestScore_6 ?_
    refine g_lastore C dL_bestScore_7 ?_
    refine g_goto C 14 (by decide) dL_bestScore_8 ?_
    refine g_iconst C 0 (by decide) dL_bestScore_14 ?_
    exact g_iret C hr rfl (Nat.le_of_ble_eq_true rfl) (Nat.le_of_ble_eq_true rfl) h dL_bestScore_15
def TL_bestScoreByPairs (v : gMem) (Q : Int32 → gMem → Prop) (X : String → gMem → Prop) : Prop := (TX6_bestScoreByPairs v (fun r3 v3 => (Q 0 (gw v3 50 0 0 r3))) (fun E v3 => (E = "java/util/NoSuchElementException" ∧ (Q 1 v3))))
theorem kL_bestScoreByPairs (l : Launch) (hfl : l.stackTraces = false) (L : gL) (hL : gDist L) (v : gMem) (Q : Int32 → gMem → Prop) (X : String → gMem → Prop) (h : TL_bestScoreByPairs v Q X) (sz : Nat) : vx_Met l yL_bestScoreByPairs [.codeWith yL_bestScoreByPairs cL_bestScoreByPairs 3 (some .int) [(0, 8, 11, 44)]] ({ frames := 8, cells := 1, slots := 6, locals := 157 } : Room) (gPc L sz [.ref (L.2.1 6 0), .ref (L.2.1 50 0)] v) (gQi L sz Q) (gXC L sz X) 1 6 (gA L sz) := by
  refine g_ofWH (by decide +kernel) hfl hL (Nat.le_of_ble_eq_true rfl) ?_
  intro p e s m args below meth c C hr htab
  refine g_sub [(0, .ref (L.2.1 6 0)), (1, .ref (L.2.1 50 0))] [0, 1] rfl ?_
  unfold TL_bestScoreByPairs at h
  refine g_aload_n C 1 rfl 1 rfl dL_bestScoreByPairs_0 ?_
  refine g_iconst C 0 (by decide) dL_bestScoreByPairs_1 ?_
  refine g_aload_n C 0 rfl 0 rfl dL_bestScoreByPairs_2 ?_
  refine g_gcallVi C gok_6 rfl rfl [] (fun sz9 => kX6_bestScoreByPairs l C.2.2.2.2.2.2.1 L C.2.2.2.2.2.2.2.1 v _ _ h sz9) wml_RL_65 winst_X6_bestScoreByPairs wsel_X6_bestScoreByPairs wini_RX6 wcode_X6_bestScoreByPairs rfl rfl (n := 0) (by decide +kernel) rfl ⟨(Nat.le_of_ble_eq_true rfl), (Nat.le_of_ble_eq_true rfl)⟩ ⟨(Nat.le_of_ble_eq_true rfl), (Nat.le_of_ble_eq_true rfl)⟩ (Nat.le_of_ble_eq_true rfl) dL_bestScoreByPairs_3 (fun E v3 hx => ?_) (fun r3 v3 h => ?_)
  · obtain ⟨rfl, h⟩ := hx
    refine g_catch C (name := "java/util/NoSuchElementException") [] { startPc := 0, endPc := 8, handlerPc := 11, catchType := 44 } [] (htab.trans rfl) (fun z hz => by cases hz) (by decide) (by decide) wcl_RL_44 wcast_java_util_NoSuchElementException (fun q9 => ?_)
    refine g_astore_n C 2 rfl [(2, .ref q9), (0, .ref (L.2.1 6 0)), (1, .ref (L.2.1 50 0))] (Nat.le_of_ble_eq_true rfl) rfl dL_bestScoreByPairs_11 ?_
    refine g_iconst C 1 (by decide) dL_bestScoreByPairs_12 ?_
    exact g_iret C hr rfl (Nat.le_of_ble_eq_true rfl) (Nat.le_of_ble_eq_true rfl) h dL_bestScoreByPairs_13
  · refine g_i2l C dL_bestScoreByPairs_6 ?_
    refine g_lastore C dL_bestScoreByPairs_7 ?_
    refine g_goto C 14 (by decide) dL_bestScoreByPairs_8 ?_
    refine g_iconst C 0 (by decide) dL_bestScoreByPairs_14 ?_
    exact g_iret C hr rfl (Nat.le_of_ble_eq_true rfl) (Nat.le_of_ble_eq_true rfl) h dL_bestScoreByPairs_15
def TL_bestOne (v : gMem) (Q : Int32 → gMem → Prop) (X : String → gMem → Prop) : Prop := (TX6_bestOne v (fun r3 v3 => (Q 0 (gw v3 50 0 0 r3))) (fun E v3 => (E = "java/util/NoSuchElementException" ∧ (Q 1 v3))))
theorem kL_bestOne (l : Launch) (hfl : l.stackTraces = false) (L : gL) (hL : gDist L) (v : gMem) (Q : Int32 → gMem → Prop) (X : String → gMem → Prop) (h : TL_bestOne v Q X) (sz : Nat) : vx_Met l yL_bestOne [.codeWith yL_bestOne cL_bestOne 3 (some .int) [(0, 8, 11, 44)]] ({ frames := 8, cells := 1, slots := 6, locals := 157 } : Room) (gPc L sz [.ref (L.2.1 6 0), .ref (L.2.1 50 0)] v) (gQi L sz Q) (gXC L sz X) 1 6 (gA L sz) := by
  refine g_ofWH (by decide +kernel) hfl hL (Nat.le_of_ble_eq_true rfl) ?_
  intro p e s m args below meth c C hr htab
  refine g_sub [(0, .ref (L.2.1 6 0)), (1, .ref (L.2.1 50 0))] [0, 1] rfl ?_
  unfold TL_bestOne at h
  refine g_aload_n C 1 rfl 1 rfl dL_bestOne_0 ?_
  refine g_iconst C 0 (by decide) dL_bestOne_1 ?_
  refine g_aload_n C 0 rfl 0 rfl dL_bestOne_2 ?_
  refine g_gcallVi C gok_6 rfl rfl [] (fun sz9 => kX6_bestOne l C.2.2.2.2.2.2.1 L C.2.2.2.2.2.2.2.1 v _ _ h sz9) wml_RL_68 winst_X6_bestOne wsel_X6_bestOne wini_RX6 wcode_X6_bestOne rfl rfl (n := 0) (by decide +kernel) rfl ⟨(Nat.le_of_ble_eq_true rfl), (Nat.le_of_ble_eq_true rfl)⟩ ⟨(Nat.le_of_ble_eq_true rfl), (Nat.le_of_ble_eq_true rfl)⟩ (Nat.le_of_ble_eq_true rfl) dL_bestOne_3 (fun E v3 hx => ?_) (fun r3 v3 h => ?_)
  · obtain ⟨rfl, h⟩ := hx
    refine g_catch C (name := "java/util/NoSuchElementException") [] { startPc := 0, endPc := 8, handlerPc := 11, catchType := 44 } [] (htab.trans rfl) (fun z hz => by cases hz) (by decide) (by decide) wcl_RL_44 wcast_java_util_NoSuchElementException (fun q9 => ?_)
    refine g_astore_n C 2 rfl [(2, .ref q9), (0, .ref (L.2.1 6 0)), (1, .ref (L.2.1 50 0))] (Nat.le_of_ble_eq_true rfl) rfl dL_bestOne_11 ?_
    refine g_iconst C 1 (by decide) dL_bestOne_12 ?_
    exact g_iret C hr rfl (Nat.le_of_ble_eq_true rfl) (Nat.le_of_ble_eq_true rfl) h dL_bestOne_13
  · refine g_i2l C dL_bestOne_6 ?_
    refine g_lastore C dL_bestOne_7 ?_
    refine g_goto C 14 (by decide) dL_bestOne_8 ?_
    refine g_iconst C 0 (by decide) dL_bestOne_14 ?_
    exact g_iret C hr rfl (Nat.le_of_ble_eq_true rfl) (Nat.le_of_ble_eq_true rfl) h dL_bestOne_15
def TL_bestOther (v : gMem) (Q : Int32 → gMem → Prop) (X : String → gMem → Prop) : Prop := (TX6_bestOther v (fun r3 v3 => (Q 0 (gw v3 50 0 0 r3))) (fun E v3 => (E = "java/util/NoSuchElementException" ∧ (Q 1 v3))))
theorem kL_bestOther (l : Launch) (hfl : l.stackTraces = false) (L : gL) (hL : gDist L) (v : gMem) (Q : Int32 → gMem → Prop) (X : String → gMem → Prop) (h : TL_bestOther v Q X) (sz : Nat) : vx_Met l yL_bestOther [.codeWith yL_bestOther cL_bestOther 3 (some .int) [(0, 8, 11, 44)]] ({ frames := 8, cells := 1, slots := 6, locals := 157 } : Room) (gPc L sz [.ref (L.2.1 6 0), .ref (L.2.1 50 0)] v) (gQi L sz Q) (gXC L sz X) 1 6 (gA L sz) := by
  refine g_ofWH (by decide +kernel) hfl hL (Nat.le_of_ble_eq_true rfl) ?_
  intro p e s m args below meth c C hr htab
  refine g_sub [(0, .ref (L.2.1 6 0)), (1, .ref (L.2.1 50 0))] [0, 1] rfl ?_
  unfold TL_bestOther at h
  refine g_aload_n C 1 rfl 1 rfl dL_bestOther_0 ?_
  refine g_iconst C 0 (by decide) dL_bestOther_1 ?_
  refine g_aload_n C 0 rfl 0 rfl dL_bestOther_2 ?_
  refine g_gcallVi C gok_6 rfl rfl [] (fun sz9 => kX6_bestOther l C.2.2.2.2.2.2.1 L C.2.2.2.2.2.2.2.1 v _ _ h sz9) wml_RL_71 winst_X6_bestOther wsel_X6_bestOther wini_RX6 wcode_X6_bestOther rfl rfl (n := 0) (by decide +kernel) rfl ⟨(Nat.le_of_ble_eq_true rfl), (Nat.le_of_ble_eq_true rfl)⟩ ⟨(Nat.le_of_ble_eq_true rfl), (Nat.le_of_ble_eq_true rfl)⟩ (Nat.le_of_ble_eq_true rfl) dL_bestOther_3 (fun E v3 hx => ?_) (fun r3 v3 h => ?_)
  · obtain ⟨rfl, h⟩ := hx
    refine g_catch C (name := "java/util/NoSuchElementException") [] { startPc := 0, endPc := 8, handlerPc := 11, catchType := 44 } [] (htab.trans rfl) (fun z hz => by cases hz) (by decide) (by decide) wcl_RL_44 wcast_java_util_NoSuchElementException (fun q9 => ?_)
    refine g_astore_n C 2 rfl [(2, .ref q9), (0, .ref (L.2.1 6 0)), (1, .ref (L.2.1 50 0))] (Nat.le_of_ble_eq_true rfl) rfl dL_bestOther_11 ?_
    refine g_iconst C 1 (by decide) dL_bestOther_12 ?_
    exact g_iret C hr rfl (Nat.le_of_ble_eq_true rfl) (Nat.le_of_ble_eq_true rfl) h dL_bestOther_13
  · refine g_i2l C dL_bestOther_6 ?_
    refine g_lastore C dL_bestOther_7 ?_
    refine g_goto C 14 (by decide) dL_bestOther_8 ?_
    refine g_iconst C 0 (by decide) dL_bestOther_14 ?_
    exact g_iret C hr rfl (Nat.le_of_ble_eq_true rfl) (Nat.le_of_ble_eq_true rfl) h dL_bestOther_15
def TL_forbid (L1 : Int32) (L2 : Int32) (v : gMem) (Q : Int32 → gMem → Prop) (X : String → gMem → Prop) : Prop := (TX6_forbid L1 L2 v (fun r5 v5 => (Q 0 (gw v5 50 0 0 r5))) (fun E v5 => (E = "java/lang/IndexOutOfBoundsException" ∧ (Q 1 v5)) ∨ (E = "java/lang/IllegalArgumentException" ∧ (Q 2 v5)) ∨ (E = "java/lang/UnsupportedOperationException" ∧ (Q 3 v5)) ∨ (E = "java/lang/IllegalStateException" ∧ (Q 4 v5))))
theorem kL_forbid (l : Launch) (hfl : l.stackTraces = false) (L : gL) (hL : gDist L) (L1 : Int32) (L2 : Int32) (v : gMem) (Q : Int32 → gMem → Prop) (X : String → gMem → Prop) (h : TL_forbid L1 L2 v Q X) (sz : Nat) : vx_Met l yL_forbid [.codeWith yL_forbid cL_forbid 5 (some .int) [(0, 10, 13, 21), (0, 10, 17, 13), (0, 10, 21, 77), (0, 10, 25, 15)]] ({ frames := 9, cells := 4, slots := 24, locals := 147 } : Room) (gPc L sz [.ref (L.2.1 6 0), .int L1, .int L2, .ref (L.2.1 50 0)] v) (gQi L sz Q) (gXC L sz X) 4 24 (gA L sz) := by
  refine g_ofWH (by decide +kernel) hfl hL (Nat.le_of_ble_eq_true rfl) ?_
  intro p e s m args below meth c C hr htab
  refine g_sub [(0, .ref (L.2.1 6 0)), (1, .int L1), (2, .int L2), (3, .ref (L.2.1 50 0))] [0, 1, 2, 3] rfl ?_
  unfold TL_forbid at h
  refine g_aload_n C 3 rfl 3 rfl dL_forbid_0 ?_
  refine g_iconst C 0 (by decide) dL_forbid_1 ?_
  refine g_aload_n C 0 rfl 0 rfl dL_forbid_2 ?_
  refine g_iload_n C 1 rfl 1 rfl dL_forbid_3 ?_
  refine g_iload_n C 2 rfl 2 rfl dL_forbid_4 ?_
  refine g_gcallVi C gok_6 rfl rfl [.int L1, .int L2] (fun sz9 => kX6_forbid l C.2.2.2.2.2.2.1 L C.2.2.2.2.2.2.2.1 L1 L2 v _ _ h sz9) wml_RL_74 winst_X6_forbid wsel_X6_forbid wini_RX6 wcode_X6_forbid rfl rfl (n := 2) (by decide +kernel) rfl ⟨(Nat.le_of_ble_eq_true rfl), (Nat.le_of_ble_eq_true rfl)⟩ ⟨(Nat.le_of_ble_eq_true rfl), (Nat.le_of_ble_eq_true rfl)⟩ (Nat.le_of_ble_eq_true rfl) dL_forbid_5 (fun E v5 hx => ?_) (fun r5 v5 h => ?_)
  · rcases hx with ⟨rfl, h⟩ | ⟨rfl, h⟩ | ⟨rfl, h⟩ | ⟨rfl, h⟩
    · refine g_catch C (name := "java/lang/IndexOutOfBoundsException") [] { startPc := 0, endPc := 10, handlerPc := 13, catchType := 21 } [{ startPc := 0, endPc := 10, handlerPc := 17, catchType := 13 }, { startPc := 0, endPc := 10, handlerPc := 21, catchType := 77 }, { startPc := 0, endPc := 10, handlerPc := 25, catchType := 15 }] (htab.trans rfl) (fun z hz => by cases hz) (by decide) (by decide) wcl_RL_21 wcast_java_lang_IndexOutOfBoundsException (fun q9 => ?_)
      refine g_astore C [(4, .ref q9), (0, .ref (L.2.1 6 0)), (1, .int L1), (2, .int L2), (3, .ref (L.2.1 50 0))] (Nat.le_of_ble_eq_true rfl) rfl dL_forbid_13 ?_
      refine g_iconst C 1 (by decide) dL_forbid_15 ?_
      exact g_iret C hr rfl (Nat.le_of_ble_eq_true rfl) (Nat.le_of_ble_eq_true rfl) h dL_forbid_16
    · refine g_catch C (name := "java/lang/IllegalArgumentException") [{ startPc := 0, endPc := 10, handlerPc := 13, catchType := 21 }] { startPc := 0, endPc := 10, handlerPc := 17, catchType := 13 } [{ startPc := 0, endPc := 10, handlerPc := 21, catchType := 77 }, { startPc := 0, endPc := 10, handlerPc := 25, catchType := 15 }] (htab.trans rfl) (List.forall_mem_cons.mpr ⟨⟨by decide, "java/lang/IndexOutOfBoundsException", wcl_RL_21, by decide⟩, (fun z hz => by cases hz)⟩) (by decide) (by decide) wcl_RL_13 wcast_java_lang_IllegalArgumentException (fun q9 => ?_)
      refine g_astore C [(4, .ref q9), (0, .ref (L.2.1 6 0)), (1, .int L1), (2, .int L2), (3, .ref (L.2.1 50 0))] (Nat.le_of_ble_eq_true rfl) rfl dL_forbid_17 ?_
      refine g_iconst C 2 (by decide) dL_forbid_19 ?_
      exact g_iret C hr rfl (Nat.le_of_ble_eq_true rfl) (Nat.le_of_ble_eq_true rfl) h dL_forbid_20
    · refine g_catch C (name := "java/lang/UnsupportedOperationException") [{ startPc := 0, endPc := 10, handlerPc := 13, catchType := 21 }, { startPc := 0, endPc := 10, handlerPc := 17, catchType := 13 }] { startPc := 0, endPc := 10, handlerPc := 21, catchType := 77 } [{ startPc := 0, endPc := 10, handlerPc := 25, catchType := 15 }] (htab.trans rfl) (List.forall_mem_cons.mpr ⟨⟨by decide, "java/lang/IndexOutOfBoundsException", wcl_RL_21, by decide⟩, (List.forall_mem_cons.mpr ⟨⟨by decide, "java/lang/IllegalArgumentException", wcl_RL_13, by decide⟩, (fun z hz => by cases hz)⟩)⟩) (by decide) (by decide) wcl_RL_77 wcast_java_lang_UnsupportedOperationException (fun q9 => ?_)
      refine g_astore C [(4, .ref q9), (0, .ref (L.2.1 6 0)), (1, .int L1), (2, .int L2), (3, .ref (L.2.1 50 0))] (Nat.le_of_ble_eq_true rfl) rfl dL_forbid_21 ?_
      refine g_iconst C 3 (by decide) dL_forbid_23 ?_
      exact g_iret C hr rfl (Nat.le_of_ble_eq_true rfl) (Nat.le_of_ble_eq_true rfl) h dL_forbid_24
    · refine g_catch C (name := "java/lang/IllegalStateException") [{ startPc := 0, endPc := 10, handlerPc := 13, catchType := 21 }, { startPc := 0, endPc := 10, handlerPc := 17, catchType := 13 }, { startPc := 0, endPc := 10, handlerPc := 21, catchType := 77 }] { startPc := 0, endPc := 10, handlerPc := 25, catchType := 15 } [] (htab.trans rfl) (List.forall_mem_cons.mpr ⟨⟨by decide, "java/lang/IndexOutOfBoundsException", wcl_RL_21, by decide⟩, (List.forall_mem_cons.mpr ⟨⟨by decide, "java/lang/IllegalArgumentException", wcl_RL_13, by decide⟩, (List.forall_mem_cons.mpr ⟨⟨by decide, "java/lang/UnsupportedOperationException", wcl_RL_77, by decide⟩, (fun z hz => by cases hz)⟩)⟩)⟩) (by decide) (by decide) wcl_RL_15 wcast_java_lang_IllegalStateException (fun q9 => ?_)
      refine g_astore C [(4, .ref q9), (0, .ref (L.2.1 6 0)), (1, .int L1), (2, .int L2), (3, .ref (L.2.1 50 0))] (Nat.le_of_ble_eq_true rfl) rfl dL_forbid_25 ?_
      refine g_iconst C 4 (by decide) dL_forbid_27 ?_
      exact g_iret C hr rfl (Nat.le_of_ble_eq_true rfl) (Nat.le_of_ble_eq_true rfl) h dL_forbid_28
  · refine g_i2l C dL_forbid_8 ?_
    refine g_lastore C dL_forbid_9 ?_
    refine g_goto C 29 (by decide) dL_forbid_10 ?_
    refine g_iconst C 0 (by decide) dL_forbid_29 ?_
    exact g_iret C hr rfl (Nat.le_of_ble_eq_true rfl) (Nat.le_of_ble_eq_true rfl) h dL_forbid_30
def TL_allow (L1 : Int32) (L2 : Int32) (v : gMem) (Q : Int32 → gMem → Prop) (X : String → gMem → Prop) : Prop := (TX6_allow L1 L2 v (fun r5 v5 => (Q 0 (gw v5 50 0 0 r5))) (fun E v5 => (E = "java/lang/IndexOutOfBoundsException" ∧ (Q 1 v5)) ∨ (E = "java/util/NoSuchElementException" ∧ (Q 2 v5))))
theorem kL_allow (l : Launch) (hfl : l.stackTraces = false) (L : gL) (hL : gDist L) (L1 : Int32) (L2 : Int32) (v : gMem) (Q : Int32 → gMem → Prop) (X : String → gMem → Prop) (h : TL_allow L1 L2 v Q X) (sz : Nat) : vx_Met l yL_allow [.codeWith yL_allow cL_allow 5 (some .int) [(0, 10, 13, 21), (0, 10, 17, 44)]] ({ frames := 9, cells := 3, slots := 18, locals := 147 } : Room) (gPc L sz [.ref (L.2.1 6 0), .int L1, .int L2, .ref (L.2.1 50 0)] v) (gQi L sz Q) (gXC L sz X) 3 18 (gA L sz) := by
  refine g_ofWH (by decide +kernel) hfl hL (Nat.le_of_ble_eq_true rfl) ?_
  intro p e s m args below meth c C hr htab
  refine g_sub [(0, .ref (L.2.1 6 0)), (1, .int L1), (2, .int L2), (3, .ref (L.2.1 50 0))] [0, 1, 2, 3] rfl ?_
  unfold TL_allow at h
  refine g_aload_n C 3 rfl 3 rfl dL_allow_0 ?_
  refine g_iconst C 0 (by decide) dL_allow_1 ?_
  refine g_aload_n C 0 rfl 0 rfl dL_allow_2 ?_
  refine g_iload_n C 1 rfl 1 rfl dL_allow_3 ?_
  refine g_iload_n C 2 rfl 2 rfl dL_allow_4 ?_
  refine g_gcallVi C gok_6 rfl rfl [.int L1, .int L2] (fun sz9 => kX6_allow l C.2.2.2.2.2.2.1 L C.2.2.2.2.2.2.2.1 L1 L2 v _ _ h sz9) wml_RL_79 winst_X6_allow wsel_X6_allow wini_RX6 wcode_X6_allow rfl rfl (n := 2) (by decide +kernel) rfl ⟨(Nat.le_of_ble_eq_true rfl), (Nat.le_of_ble_eq_true rfl)⟩ ⟨(Nat.le_of_ble_eq_true rfl), (Nat.le_of_ble_eq_true rfl)⟩ (Nat.le_of_ble_eq_true rfl) dL_allow_5 (fun E v5 hx => ?_) (fun r5 v5 h => ?_)
  · rcases hx with ⟨rfl, h⟩ | ⟨rfl, h⟩
    · refine g_catch C (name := "java/lang/IndexOutOfBoundsException") [] { startPc := 0, endPc := 10, handlerPc := 13, catchType := 21 } [{ startPc := 0, endPc := 10, handlerPc := 17, catchType := 44 }] (htab.trans rfl) (fun z hz => by cases hz) (by decide) (by decide) wcl_RL_21 wcast_java_lang_IndexOutOfBoundsException (fun q9 => ?_)
      refine g_astore C [(4, .ref q9), (0, .ref (L.2.1 6 0)), (1, .int L1), (2, .int L2), (3, .ref (L.2.1 50 0))] (Nat.le_of_ble_eq_true rfl) rfl dL_allow_13 ?_
      refine g_iconst C 1 (by decide) dL_allow_15 ?_
      exact g_iret C hr rfl (Nat.le_of_ble_eq_true rfl) (Nat.le_of_ble_eq_true rfl) h dL_allow_16
    · refine g_catch C (name := "java/util/NoSuchElementException") [{ startPc := 0, endPc := 10, handlerPc := 13, catchType := 21 }] { startPc := 0, endPc := 10, handlerPc := 17, catchType := 44 } [] (htab.trans rfl) (List.forall_mem_cons.mpr ⟨⟨by decide, "java/lang/IndexOutOfBoundsException", wcl_RL_21, by decide⟩, (fun z hz => by cases hz)⟩) (by decide) (by decide) wcl_RL_44 wcast_java_util_NoSuchElementException (fun q9 => ?_)
      refine g_astore C [(4, .ref q9), (0, .ref (L.2.1 6 0)), (1, .int L1), (2, .int L2), (3, .ref (L.2.1 50 0))] (Nat.le_of_ble_eq_true rfl) rfl dL_allow_17 ?_
      refine g_iconst C 2 (by decide) dL_allow_19 ?_
      exact g_iret C hr rfl (Nat.le_of_ble_eq_true rfl) (Nat.le_of_ble_eq_true rfl) h dL_allow_20
  · refine g_i2l C dL_allow_8 ?_
    refine g_lastore C dL_allow_9 ?_
    refine g_goto C 21 (by decide) dL_allow_10 ?_
    refine g_iconst C 0 (by decide) dL_allow_21 ?_
    exact g_iret C hr rfl (Nat.le_of_ble_eq_true rfl) (Nat.le_of_ble_eq_true rfl) h dL_allow_22
def TL_why (L1 : Int32) (L2 : Int32) (v : gMem) (Q : Int32 → gMem → Prop) (X : String → gMem → Prop) : Prop := (TX6_why L1 L2 v (fun r5 v5 => (Q 0 (gw v5 50 0 0 r5))) (fun E v5 => (E = "java/lang/IndexOutOfBoundsException" ∧ (Q 1 v5))))
theorem kL_why (l : Launch) (hfl : l.stackTraces = false) (L : gL) (hL : gDist L) (L1 : Int32) (L2 : Int32) (v : gMem) (Q : Int32 → gMem → Prop) (X : String → gMem → Prop) (h : TL_why L1 L2 v Q X) (sz : Nat) : vx_Met l yL_why [.codeWith yL_why cL_why 5 (some .int) [(0, 10, 13, 21)]] ({ frames := 9, cells := 2, slots := 12, locals := 147 } : Room) (gPc L sz [.ref (L.2.1 6 0), .int L1, .int L2, .ref (L.2.1 50 0)] v) (gQi L sz Q) (gXC L sz X) 2 12 (gA L sz) := by
  refine g_ofWH (by decide +kernel) hfl hL (Nat.le_of_ble_eq_true rfl) ?_
  intro p e s m args below meth c C hr htab
  refine g_sub [(0, .ref (L.2.1 6 0)), (1, .int L1), (2, .int L2), (3, .ref (L.2.1 50 0))] [0, 1, 2, 3] rfl ?_
  unfold TL_why at h
  refine g_aload_n C 3 rfl 3 rfl dL_why_0 ?_
  refine g_iconst C 0 (by decide) dL_why_1 ?_
  refine g_aload_n C 0 rfl 0 rfl dL_why_2 ?_
  refine g_iload_n C 1 rfl 1 rfl dL_why_3 ?_
  refine g_iload_n C 2 rfl 2 rfl dL_why_4 ?_
  refine g_gcallVi C gok_6 rfl rfl [.int L1, .int L2] (fun sz9 => kX6_why l C.2.2.2.2.2.2.1 L C.2.2.2.2.2.2.2.1 L1 L2 v _ _ h sz9) wml_RL_82 winst_X6_why wsel_X6_why wini_RX6 wcode_X6_why rfl rfl (n := 2) (by decide +kernel) rfl ⟨(Nat.le_of_ble_eq_true rfl), (Nat.le_of_ble_eq_true rfl)⟩ ⟨(Nat.le_of_ble_eq_true rfl), (Nat.le_of_ble_eq_true rfl)⟩ (Nat.le_of_ble_eq_true rfl) dL_why_5 (fun E v5 hx => ?_) (fun r5 v5 h => ?_)
  · obtain ⟨rfl, h⟩ := hx
    refine g_catch C (name := "java/lang/IndexOutOfBoundsException") [] { startPc := 0, endPc := 10, handlerPc := 13, catchType := 21 } [] (htab.trans rfl) (fun z hz => by cases hz) (by decide) (by decide) wcl_RL_21 wcast_java_lang_IndexOutOfBoundsException (fun q9 => ?_)
    refine g_astore C [(4, .ref q9), (0, .ref (L.2.1 6 0)), (1, .int L1), (2, .int L2), (3, .ref (L.2.1 50 0))] (Nat.le_of_ble_eq_true rfl) rfl dL_why_13 ?_
    refine g_iconst C 1 (by decide) dL_why_15 ?_
    exact g_iret C hr rfl (Nat.le_of_ble_eq_true rfl) (Nat.le_of_ble_eq_true rfl) h dL_why_16
  · refine g_i2l C dL_why_8 ?_
    refine g_lastore C dL_why_9 ?_
    refine g_goto C 17 (by decide) dL_why_10 ?_
    refine g_iconst C 0 (by decide) dL_why_17 ?_
    exact g_iret C hr rfl (Nat.le_of_ble_eq_true rfl) (Nat.le_of_ble_eq_true rfl) h dL_why_18
def TL_barOne (L1 : Int32) (L2 : Int32) (v : gMem) (Q : Int32 → gMem → Prop) (X : String → gMem → Prop) : Prop := (TX6_barOne L1 L2 v (fun r5 v5 => (Q 0 (gw v5 50 0 0 r5))) (fun E v5 => (E = "java/lang/IndexOutOfBoundsException" ∧ (Q 1 v5)) ∨ (E = "java/util/NoSuchElementException" ∧ (Q 2 v5))))
theorem kL_barOne (l : Launch) (hfl : l.stackTraces = false) (L : gL) (hL : gDist L) (L1 : Int32) (L2 : Int32) (v : gMem) (Q : Int32 → gMem → Prop) (X : String → gMem → Prop) (h : TL_barOne L1 L2 v Q X) (sz : Nat) : vx_Met l yL_barOne [.codeWith yL_barOne cL_barOne 5 (some .int) [(0, 10, 13, 21), (0, 10, 17, 44)]] ({ frames := 9, cells := 3, slots := 18, locals := 148 } : Room) (gPc L sz [.ref (L.2.1 6 0), .int L1, .int L2, .ref (L.2.1 50 0)] v) (gQi L sz Q) (gXC L sz X) 3 18 (gA L sz) := by
  refine g_ofWH (by decide +kernel) hfl hL (Nat.le_of_ble_eq_true rfl) ?_
  intro p e s m args below meth c C hr htab
  refine g_sub [(0, .ref (L.2.1 6 0)), (1, .int L1), (2, .int L2), (3, .ref (L.2.1 50 0))] [0, 1, 2, 3] rfl ?_
  unfold TL_barOne at h
  refine g_aload_n C 3 rfl 3 rfl dL_barOne_0 ?_
  refine g_iconst C 0 (by decide) dL_barOne_1 ?_
  refine g_aload_n C 0 rfl 0 rfl dL_barOne_2 ?_
  refine g_iload_n C 1 rfl 1 rfl dL_barOne_3 ?_
  refine g_iload_n C 2 rfl 2 rfl dL_barOne_4 ?_
  refine g_gcallVi C gok_6 rfl rfl [.int L1, .int L2] (fun sz9 => kX6_barOne l C.2.2.2.2.2.2.1 L C.2.2.2.2.2.2.2.1 L1 L2 v _ _ h sz9) wml_RL_85 winst_X6_barOne wsel_X6_barOne wini_RX6 wcode_X6_barOne rfl rfl (n := 2) (by decide +kernel) rfl ⟨(Nat.le_of_ble_eq_true rfl), (Nat.le_of_ble_eq_true rfl)⟩ ⟨(Nat.le_of_ble_eq_true rfl), (Nat.le_of_ble_eq_true rfl)⟩ (Nat.le_of_ble_eq_true rfl) dL_barOne_5 (fun E v5 hx => ?_) (fun r5 v5 h => ?_)
  · rcases hx with ⟨rfl, h⟩ | ⟨rfl, h⟩
    · refine g_catch C (name := "java/lang/IndexOutOfBoundsException") [] { startPc := 0, endPc := 10, handlerPc := 13, catchType := 21 } [{ startPc := 0, endPc := 10, handlerPc := 17, catchType := 44 }] (htab.trans rfl) (fun z hz => by cases hz) (by decide) (by decide) wcl_RL_21 wcast_java_lang_IndexOutOfBoundsException (fun q9 => ?_)
      refine g_astore C [(4, .ref q9), (0, .ref (L.2.1 6 0)), (1, .int L1), (2, .int L2), (3, .ref (L.2.1 50 0))] (Nat.le_of_ble_eq_true rfl) rfl dL_barOne_13 ?_
      refine g_iconst C 1 (by decide) dL_barOne_15 ?_
      exact g_iret C hr rfl (Nat.le_of_ble_eq_true rfl) (Nat.le_of_ble_eq_true rfl) h dL_barOne_16
    · refine g_catch C (name := "java/util/NoSuchElementException") [{ startPc := 0, endPc := 10, handlerPc := 13, catchType := 21 }] { startPc := 0, endPc := 10, handlerPc := 17, catchType := 44 } [] (htab.trans rfl) (List.forall_mem_cons.mpr ⟨⟨by decide, "java/lang/IndexOutOfBoundsException", wcl_RL_21, by decide⟩, (fun z hz => by cases hz)⟩) (by decide) (by decide) wcl_RL_44 wcast_java_util_NoSuchElementException (fun q9 => ?_)
      refine g_astore C [(4, .ref q9), (0, .ref (L.2.1 6 0)), (1, .int L1), (2, .int L2), (3, .ref (L.2.1 50 0))] (Nat.le_of_ble_eq_true rfl) rfl dL_barOne_17 ?_
      refine g_iconst C 2 (by decide) dL_barOne_19 ?_
      exact g_iret C hr rfl (Nat.le_of_ble_eq_true rfl) (Nat.le_of_ble_eq_true rfl) h dL_barOne_20
  · refine g_i2l C dL_barOne_8 ?_
    refine g_lastore C dL_barOne_9 ?_
    refine g_goto C 21 (by decide) dL_barOne_10 ?_
    refine g_iconst C 0 (by decide) dL_barOne_21 ?_
    exact g_iret C hr rfl (Nat.le_of_ble_eq_true rfl) (Nat.le_of_ble_eq_true rfl) h dL_barOne_22
def TL_barOther (L1 : Int32) (L2 : Int32) (v : gMem) (Q : Int32 → gMem → Prop) (X : String → gMem → Prop) : Prop := (TX6_barOther L1 L2 v (fun r5 v5 => (Q 0 (gw v5 50 0 0 r5))) (fun E v5 => (E = "java/lang/IndexOutOfBoundsException" ∧ (Q 1 v5)) ∨ (E = "java/util/NoSuchElementException" ∧ (Q 2 v5))))
theorem kL_barOther (l : Launch) (hfl : l.stackTraces = false) (L : gL) (hL : gDist L) (L1 : Int32) (L2 : Int32) (v : gMem) (Q : Int32 → gMem → Prop) (X : String → gMem → Prop) (h : TL_barOther L1 L2 v Q X) (sz : Nat) : vx_Met l yL_barOther [.codeWith yL_barOther cL_barOther 5 (some .int) [(0, 10, 13, 21), (0, 10, 17, 44)]] ({ frames := 9, cells := 3, slots := 18, locals := 149 } : Room) (gPc L sz [.ref (L.2.1 6 0), .int L1, .int L2, .ref (L.2.1 50 0)] v) (gQi L sz Q) (gXC L sz X) 3 18 (gA L sz) := by
  refine g_ofWH (by decide +kernel) hfl hL (Nat.le_of_ble_eq_true rfl) ?_
  intro p e s m args below meth c C hr htab
  refine g_sub [(0, .ref (L.2.1 6 0)), (1, .int L1), (2, .int L2), (3, .ref (L.2.1 50 0))] [0, 1, 2, 3] rfl ?_
  unfold TL_barOther at h
  refine g_aload_n C 3 rfl 3 rfl dL_barOther_0 ?_
  refine g_iconst C 0 (by decide) dL_barOther_1 ?_
  refine g_aload_n C 0 rfl 0 rfl dL_barOther_2 ?_
  refine g_iload_n C 1 rfl 1 rfl dL_barOther_3 ?_
  refine g_iload_n C 2 rfl 2 rfl dL_barOther_4 ?_
  refine g_gcallVi C gok_6 rfl rfl [.int L1, .int L2] (fun sz9 => kX6_barOther l C.2.2.2.2.2.2.1 L C.2.2.2.2.2.2.2.1 L1 L2 v _ _ h sz9) wml_RL_88 winst_X6_barOther wsel_X6_barOther wini_RX6 wcode_X6_barOther rfl rfl (n := 2) (by decide +kernel) rfl ⟨(Nat.le_of_ble_eq_true rfl), (Nat.le_of_ble_eq_true rfl)⟩ ⟨(Nat.le_of_ble_eq_true rfl), (Nat.le_of_ble_eq_true rfl)⟩ (Nat.le_of_ble_eq_true rfl) dL_barOther_5 (fun E v5 hx => ?_) (fun r5 v5 h => ?_)
  · rcases hx with ⟨rfl, h⟩ | ⟨rfl, h⟩
    · refine g_catch C (name := "java/lang/IndexOutOfBoundsException") [] { startPc := 0, endPc := 10, handlerPc := 13, catchType := 21 } [{ startPc := 0, endPc := 10, handlerPc := 17, catchType := 44 }] (htab.trans rfl) (fun z hz => by cases hz) (by decide) (by decide) wcl_RL_21 wcast_java_lang_IndexOutOfBoundsException (fun q9 => ?_)
      refine g_astore C [(4, .ref q9), (0, .ref (L.2.1 6 0)), (1, .int L1), (2, .int L2), (3, .ref (L.2.1 50 0))] (Nat.le_of_ble_eq_true rfl) rfl dL_barOther_13 ?_
      refine g_iconst C 1 (by decide) dL_barOther_15 ?_
      exact g_iret C hr rfl (Nat.le_of_ble_eq_true rfl) (Nat.le_of_ble_eq_true rfl) h dL_barOther_16
    · refine g_catch C (name := "java/util/NoSuchElementException") [{ startPc := 0, endPc := 10, handlerPc := 13, catchType := 21 }] { startPc := 0, endPc := 10, handlerPc := 17, catchType := 44 } [] (htab.trans rfl) (List.forall_mem_cons.mpr ⟨⟨by decide, "java/lang/IndexOutOfBoundsException", wcl_RL_21, by decide⟩, (fun z hz => by cases hz)⟩) (by decide) (by decide) wcl_RL_44 wcast_java_util_NoSuchElementException (fun q9 => ?_)
      refine g_astore C [(4, .ref q9), (0, .ref (L.2.1 6 0)), (1, .int L1), (2, .int L2), (3, .ref (L.2.1 50 0))] (Nat.le_of_ble_eq_true rfl) rfl dL_barOther_17 ?_
      refine g_iconst C 2 (by decide) dL_barOther_19 ?_
      exact g_iret C hr rfl (Nat.le_of_ble_eq_true rfl) (Nat.le_of_ble_eq_true rfl) h dL_barOther_20
  · refine g_i2l C dL_barOther_8 ?_
    refine g_lastore C dL_barOther_9 ?_
    refine g_goto C 21 (by decide) dL_barOther_10 ?_
    refine g_iconst C 0 (by decide) dL_barOther_21 ?_
    exact g_iret C hr rfl (Nat.le_of_ble_eq_true rfl) (Nat.le_of_ble_eq_true rfl) h dL_barOther_22
def TL_merge (L1 : Int32) (L2 : Int32) (v : gMem) (Q : Int32 → gMem → Prop) (X : String → gMem → Prop) : Prop := (TX6_merge L1 L2 v (fun r5 v5 => (Q 0 (gw v5 50 0 0 r5))) (fun E v5 => (E = "java/lang/IndexOutOfBoundsException" ∧ (Q 1 v5)) ∨ (E = "java/lang/UnsupportedOperationException" ∧ (Q 2 v5)) ∨ (E = "java/lang/IllegalStateException" ∧ (Q 3 v5))))
theorem kL_merge (l : Launch) (hfl : l.stackTraces = false) (L : gL) (hL : gDist L) (L1 : Int32) (L2 : Int32) (v : gMem) (Q : Int32 → gMem → Prop) (X : String → gMem → Prop) (h : TL_merge L1 L2 v Q X) (sz : Nat) : vx_Met l yL_merge [.codeWith yL_merge cL_merge 5 (some .int) [(0, 10, 13, 21), (0, 10, 17, 77), (0, 10, 21, 15)]] ({ frames := 9, cells := 3, slots := 18, locals := 147 } : Room) (gPc L sz [.ref (L.2.1 6 0), .int L1, .int L2, .ref (L.2.1 50 0)] v) (gQi L sz Q) (gXC L sz X) 3 18 (gA L sz) := by
  refine g_ofWH (by decide +kernel) hfl hL (Nat.le_of_ble_eq_true rfl) ?_
  intro p e s m args below meth c C hr htab
  refine g_sub [(0, .ref (L.2.1 6 0)), (1, .int L1), (2, .int L2), (3, .ref (L.2.1 50 0))] [0, 1, 2, 3] rfl ?_
  unfold TL_merge at h
  refine g_aload_n C 3 rfl 3 rfl dL_merge_0 ?_
  refine g_iconst C 0 (by decide) dL_merge_1 ?_
  refine g_aload_n C 0 rfl 0 rfl dL_merge_2 ?_
  refine g_iload_n C 1 rfl 1 rfl dL_merge_3 ?_
  refine g_iload_n C 2 rfl 2 rfl dL_merge_4 ?_
  refine g_gcallVi C gok_6 rfl rfl [.int L1, .int L2] (fun sz9 => kX6_merge l C.2.2.2.2.2.2.1 L C.2.2.2.2.2.2.2.1 L1 L2 v _ _ h sz9) wml_RL_91 winst_X6_merge wsel_X6_merge wini_RX6 wcode_X6_merge rfl rfl (n := 2) (by decide +kernel) rfl ⟨(Nat.le_of_ble_eq_true rfl), (Nat.le_of_ble_eq_true rfl)⟩ ⟨(Nat.le_of_ble_eq_true rfl), (Nat.le_of_ble_eq_true rfl)⟩ (Nat.le_of_ble_eq_true rfl) dL_merge_5 (fun E v5 hx => ?_) (fun r5 v5 h => ?_)
  · rcases hx with ⟨rfl, h⟩ | ⟨rfl, h⟩ | ⟨rfl, h⟩
    · refine g_catch C (name := "java/lang/IndexOutOfBoundsException") [] { startPc := 0, endPc := 10, handlerPc := 13, catchType := 21 } [{ startPc := 0, endPc := 10, handlerPc := 17, catchType := 77 }, { startPc := 0, endPc := 10, handlerPc := 21, catchType := 15 }] (htab.trans rfl) (fun z hz => by cases hz) (by decide) (by decide) wcl_RL_21 wcast_java_lang_IndexOutOfBoundsException (fun q9 => ?_)
      refine g_astore C [(4, .ref q9), (0, .ref (L.2.1 6 0)), (1, .int L1), (2, .int L2), (3, .ref (L.2.1 50 0))] (Nat.le_of_ble_eq_true rfl) rfl dL_merge_13 ?_
      refine g_iconst C 1 (by decide) dL_merge_15 ?_
      exact g_iret C hr rfl (Nat.le_of_ble_eq_true rfl) (Nat.le_of_ble_eq_true rfl) h dL_merge_16
    · refine g_catch C (name := "java/lang/UnsupportedOperationException") [{ startPc := 0, endPc := 10, handlerPc := 13, catchType := 21 }] { startPc := 0, endPc := 10, handlerPc := 17, catchType := 77 } [{ startPc := 0, endPc := 10, handlerPc := 21, catchType := 15 }] (htab.trans rfl) (List.forall_mem_cons.mpr ⟨⟨by decide, "java/lang/IndexOutOfBoundsException", wcl_RL_21, by decide⟩, (fun z hz => by cases hz)⟩) (by decide) (by decide) wcl_RL_77 wcast_java_lang_UnsupportedOperationException (fun q9 => ?_)
      refine g_astore C [(4, .ref q9), (0, .ref (L.2.1 6 0)), (1, .int L1), (2, .int L2), (3, .ref (L.2.1 50 0))] (Nat.le_of_ble_eq_true rfl) rfl dL_merge_17 ?_
      refine g_iconst C 2 (by decide) dL_merge_19 ?_
      exact g_iret C hr rfl (Nat.le_of_ble_eq_true rfl) (Nat.le_of_ble_eq_true rfl) h dL_merge_20
    · refine g_catch C (name := "java/lang/IllegalStateException") [{ startPc := 0, endPc := 10, handlerPc := 13, catchType := 21 }, { startPc := 0, endPc := 10, handlerPc := 17, catchType := 77 }] { startPc := 0, endPc := 10, handlerPc := 21, catchType := 15 } [] (htab.trans rfl) (List.forall_mem_cons.mpr ⟨⟨by decide, "java/lang/IndexOutOfBoundsException", wcl_RL_21, by decide⟩, (List.forall_mem_cons.mpr ⟨⟨by decide, "java/lang/UnsupportedOperationException", wcl_RL_77, by decide⟩, (fun z hz => by cases hz)⟩)⟩) (by decide) (by decide) wcl_RL_15 wcast_java_lang_IllegalStateException (fun q9 => ?_)
      refine g_astore C [(4, .ref q9), (0, .ref (L.2.1 6 0)), (1, .int L1), (2, .int L2), (3, .ref (L.2.1 50 0))] (Nat.le_of_ble_eq_true rfl) rfl dL_merge_21 ?_
      refine g_iconst C 3 (by decide) dL_merge_23 ?_
      exact g_iret C hr rfl (Nat.le_of_ble_eq_true rfl) (Nat.le_of_ble_eq_true rfl) h dL_merge_24
  · refine g_i2l C dL_merge_8 ?_
    refine g_lastore C dL_merge_9 ?_
    refine g_goto C 25 (by decide) dL_merge_10 ?_
    refine g_iconst C 0 (by decide) dL_merge_25 ?_
    exact g_iret C hr rfl (Nat.le_of_ble_eq_true rfl) (Nat.le_of_ble_eq_true rfl) h dL_merge_26
def TL_mergeBest (v : gMem) (Q : Int32 → gMem → Prop) (X : String → gMem → Prop) : Prop := (TX6_mergeBest v (fun r3 v3 => (Q 0 (gw v3 50 0 0 r3))) (fun E v3 => (E = "java/util/NoSuchElementException" ∧ (Q 1 v3)) ∨ (E = "java/lang/IllegalStateException" ∧ (Q 2 v3))))
theorem kL_mergeBest (l : Launch) (hfl : l.stackTraces = false) (L : gL) (hL : gDist L) (v : gMem) (Q : Int32 → gMem → Prop) (X : String → gMem → Prop) (h : TL_mergeBest v Q X) (sz : Nat) : vx_Met l yL_mergeBest [.codeWith yL_mergeBest cL_mergeBest 3 (some .int) [(0, 8, 11, 44), (0, 8, 14, 15)]] ({ frames := 8, cells := 2, slots := 12, locals := 157 } : Room) (gPc L sz [.ref (L.2.1 6 0), .ref (L.2.1 50 0)] v) (gQi L sz Q) (gXC L sz X) 2 12 (gA L sz) := by
  refine g_ofWH (by decide +kernel) hfl hL (Nat.le_of_ble_eq_true rfl) ?_
  intro p e s m args below meth c C hr htab
  refine g_sub [(0, .ref (L.2.1 6 0)), (1, .ref (L.2.1 50 0))] [0, 1] rfl ?_
  unfold TL_mergeBest at h
  refine g_aload_n C 1 rfl 1 rfl dL_mergeBest_0 ?_
  refine g_iconst C 0 (by decide) dL_mergeBest_1 ?_
  refine g_aload_n C 0 rfl 0 rfl dL_mergeBest_2 ?_
  refine g_gcallVi C gok_6 rfl rfl [] (fun sz9 => kX6_mergeBest l C.2.2.2.2.2.2.1 L C.2.2.2.2.2.2.2.1 v _ _ h sz9) wml_RL_94 winst_X6_mergeBest wsel_X6_mergeBest wini_RX6 wcode_X6_mergeBest rfl rfl (n := 0) (by decide +kernel) rfl ⟨(Nat.le_of_ble_eq_true rfl), (Nat.le_of_ble_eq_true rfl)⟩ ⟨(Nat.le_of_ble_eq_true rfl), (Nat.le_of_ble_eq_true rfl)⟩ (Nat.le_of_ble_eq_true rfl) dL_mergeBest_3 (fun E v3 hx => ?_) (fun r3 v3 h => ?_)
  · rcases hx with ⟨rfl, h⟩ | ⟨rfl, h⟩
    · refine g_catch C (name := "java/util/NoSuchElementException") [] { startPc := 0, endPc := 8, handlerPc := 11, catchType := 44 } [{ startPc := 0, endPc := 8, handlerPc := 14, catchType := 15 }] (htab.trans rfl) (fun z hz => by cases hz) (by decide) (by decide) wcl_RL_44 wcast_java_util_NoSuchElementException (fun q9 => ?_)
      refine g_astore_n C 2 rfl [(2, .ref q9), (0, .ref (L.2.1 6 0)), (1, .ref (L.2.1 50 0))] (Nat.le_of_ble_eq_true rfl) rfl dL_mergeBest_11 ?_
      refine g_iconst C 1 (by decide) dL_mergeBest_12 ?_
      exact g_iret C hr rfl (Nat.le_of_ble_eq_true rfl) (Nat.le_of_ble_eq_true rfl) h dL_mergeBest_13
    · refine g_catch C (name := "java/lang/IllegalStateException") [{ startPc := 0, endPc := 8, handlerPc := 11, catchType := 44 }] { startPc := 0, endPc := 8, handlerPc := 14, catchType := 15 } [] (htab.trans rfl) (List.forall_mem_cons.mpr ⟨⟨by decide, "java/util/NoSuchElementException", wcl_RL_44, by decide⟩, (fun z hz => by cases hz)⟩) (by decide) (by decide) wcl_RL_15 wcast_java_lang_IllegalStateException (fun q9 => ?_)
      refine g_astore_n C 2 rfl [(2, .ref q9), (0, .ref (L.2.1 6 0)), (1, .ref (L.2.1 50 0))] (Nat.le_of_ble_eq_true rfl) rfl dL_mergeBest_14 ?_
      refine g_iconst C 2 (by decide) dL_mergeBest_15 ?_
      exact g_iret C hr rfl (Nat.le_of_ble_eq_true rfl) (Nat.le_of_ble_eq_true rfl) h dL_mergeBest_16
  · refine g_i2l C dL_mergeBest_6 ?_
    refine g_lastore C dL_mergeBest_7 ?_
    refine g_goto C 17 (by decide) dL_mergeBest_8 ?_
    refine g_iconst C 0 (by decide) dL_mergeBest_17 ?_
    exact g_iret C hr rfl (Nat.le_of_ble_eq_true rfl) (Nat.le_of_ble_eq_true rfl) h dL_mergeBest_18
def TL_undo (L1 : Int32) (v : gMem) (Q : Int32 → gMem → Prop) (X : String → gMem → Prop) : Prop := (TX6_undo L1 v (fun r4 v4 => (Q 0 (gw v4 50 0 0 r4))) (fun E v4 => (E = "java/lang/IndexOutOfBoundsException" ∧ (Q 1 v4)) ∨ (E = "java/lang/IllegalStateException" ∧ (Q 2 v4))))
theorem kL_undo (l : Launch) (hfl : l.stackTraces = false) (L : gL) (hL : gDist L) (L1 : Int32) (v : gMem) (Q : Int32 → gMem → Prop) (X : String → gMem → Prop) (h : TL_undo L1 v Q X) (sz : Nat) : vx_Met l yL_undo [.codeWith yL_undo cL_undo 4 (some .int) [(0, 9, 12, 21), (0, 9, 15, 15)]] ({ frames := 8, cells := 2, slots := 12, locals := 124 } : Room) (gPc L sz [.ref (L.2.1 6 0), .int L1, .ref (L.2.1 50 0)] v) (gQi L sz Q) (gXC L sz X) 2 12 (gA L sz) := by
  refine g_ofWH (by decide +kernel) hfl hL (Nat.le_of_ble_eq_true rfl) ?_
  intro p e s m args below meth c C hr htab
  refine g_sub [(0, .ref (L.2.1 6 0)), (1, .int L1), (2, .ref (L.2.1 50 0))] [0, 1, 2] rfl ?_
  unfold TL_undo at h
  refine g_aload_n C 2 rfl 2 rfl dL_undo_0 ?_
  refine g_iconst C 0 (by decide) dL_undo_1 ?_
  refine g_aload_n C 0 rfl 0 rfl dL_undo_2 ?_
  refine g_iload_n C 1 rfl 1 rfl dL_undo_3 ?_
  refine g_gcallVi C gok_6 rfl rfl [.int L1] (fun sz9 => kX6_undo l C.2.2.2.2.2.2.1 L C.2.2.2.2.2.2.2.1 L1 v _ _ h sz9) wml_RL_97 winst_X6_undo wsel_X6_undo wini_RX6 wcode_X6_undo rfl rfl (n := 1) (by decide +kernel) rfl ⟨(Nat.le_of_ble_eq_true rfl), (Nat.le_of_ble_eq_true rfl)⟩ ⟨(Nat.le_of_ble_eq_true rfl), (Nat.le_of_ble_eq_true rfl)⟩ (Nat.le_of_ble_eq_true rfl) dL_undo_4 (fun E v4 hx => ?_) (fun r4 v4 h => ?_)
  · rcases hx with ⟨rfl, h⟩ | ⟨rfl, h⟩
    · refine g_catch C (name := "java/lang/IndexOutOfBoundsException") [] { startPc := 0, endPc := 9, handlerPc := 12, catchType := 21 } [{ startPc := 0, endPc := 9, handlerPc := 15, catchType := 15 }] (htab.trans rfl) (fun z hz => by cases hz) (by decide) (by decide) wcl_RL_21 wcast_java_lang_IndexOutOfBoundsException (fun q9 => ?_)
      refine g_astore_n C 3 rfl [(3, .ref q9), (0, .ref (L.2.1 6 0)), (1, .int L1), (2, .ref (L.2.1 50 0))] (Nat.le_of_ble_eq_true rfl) rfl dL_undo_12 ?_
      refine g_iconst C 1 (by decide) dL_undo_13 ?_
      exact g_iret C hr rfl (Nat.le_of_ble_eq_true rfl) (Nat.le_of_ble_eq_true rfl) h dL_undo_14
    · refine g_catch C (name := "java/lang/IllegalStateException") [{ startPc := 0, endPc := 9, handlerPc := 12, catchType := 21 }] { startPc := 0, endPc := 9, handlerPc := 15, catchType := 15 } [] (htab.trans rfl) (List.forall_mem_cons.mpr ⟨⟨by decide, "java/lang/IndexOutOfBoundsException", wcl_RL_21, by decide⟩, (fun z hz => by cases hz)⟩) (by decide) (by decide) wcl_RL_15 wcast_java_lang_IllegalStateException (fun q9 => ?_)
      refine g_astore_n C 3 rfl [(3, .ref q9), (0, .ref (L.2.1 6 0)), (1, .int L1), (2, .ref (L.2.1 50 0))] (Nat.le_of_ble_eq_true rfl) rfl dL_undo_15 ?_
      refine g_iconst C 2 (by decide) dL_undo_16 ?_
      exact g_iret C hr rfl (Nat.le_of_ble_eq_true rfl) (Nat.le_of_ble_eq_true rfl) h dL_undo_17
  · refine g_i2l C dL_undo_7 ?_
    refine g_lastore C dL_undo_8 ?_
    refine g_goto C 18 (by decide) dL_undo_9 ?_
    refine g_iconst C 0 (by decide) dL_undo_18 ?_
    exact g_iret C hr rfl (Nat.le_of_ble_eq_true rfl) (Nat.le_of_ble_eq_true rfl) h dL_undo_19
def TL_stands (L1 : Int32) (v : gMem) (Q : Int32 → gMem → Prop) (X : String → gMem → Prop) : Prop := (TX6_stands L1 v (fun r4 v4 => ((r4 = 0 → (Q 0 (gw v4 50 0 0 0))) ∧ (¬ r4 = 0 → (Q 0 (gw v4 50 0 0 1))))) (fun E v4 => (E = "java/lang/IndexOutOfBoundsException" ∧ (Q 1 v4))))
theorem kL_stands (l : Launch) (hfl : l.stackTraces = false) (L : gL) (hL : gDist L) (L1 : Int32) (v : gMem) (Q : Int32 → gMem → Prop) (X : String → gMem → Prop) (h : TL_stands L1 v Q X) (sz : Nat) : vx_Met l yL_stands [.codeWith yL_stands cL_stands 4 (some .int) [(0, 16, 19, 21)]] ({ frames := 8, cells := 1, slots := 6, locals := 124 } : Room) (gPc L sz [.ref (L.2.1 6 0), .int L1, .ref (L.2.1 50 0)] v) (gQi L sz Q) (gXC L sz X) 1 6 (gA L sz) := by
  refine g_ofWH (by decide +kernel) hfl hL (Nat.le_of_ble_eq_true rfl) ?_
  intro p e s m args below meth c C hr htab
  refine g_sub [(0, .ref (L.2.1 6 0)), (1, .int L1), (2, .ref (L.2.1 50 0))] [0, 1, 2] rfl ?_
  unfold TL_stands at h
  refine g_aload_n C 2 rfl 2 rfl dL_stands_0 ?_
  refine g_iconst C 0 (by decide) dL_stands_1 ?_
  refine g_aload_n C 0 rfl 0 rfl dL_stands_2 ?_
  refine g_iload_n C 1 rfl 1 rfl dL_stands_3 ?_
  refine g_gcallVi C gok_6 rfl rfl [.int L1] (fun sz9 => kX6_stands l C.2.2.2.2.2.2.1 L C.2.2.2.2.2.2.2.1 L1 v _ _ h sz9) wml_RL_100 winst_X6_stands wsel_X6_stands wini_RX6 wcode_X6_stands rfl rfl (n := 1) (by decide +kernel) rfl ⟨(Nat.le_of_ble_eq_true rfl), (Nat.le_of_ble_eq_true rfl)⟩ ⟨(Nat.le_of_ble_eq_true rfl), (Nat.le_of_ble_eq_true rfl)⟩ (Nat.le_of_ble_eq_true rfl) dL_stands_4 (fun E v4 hx => ?_) (fun r4 v4 h => ?_)
  · obtain ⟨rfl, h⟩ := hx
    refine g_catch C (name := "java/lang/IndexOutOfBoundsException") [] { startPc := 0, endPc := 16, handlerPc := 19, catchType := 21 } [] (htab.trans rfl) (fun z hz => by cases hz) (by decide) (by decide) wcl_RL_21 wcast_java_lang_IndexOutOfBoundsException (fun q9 => ?_)
    refine g_astore_n C 3 rfl [(3, .ref q9), (0, .ref (L.2.1 6 0)), (1, .int L1), (2, .ref (L.2.1 50 0))] (Nat.le_of_ble_eq_true rfl) rfl dL_stands_19 ?_
    refine g_iconst C 1 (by decide) dL_stands_20 ?_
    exact g_iret C hr rfl (Nat.le_of_ble_eq_true rfl) (Nat.le_of_ble_eq_true rfl) h dL_stands_21
  · refine g_if_eq C 14 (by decide) dL_stands_7 (fun hc => ?_) (fun hc => ?_)
    · replace h := h.1 hc
      refine g_lconst C 0 (by decide) dL_stands_14 ?_
      refine g_lastore C dL_stands_15 ?_
      refine g_goto C 22 (by decide) dL_stands_16 ?_
      refine g_iconst C 0 (by decide) dL_stands_22 ?_
      exact g_iret C hr rfl (Nat.le_of_ble_eq_true rfl) (Nat.le_of_ble_eq_true rfl) h dL_stands_23
    · replace h := h.2 hc
      refine g_lconst C 1 (by decide) dL_stands_10 ?_
      refine g_goto C 15 (by decide) dL_stands_11 ?_
      refine g_lastore C dL_stands_15 ?_
      refine g_goto C 22 (by decide) dL_stands_16 ?_
      refine g_iconst C 0 (by decide) dL_stands_22 ?_
      exact g_iret C hr rfl (Nat.le_of_ble_eq_true rfl) (Nat.le_of_ble_eq_true rfl) h dL_stands_23
def TL_steps (L1 : Int32) (L2 : Int32) (v : gMem) (Q : Int32 → gMem → Prop) (X : String → gMem → Prop) : Prop := (TX6_steps L1 L2 v (fun r5 v5 => (Q 0 (gw v5 50 0 0 r5))) (fun E v5 => (E = "java/lang/IndexOutOfBoundsException" ∧ (Q 1 v5)) ∨ (E = "java/util/NoSuchElementException" ∧ (Q 2 v5))))
theorem kL_steps (l : Launch) (hfl : l.stackTraces = false) (L : gL) (hL : gDist L) (L1 : Int32) (L2 : Int32) (v : gMem) (Q : Int32 → gMem → Prop) (X : String → gMem → Prop) (h : TL_steps L1 L2 v Q X) (sz : Nat) : vx_Met l yL_steps [.codeWith yL_steps cL_steps 5 (some .int) [(0, 10, 13, 21), (0, 10, 17, 44)]] ({ frames := 9, cells := 3, slots := 18, locals := 148 } : Room) (gPc L sz [.ref (L.2.1 6 0), .int L1, .int L2, .ref (L.2.1 50 0)] v) (gQi L sz Q) (gXC L sz X) 3 18 (gA L sz) := by
  refine g_ofWH (by decide +kernel) hfl hL (Nat.le_of_ble_eq_true rfl) ?_
  intro p e s m args below meth c C hr htab
  refine g_sub [(0, .ref (L.2.1 6 0)), (1, .int L1), (2, .int L2), (3, .ref (L.2.1 50 0))] [0, 1, 2, 3] rfl ?_
  unfold TL_steps at h
  refine g_aload_n C 3 rfl 3 rfl dL_steps_0 ?_
  refine g_iconst C 0 (by decide) dL_steps_1 ?_
  refine g_aload_n C 0 rfl 0 rfl dL_steps_2 ?_
  refine g_iload_n C 1 rfl 1 rfl dL_steps_3 ?_
  refine g_iload_n C 2 rfl 2 rfl dL_steps_4 ?_
  refine g_gcallVi C gok_6 rfl rfl [.int L1, .int L2] (fun sz9 => kX6_steps l C.2.2.2.2.2.2.1 L C.2.2.2.2.2.2.2.1 L1 L2 v _ _ h sz9) wml_RL_104 winst_X6_steps wsel_X6_steps wini_RX6 wcode_X6_steps rfl rfl (n := 2) (by decide +kernel) rfl ⟨(Nat.le_of_ble_eq_true rfl), (Nat.le_of_ble_eq_true rfl)⟩ ⟨(Nat.le_of_ble_eq_true rfl), (Nat.le_of_ble_eq_true rfl)⟩ (Nat.le_of_ble_eq_true rfl) dL_steps_5 (fun E v5 hx => ?_) (fun r5 v5 h => ?_)
  · rcases hx with ⟨rfl, h⟩ | ⟨rfl, h⟩
    · refine g_catch C (name := "java/lang/IndexOutOfBoundsException") [] { startPc := 0, endPc := 10, handlerPc := 13, catchType := 21 } [{ startPc := 0, endPc := 10, handlerPc := 17, catchType := 44 }] (htab.trans rfl) (fun z hz => by cases hz) (by decide) (by decide) wcl_RL_21 wcast_java_lang_IndexOutOfBoundsException (fun q9 => ?_)
      refine g_astore C [(4, .ref q9), (0, .ref (L.2.1 6 0)), (1, .int L1), (2, .int L2), (3, .ref (L.2.1 50 0))] (Nat.le_of_ble_eq_true rfl) rfl dL_steps_13 ?_
      refine g_iconst C 1 (by decide) dL_steps_15 ?_
      exact g_iret C hr rfl (Nat.le_of_ble_eq_true rfl) (Nat.le_of_ble_eq_true rfl) h dL_steps_16
    · refine g_catch C (name := "java/util/NoSuchElementException") [{ startPc := 0, endPc := 10, handlerPc := 13, catchType := 21 }] { startPc := 0, endPc := 10, handlerPc := 17, catchType := 44 } [] (htab.trans rfl) (List.forall_mem_cons.mpr ⟨⟨by decide, "java/lang/IndexOutOfBoundsException", wcl_RL_21, by decide⟩, (fun z hz => by cases hz)⟩) (by decide) (by decide) wcl_RL_44 wcast_java_util_NoSuchElementException (fun q9 => ?_)
      refine g_astore C [(4, .ref q9), (0, .ref (L.2.1 6 0)), (1, .int L1), (2, .int L2), (3, .ref (L.2.1 50 0))] (Nat.le_of_ble_eq_true rfl) rfl dL_steps_17 ?_
      refine g_iconst C 2 (by decide) dL_steps_19 ?_
      exact g_iret C hr rfl (Nat.le_of_ble_eq_true rfl) (Nat.le_of_ble_eq_true rfl) h dL_steps_20
  · refine g_i2l C dL_steps_8 ?_
    refine g_lastore C dL_steps_9 ?_
    refine g_goto C 21 (by decide) dL_steps_10 ?_
    refine g_iconst C 0 (by decide) dL_steps_21 ?_
    exact g_iret C hr rfl (Nat.le_of_ble_eq_true rfl) (Nat.le_of_ble_eq_true rfl) h dL_steps_22
def TL_person (L1 : Int32) (v : gMem) (Q : Int32 → gMem → Prop) (X : String → gMem → Prop) : Prop := (TX6_person L1 v (fun r4 v4 => (Q 0 (gw v4 50 0 0 r4))) (fun E v4 => (E = "java/lang/IndexOutOfBoundsException" ∧ (Q 1 v4))))
theorem kL_person (l : Launch) (hfl : l.stackTraces = false) (L : gL) (hL : gDist L) (L1 : Int32) (v : gMem) (Q : Int32 → gMem → Prop) (X : String → gMem → Prop) (h : TL_person L1 v Q X) (sz : Nat) : vx_Met l yL_person [.codeWith yL_person cL_person 4 (some .int) [(0, 9, 12, 21)]] ({ frames := 8, cells := 1, slots := 6, locals := 124 } : Room) (gPc L sz [.ref (L.2.1 6 0), .int L1, .ref (L.2.1 50 0)] v) (gQi L sz Q) (gXC L sz X) 1 6 (gA L sz) := by
  refine g_ofWH (by decide +kernel) hfl hL (Nat.le_of_ble_eq_true rfl) ?_
  intro p e s m args below meth c C hr htab
  refine g_sub [(0, .ref (L.2.1 6 0)), (1, .int L1), (2, .ref (L.2.1 50 0))] [0, 1, 2] rfl ?_
  unfold TL_person at h
  refine g_aload_n C 2 rfl 2 rfl dL_person_0 ?_
  refine g_iconst C 0 (by decide) dL_person_1 ?_
  refine g_aload_n C 0 rfl 0 rfl dL_person_2 ?_
  refine g_iload_n C 1 rfl 1 rfl dL_person_3 ?_
  refine g_gcallVi C gok_6 rfl rfl [.int L1] (fun sz9 => kX6_person l C.2.2.2.2.2.2.1 L C.2.2.2.2.2.2.2.1 L1 v _ _ h sz9) wml_RL_107 winst_X6_person wsel_X6_person wini_RX6 wcode_X6_person rfl rfl (n := 1) (by decide +kernel) rfl ⟨(Nat.le_of_ble_eq_true rfl), (Nat.le_of_ble_eq_true rfl)⟩ ⟨(Nat.le_of_ble_eq_true rfl), (Nat.le_of_ble_eq_true rfl)⟩ (Nat.le_of_ble_eq_true rfl) dL_person_4 (fun E v4 hx => ?_) (fun r4 v4 h => ?_)
  · obtain ⟨rfl, h⟩ := hx
    refine g_catch C (name := "java/lang/IndexOutOfBoundsException") [] { startPc := 0, endPc := 9, handlerPc := 12, catchType := 21 } [] (htab.trans rfl) (fun z hz => by cases hz) (by decide) (by decide) wcl_RL_21 wcast_java_lang_IndexOutOfBoundsException (fun q9 => ?_)
    refine g_astore_n C 3 rfl [(3, .ref q9), (0, .ref (L.2.1 6 0)), (1, .int L1), (2, .ref (L.2.1 50 0))] (Nat.le_of_ble_eq_true rfl) rfl dL_person_12 ?_
    refine g_iconst C 1 (by decide) dL_person_13 ?_
    exact g_iret C hr rfl (Nat.le_of_ble_eq_true rfl) (Nat.le_of_ble_eq_true rfl) h dL_person_14
  · refine g_i2l C dL_person_7 ?_
    refine g_lastore C dL_person_8 ?_
    refine g_goto C 15 (by decide) dL_person_9 ?_
    refine g_iconst C 0 (by decide) dL_person_15 ?_
    exact g_iret C hr rfl (Nat.le_of_ble_eq_true rfl) (Nat.le_of_ble_eq_true rfl) h dL_person_16
def TL_personByRounds (L1 : Int32) (v : gMem) (Q : Int32 → gMem → Prop) (X : String → gMem → Prop) : Prop := (TX6_personByRounds L1 v (fun r4 v4 => (Q 0 (gw v4 50 0 0 r4))) (fun E v4 => (E = "java/lang/IndexOutOfBoundsException" ∧ (Q 1 v4))))
theorem kL_personByRounds (l : Launch) (hfl : l.stackTraces = false) (L : gL) (hL : gDist L) (L1 : Int32) (v : gMem) (Q : Int32 → gMem → Prop) (X : String → gMem → Prop) (h : TL_personByRounds L1 v Q X) (sz : Nat) : vx_Met l yL_personByRounds [.codeWith yL_personByRounds cL_personByRounds 4 (some .int) [(0, 9, 12, 21)]] ({ frames := 8, cells := 1, slots := 6, locals := 124 } : Room) (gPc L sz [.ref (L.2.1 6 0), .int L1, .ref (L.2.1 50 0)] v) (gQi L sz Q) (gXC L sz X) 1 6 (gA L sz) := by
  refine g_ofWH (by decide +kernel) hfl hL (Nat.le_of_ble_eq_true rfl) ?_
  intro p e s m args below meth c C hr htab
  refine g_sub [(0, .ref (L.2.1 6 0)), (1, .int L1), (2, .ref (L.2.1 50 0))] [0, 1, 2] rfl ?_
  unfold TL_personByRounds at h
  refine g_aload_n C 2 rfl 2 rfl dL_personByRounds_0 ?_
  refine g_iconst C 0 (by decide) dL_personByRounds_1 ?_
  refine g_aload_n C 0 rfl 0 rfl dL_personByRounds_2 ?_
  refine g_iload_n C 1 rfl 1 rfl dL_personByRounds_3 ?_
  refine g_gcallVi C gok_6 rfl rfl [.int L1] (fun sz9 => kX6_personByRounds l C.2.2.2.2.2.2.1 L C.2.2.2.2.2.2.2.1 L1 v _ _ h sz9) wml_RL_110 winst_X6_personByRounds wsel_X6_personByRounds wini_RX6 wcode_X6_personByRounds rfl rfl (n := 1) (by decide +kernel) rfl ⟨(Nat.le_of_ble_eq_true rfl), (Nat.le_of_ble_eq_true rfl)⟩ ⟨(Nat.le_of_ble_eq_true rfl), (Nat.le_of_ble_eq_true rfl)⟩ (Nat.le_of_ble_eq_true rfl) dL_personByRounds_4 (fun E v4 hx => ?_) (fun r4 v4 h => ?_)
  · obtain ⟨rfl, h⟩ := hx
    refine g_catch C (name := "java/lang/IndexOutOfBoundsException") [] { startPc := 0, endPc := 9, handlerPc := 12, catchType := 21 } [] (htab.trans rfl) (fun z hz => by cases hz) (by decide) (by decide) wcl_RL_21 wcast_java_lang_IndexOutOfBoundsException (fun q9 => ?_)
    refine g_astore_n C 3 rfl [(3, .ref q9), (0, .ref (L.2.1 6 0)), (1, .int L1), (2, .ref (L.2.1 50 0))] (Nat.le_of_ble_eq_true rfl) rfl dL_personByRounds_12 ?_
    refine g_iconst C 1 (by decide) dL_personByRounds_13 ?_
    exact g_iret C hr rfl (Nat.le_of_ble_eq_true rfl) (Nat.le_of_ble_eq_true rfl) h dL_personByRounds_14
  · refine g_i2l C dL_personByRounds_7 ?_
    refine g_lastore C dL_personByRounds_8 ?_
    refine g_goto C 15 (by decide) dL_personByRounds_9 ?_
    refine g_iconst C 0 (by decide) dL_personByRounds_15 ?_
    exact g_iret C hr rfl (Nat.le_of_ble_eq_true rfl) (Nat.le_of_ble_eq_true rfl) h dL_personByRounds_16
def TL_size (L1 : Int32) (v : gMem) (Q : Int32 → gMem → Prop) (X : String → gMem → Prop) : Prop := (TX6_size L1 v (fun r4 v4 => (Q 0 (gw v4 50 0 0 r4))) (fun E v4 => (E = "java/lang/IndexOutOfBoundsException" ∧ (Q 1 v4))))
theorem kL_size (l : Launch) (hfl : l.stackTraces = false) (L : gL) (hL : gDist L) (L1 : Int32) (v : gMem) (Q : Int32 → gMem → Prop) (X : String → gMem → Prop) (h : TL_size L1 v Q X) (sz : Nat) : vx_Met l yL_size [.codeWith yL_size cL_size 4 (some .int) [(0, 9, 12, 21)]] ({ frames := 8, cells := 1, slots := 6, locals := 124 } : Room) (gPc L sz [.ref (L.2.1 6 0), .int L1, .ref (L.2.1 50 0)] v) (gQi L sz Q) (gXC L sz X) 1 6 (gA L sz) := by
  refine g_ofWH (by decide +kernel) hfl hL (Nat.le_of_ble_eq_true rfl) ?_
  intro p e s m args below meth c C hr htab
  refine g_sub [(0, .ref (L.2.1 6 0)), (1, .int L1), (2, .ref (L.2.1 50 0))] [0, 1, 2] rfl ?_
  unfold TL_size at h
  refine g_aload_n C 2 rfl 2 rfl dL_size_0 ?_
  refine g_iconst C 0 (by decide) dL_size_1 ?_
  refine g_aload_n C 0 rfl 0 rfl dL_size_2 ?_
  refine g_iload_n C 1 rfl 1 rfl dL_size_3 ?_
  refine g_gcallVi C gok_6 rfl rfl [.int L1] (fun sz9 => kX6_size l C.2.2.2.2.2.2.1 L C.2.2.2.2.2.2.2.1 L1 v _ _ h sz9) wml_RL_113 winst_X6_size wsel_X6_size wini_RX6 wcode_X6_size rfl rfl (n := 1) (by decide +kernel) rfl ⟨(Nat.le_of_ble_eq_true rfl), (Nat.le_of_ble_eq_true rfl)⟩ ⟨(Nat.le_of_ble_eq_true rfl), (Nat.le_of_ble_eq_true rfl)⟩ (Nat.le_of_ble_eq_true rfl) dL_size_4 (fun E v4 hx => ?_) (fun r4 v4 h => ?_)
  · obtain ⟨rfl, h⟩ := hx
    refine g_catch C (name := "java/lang/IndexOutOfBoundsException") [] { startPc := 0, endPc := 9, handlerPc := 12, catchType := 21 } [] (htab.trans rfl) (fun z hz => by cases hz) (by decide) (by decide) wcl_RL_21 wcast_java_lang_IndexOutOfBoundsException (fun q9 => ?_)
    refine g_astore_n C 3 rfl [(3, .ref q9), (0, .ref (L.2.1 6 0)), (1, .int L1), (2, .ref (L.2.1 50 0))] (Nat.le_of_ble_eq_true rfl) rfl dL_size_12 ?_
    refine g_iconst C 1 (by decide) dL_size_13 ?_
    exact g_iret C hr rfl (Nat.le_of_ble_eq_true rfl) (Nat.le_of_ble_eq_true rfl) h dL_size_14
  · refine g_i2l C dL_size_7 ?_
    refine g_lastore C dL_size_8 ?_
    refine g_goto C 15 (by decide) dL_size_9 ?_
    refine g_iconst C 0 (by decide) dL_size_15 ?_
    exact g_iret C hr rfl (Nat.le_of_ble_eq_true rfl) (Nat.le_of_ble_eq_true rfl) h dL_size_16
def TL_fieldFrom (L1 : Int32) (L2 : Int32) (v : gMem) (Q : Int32 → gMem → Prop) (X : String → gMem → Prop) : Prop := (TX6_fieldFrom L1 L2 v (fun r5 v5 => (Q 0 (gw v5 50 0 0 r5))) (fun E v5 => (E = "java/lang/IndexOutOfBoundsException" ∧ (Q 1 v5)) ∨ (E = "java/lang/IllegalArgumentException" ∧ (Q 2 v5)) ∨ (E = "java/util/NoSuchElementException" ∧ (Q 3 v5))))
theorem kL_fieldFrom (l : Launch) (hfl : l.stackTraces = false) (L : gL) (hL : gDist L) (L1 : Int32) (L2 : Int32) (v : gMem) (Q : Int32 → gMem → Prop) (X : String → gMem → Prop) (h : TL_fieldFrom L1 L2 v Q X) (sz : Nat) : vx_Met l yL_fieldFrom [.codeWith yL_fieldFrom cL_fieldFrom 5 (some .int) [(0, 10, 13, 21), (0, 10, 17, 13), (0, 10, 21, 44)]] ({ frames := 8, cells := 3, slots := 18, locals := 126 } : Room) (gPc L sz [.ref (L.2.1 6 0), .int L1, .int L2, .ref (L.2.1 50 0)] v) (gQi L sz Q) (gXC L sz X) 3 18 (gA L sz) := by
  refine g_ofWH (by decide +kernel) hfl hL (Nat.le_of_ble_eq_true rfl) ?_
  intro p e s m args below meth c C hr htab
  refine g_sub [(0, .ref (L.2.1 6 0)), (1, .int L1), (2, .int L2), (3, .ref (L.2.1 50 0))] [0, 1, 2, 3] rfl ?_
  unfold TL_fieldFrom at h
  refine g_aload_n C 3 rfl 3 rfl dL_fieldFrom_0 ?_
  refine g_iconst C 0 (by decide) dL_fieldFrom_1 ?_
  refine g_aload_n C 0 rfl 0 rfl dL_fieldFrom_2 ?_
  refine g_iload_n C 1 rfl 1 rfl dL_fieldFrom_3 ?_
  refine g_iload_n C 2 rfl 2 rfl dL_fieldFrom_4 ?_
  refine g_gcallVi C gok_6 rfl rfl [.int L1, .int L2] (fun sz9 => kX6_fieldFrom l C.2.2.2.2.2.2.1 L C.2.2.2.2.2.2.2.1 L1 L2 v _ _ h sz9) wml_RL_116 winst_X6_fieldFrom wsel_X6_fieldFrom wini_RX6 wcode_X6_fieldFrom rfl rfl (n := 2) (by decide +kernel) rfl ⟨(Nat.le_of_ble_eq_true rfl), (Nat.le_of_ble_eq_true rfl)⟩ ⟨(Nat.le_of_ble_eq_true rfl), (Nat.le_of_ble_eq_true rfl)⟩ (Nat.le_of_ble_eq_true rfl) dL_fieldFrom_5 (fun E v5 hx => ?_) (fun r5 v5 h => ?_)
  · rcases hx with ⟨rfl, h⟩ | ⟨rfl, h⟩ | ⟨rfl, h⟩
    · refine g_catch C (name := "java/lang/IndexOutOfBoundsException") [] { startPc := 0, endPc := 10, handlerPc := 13, catchType := 21 } [{ startPc := 0, endPc := 10, handlerPc := 17, catchType := 13 }, { startPc := 0, endPc := 10, handlerPc := 21, catchType := 44 }] (htab.trans rfl) (fun z hz => by cases hz) (by decide) (by decide) wcl_RL_21 wcast_java_lang_IndexOutOfBoundsException (fun q9 => ?_)
      refine g_astore C [(4, .ref q9), (0, .ref (L.2.1 6 0)), (1, .int L1), (2, .int L2), (3, .ref (L.2.1 50 0))] (Nat.le_of_ble_eq_true rfl) rfl dL_fieldFrom_13 ?_
      refine g_iconst C 1 (by decide) dL_fieldFrom_15 ?_
      exact g_iret C hr rfl (Nat.le_of_ble_eq_true rfl) (Nat.le_of_ble_eq_true rfl) h dL_fieldFrom_16
    · refine g_catch C (name := "java/lang/IllegalArgumentException") [{ startPc := 0, endPc := 10, handlerPc := 13, catchType := 21 }] { startPc := 0, endPc := 10, handlerPc := 17, catchType := 13 } [{ startPc := 0, endPc := 10, handlerPc := 21, catchType := 44 }] (htab.trans rfl) (List.forall_mem_cons.mpr ⟨⟨by decide, "java/lang/IndexOutOfBoundsException", wcl_RL_21, by decide⟩, (fun z hz => by cases hz)⟩) (by decide) (by decide) wcl_RL_13 wcast_java_lang_IllegalArgumentException (fun q9 => ?_)
      refine g_astore C [(4, .ref q9), (0, .ref (L.2.1 6 0)), (1, .int L1), (2, .int L2), (3, .ref (L.2.1 50 0))] (Nat.le_of_ble_eq_true rfl) rfl dL_fieldFrom_17 ?_
      refine g_iconst C 2 (by decide) dL_fieldFrom_19 ?_
      exact g_iret C hr rfl (Nat.le_of_ble_eq_true rfl) (Nat.le_of_ble_eq_true rfl) h dL_fieldFrom_20
    · refine g_catch C (name := "java/util/NoSuchElementException") [{ startPc := 0, endPc := 10, handlerPc := 13, catchType := 21 }, { startPc := 0, endPc := 10, handlerPc := 17, catchType := 13 }] { startPc := 0, endPc := 10, handlerPc := 21, catchType := 44 } [] (htab.trans rfl) (List.forall_mem_cons.mpr ⟨⟨by decide, "java/lang/IndexOutOfBoundsException", wcl_RL_21, by decide⟩, (List.forall_mem_cons.mpr ⟨⟨by decide, "java/lang/IllegalArgumentException", wcl_RL_13, by decide⟩, (fun z hz => by cases hz)⟩)⟩) (by decide) (by decide) wcl_RL_44 wcast_java_util_NoSuchElementException (fun q9 => ?_)
      refine g_astore C [(4, .ref q9), (0, .ref (L.2.1 6 0)), (1, .int L1), (2, .int L2), (3, .ref (L.2.1 50 0))] (Nat.le_of_ble_eq_true rfl) rfl dL_fieldFrom_21 ?_
      refine g_iconst C 3 (by decide) dL_fieldFrom_23 ?_
      exact g_iret C hr rfl (Nat.le_of_ble_eq_true rfl) (Nat.le_of_ble_eq_true rfl) h dL_fieldFrom_24
  · refine g_i2l C dL_fieldFrom_8 ?_
    refine g_lastore C dL_fieldFrom_9 ?_
    refine g_goto C 25 (by decide) dL_fieldFrom_10 ?_
    refine g_iconst C 0 (by decide) dL_fieldFrom_25 ?_
    exact g_iret C hr rfl (Nat.le_of_ble_eq_true rfl) (Nat.le_of_ble_eq_true rfl) h dL_fieldFrom_26
def TL_conflicts (L1 : Int32) (v : gMem) (Q : Int32 → gMem → Prop) (X : String → gMem → Prop) : Prop := (TX6_conflicts L1 v (fun r4 v4 => (Q 0 (gw v4 50 0 0 r4))) (fun E v4 => (E = "java/lang/IndexOutOfBoundsException" ∧ (Q 1 v4))))
theorem kL_conflicts (l : Launch) (hfl : l.stackTraces = false) (L : gL) (hL : gDist L) (L1 : Int32) (v : gMem) (Q : Int32 → gMem → Prop) (X : String → gMem → Prop) (h : TL_conflicts L1 v Q X) (sz : Nat) : vx_Met l yL_conflicts [.codeWith yL_conflicts cL_conflicts 4 (some .int) [(0, 9, 12, 21)]] ({ frames := 8, cells := 1, slots := 6, locals := 127 } : Room) (gPc L sz [.ref (L.2.1 6 0), .int L1, .ref (L.2.1 50 0)] v) (gQi L sz Q) (gXC L sz X) 1 6 (gA L sz) := by
  refine g_ofWH (by decide +kernel) hfl hL (Nat.le_of_ble_eq_true rfl) ?_
  intro p e s m args below meth c C hr htab
  refine g_sub [(0, .ref (L.2.1 6 0)), (1, .int L1), (2, .ref (L.2.1 50 0))] [0, 1, 2] rfl ?_
  unfold TL_conflicts at h
  refine g_aload_n C 2 rfl 2 rfl dL_conflicts_0 ?_
  refine g_iconst C 0 (by decide) dL_conflicts_1 ?_
  refine g_aload_n C 0 rfl 0 rfl dL_conflicts_2 ?_
  refine g_iload_n C 1 rfl 1 rfl dL_conflicts_3 ?_
  refine g_gcallVi C gok_6 rfl rfl [.int L1] (fun sz9 => kX6_conflicts l C.2.2.2.2.2.2.1 L C.2.2.2.2.2.2.2.1 L1 v _ _ h sz9) wml_RL_119 winst_X6_conflicts wsel_X6_conflicts wini_RX6 wcode_X6_conflicts rfl rfl (n := 1) (by decide +kernel) rfl ⟨(Nat.le_of_ble_eq_true rfl), (Nat.le_of_ble_eq_true rfl)⟩ ⟨(Nat.le_of_ble_eq_true rfl), (Nat.le_of_ble_eq_true rfl)⟩ (Nat.le_of_ble_eq_true rfl) dL_conflicts_4 (fun E v4 hx => ?_) (fun r4 v4 h => ?_)
  · obtain ⟨rfl, h⟩ := hx
    refine g_catch C (name := "java/lang/IndexOutOfBoundsException") [] { startPc := 0, endPc := 9, handlerPc := 12, catchType := 21 } [] (htab.trans rfl) (fun z hz => by cases hz) (by decide) (by decide) wcl_RL_21 wcast_java_lang_IndexOutOfBoundsException (fun q9 => ?_)
    refine g_astore_n C 3 rfl [(3, .ref q9), (0, .ref (L.2.1 6 0)), (1, .int L1), (2, .ref (L.2.1 50 0))] (Nat.le_of_ble_eq_true rfl) rfl dL_conflicts_12 ?_
    refine g_iconst C 1 (by decide) dL_conflicts_13 ?_
    exact g_iret C hr rfl (Nat.le_of_ble_eq_true rfl) (Nat.le_of_ble_eq_true rfl) h dL_conflicts_14
  · refine g_i2l C dL_conflicts_7 ?_
    refine g_lastore C dL_conflicts_8 ?_
    refine g_goto C 15 (by decide) dL_conflicts_9 ?_
    refine g_iconst C 0 (by decide) dL_conflicts_15 ?_
    exact g_iret C hr rfl (Nat.le_of_ble_eq_true rfl) (Nat.le_of_ble_eq_true rfl) h dL_conflicts_16
def TL_join (L1 : Int32) (L2 : Int32) (v : gMem) (Q : Int32 → gMem → Prop) (X : String → gMem → Prop) : Prop := (TX6_join L1 L2 v (fun r5 v5 => (Q 0 (gw v5 50 0 0 r5))) (fun E v5 => (E = "java/lang/IndexOutOfBoundsException" ∧ (Q 1 v5)) ∨ (E = "java/lang/IllegalStateException" ∧ (Q 2 v5))))
theorem kL_join (l : Launch) (hfl : l.stackTraces = false) (L : gL) (hL : gDist L) (L1 : Int32) (L2 : Int32) (v : gMem) (Q : Int32 → gMem → Prop) (X : String → gMem → Prop) (h : TL_join L1 L2 v Q X) (sz : Nat) : vx_Met l yL_join [.codeWith yL_join cL_join 5 (some .int) [(0, 10, 13, 21), (0, 10, 17, 15)]] ({ frames := 8, cells := 3, slots := 18, locals := 125 } : Room) (gPc L sz [.ref (L.2.1 6 0), .int L1, .int L2, .ref (L.2.1 50 0)] v) (gQi L sz Q) (gXC L sz X) 3 18 (gA L sz) := by
  refine g_ofWH (by decide +kernel) hfl hL (Nat.le_of_ble_eq_true rfl) ?_
  intro p e s m args below meth c C hr htab
  refine g_sub [(0, .ref (L.2.1 6 0)), (1, .int L1), (2, .int L2), (3, .ref (L.2.1 50 0))] [0, 1, 2, 3] rfl ?_
  unfold TL_join at h
  refine g_aload_n C 3 rfl 3 rfl dL_join_0 ?_
  refine g_iconst C 0 (by decide) dL_join_1 ?_
  refine g_aload_n C 0 rfl 0 rfl dL_join_2 ?_
  refine g_iload_n C 1 rfl 1 rfl dL_join_3 ?_
  refine g_iload_n C 2 rfl 2 rfl dL_join_4 ?_
  refine g_gcallVi C gok_6 rfl rfl [.int L1, .int L2] (fun sz9 => kX6_join l C.2.2.2.2.2.2.1 L C.2.2.2.2.2.2.2.1 L1 L2 v _ _ h sz9) wml_RL_122 winst_X6_join wsel_X6_join wini_RX6 wcode_X6_join rfl rfl (n := 2) (by decide +kernel) rfl ⟨(Nat.le_of_ble_eq_true rfl), (Nat.le_of_ble_eq_true rfl)⟩ ⟨(Nat.le_of_ble_eq_true rfl), (Nat.le_of_ble_eq_true rfl)⟩ (Nat.le_of_ble_eq_true rfl) dL_join_5 (fun E v5 hx => ?_) (fun r5 v5 h => ?_)
  · rcases hx with ⟨rfl, h⟩ | ⟨rfl, h⟩
    · refine g_catch C (name := "java/lang/IndexOutOfBoundsException") [] { startPc := 0, endPc := 10, handlerPc := 13, catchType := 21 } [{ startPc := 0, endPc := 10, handlerPc := 17, catchType := 15 }] (htab.trans rfl) (fun z hz => by cases hz) (by decide) (by decide) wcl_RL_21 wcast_java_lang_IndexOutOfBoundsException (fun q9 => ?_)
      refine g_astore C [(4, .ref q9), (0, .ref (L.2.1 6 0)), (1, .int L1), (2, .int L2), (3, .ref (L.2.1 50 0))] (Nat.le_of_ble_eq_true rfl) rfl dL_join_13 ?_
      refine g_iconst C 1 (by decide) dL_join_15 ?_
      exact g_iret C hr rfl (Nat.le_of_ble_eq_true rfl) (Nat.le_of_ble_eq_true rfl) h dL_join_16
    · refine g_catch C (name := "java/lang/IllegalStateException") [{ startPc := 0, endPc := 10, handlerPc := 13, catchType := 21 }] { startPc := 0, endPc := 10, handlerPc := 17, catchType := 15 } [] (htab.trans rfl) (List.forall_mem_cons.mpr ⟨⟨by decide, "java/lang/IndexOutOfBoundsException", wcl_RL_21, by decide⟩, (fun z hz => by cases hz)⟩) (by decide) (by decide) wcl_RL_15 wcast_java_lang_IllegalStateException (fun q9 => ?_)
      refine g_astore C [(4, .ref q9), (0, .ref (L.2.1 6 0)), (1, .int L1), (2, .int L2), (3, .ref (L.2.1 50 0))] (Nat.le_of_ble_eq_true rfl) rfl dL_join_17 ?_
      refine g_iconst C 2 (by decide) dL_join_19 ?_
      exact g_iret C hr rfl (Nat.le_of_ble_eq_true rfl) (Nat.le_of_ble_eq_true rfl) h dL_join_20
  · refine g_i2l C dL_join_8 ?_
    refine g_lastore C dL_join_9 ?_
    refine g_goto C 21 (by decide) dL_join_10 ?_
    refine g_iconst C 0 (by decide) dL_join_21 ?_
    exact g_iret C hr rfl (Nat.le_of_ble_eq_true rfl) (Nat.le_of_ble_eq_true rfl) h dL_join_22
def TL_leave (L1 : Int32) (L2 : Int32) (v : gMem) (Q : Int32 → gMem → Prop) (X : String → gMem → Prop) : Prop := (TX6_leave L1 L2 v (fun r5 v5 => (Q 0 (gw v5 50 0 0 r5))) (fun E v5 => (E = "java/lang/IndexOutOfBoundsException" ∧ (Q 1 v5)) ∨ (E = "java/util/NoSuchElementException" ∧ (Q 2 v5))))
theorem kL_leave (l : Launch) (hfl : l.stackTraces = false) (L : gL) (hL : gDist L) (L1 : Int32) (L2 : Int32) (v : gMem) (Q : Int32 → gMem → Prop) (X : String → gMem → Prop) (h : TL_leave L1 L2 v Q X) (sz : Nat) : vx_Met l yL_leave [.codeWith yL_leave cL_leave 5 (some .int) [(0, 10, 13, 21), (0, 10, 17, 44)]] ({ frames := 8, cells := 3, slots := 18, locals := 125 } : Room) (gPc L sz [.ref (L.2.1 6 0), .int L1, .int L2, .ref (L.2.1 50 0)] v) (gQi L sz Q) (gXC L sz X) 3 18 (gA L sz) := by
  refine g_ofWH (by decide +kernel) hfl hL (Nat.le_of_ble_eq_true rfl) ?_
  intro p e s m args below meth c C hr htab
  refine g_sub [(0, .ref (L.2.1 6 0)), (1, .int L1), (2, .int L2), (3, .ref (L.2.1 50 0))] [0, 1, 2, 3] rfl ?_
  unfold TL_leave at h
  refine g_aload_n C 3 rfl 3 rfl dL_leave_0 ?_
  refine g_iconst C 0 (by decide) dL_leave_1 ?_
  refine g_aload_n C 0 rfl 0 rfl dL_leave_2 ?_
  refine g_iload_n C 1 rfl 1 rfl dL_leave_3 ?_
  refine g_iload_n C 2 rfl 2 rfl dL_leave_4 ?_
  refine g_gcallVi C gok_6 rfl rfl [.int L1, .int L2] (fun sz9 => kX6_leave l C.2.2.2.2.2.2.1 L C.2.2.2.2.2.2.2.1 L1 L2 v _ _ h sz9) wml_RL_125 winst_X6_leave wsel_X6_leave wini_RX6 wcode_X6_leave rfl rfl (n := 2) (by decide +kernel) rfl ⟨(Nat.le_of_ble_eq_true rfl), (Nat.le_of_ble_eq_true rfl)⟩ ⟨(Nat.le_of_ble_eq_true rfl), (Nat.le_of_ble_eq_true rfl)⟩ (Nat.le_of_ble_eq_true rfl) dL_leave_5 (fun E v5 hx => ?_) (fun r5 v5 h => ?_)
  · rcases hx with ⟨rfl, h⟩ | ⟨rfl, h⟩
    · refine g_catch C (name := "java/lang/IndexOutOfBoundsException") [] { startPc := 0, endPc := 10, handlerPc := 13, catchType := 21 } [{ startPc := 0, endPc := 10, handlerPc := 17, catchType := 44 }] (htab.trans rfl) (fun z hz => by cases hz) (by decide) (by decide) wcl_RL_21 wcast_java_lang_IndexOutOfBoundsException (fun q9 => ?_)
      refine g_astore C [(4, .ref q9), (0, .ref (L.2.1 6 0)), (1, .int L1), (2, .int L2), (3, .ref (L.2.1 50 0))] (Nat.le_of_ble_eq_true rfl) rfl dL_leave_13 ?_
      refine g_iconst C 1 (by decide) dL_leave_15 ?_
      exact g_iret C hr rfl (Nat.le_of_ble_eq_true rfl) (Nat.le_of_ble_eq_true rfl) h dL_leave_16
    · refine g_catch C (name := "java/util/NoSuchElementException") [{ startPc := 0, endPc := 10, handlerPc := 13, catchType := 21 }] { startPc := 0, endPc := 10, handlerPc := 17, catchType := 44 } [] (htab.trans rfl) (List.forall_mem_cons.mpr ⟨⟨by decide, "java/lang/IndexOutOfBoundsException", wcl_RL_21, by decide⟩, (fun z hz => by cases hz)⟩) (by decide) (by decide) wcl_RL_44 wcast_java_util_NoSuchElementException (fun q9 => ?_)
      refine g_astore C [(4, .ref q9), (0, .ref (L.2.1 6 0)), (1, .int L1), (2, .int L2), (3, .ref (L.2.1 50 0))] (Nat.le_of_ble_eq_true rfl) rfl dL_leave_17 ?_
      refine g_iconst C 2 (by decide) dL_leave_19 ?_
      exact g_iret C hr rfl (Nat.le_of_ble_eq_true rfl) (Nat.le_of_ble_eq_true rfl) h dL_leave_20
  · refine g_i2l C dL_leave_8 ?_
    refine g_lastore C dL_leave_9 ?_
    refine g_goto C 21 (by decide) dL_leave_10 ?_
    refine g_iconst C 0 (by decide) dL_leave_21 ?_
    exact g_iret C hr rfl (Nat.le_of_ble_eq_true rfl) (Nat.le_of_ble_eq_true rfl) h dL_leave_22
def TL_isIn (L1 : Int32) (L2 : Int32) (v : gMem) (Q : Int32 → gMem → Prop) (X : String → gMem → Prop) : Prop := (TX6_isIn L1 L2 v (fun r5 v5 => ((r5 = 0 → (Q 0 (gw v5 50 0 0 0))) ∧ (¬ r5 = 0 → (Q 0 (gw v5 50 0 0 1))))) (fun E v5 => (E = "java/lang/IndexOutOfBoundsException" ∧ (Q 1 v5))))
theorem kL_isIn (l : Launch) (hfl : l.stackTraces = false) (L : gL) (hL : gDist L) (L1 : Int32) (L2 : Int32) (v : gMem) (Q : Int32 → gMem → Prop) (X : String → gMem → Prop) (h : TL_isIn L1 L2 v Q X) (sz : Nat) : vx_Met l yL_isIn [.codeWith yL_isIn cL_isIn 5 (some .int) [(0, 17, 20, 21)]] ({ frames := 8, cells := 2, slots := 12, locals := 125 } : Room) (gPc L sz [.ref (L.2.1 6 0), .int L1, .int L2, .ref (L.2.1 50 0)] v) (gQi L sz Q) (gXC L sz X) 2 12 (gA L sz) := by
  refine g_ofWH (by decide +kernel) hfl hL (Nat.le_of_ble_eq_true rfl) ?_
  intro p e s m args below meth c C hr htab
  refine g_sub [(0, .ref (L.2.1 6 0)), (1, .int L1), (2, .int L2), (3, .ref (L.2.1 50 0))] [0, 1, 2, 3] rfl ?_
  unfold TL_isIn at h
  refine g_aload_n C 3 rfl 3 rfl dL_isIn_0 ?_
  refine g_iconst C 0 (by decide) dL_isIn_1 ?_
  refine g_aload_n C 0 rfl 0 rfl dL_isIn_2 ?_
  refine g_iload_n C 1 rfl 1 rfl dL_isIn_3 ?_
  refine g_iload_n C 2 rfl 2 rfl dL_isIn_4 ?_
  refine g_gcallVi C gok_6 rfl rfl [.int L1, .int L2] (fun sz9 => kX6_isIn l C.2.2.2.2.2.2.1 L C.2.2.2.2.2.2.2.1 L1 L2 v _ _ h sz9) wml_RL_128 winst_X6_isIn wsel_X6_isIn wini_RX6 wcode_X6_isIn rfl rfl (n := 2) (by decide +kernel) rfl ⟨(Nat.le_of_ble_eq_true rfl), (Nat.le_of_ble_eq_true rfl)⟩ ⟨(Nat.le_of_ble_eq_true rfl), (Nat.le_of_ble_eq_true rfl)⟩ (Nat.le_of_ble_eq_true rfl) dL_isIn_5 (fun E v5 hx => ?_) (fun r5 v5 h => ?_)
  · obtain ⟨rfl, h⟩ := hx
    refine g_catch C (name := "java/lang/IndexOutOfBoundsException") [] { startPc := 0, endPc := 17, handlerPc := 20, catchType := 21 } [] (htab.trans rfl) (fun z hz => by cases hz) (by decide) (by decide) wcl_RL_21 wcast_java_lang_IndexOutOfBoundsException (fun q9 => ?_)
    refine g_astore C [(4, .ref q9), (0, .ref (L.2.1 6 0)), (1, .int L1), (2, .int L2), (3, .ref (L.2.1 50 0))] (Nat.le_of_ble_eq_true rfl) rfl dL_isIn_20 ?_
    refine g_iconst C 1 (by decide) dL_isIn_22 ?_
    exact g_iret C hr rfl (Nat.le_of_ble_eq_true rfl) (Nat.le_of_ble_eq_true rfl) h dL_isIn_23
  · refine g_if_eq C 15 (by decide) dL_isIn_8 (fun hc => ?_) (fun hc => ?_)
    · replace h := h.1 hc
      refine g_lconst C 0 (by decide) dL_isIn_15 ?_
      refine g_lastore C dL_isIn_16 ?_
      refine g_goto C 24 (by decide) dL_isIn_17 ?_
      refine g_iconst C 0 (by decide) dL_isIn_24 ?_
      exact g_iret C hr rfl (Nat.le_of_ble_eq_true rfl) (Nat.le_of_ble_eq_true rfl) h dL_isIn_25
    · replace h := h.2 hc
      refine g_lconst C 1 (by decide) dL_isIn_11 ?_
      refine g_goto C 16 (by decide) dL_isIn_12 ?_
      refine g_lastore C dL_isIn_16 ?_
      refine g_goto C 24 (by decide) dL_isIn_17 ?_
      refine g_iconst C 0 (by decide) dL_isIn_24 ?_
      exact g_iret C hr rfl (Nat.le_of_ble_eq_true rfl) (Nat.le_of_ble_eq_true rfl) h dL_isIn_25
def TL_personsIn (L1 : Int32) (v : gMem) (Q : Int32 → gMem → Prop) (X : String → gMem → Prop) : Prop := (TX6_personsIn L1 v (fun r4 v4 => (Q 0 (gw v4 50 0 0 r4))) (fun E v4 => (E = "java/lang/IndexOutOfBoundsException" ∧ (Q 1 v4))))
theorem kL_personsIn (l : Launch) (hfl : l.stackTraces = false) (L : gL) (hL : gDist L) (L1 : Int32) (v : gMem) (Q : Int32 → gMem → Prop) (X : String → gMem → Prop) (h : TL_personsIn L1 v Q X) (sz : Nat) : vx_Met l yL_personsIn [.codeWith yL_personsIn cL_personsIn 4 (some .int) [(0, 9, 12, 21)]] ({ frames := 8, cells := 1, slots := 6, locals := 124 } : Room) (gPc L sz [.ref (L.2.1 6 0), .int L1, .ref (L.2.1 50 0)] v) (gQi L sz Q) (gXC L sz X) 1 6 (gA L sz) := by
  refine g_ofWH (by decide +kernel) hfl hL (Nat.le_of_ble_eq_true rfl) ?_
  intro p e s m args below meth c C hr htab
  refine g_sub [(0, .ref (L.2.1 6 0)), (1, .int L1), (2, .ref (L.2.1 50 0))] [0, 1, 2] rfl ?_
  unfold TL_personsIn at h
  refine g_aload_n C 2 rfl 2 rfl dL_personsIn_0 ?_
  refine g_iconst C 0 (by decide) dL_personsIn_1 ?_
  refine g_aload_n C 0 rfl 0 rfl dL_personsIn_2 ?_
  refine g_iload_n C 1 rfl 1 rfl dL_personsIn_3 ?_
  refine g_gcallVi C gok_6 rfl rfl [.int L1] (fun sz9 => kX6_personsIn l C.2.2.2.2.2.2.1 L C.2.2.2.2.2.2.2.1 L1 v _ _ h sz9) wml_RL_132 winst_X6_personsIn wsel_X6_personsIn wini_RX6 wcode_X6_personsIn rfl rfl (n := 1) (by decide +kernel) rfl ⟨(Nat.le_of_ble_eq_true rfl), (Nat.le_of_ble_eq_true rfl)⟩ ⟨(Nat.le_of_ble_eq_true rfl), (Nat.le_of_ble_eq_true rfl)⟩ (Nat.le_of_ble_eq_true rfl) dL_personsIn_4 (fun E v4 hx => ?_) (fun r4 v4 h => ?_)
  · obtain ⟨rfl, h⟩ := hx
    refine g_catch C (name := "java/lang/IndexOutOfBoundsException") [] { startPc := 0, endPc := 9, handlerPc := 12, catchType := 21 } [] (htab.trans rfl) (fun z hz => by cases hz) (by decide) (by decide) wcl_RL_21 wcast_java_lang_IndexOutOfBoundsException (fun q9 => ?_)
    refine g_astore_n C 3 rfl [(3, .ref q9), (0, .ref (L.2.1 6 0)), (1, .int L1), (2, .ref (L.2.1 50 0))] (Nat.le_of_ble_eq_true rfl) rfl dL_personsIn_12 ?_
    refine g_iconst C 1 (by decide) dL_personsIn_13 ?_
    exact g_iret C hr rfl (Nat.le_of_ble_eq_true rfl) (Nat.le_of_ble_eq_true rfl) h dL_personsIn_14
  · refine g_i2l C dL_personsIn_7 ?_
    refine g_lastore C dL_personsIn_8 ?_
    refine g_goto C 15 (by decide) dL_personsIn_9 ?_
    refine g_iconst C 0 (by decide) dL_personsIn_15 ?_
    exact g_iret C hr rfl (Nat.le_of_ble_eq_true rfl) (Nat.le_of_ble_eq_true rfl) h dL_personsIn_16
def TL_type (L1 : Int32) (v : gMem) (Q : Int32 → gMem → Prop) (X : String → gMem → Prop) : Prop := (TX6_type L1 v (fun r4 v4 => (Q 0 (gw v4 50 0 0 r4))) (fun E v4 => (E = "java/lang/IllegalArgumentException" ∧ (Q 1 v4)) ∨ (E = "java/lang/IllegalStateException" ∧ (Q 2 v4))))
theorem kL_type (l : Launch) (hfl : l.stackTraces = false) (L : gL) (hL : gDist L) (L1 : Int32) (v : gMem) (Q : Int32 → gMem → Prop) (X : String → gMem → Prop) (h : TL_type L1 v Q X) (sz : Nat) : vx_Met l yL_type [.codeWith yL_type cL_type 4 (some .int) [(0, 9, 12, 13), (0, 9, 15, 15)]] ({ frames := 8, cells := 2, slots := 12, locals := 125 } : Room) (gPc L sz [.ref (L.2.1 6 0), .int L1, .ref (L.2.1 50 0)] v) (gQi L sz Q) (gXC L sz X) 2 12 (gA L sz) := by
  refine g_ofWH (by decide +kernel) hfl hL (Nat.le_of_ble_eq_true rfl) ?_
  intro p e s m args below meth c C hr htab
  refine g_sub [(0, .ref (L.2.1 6 0)), (1, .int L1), (2, .ref (L.2.1 50 0))] [0, 1, 2] rfl ?_
  unfold TL_type at h
  refine g_aload_n C 2 rfl 2 rfl dL_type_0 ?_
  refine g_iconst C 0 (by decide) dL_type_1 ?_
  refine g_aload_n C 0 rfl 0 rfl dL_type_2 ?_
  refine g_iload_n C 1 rfl 1 rfl dL_type_3 ?_
  refine g_gcallVi C gok_6 rfl rfl [.int L1] (fun sz9 => kX6_type l C.2.2.2.2.2.2.1 L C.2.2.2.2.2.2.2.1 L1 v _ _ h sz9) wml_RL_135 winst_X6_type wsel_X6_type wini_RX6 wcode_X6_type rfl rfl (n := 1) (by decide +kernel) rfl ⟨(Nat.le_of_ble_eq_true rfl), (Nat.le_of_ble_eq_true rfl)⟩ ⟨(Nat.le_of_ble_eq_true rfl), (Nat.le_of_ble_eq_true rfl)⟩ (Nat.le_of_ble_eq_true rfl) dL_type_4 (fun E v4 hx => ?_) (fun r4 v4 h => ?_)
  · rcases hx with ⟨rfl, h⟩ | ⟨rfl, h⟩
    · refine g_catch C (name := "java/lang/IllegalArgumentException") [] { startPc := 0, endPc := 9, handlerPc := 12, catchType := 13 } [{ startPc := 0, endPc := 9, handlerPc := 15, catchType := 15 }] (htab.trans rfl) (fun z hz => by cases hz) (by decide) (by decide) wcl_RL_13 wcast_java_lang_IllegalArgumentException (fun q9 => ?_)
      refine g_astore_n C 3 rfl [(3, .ref q9), (0, .ref (L.2.1 6 0)), (1, .int L1), (2, .ref (L.2.1 50 0))] (Nat.le_of_ble_eq_true rfl) rfl dL_type_12 ?_
      refine g_iconst C 1 (by decide) dL_type_13 ?_
      exact g_iret C hr rfl (Nat.le_of_ble_eq_true rfl) (Nat.le_of_ble_eq_true rfl) h dL_type_14
    · refine g_catch C (name := "java/lang/IllegalStateException") [{ startPc := 0, endPc := 9, handlerPc := 12, catchType := 13 }] { startPc := 0, endPc := 9, handlerPc := 15, catchType := 15 } [] (htab.trans rfl) (List.forall_mem_cons.mpr ⟨⟨by decide, "java/lang/IllegalArgumentException", wcl_RL_13, by decide⟩, (fun z hz => by cases hz)⟩) (by decide) (by decide) wcl_RL_15 wcast_java_lang_IllegalStateException (fun q9 => ?_)
      refine g_astore_n C 3 rfl [(3, .ref q9), (0, .ref (L.2.1 6 0)), (1, .int L1), (2, .ref (L.2.1 50 0))] (Nat.le_of_ble_eq_true rfl) rfl dL_type_15 ?_
      refine g_iconst C 2 (by decide) dL_type_16 ?_
      exact g_iret C hr rfl (Nat.le_of_ble_eq_true rfl) (Nat.le_of_ble_eq_true rfl) h dL_type_17
  · refine g_i2l C dL_type_7 ?_
    refine g_lastore C dL_type_8 ?_
    refine g_goto C 18 (by decide) dL_type_9 ?_
    refine g_iconst C 0 (by decide) dL_type_18 ?_
    exact g_iret C hr rfl (Nat.le_of_ble_eq_true rfl) (Nat.le_of_ble_eq_true rfl) h dL_type_19
def TL_foundAt (L1 : Int32) (L2 : Int32) (v : gMem) (Q : Int32 → gMem → Prop) (X : String → gMem → Prop) : Prop := (TX6_foundAt L1 L2 v (fun r5 v5 => (Q 0 (gw v5 50 0 0 r5))) (fun E v5 => (E = "java/util/NoSuchElementException" ∧ (Q 1 v5))))
theorem kL_foundAt (l : Launch) (hfl : l.stackTraces = false) (L : gL) (hL : gDist L) (L1 : Int32) (L2 : Int32) (v : gMem) (Q : Int32 → gMem → Prop) (X : String → gMem → Prop) (h : TL_foundAt L1 L2 v Q X) (sz : Nat) : vx_Met l yL_foundAt [.codeWith yL_foundAt cL_foundAt 5 (some .int) [(0, 10, 13, 44)]] ({ frames := 7, cells := 1, slots := 6, locals := 117 } : Room) (gPc L sz [.ref (L.2.1 6 0), .int L1, .int L2, .ref (L.2.1 50 0)] v) (gQi L sz Q) (gXC L sz X) 1 6 (gA L sz) := by
  refine g_ofWH (by decide +kernel) hfl hL (Nat.le_of_ble_eq_true rfl) ?_
  intro p e s m args below meth c C hr htab
  refine g_sub [(0, .ref (L.2.1 6 0)), (1, .int L1), (2, .int L2), (3, .ref (L.2.1 50 0))] [0, 1, 2, 3] rfl ?_
  unfold TL_foundAt at h
  refine g_aload_n C 3 rfl 3 rfl dL_foundAt_0 ?_
  refine g_iconst C 0 (by decide) dL_foundAt_1 ?_
  refine g_aload_n C 0 rfl 0 rfl dL_foundAt_2 ?_
  refine g_iload_n C 1 rfl 1 rfl dL_foundAt_3 ?_
  refine g_iload_n C 2 rfl 2 rfl dL_foundAt_4 ?_
  refine g_gcallVi C gok_6 rfl rfl [.int L1, .int L2] (fun sz9 => kX6_foundAt l C.2.2.2.2.2.2.1 L C.2.2.2.2.2.2.2.1 L1 L2 v _ _ h sz9) wml_RL_139 winst_X6_foundAt wsel_X6_foundAt wini_RX6 wcode_X6_foundAt rfl rfl (n := 2) (by decide +kernel) rfl ⟨(Nat.le_of_ble_eq_true rfl), (Nat.le_of_ble_eq_true rfl)⟩ ⟨(Nat.le_of_ble_eq_true rfl), (Nat.le_of_ble_eq_true rfl)⟩ (Nat.le_of_ble_eq_true rfl) dL_foundAt_5 (fun E v5 hx => ?_) (fun r5 v5 h => ?_)
  · obtain ⟨rfl, h⟩ := hx
    refine g_catch C (name := "java/util/NoSuchElementException") [] { startPc := 0, endPc := 10, handlerPc := 13, catchType := 44 } [] (htab.trans rfl) (fun z hz => by cases hz) (by decide) (by decide) wcl_RL_44 wcast_java_util_NoSuchElementException (fun q9 => ?_)
    refine g_astore C [(4, .ref q9), (0, .ref (L.2.1 6 0)), (1, .int L1), (2, .int L2), (3, .ref (L.2.1 50 0))] (Nat.le_of_ble_eq_true rfl) rfl dL_foundAt_13 ?_
    refine g_iconst C 1 (by decide) dL_foundAt_15 ?_
    exact g_iret C hr rfl (Nat.le_of_ble_eq_true rfl) (Nat.le_of_ble_eq_true rfl) h dL_foundAt_16
  · refine g_i2l C dL_foundAt_8 ?_
    refine g_lastore C dL_foundAt_9 ?_
    refine g_goto C 17 (by decide) dL_foundAt_10 ?_
    refine g_iconst C 0 (by decide) dL_foundAt_17 ?_
    exact g_iret C hr rfl (Nat.le_of_ble_eq_true rfl) (Nat.le_of_ble_eq_true rfl) h dL_foundAt_18
def TL_mergedShare (v : gMem) (Q : Int32 → gMem → Prop) (X : String → gMem → Prop) : Prop := (TX6_mergedShare v (fun r3 v3 => (vf_n64 (FP.f2d r3) ∧ (Q 0 (gw v3 51 0 0 (UInt32.toInt32 r3))))) (fun E v3 => (E = "java/util/NoSuchElementException" ∧ (Q 1 v3))))
theorem kL_mergedShare (l : Launch) (hfl : l.stackTraces = false) (L : gL) (hL : gDist L) (v : gMem) (Q : Int32 → gMem → Prop) (X : String → gMem → Prop) (h : TL_mergedShare v Q X) (sz : Nat) : vx_Met l yL_mergedShare [.codeWith yL_mergedShare cL_mergedShare 3 (some .int) [(0, 8, 11, 44)]] ({ frames := 7, cells := 1, slots := 6, locals := 104 } : Room) (gPc L sz [.ref (L.2.1 6 0), .ref (L.2.1 51 0)] v) (gQi L sz Q) (gXC L sz X) 1 6 (gA L sz) := by
  refine g_ofWH (by decide +kernel) hfl hL (Nat.le_of_ble_eq_true rfl) ?_
  intro p e s m args below meth c C hr htab
  refine g_sub [(0, .ref (L.2.1 6 0)), (1, .ref (L.2.1 51 0))] [0, 1] rfl ?_
  unfold TL_mergedShare at h
  refine g_aload_n C 1 rfl 1 rfl dL_mergedShare_0 ?_
  refine g_iconst C 0 (by decide) dL_mergedShare_1 ?_
  refine g_aload_n C 0 rfl 0 rfl dL_mergedShare_2 ?_
  refine g_gcallVf C gok_6 rfl rfl [] (fun sz9 => kX6_mergedShare l C.2.2.2.2.2.2.1 L C.2.2.2.2.2.2.2.1 v _ _ h sz9) wml_RL_143 winst_X6_mergedShare wsel_X6_mergedShare wini_RX6 wcode_X6_mergedShare rfl rfl (n := 0) (by decide +kernel) rfl ⟨(Nat.le_of_ble_eq_true rfl), (Nat.le_of_ble_eq_true rfl)⟩ ⟨(Nat.le_of_ble_eq_true rfl), (Nat.le_of_ble_eq_true rfl)⟩ (Nat.le_of_ble_eq_true rfl) dL_mergedShare_3 (fun E v3 hx => ?_) (fun r3 v3 h => ?_)
  · obtain ⟨rfl, h⟩ := hx
    refine g_catch C (name := "java/util/NoSuchElementException") [] { startPc := 0, endPc := 8, handlerPc := 11, catchType := 44 } [] (htab.trans rfl) (fun z hz => by cases hz) (by decide) (by decide) wcl_RL_44 wcast_java_util_NoSuchElementException (fun q9 => ?_)
    refine g_astore_n C 2 rfl [(2, .ref q9), (0, .ref (L.2.1 6 0)), (1, .ref (L.2.1 51 0))] (Nat.le_of_ble_eq_true rfl) rfl dL_mergedShare_11 ?_
    refine g_iconst C 1 (by decide) dL_mergedShare_12 ?_
    exact g_iret C hr rfl (Nat.le_of_ble_eq_true rfl) (Nat.le_of_ble_eq_true rfl) h dL_mergedShare_13
  · obtain ⟨hb6, h⟩ := h
    refine g_f2d C hb6 dL_mergedShare_6 ?_
    refine g_dastore C dL_mergedShare_7 ?_
    refine g_goto C 14 (by decide) dL_mergedShare_8 ?_
    refine g_iconst C 0 (by decide) dL_mergedShare_14 ?_
    exact g_iret C hr rfl (Nat.le_of_ble_eq_true rfl) (Nat.le_of_ble_eq_true rfl) h dL_mergedShare_15
end
