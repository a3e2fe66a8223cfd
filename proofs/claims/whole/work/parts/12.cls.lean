section
variable {p : Program} {l : Launch} {e : Env} {s : State} {m : MethodId} {args : Array Value} {below : List Frame} {meth : Method} {c : Code} {L : gL} {sz : Nat}
def BX6_lowestOf_2 (I2 : Int32 → gMem → Prop) (L0 : Int32) (L1 : Int32) (v : gMem) (Q : Int32 → gMem → Prop) (X : String → gMem → Prop) : Prop := ((16 ≤ L1 → (Q (-1) v)) ∧ (¬ 16 ≤ L1 → (TX6_contains L0 L1 v (fun r10 v10 => ((r10 = 0 → (I2 (L1 + 1) v10)) ∧ (¬ r10 = 0 → (Q L1 v10)))) X)))
theorem sX6_lowestOf_2 (C : gC p l s m args meth c cX6_lowestOf 2 RX6 L sz) (hr : meth.sig.returnType = (some .int)) (hno : ∀ x ∈ c.exceptionTable.toList, False) {L0 : Int32} {L1 : Int32} {v : gMem} {Q : Int32 → gMem → Prop} {X : String → gMem → Prop} {I2 : Int32 → gMem → Prop} (hI2 : ∀ (L1 : Int32) (v : gMem), I2 L1 v → gS p l e ({ frames := 1, cells := 0, slots := 0, locals := 21 } : Room) s m args below meth c 2 L sz (vx_MQ below (gQi L sz Q) (gXC L sz X) args s 0 0 (gA L sz)) 0 0 2 [(0, .int L0), (1, .int L1)] [] v) (h : BX6_lowestOf_2 I2 L0 L1 v Q X) : gS p l e ({ frames := 1, cells := 0, slots := 0, locals := 21 } : Room) s m args below meth c 2 L sz (vx_MQ below (gQi L sz Q) (gXC L sz X) args s 0 0 (gA L sz)) 0 0 2 [(0, .int L0), (1, .int L1)] [] v := by
  unfold BX6_lowestOf_2 at h
  refine g_iload_n C 1 rfl 1 rfl dX6_lowestOf_2 ?_
  refine g_bipush C 16 (by decide) dX6_lowestOf_3 ?_
  refine g_icmp_ge C 24 (by decide) dX6_lowestOf_5 (fun hc => ?_) (fun hc => ?_)
  · replace h := h.1 hc
    refine g_iconst C (-1) (by decide) dX6_lowestOf_24 ?_
    exact g_iret C hr rfl (Nat.le_of_ble_eq_true rfl) (Nat.le_of_ble_eq_true rfl) h dX6_lowestOf_25
  · replace h := h.2 hc
    refine g_iload_n C 0 rfl 0 rfl dX6_lowestOf_8 ?_
    refine g_iload_n C 1 rfl 1 rfl dX6_lowestOf_9 ?_
    refine g_callSi C hno [.int L0, .int L1] (fun sz9 => kX6_contains l C.2.2.2.2.2.2.1 L C.2.2.2.2.2.2.2.1 L0 L1 v _ X h sz9) wml_RX6_287 wstat_X6_contains wini_RX6 wcode_X6_contains rfl rfl (n := 2) (by decide +kernel) rfl ⟨(Nat.le_of_ble_eq_true rfl), (Nat.le_of_ble_eq_true rfl)⟩ ⟨(Nat.le_of_ble_eq_true rfl), (Nat.le_of_ble_eq_true rfl)⟩ ⟨(Nat.le_of_ble_eq_true rfl), (Nat.le_of_ble_eq_true rfl)⟩ (Nat.le_of_ble_eq_true rfl) dX6_lowestOf_10 (fun r10 v10 h => ?_)
    refine g_if_eq C 18 (by decide) dX6_lowestOf_13 (fun hc => ?_) (fun hc => ?_)
    · replace h := h.1 hc
      refine g_iinc C (k := 1) (L1 + 1) [(1, .int (L1 + 1)), (0, .int L0)] rfl rfl (Nat.le_of_ble_eq_true rfl) rfl dX6_lowestOf_18 ?_
      refine g_goto C 2 (by decide) dX6_lowestOf_21 ?_
      refine g_sub [(0, .int L0), (1, .int (L1 + 1))] [1, 0] rfl ?_
      exact hI2 _ _ h
    · replace h := h.2 hc
      refine g_iload_n C 1 rfl 1 rfl dX6_lowestOf_16 ?_
      exact g_iret C hr rfl (Nat.le_of_ble_eq_true rfl) (Nat.le_of_ble_eq_true rfl) h dX6_lowestOf_17
def LX6_lowestOf_2 (L0 : Int32) (L1 : Int32) (v : gMem) (Q : Int32 → gMem → Prop) (X : String → gMem → Prop) : Prop := ∀ I2 : Int32 → gMem → Prop, (∀ (L1 : Int32) (v : gMem), BX6_lowestOf_2 I2 L0 L1 v Q X → I2 L1 v) → I2 L1 v
theorem slX6_lowestOf_2 (C : gC p l s m args meth c cX6_lowestOf 2 RX6 L sz) (hr : meth.sig.returnType = (some .int)) (hno : ∀ x ∈ c.exceptionTable.toList, False) {L0 : Int32} {L1 : Int32} {v : gMem} {Q : Int32 → gMem → Prop} {X : String → gMem → Prop} (h : LX6_lowestOf_2 L0 L1 v Q X) : gS p l e ({ frames := 1, cells := 0, slots := 0, locals := 21 } : Room) s m args below meth c 2 L sz (vx_MQ below (gQi L sz Q) (gXC L sz X) args s 0 0 (gA L sz)) 0 0 2 [(0, .int L0), (1, .int L1)] [] v := by
  refine h (fun L1 v => gS p l e ({ frames := 1, cells := 0, slots := 0, locals := 21 } : Room) s m args below meth c 2 L sz (vx_MQ below (gQi L sz Q) (gXC L sz X) args s 0 0 (gA L sz)) 0 0 2 [(0, .int L0), (1, .int L1)] [] v) (fun L1 v hb => ?_)
  exact sX6_lowestOf_2 C hr hno (fun _ _ hs => hs) hb
def TX6_lowestOf (L0 : Int32) (v : gMem) (Q : Int32 → gMem → Prop) (X : String → gMem → Prop) : Prop := (LX6_lowestOf_2 L0 0 v Q X)
theorem kX6_lowestOf (l : Launch) (hfl : l.stackTraces = false) (L : gL) (hL : gDist L) (L0 : Int32) (v : gMem) (Q : Int32 → gMem → Prop) (X : String → gMem → Prop) (h : TX6_lowestOf L0 v Q X) (sz : Nat) : vx_Met l yX6_lowestOf [.code yX6_lowestOf cX6_lowestOf 2 (some .int)] ({ frames := 1, cells := 0, slots := 0, locals := 21 } : Room) (gPc L sz [.int L0] v) (gQi L sz Q) (gXC L sz X) 0 0 (gA L sz) := by
  refine g_ofW (by decide +kernel) hfl hL (Nat.le_of_ble_eq_true rfl) ?_
  intro p e s m args below meth c C hr hno
  refine g_sub [(0, .int L0)] [0] rfl ?_
  unfold TX6_lowestOf at h
  refine g_iconst C 0 (by decide) dX6_lowestOf_0 ?_
  refine g_istore_n C 1 rfl [(1, .int 0), (0, .int L0)] (Nat.le_of_ble_eq_true rfl) rfl dX6_lowestOf_1 ?_
  refine g_sub [(0, .int L0), (1, .int 0)] [1, 0] rfl ?_
  exact slX6_lowestOf_2 C hr hno h
def TX6_barOne (L1 : Int32) (L2 : Int32) (v : gMem) (Q : Int32 → gMem → Prop) (X : String → gMem → Prop) : Prop := (TX6_requireCards L1 L2 v (fun v3 => (TX6_barsBetween L1 L2 v3 (fun r9 v9 => (TX6_requireBars r9 v9 (fun v15 => (TX6_lowestOf r9 v15 (fun r19 v19 => (Q r19 v19)) X)) X)) X)) X)
theorem kX6_barOne (l : Launch) (hfl : l.stackTraces = false) (L : gL) (hL : gDist L) (L1 : Int32) (L2 : Int32) (v : gMem) (Q : Int32 → gMem → Prop) (X : String → gMem → Prop) (h : TX6_barOne L1 L2 v Q X) (sz : Nat) : vx_Met l yX6_barOne [.code yX6_barOne cX6_barOne 4 (some .int)] ({ frames := 8, cells := 3, slots := 18, locals := 125 } : Room) (gPc L sz [.ref (L.2.1 6 0), .int L1, .int L2] v) (gQi L sz Q) (gXC L sz X) 3 18 (gA L sz) := by
  refine g_ofW (by decide +kernel) hfl hL (Nat.le_of_ble_eq_true rfl) ?_
  intro p e s m args below meth c C hr hno
  refine g_sub [(0, .ref (L.2.1 6 0)), (1, .int L1), (2, .int L2)] [0, 1, 2] rfl ?_
  unfold TX6_barOne at h
  refine g_aload_n C 0 rfl 0 rfl dX6_barOne_0 ?_
  refine g_iload_n C 1 rfl 1 rfl dX6_barOne_1 ?_
  refine g_iload_n C 2 rfl 2 rfl dX6_barOne_2 ?_
  refine g_callVv C hno gok_6 rfl rfl [.int L1, .int L2] (fun sz9 => kX6_requireCards l C.2.2.2.2.2.2.1 L C.2.2.2.2.2.2.2.1 L1 L2 v _ X h sz9) wml_RX6_153 winst_X6_requireCards wsel_X6_requireCards wini_RX6 wcode_X6_requireCards rfl rfl (n := 2) (by decide +kernel) rfl ⟨(Nat.le_of_ble_eq_true rfl), (Nat.le_of_ble_eq_true rfl)⟩ ⟨(Nat.le_of_ble_eq_true rfl), (Nat.le_of_ble_eq_true rfl)⟩ ⟨(Nat.le_of_ble_eq_true rfl), (Nat.le_of_ble_eq_true rfl)⟩ (Nat.le_of_ble_eq_true rfl) dX6_barOne_3 (fun v3 h => ?_)
  refine g_aload_n C 0 rfl 0 rfl dX6_barOne_6 ?_
  refine g_iload_n C 1 rfl 1 rfl dX6_barOne_7 ?_
  refine g_iload_n C 2 rfl 2 rfl dX6_barOne_8 ?_
  refine g_callVi C hno gok_6 rfl rfl [.int L1, .int L2] (fun sz9 => kX6_barsBetween l C.2.2.2.2.2.2.1 L C.2.2.2.2.2.2.2.1 L1 L2 v3 _ X h sz9) wml_RX6_213 winst_X6_barsBetween wsel_X6_barsBetween wini_RX6 wcode_X6_barsBetween rfl rfl (n := 2) (by decide +kernel) rfl ⟨(Nat.le_of_ble_eq_true rfl), (Nat.le_of_ble_eq_true rfl)⟩ ⟨(Nat.le_of_ble_eq_true rfl), (Nat.le_of_ble_eq_true rfl)⟩ ⟨(Nat.le_of_ble_eq_true rfl), (Nat.le_of_ble_eq_true rfl)⟩ (Nat.le_of_ble_eq_true rfl) dX6_barOne_9 (fun r9 v9 h => ?_)
  refine g_istore_n C 3 rfl [(3, .int r9), (0, .ref (L.2.1 6 0)), (1, .int L1), (2, .int L2)] (Nat.le_of_ble_eq_true rfl) rfl dX6_barOne_12 ?_
  refine g_aload_n C 0 rfl 1 rfl dX6_barOne_13 ?_
  refine g_iload_n C 3 rfl 0 rfl dX6_barOne_14 ?_
  refine g_callVv C hno gok_6 rfl rfl [.int r9] (fun sz9 => kX6_requireBars l C.2.2.2.2.2.2.1 L C.2.2.2.2.2.2.2.1 r9 v9 _ X h sz9) wml_RX6_216 winst_X6_requireBars wsel_X6_requireBars wini_RX6 wcode_X6_requireBars rfl rfl (n := 1) (by decide +kernel) rfl ⟨(Nat.le_of_ble_eq_true rfl), (Nat.le_of_ble_eq_true rfl)⟩ ⟨(Nat.le_of_ble_eq_true rfl), (Nat.le_of_ble_eq_true rfl)⟩ ⟨(Nat.le_of_ble_eq_true rfl), (Nat.le_of_ble_eq_true rfl)⟩ (Nat.le_of_ble_eq_true rfl) dX6_barOne_15 (fun v15 h => ?_)
  refine g_iload_n C 3 rfl 0 rfl dX6_barOne_18 ?_
  refine g_callSi C hno [.int r9] (fun sz9 => kX6_lowestOf l C.2.2.2.2.2.2.1 L C.2.2.2.2.2.2.2.1 r9 v15 _ X h sz9) wml_RX6_219 wstat_X6_lowestOf wini_RX6 wcode_X6_lowestOf rfl rfl (n := 1) (by decide +kernel) rfl ⟨(Nat.le_of_ble_eq_true rfl), (Nat.le_of_ble_eq_true rfl)⟩ ⟨(Nat.le_of_ble_eq_true rfl), (Nat.le_of_ble_eq_true rfl)⟩ ⟨(Nat.le_of_ble_eq_true rfl), (Nat.le_of_ble_eq_true rfl)⟩ (Nat.le_of_ble_eq_true rfl) dX6_barOne_19 (fun r19 v19 h => ?_)
  exact g_iret C hr rfl (Nat.le_of_ble_eq_true rfl) (Nat.le_of_ble_eq_true rfl) h dX6_barOne_22
def TX6_barOther (L1 : Int32) (L2 : Int32) (v : gMem) (Q : Int32 → gMem → Prop) (X : String → gMem → Prop) : Prop := (TX6_requireCards L1 L2 v (fun v3 => (TX6_barsBetween L1 L2 v3 (fun r9 v9 => (TX6_requireBars r9 v9 (fun v15 => (TX5_partnersOfAll 0 (r9 &&& (-r9)) v15 (fun r30 v30 => (TX3_joinedWith L2 v30 (fun r38 v38 => (TX6_lowestOf (r30 &&& r38) v38 (fun r42 v42 => (Q r42 v42)) X)) X)) X)) X)) X)) X)
theorem kX6_barOther (l : Launch) (hfl : l.stackTraces = false) (L : gL) (hL : gDist L) (L1 : Int32) (L2 : Int32) (v : gMem) (Q : Int32 → gMem → Prop) (X : String → gMem → Prop) (h : TX6_barOther L1 L2 v Q X) (sz : Nat) : vx_Met l yX6_barOther [.code yX6_barOther cX6_barOther 5 (some .int)] ({ frames := 8, cells := 3, slots := 18, locals := 125 } : Room) (gPc L sz [.ref (L.2.1 6 0), .int L1, .int L2] v) (gQi L sz Q) (gXC L sz X) 3 18 (gA L sz) := by
  refine g_ofW (by decide +kernel) hfl hL (Nat.le_of_ble_eq_true rfl) ?_
  intro p e s m args below meth c C hr hno
  refine g_sub [(0, .ref (L.2.1 6 0)), (1, .int L1), (2, .int L2)] [0, 1, 2] rfl ?_
  unfold TX6_barOther at h
  refine g_aload_n C 0 rfl 0 rfl dX6_barOther_0 ?_
  refine g_iload_n C 1 rfl 1 rfl dX6_barOther_1 ?_
  refine g_iload_n C 2 rfl 2 rfl dX6_barOther_2 ?_
  refine g_callVv C hno gok_6 rfl rfl [.int L1, .int L2] (fun sz9 => kX6_requireCards l C.2.2.2.2.2.2.1 L C.2.2.2.2.2.2.2.1 L1 L2 v _ X h sz9) wml_RX6_153 winst_X6_requireCards wsel_X6_requireCards wini_RX6 wcode_X6_requireCards rfl rfl (n := 2) (by decide +kernel) rfl ⟨(Nat.le_of_ble_eq_true rfl), (Nat.le_of_ble_eq_true rfl)⟩ ⟨(Nat.le_of_ble_eq_true rfl), (Nat.le_of_ble_eq_true rfl)⟩ ⟨(Nat.le_of_ble_eq_true rfl), (Nat.le_of_ble_eq_true rfl)⟩ (Nat.le_of_ble_eq_true rfl) dX6_barOther_3 (fun v3 h => ?_)
  refine g_aload_n C 0 rfl 0 rfl dX6_barOther_6 ?_
  refine g_iload_n C 1 rfl 1 rfl dX6_barOther_7 ?_
  refine g_iload_n C 2 rfl 2 rfl dX6_barOther_8 ?_
  refine g_callVi C hno gok_6 rfl rfl [.int L1, .int L2] (fun sz9 => kX6_barsBetween l C.2.2.2.2.2.2.1 L C.2.2.2.2.2.2.2.1 L1 L2 v3 _ X h sz9) wml_RX6_213 winst_X6_barsBetween wsel_X6_barsBetween wini_RX6 wcode_X6_barsBetween rfl rfl (n := 2) (by decide +kernel) rfl ⟨(Nat.le_of_ble_eq_true rfl), (Nat.le_of_ble_eq_true rfl)⟩ ⟨(Nat.le_of_ble_eq_true rfl), (Nat.le_of_ble_eq_true rfl)⟩ ⟨(Nat.le_of_ble_eq_true rfl), (Nat.le_of_ble_eq_true rfl)⟩ (Nat.le_of_ble_eq_true rfl) dX6_barOther_9 (fun r9 v9 h => ?_)
  refine g_istore_n C 3 rfl [(3, .int r9), (0, .ref (L.2.1 6 0)), (1, .int L1), (2, .int L2)] (Nat.le_of_ble_eq_true rfl) rfl dX6_barOther_12 ?_
  refine g_aload_n C 0 rfl 1 rfl dX6_barOther_13 ?_
  refine g_iload_n C 3 rfl 0 rfl dX6_barOther_14 ?_
  refine g_callVv C hno gok_6 rfl rfl [.int r9] (fun sz9 => kX6_requireBars l C.2.2.2.2.2.2.1 L C.2.2.2.2.2.2.2.1 r9 v9 _ X h sz9) wml_RX6_216 winst_X6_requireBars wsel_X6_requireBars wini_RX6 wcode_X6_requireBars rfl rfl (n := 1) (by decide +kernel) rfl ⟨(Nat.le_of_ble_eq_true rfl), (Nat.le_of_ble_eq_true rfl)⟩ ⟨(Nat.le_of_ble_eq_true rfl), (Nat.le_of_ble_eq_true rfl)⟩ ⟨(Nat.le_of_ble_eq_true rfl), (Nat.le_of_ble_eq_true rfl)⟩ (Nat.le_of_ble_eq_true rfl) dX6_barOther_15 (fun v15 h => ?_)
  refine g_iload_n C 3 rfl 0 rfl dX6_barOther_18 ?_
  refine g_iload_n C 3 rfl 0 rfl dX6_barOther_19 ?_
  refine g_ineg C dX6_barOther_20 ?_
  refine g_iand C dX6_barOther_21 ?_
  refine g_istore C [(4, .int (r9 &&& (-r9))), (3, .int r9), (0, .ref (L.2.1 6 0)), (1, .int L1), (2, .int L2)] (Nat.le_of_ble_eq_true rfl) rfl dX6_barOther_22 ?_
  refine g_aload_n C 0 rfl 2 rfl dX6_barOther_24 ?_
  refine fgX6_32 C dX6_barOther_25 ?_
  refine g_iload C 0 rfl dX6_barOther_28 ?_
  refine g_callVi C hno (gok_5 (by decide : 0 < 2)) rfl rfl [.int (r9 &&& (-r9))] (fun sz9 => kX5_partnersOfAll l C.2.2.2.2.2.2.1 L C.2.2.2.2.2.2.2.1 (by decide : 0 < 2) (r9 &&& (-r9)) v15 _ X h sz9) wml_RX6_223 winst_X5_partnersOfAll wsel_X5_partnersOfAll wini_RX5 wcode_X5_partnersOfAll rfl rfl (n := 1) (by decide +kernel) rfl ⟨(Nat.le_of_ble_eq_true rfl), (Nat.le_of_ble_eq_true rfl)⟩ ⟨(Nat.le_of_ble_eq_true rfl), (Nat.le_of_ble_eq_true rfl)⟩ ⟨(Nat.le_of_ble_eq_true rfl), (Nat.le_of_ble_eq_true rfl)⟩ (Nat.le_of_ble_eq_true rfl) dX6_barOther_30 (fun r30 v30 h => ?_)
  refine g_aload_n C 0 rfl 2 rfl dX6_barOther_33 ?_
  refine fgX6_39 C dX6_barOther_34 ?_
  refine g_iload_n C 2 rfl 4 rfl dX6_barOther_37 ?_
  refine g_callVi C hno gok_3 rfl rfl [.int L2] (fun sz9 => kX3_joinedWith l C.2.2.2.2.2.2.1 L C.2.2.2.2.2.2.2.1 L2 v30 _ X h sz9) wml_RX6_226 winst_X3_joinedWith wsel_X3_joinedWith wini_RX3 wcode_X3_joinedWith rfl rfl (n := 1) (by decide +kernel) rfl ⟨(Nat.le_of_ble_eq_true rfl), (Nat.le_of_ble_eq_true rfl)⟩ ⟨(Nat.le_of_ble_eq_true rfl), (Nat.le_of_ble_eq_true rfl)⟩ ⟨(Nat.le_of_ble_eq_true rfl), (Nat.le_of_ble_eq_true rfl)⟩ (Nat.le_of_ble_eq_true rfl) dX6_barOther_38 (fun r38 v38 h => ?_)
  refine g_iand C dX6_barOther_41 ?_
  refine g_callSi C hno [.int (r30 &&& r38)] (fun sz9 => kX6_lowestOf l C.2.2.2.2.2.2.1 L C.2.2.2.2.2.2.2.1 (r30 &&& r38) v38 _ X h sz9) wml_RX6_219 wstat_X6_lowestOf wini_RX6 wcode_X6_lowestOf rfl rfl (n := 1) (by decide +kernel) rfl ⟨(Nat.le_of_ble_eq_true rfl), (Nat.le_of_ble_eq_true rfl)⟩ ⟨(Nat.le_of_ble_eq_true rfl), (Nat.le_of_ble_eq_true rfl)⟩ ⟨(Nat.le_of_ble_eq_true rfl), (Nat.le_of_ble_eq_true rfl)⟩ (Nat.le_of_ble_eq_true rfl) dX6_barOther_42 (fun r42 v42 h => ?_)
  exact g_iret C hr rfl (Nat.le_of_ble_eq_true rfl) (Nat.le_of_ble_eq_true rfl) h dX6_barOther_45
def BX6_merge_44 (v : gMem) (Q : Int32 → gMem → Prop) (X : String → gMem → Prop) : Prop := (X "java/lang/IllegalStateException" v)
theorem sX6_merge_44 (C : gC p l s m args meth c cX6_merge 3 RX6 L sz) (hr : meth.sig.returnType = (some .int)) (hno : ∀ x ∈ c.exceptionTable.toList, False) {v : gMem} {Q : Int32 → gMem → Prop} {X : String → gMem → Prop} (h : BX6_merge_44 v Q X) : gS p l e ({ frames := 8, cells := 3, slots := 18, locals := 125 } : Room) s m args below meth c 3 L sz (vx_MQ below (gQi L sz Q) (gXC L sz X) args s 3 18 (gA L sz)) 2 12 44 [] [] v := by
  unfold BX6_merge_44 at h
  exact g_throwS C hno (text := "the cards are one person, or there are 30 merges") (is := 235) rfl (by decide) wcl_RX6_78 wini_java_lang_IllegalStateException (List.mem_of_getElem? (i := 21) rfl) wat_RX6_82 dX6_merge_44 dX6_merge_47 dX6_merge_48 dX6_merge_50 dX6_merge_53 (Nat.le_of_ble_eq_true rfl) (Nat.le_of_ble_eq_true rfl) ⟨(Nat.le_of_ble_eq_true rfl), (Nat.le_of_ble_eq_true rfl)⟩ (Nat.le_of_ble_eq_true rfl) (Nat.le_of_ble_eq_true rfl) h
def TX6_merge (L1 : Int32) (L2 : Int32) (v : gMem) (Q : Int32 → gMem → Prop) (X : String → gMem → Prop) : Prop := (TX6_requireCards L1 L2 v (fun v3 => (TX6_barsBetween L1 L2 v3 (fun r9 v9 => ((r9 = 0 → (TX6_isOnePerson L1 L2 v9 (fun r28 v28 => ((¬ r28 = 0 → (BX6_merge_44 v28 Q X)) ∧ (r28 = 0 → (TX3_isFull v28 (fun r38 v38 => ((r38 = 0 → (TX3_make L1 L2 v38 (fun r60 v60 => (Q r60 v60)) X)) ∧ (¬ r38 = 0 → (BX6_merge_44 v38 Q X)))) X)))) X)) ∧ (¬ r9 = 0 → (X "java/lang/UnsupportedOperationException" v9)))) X)) X)
theorem kX6_merge (l : Launch) (hfl : l.stackTraces = false) (L : gL) (hL : gDist L) (L1 : Int32) (L2 : Int32) (v : gMem) (Q : Int32 → gMem → Prop) (X : String → gMem → Prop) (h : TX6_merge L1 L2 v Q X) (sz : Nat) : vx_Met l yX6_merge [.code yX6_merge cX6_merge 3 (some .int)] ({ frames := 8, cells := 3, slots := 18, locals := 125 } : Room) (gPc L sz [.ref (L.2.1 6 0), .int L1, .int L2] v) (gQi L sz Q) (gXC L sz X) 3 18 (gA L sz) := by
  refine g_ofW (by decide +kernel) hfl hL (Nat.le_of_ble_eq_true rfl) ?_
  intro p e s m args below meth c C hr hno
  refine g_sub [(0, .ref (L.2.1 6 0)), (1, .int L1), (2, .int L2)] [0, 1, 2] rfl ?_
  unfold TX6_merge at h
  refine g_aload_n C 0 rfl 0 rfl dX6_merge_0 ?_
  refine g_iload_n C 1 rfl 1 rfl dX6_merge_1 ?_
  refine g_iload_n C 2 rfl 2 rfl dX6_merge_2 ?_
  refine g_callVv C hno gok_6 rfl rfl [.int L1, .int L2] (fun sz9 => kX6_requireCards l C.2.2.2.2.2.2.1 L C.2.2.2.2.2.2.2.1 L1 L2 v _ X h sz9) wml_RX6_153 winst_X6_requireCards wsel_X6_requireCards wini_RX6 wcode_X6_requireCards rfl rfl (n := 2) (by decide +kernel) rfl ⟨(Nat.le_of_ble_eq_true rfl), (Nat.le_of_ble_eq_true rfl)⟩ ⟨(Nat.le_of_ble_eq_true rfl), (Nat.le_of_ble_eq_true rfl)⟩ ⟨(Nat.le_of_ble_eq_true rfl), (Nat.le_of_ble_eq_true rfl)⟩ (Nat.le_of_ble_eq_true rfl) dX6_merge_3 (fun v3 h => ?_)
  refine g_aload_n C 0 rfl 0 rfl dX6_merge_6 ?_
  refine g_iload_n C 1 rfl 1 rfl dX6_merge_7 ?_
  refine g_iload_n C 2 rfl 2 rfl dX6_merge_8 ?_
  refine g_callVi C hno gok_6 rfl rfl [.int L1, .int L2] (fun sz9 => kX6_barsBetween l C.2.2.2.2.2.2.1 L C.2.2.2.2.2.2.2.1 L1 L2 v3 _ X h sz9) wml_RX6_213 winst_X6_barsBetween wsel_X6_barsBetween wini_RX6 wcode_X6_barsBetween rfl rfl (n := 2) (by decide +kernel) rfl ⟨(Nat.le_of_ble_eq_true rfl), (Nat.le_of_ble_eq_true rfl)⟩ ⟨(Nat.le_of_ble_eq_true rfl), (Nat.le_of_ble_eq_true rfl)⟩ ⟨(Nat.le_of_ble_eq_true rfl), (Nat.le_of_ble_eq_true rfl)⟩ (Nat.le_of_ble_eq_true rfl) dX6_merge_9 (fun r9 v9 h => ?_)
  refine g_if_eq C 25 (by decide) dX6_merge_12 (fun hc => ?_) (fun hc => ?_)
  · replace h := h.1 hc
    refine g_aload_n C 0 rfl 0 rfl dX6_merge_25 ?_
    refine g_iload_n C 1 rfl 1 rfl dX6_merge_26 ?_
    refine g_iload_n C 2 rfl 2 rfl dX6_merge_27 ?_
    refine g_callVi C hno gok_6 rfl rfl [.int L1, .int L2] (fun sz9 => kX6_isOnePerson l C.2.2.2.2.2.2.1 L C.2.2.2.2.2.2.2.1 L1 L2 v9 _ X h sz9) wml_RX6_189 winst_X6_isOnePerson wsel_X6_isOnePerson wini_RX6 wcode_X6_isOnePerson rfl rfl (n := 2) (by decide +kernel) rfl ⟨(Nat.le_of_ble_eq_true rfl), (Nat.le_of_ble_eq_true rfl)⟩ ⟨(Nat.le_of_ble_eq_true rfl), (Nat.le_of_ble_eq_true rfl)⟩ ⟨(Nat.le_of_ble_eq_true rfl), (Nat.le_of_ble_eq_true rfl)⟩ (Nat.le_of_ble_eq_true rfl) dX6_merge_28 (fun r28 v28 h => ?_)
    refine g_if_ne C 44 (by decide) dX6_merge_31 (fun hc => ?_) (fun hc => ?_)
    · replace h := h.1 hc
      refine g_sub [] [] rfl ?_
      exact sX6_merge_44 C hr hno h
    · replace h := h.2 hc
      refine g_aload_n C 0 rfl 0 rfl dX6_merge_34 ?_
      refine fgX6_39 C dX6_merge_35 ?_
      refine g_callVi C hno gok_3 rfl rfl [] (fun sz9 => kX3_isFull l C.2.2.2.2.2.2.1 L C.2.2.2.2.2.2.2.1 v28 _ X h sz9) wml_RX6_231 winst_X3_isFull wsel_X3_isFull wini_RX3 wcode_X3_isFull rfl rfl (n := 0) (by decide +kernel) rfl ⟨(Nat.le_of_ble_eq_true rfl), (Nat.le_of_ble_eq_true rfl)⟩ ⟨(Nat.le_of_ble_eq_true rfl), (Nat.le_of_ble_eq_true rfl)⟩ ⟨(Nat.le_of_ble_eq_true rfl), (Nat.le_of_ble_eq_true rfl)⟩ (Nat.le_of_ble_eq_true rfl) dX6_merge_38 (fun r38 v38 h => ?_)
      refine g_if_eq C 54 (by decide) dX6_merge_41 (fun hc => ?_) (fun hc => ?_)
      · replace h := h.1 hc
        refine g_aload_n C 0 rfl 0 rfl dX6_merge_54 ?_
        refine fgX6_39 C dX6_merge_55 ?_
        refine g_iload_n C 1 rfl 1 rfl dX6_merge_58 ?_
        refine g_iload_n C 2 rfl 2 rfl dX6_merge_59 ?_
        refine g_callVi C hno gok_3 rfl rfl [.int L1, .int L2] (fun sz9 => kX3_make l C.2.2.2.2.2.2.1 L C.2.2.2.2.2.2.2.1 L1 L2 v38 _ X h sz9) wml_RX6_237 winst_X3_make wsel_X3_make wini_RX3 wcode_X3_make rfl rfl (n := 2) (by decide +kernel) rfl ⟨(Nat.le_of_ble_eq_true rfl), (Nat.le_of_ble_eq_true rfl)⟩ ⟨(Nat.le_of_ble_eq_true rfl), (Nat.le_of_ble_eq_true rfl)⟩ ⟨(Nat.le_of_ble_eq_true rfl), (Nat.le_of_ble_eq_true rfl)⟩ (Nat.le_of_ble_eq_true rfl) dX6_merge_60 (fun r60 v60 h => ?_)
        exact g_iret C hr rfl (Nat.le_of_ble_eq_true rfl) (Nat.le_of_ble_eq_true rfl) h dX6_merge_63
      · replace h := h.2 hc
        refine g_sub [] [] rfl ?_
        exact sX6_merge_44 C hr hno h
  · replace h := h.2 hc
    exact g_throwS C hno (text := "the persons are barred from one another") (is := 229) rfl (by decide) wcl_RX6_192 wini_java_lang_UnsupportedOperationException (List.mem_of_getElem? (i := 20) rfl) wat_RX6_196 dX6_merge_15 dX6_merge_18 dX6_merge_19 dX6_merge_21 dX6_merge_24 (Nat.le_of_ble_eq_true rfl) (Nat.le_of_ble_eq_true rfl) ⟨(Nat.le_of_ble_eq_true rfl), (Nat.le_of_ble_eq_true rfl)⟩ (Nat.le_of_ble_eq_true rfl) (Nat.le_of_ble_eq_true rfl) h
def TX6_mergeBest (v : gMem) (Q : Int32 → gMem → Prop) (X : String → gMem → Prop) : Prop := (TX6_findBestByKeys v (fun v1 => (TX6_requireBest v1 (fun v5 => (TX3_isFull v5 (fun r12 v12 => ((r12 = 0 → (TX3_make (v12 0 0 0) (v12 0 0 1) v12 (fun r46 v46 => (Q r46 v46)) X)) ∧ (¬ r12 = 0 → (X "java/lang/IllegalStateException" v12)))) X)) X)) X)
theorem kX6_mergeBest (l : Launch) (hfl : l.stackTraces = false) (L : gL) (hL : gDist L) (v : gMem) (Q : Int32 → gMem → Prop) (X : String → gMem → Prop) (h : TX6_mergeBest v Q X) (sz : Nat) : vx_Met l yX6_mergeBest [.code yX6_mergeBest cX6_mergeBest 1 (some .int)] ({ frames := 7, cells := 2, slots := 12, locals := 137 } : Room) (gPc L sz [.ref (L.2.1 6 0)] v) (gQi L sz Q) (gXC L sz X) 2 12 (gA L sz) := by
  refine g_ofW (by decide +kernel) hfl hL (Nat.le_of_ble_eq_true rfl) ?_
  intro p e s m args below meth c C hr hno
  refine g_sub [(0, .ref (L.2.1 6 0))] [0] rfl ?_
  unfold TX6_mergeBest at h
  refine g_aload_n C 0 rfl 0 rfl dX6_mergeBest_0 ?_
  refine g_callVv C hno gok_6 rfl rfl [] (fun sz9 => kX6_findBestByKeys l C.2.2.2.2.2.2.1 L C.2.2.2.2.2.2.2.1 v _ X h sz9) wml_RX6_171 winst_X6_findBestByKeys wsel_X6_findBestByKeys wini_RX6 wcode_X6_findBestByKeys rfl rfl (n := 0) (by decide +kernel) rfl ⟨(Nat.le_of_ble_eq_true rfl), (Nat.le_of_ble_eq_true rfl)⟩ ⟨(Nat.le_of_ble_eq_true rfl), (Nat.le_of_ble_eq_true rfl)⟩ ⟨(Nat.le_of_ble_eq_true rfl), (Nat.le_of_ble_eq_true rfl)⟩ (Nat.le_of_ble_eq_true rfl) dX6_mergeBest_1 (fun v1 h => ?_)
  refine g_aload_n C 0 rfl 0 rfl dX6_mergeBest_4 ?_
  refine g_callVv C hno gok_6 rfl rfl [] (fun sz9 => kX6_requireBest l C.2.2.2.2.2.2.1 L C.2.2.2.2.2.2.2.1 v1 _ X h sz9) wml_RX6_174 winst_X6_requireBest wsel_X6_requireBest wini_RX6 wcode_X6_requireBest rfl rfl (n := 0) (by decide +kernel) rfl ⟨(Nat.le_of_ble_eq_true rfl), (Nat.le_of_ble_eq_true rfl)⟩ ⟨(Nat.le_of_ble_eq_true rfl), (Nat.le_of_ble_eq_true rfl)⟩ ⟨(Nat.le_of_ble_eq_true rfl), (Nat.le_of_ble_eq_true rfl)⟩ (Nat.le_of_ble_eq_true rfl) dX6_mergeBest_5 (fun v5 h => ?_)
  refine g_aload_n C 0 rfl 0 rfl dX6_mergeBest_8 ?_
  refine fgX6_39 C dX6_mergeBest_9 ?_
  refine g_callVi C hno gok_3 rfl rfl [] (fun sz9 => kX3_isFull l C.2.2.2.2.2.2.1 L C.2.2.2.2.2.2.2.1 v5 _ X h sz9) wml_RX6_231 winst_X3_isFull wsel_X3_isFull wini_RX3 wcode_X3_isFull rfl rfl (n := 0) (by decide +kernel) rfl ⟨(Nat.le_of_ble_eq_true rfl), (Nat.le_of_ble_eq_true rfl)⟩ ⟨(Nat.le_of_ble_eq_true rfl), (Nat.le_of_ble_eq_true rfl)⟩ ⟨(Nat.le_of_ble_eq_true rfl), (Nat.le_of_ble_eq_true rfl)⟩ (Nat.le_of_ble_eq_true rfl) dX6_mergeBest_12 (fun r12 v12 h => ?_)
  refine g_if_eq C 28 (by decide) dX6_mergeBest_15 (fun hc => ?_) (fun hc => ?_)
  · replace h := h.1 hc
    refine g_aload_n C 0 rfl 0 rfl dX6_mergeBest_28 ?_
    refine fgX6_39 C dX6_mergeBest_29 ?_
    refine g_aload_n C 0 rfl 0 rfl dX6_mergeBest_32 ?_
    refine fgX6_56 C dX6_mergeBest_33 ?_
    refine fgX6_183 C dX6_mergeBest_36 ?_
    refine g_aload_n C 0 rfl 0 rfl dX6_mergeBest_39 ?_
    refine fgX6_56 C dX6_mergeBest_40 ?_
    refine fgX6_186 C dX6_mergeBest_43 ?_
    refine g_callVi C hno gok_3 rfl rfl [.int (v12 0 0 0), .int (v12 0 0 1)] (fun sz9 => kX3_make l C.2.2.2.2.2.2.1 L C.2.2.2.2.2.2.2.1 (v12 0 0 0) (v12 0 0 1) v12 _ X h sz9) wml_RX6_237 winst_X3_make wsel_X3_make wini_RX3 wcode_X3_make rfl rfl (n := 2) (by decide +kernel) rfl ⟨(Nat.le_of_ble_eq_true rfl), (Nat.le_of_ble_eq_true rfl)⟩ ⟨(Nat.le_of_ble_eq_true rfl), (Nat.le_of_ble_eq_true rfl)⟩ ⟨(Nat.le_of_ble_eq_true rfl), (Nat.le_of_ble_eq_true rfl)⟩ (Nat.le_of_ble_eq_true rfl) dX6_mergeBest_46 (fun r46 v46 h => ?_)
    exact g_iret C hr rfl (Nat.le_of_ble_eq_true rfl) (Nat.le_of_ble_eq_true rfl) h dX6_mergeBest_49
  · replace h := h.2 hc
    exact g_throwS C hno (text := "there are 30 merges") (is := 240) rfl (by decide) wcl_RX6_78 wini_java_lang_IllegalStateException (List.mem_of_getElem? (i := 22) rfl) wat_RX6_82 dX6_mergeBest_18 dX6_mergeBest_21 dX6_mergeBest_22 dX6_mergeBest_24 dX6_mergeBest_27 (Nat.le_of_ble_eq_true rfl) (Nat.le_of_ble_eq_true rfl) ⟨(Nat.le_of_ble_eq_true rfl), (Nat.le_of_ble_eq_true rfl)⟩ (Nat.le_of_ble_eq_true rfl) (Nat.le_of_ble_eq_true rfl) h
def BX6_requireMerge_15 (v : gMem) (Q : gMem → Prop) (X : String → gMem → Prop) : Prop := (X "java/lang/IndexOutOfBoundsException" v)
theorem sX6_requireMerge_15 (C : gC p l s m args meth c cX6_requireMerge 2 RX6 L sz) (hr : meth.sig.returnType = none) (hno : ∀ x ∈ c.exceptionTable.toList, False) {v : gMem} {Q : gMem → Prop} {X : String → gMem → Prop} (h : BX6_requireMerge_15 v Q X) : gS p l e ({ frames := 6, cells := 1, slots := 6, locals := 82 } : Room) s m args below meth c 2 L sz (vx_MQ below (gQv L sz Q) (gXC L sz X) args s 1 6 (gA L sz)) 0 0 15 [] [] v := by
  unfold BX6_requireMerge_15 at h
  exact g_throwSW C hno (text := "no such merge") (is := 324) rfl (by decide) wcl_RX6_304 wini_java_lang_IndexOutOfBoundsException (List.mem_of_getElem? (i := 23) rfl) wat_RX6_308 dX6_requireMerge_15 dX6_requireMerge_18 dX6_requireMerge_19 dX6_requireMerge_22 dX6_requireMerge_25 (Nat.le_of_ble_eq_true rfl) (Nat.le_of_ble_eq_true rfl) ⟨(Nat.le_of_ble_eq_true rfl), (Nat.le_of_ble_eq_true rfl)⟩ (Nat.le_of_ble_eq_true rfl) (Nat.le_of_ble_eq_true rfl) h
def TX6_requireMerge (L1 : Int32) (v : gMem) (Q : gMem → Prop) (X : String → gMem → Prop) : Prop := ((L1 < 0 → (BX6_requireMerge_15 v Q X)) ∧ (¬ L1 < 0 → ((L1 < (v 3 0 3) → (Q v)) ∧ (¬ L1 < (v 3 0 3) → (BX6_requireMerge_15 v Q X)))))
theorem kX6_requireMerge (l : Launch) (hfl : l.stackTraces = false) (L : gL) (hL : gDist L) (L1 : Int32) (v : gMem) (Q : gMem → Prop) (X : String → gMem → Prop) (h : TX6_requireMerge L1 v Q X) (sz : Nat) : vx_Met l yX6_requireMerge [.code yX6_requireMerge cX6_requireMerge 2 none] ({ frames := 6, cells := 1, slots := 6, locals := 82 } : Room) (gPc L sz [.ref (L.2.1 6 0), .int L1] v) (gQv L sz Q) (gXC L sz X) 1 6 (gA L sz) := by
  refine g_ofW (by decide +kernel) hfl hL (Nat.le_of_ble_eq_true rfl) ?_
  intro p e s m args below meth c C hr hno
  refine g_sub [(0, .ref (L.2.1 6 0)), (1, .int L1)] [0, 1] rfl ?_
  unfold TX6_requireMerge at h
  refine g_iload_n C 1 rfl 1 rfl dX6_requireMerge_0 ?_
  refine g_if_lt C 15 (by decide) dX6_requireMerge_1 (fun hc => ?_) (fun hc => ?_)
  · replace h := h.1 hc
    refine g_sub [] [] rfl ?_
    exact sX6_requireMerge_15 C hr hno h
  · replace h := h.2 hc
    refine g_iload_n C 1 rfl 1 rfl dX6_requireMerge_4 ?_
    refine g_aload_n C 0 rfl 0 rfl dX6_requireMerge_5 ?_
    refine fgX6_39 C dX6_requireMerge_6 ?_
    refine fgX6_321 C dX6_requireMerge_9 ?_
    refine g_icmp_lt C 26 (by decide) dX6_requireMerge_12 (fun hc => ?_) (fun hc => ?_)
    · replace h := h.1 hc
      exact g_vret C hr (Nat.le_of_ble_eq_true rfl) (Nat.le_of_ble_eq_true rfl) h dX6_requireMerge_26
    · replace h := h.2 hc
      refine g_sub [] [] rfl ?_
      exact sX6_requireMerge_15 C hr hno h
def TX6_allCards (v : gMem) (Q : Int32 → gMem → Prop) (X : String → gMem → Prop) : Prop := (Q ((1 <<< ((v 6 0 3) &&& 31)) - 1) v)
theorem kX6_allCards (l : Launch) (hfl : l.stackTraces = false) (L : gL) (hL : gDist L) (v : gMem) (Q : Int32 → gMem → Prop) (X : String → gMem → Prop) (h : TX6_allCards v Q X) (sz : Nat) : vx_Met l yX6_allCards [.code yX6_allCards cX6_allCards 1 (some .int)] ({ frames := 0, cells := 0, slots := 0, locals := 0 } : Room) (gPc L sz [.ref (L.2.1 6 0)] v) (gQi L sz Q) (gXC L sz X) 0 0 (gA L sz) := by
  refine g_ofW (by decide +kernel) hfl hL (Nat.le_of_ble_eq_true rfl) ?_
  intro p e s m args below meth c C hr hno
  refine g_sub [(0, .ref (L.2.1 6 0))] [0] rfl ?_
  unfold TX6_allCards at h
  refine g_iconst C 1 (by decide) dX6_allCards_0 ?_
  refine g_aload_n C 0 rfl 0 rfl dX6_allCards_1 ?_
  refine fgX6_88 C dX6_allCards_2 ?_
  refine g_ishl C dX6_allCards_5 ?_
  refine g_iconst C 1 (by decide) dX6_allCards_6 ?_
  refine g_isub C dX6_allCards_7 ?_
  exact g_iret C hr rfl (Nat.le_of_ble_eq_true rfl) (Nat.le_of_ble_eq_true rfl) h dX6_allCards_8
def BX6_personsWith_55 (I7 : Int32 → Int32 → Int32 → gMem → Prop) (L1 : Int32) (L2 : Int32) (L3 : Int32) (L4 : Int32) (v : gMem) (Q : Int32 → gMem → Prop) (X : String → gMem → Prop) : Prop := (I7 L2 L3 (L4 + 1) v)
theorem sX6_personsWith_55 (C : gC p l s m args meth c cX6_personsWith 6 RX6 L sz) (hr : meth.sig.returnType = (some .int)) (hno : ∀ x ∈ c.exceptionTable.toList, False) {L1 : Int32} {L2 : Int32} {L3 : Int32} {L4 : Int32} {v : gMem} {Q : Int32 → gMem → Prop} {X : String → gMem → Prop} {I7 : Int32 → Int32 → Int32 → gMem → Prop} (hI7 : ∀ (L2 : Int32) (L3 : Int32) (L4 : Int32) (v : gMem), I7 L2 L3 L4 v → gS p l e ({ frames := 3, cells := 0, slots := 0, locals := 68 } : Room) s m args below meth c 6 L sz (vx_MQ below (gQi L sz Q) (gXC L sz X) args s 0 0 (gA L sz)) 0 0 7 [(0, .ref (L.2.1 6 0)), (1, .int L1), (2, .int L2), (3, .int L3), (4, .int L4)] [] v) (h : BX6_personsWith_55 I7 L1 L2 L3 L4 v Q X) : gS p l e ({ frames := 3, cells := 0, slots := 0, locals := 68 } : Room) s m args below meth c 6 L sz (vx_MQ below (gQi L sz Q) (gXC L sz X) args s 0 0 (gA L sz)) 0 0 55 [(0, .ref (L.2.1 6 0)), (1, .int L1), (2, .int L2), (3, .int L3), (4, .int L4)] [] v := by
  unfold BX6_personsWith_55 at h
  refine g_iinc C (k := 4) (L4 + 1) [(4, .int (L4 + 1)), (0, .ref (L.2.1 6 0)), (1, .int L1), (2, .int L2), (3, .int L3)] rfl rfl (Nat.le_of_ble_eq_true rfl) rfl dX6_personsWith_55 ?_
  refine g_goto C 7 (by decide) dX6_personsWith_58 ?_
  refine g_sub [(0, .ref (L.2.1 6 0)), (1, .int L1), (2, .int L2), (3, .int L3), (4, .int (L4 + 1))] [1, 2, 3, 4, 0] rfl ?_
  exact hI7 _ _ _ _ h
def BX6_personsWith_7 (I7 : Int32 → Int32 → Int32 → gMem → Prop) (L1 : Int32) (L2 : Int32) (L3 : Int32) (L4 : Int32) (v : gMem) (Q : Int32 → gMem → Prop) (X : String → gMem → Prop) : Prop := (((v 6 0 3) ≤ L4 → (Q L2 v)) ∧ (¬ (v 6 0 3) ≤ L4 → (TX6_contains L3 L4 v (fun r19 v19 => ((¬ r19 = 0 → (BX6_personsWith_55 I7 L1 L2 L3 L4 v19 Q X)) ∧ (r19 = 0 → (TX3_joinedWith L4 v19 (fun r31 v31 => (((r31 &&& L1) = 0 → (BX6_personsWith_55 I7 L1 L2 (L3 ||| r31) L4 v31 Q X)) ∧ (¬ (r31 &&& L1) = 0 → (BX6_personsWith_55 I7 L1 (L2 ||| (1 <<< (L4 &&& 31))) (L3 ||| r31) L4 v31 Q X)))) X)))) X)))
theorem sX6_personsWith_7 (C : gC p l s m args meth c cX6_personsWith 6 RX6 L sz) (hr : meth.sig.returnType = (some .int)) (hno : ∀ x ∈ c.exceptionTable.toList, False) {L1 : Int32} {L2 : Int32} {L3 : Int32} {L4 : Int32} {v : gMem} {Q : Int32 → gMem → Prop} {X : String → gMem → Prop} {I7 : Int32 → Int32 → Int32 → gMem → Prop} (hI7 : ∀ (L2 : Int32) (L3 : Int32) (L4 : Int32) (v : gMem), I7 L2 L3 L4 v → gS p l e ({ frames := 3, cells := 0, slots := 0, locals := 68 } : Room) s m args below meth c 6 L sz (vx_MQ below (gQi L sz Q) (gXC L sz X) args s 0 0 (gA L sz)) 0 0 7 [(0, .ref (L.2.1 6 0)), (1, .int L1), (2, .int L2), (3, .int L3), (4, .int L4)] [] v) (h : BX6_personsWith_7 I7 L1 L2 L3 L4 v Q X) : gS p l e ({ frames := 3, cells := 0, slots := 0, locals := 68 } : Room) s m args below meth c 6 L sz (vx_MQ below (gQi L sz Q) (gXC L sz X) args s 0 0 (gA L sz)) 0 0 7 [(0, .ref (L.2.1 6 0)), (1, .int L1), (2, .int L2), (3, .int L3), (4, .int L4)] [] v := by
  unfold BX6_personsWith_7 at h
  refine g_iload C 4 rfl dX6_personsWith_7 ?_
  refine g_aload_n C 0 rfl 0 rfl dX6_personsWith_9 ?_
  refine fgX6_88 C dX6_personsWith_10 ?_
  refine g_icmp_ge C 61 (by decide) dX6_personsWith_13 (fun hc => ?_) (fun hc => ?_)
  · replace h := h.1 hc
    refine g_iload_n C 2 rfl 2 rfl dX6_personsWith_61 ?_
    exact g_iret C hr rfl (Nat.le_of_ble_eq_true rfl) (Nat.le_of_ble_eq_true rfl) h dX6_personsWith_62
  · replace h := h.2 hc
    refine g_iload_n C 3 rfl 3 rfl dX6_personsWith_16 ?_
    refine g_iload C 4 rfl dX6_personsWith_17 ?_
    refine g_callSi C hno [.int L3, .int L4] (fun sz9 => kX6_contains l C.2.2.2.2.2.2.1 L C.2.2.2.2.2.2.2.1 L3 L4 v _ X h sz9) wml_RX6_287 wstat_X6_contains wini_RX6 wcode_X6_contains rfl rfl (n := 2) (by decide +kernel) rfl ⟨(Nat.le_of_ble_eq_true rfl), (Nat.le_of_ble_eq_true rfl)⟩ ⟨(Nat.le_of_ble_eq_true rfl), (Nat.le_of_ble_eq_true rfl)⟩ ⟨(Nat.le_of_ble_eq_true rfl), (Nat.le_of_ble_eq_true rfl)⟩ (Nat.le_of_ble_eq_true rfl) dX6_personsWith_19 (fun r19 v19 h => ?_)
    refine g_if_ne C 55 (by decide) dX6_personsWith_22 (fun hc => ?_) (fun hc => ?_)
    · replace h := h.1 hc
      exact sX6_personsWith_55 C hr hno hI7 h
    · replace h := h.2 hc
      refine g_aload_n C 0 rfl 0 rfl dX6_personsWith_25 ?_
      refine fgX6_39 C dX6_personsWith_26 ?_
      refine g_iload C 4 rfl dX6_personsWith_29 ?_
      refine g_callVi C hno gok_3 rfl rfl [.int L4] (fun sz9 => kX3_joinedWith l C.2.2.2.2.2.2.1 L C.2.2.2.2.2.2.2.1 L4 v19 _ X h sz9) wml_RX6_226 winst_X3_joinedWith wsel_X3_joinedWith wini_RX3 wcode_X3_joinedWith rfl rfl (n := 1) (by decide +kernel) rfl ⟨(Nat.le_of_ble_eq_true rfl), (Nat.le_of_ble_eq_true rfl)⟩ ⟨(Nat.le_of_ble_eq_true rfl), (Nat.le_of_ble_eq_true rfl)⟩ ⟨(Nat.le_of_ble_eq_true rfl), (Nat.le_of_ble_eq_true rfl)⟩ (Nat.le_of_ble_eq_true rfl) dX6_personsWith_31 (fun r31 v31 h => ?_)
      refine g_istore C [(5, .int r31), (0, .ref (L.2.1 6 0)), (1, .int L1), (2, .int L2), (3, .int L3), (4, .int L4)] (Nat.le_of_ble_eq_true rfl) rfl dX6_personsWith_34 ?_
      refine g_iload_n C 3 rfl 4 rfl dX6_personsWith_36 ?_
      refine g_iload C 0 rfl dX6_personsWith_37 ?_
      refine g_ior C dX6_personsWith_39 ?_
      refine g_istore_n C 3 rfl [(3, .int (L3 ||| r31)), (5, .int r31), (0, .ref (L.2.1 6 0)), (1, .int L1), (2, .int L2), (4, .int L4)] (Nat.le_of_ble_eq_true rfl) rfl dX6_personsWith_40 ?_
      refine g_iload C 1 rfl dX6_personsWith_41 ?_
      refine g_iload_n C 1 rfl 3 rfl dX6_personsWith_43 ?_
      refine g_iand C dX6_personsWith_44 ?_
      refine g_if_eq C 55 (by decide) dX6_personsWith_45 (fun hc => ?_) (fun hc => ?_)
      · replace h := h.1 hc
        refine g_sub [(0, .ref (L.2.1 6 0)), (1, .int L1), (2, .int L2), (3, .int (L3 ||| r31)), (4, .int L4)] [2, 3, 4, 0, 5] rfl ?_
        exact sX6_personsWith_55 C hr hno hI7 h
      · replace h := h.2 hc
        refine g_iload_n C 2 rfl 4 rfl dX6_personsWith_48 ?_
        refine g_iconst C 1 (by decide) dX6_personsWith_49 ?_
        refine g_iload C 5 rfl dX6_personsWith_50 ?_
        refine g_ishl C dX6_personsWith_52 ?_
        refine g_ior C dX6_personsWith_53 ?_
        refine g_istore_n C 2 rfl [(2, .int (L2 ||| (1 <<< (L4 &&& 31)))), (3, .int (L3 ||| r31)), (5, .int r31), (0, .ref (L.2.1 6 0)), (1, .int L1), (4, .int L4)] (Nat.le_of_ble_eq_true rfl) rfl dX6_personsWith_54 ?_
        refine g_sub [(0, .ref (L.2.1 6 0)), (1, .int L1), (2, .int (L2 ||| (1 <<< (L4 &&& 31)))), (3, .int (L3 ||| r31)), (4, .int L4)] [3, 4, 0, 1, 5] rfl ?_
        exact sX6_personsWith_55 C hr hno hI7 h
def LX6_personsWith_7 (L1 : Int32) (L2 : Int32) (L3 : Int32) (L4 : Int32) (v : gMem) (Q : Int32 → gMem → Prop) (X : String → gMem → Prop) : Prop := ∀ I7 : Int32 → Int32 → Int32 → gMem → Prop, (∀ (L2 : Int32) (L3 : Int32) (L4 : Int32) (v : gMem), BX6_personsWith_7 I7 L1 L2 L3 L4 v Q X → I7 L2 L3 L4 v) → I7 L2 L3 L4 v
theorem slX6_personsWith_7 (C : gC p l s m args meth c cX6_personsWith 6 RX6 L sz) (hr : meth.sig.returnType = (some .int)) (hno : ∀ x ∈ c.exceptionTable.toList, False) {L1 : Int32} {L2 : Int32} {L3 : Int32} {L4 : Int32} {v : gMem} {Q : Int32 → gMem → Prop} {X : String → gMem → Prop} (h : LX6_personsWith_7 L1 L2 L3 L4 v Q X) : gS p l e ({ frames := 3, cells := 0, slots := 0, locals := 68 } : Room) s m args below meth c 6 L sz (vx_MQ below (gQi L sz Q) (gXC L sz X) args s 0 0 (gA L sz)) 0 0 7 [(0, .ref (L.2.1 6 0)), (1, .int L1), (2, .int L2), (3, .int L3), (4, .int L4)] [] v := by
  refine h (fun L2 L3 L4 v => gS p l e ({ frames := 3, cells := 0, slots := 0, locals := 68 } : Room) s m args below meth c 6 L sz (vx_MQ below (gQi L sz Q) (gXC L sz X) args s 0 0 (gA L sz)) 0 0 7 [(0, .ref (L.2.1 6 0)), (1, .int L1), (2, .int L2), (3, .int L3), (4, .int L4)] [] v) (fun L2 L3 L4 v hb => ?_)
  exact sX6_personsWith_7 C hr hno (fun _ _ _ _ hs => hs) hb
def TX6_personsWith (L1 : Int32) (v : gMem) (Q : Int32 → gMem → Prop) (X : String → gMem → Prop) : Prop := (LX6_personsWith_7 L1 0 0 0 v Q X)
theorem kX6_personsWith (l : Launch) (hfl : l.stackTraces = false) (L : gL) (hL : gDist L) (L1 : Int32) (v : gMem) (Q : Int32 → gMem → Prop) (X : String → gMem → Prop) (h : TX6_personsWith L1 v Q X) (sz : Nat) : vx_Met l yX6_personsWith [.code yX6_personsWith cX6_personsWith 6 (some .int)] ({ frames := 3, cells := 0, slots := 0, locals := 68 } : Room) (gPc L sz [.ref (L.2.1 6 0), .int L1] v) (gQi L sz Q) (gXC L sz X) 0 0 (gA L sz) := by
  refine g_ofW (by decide +kernel) hfl hL (Nat.le_of_ble_eq_true rfl) ?_
  intro p e s m args below meth c C hr hno
  refine g_sub [(0, .ref (L.2.1 6 0)), (1, .int L1)] [0, 1] rfl ?_
  unfold TX6_personsWith at h
  refine g_iconst C 0 (by decide) dX6_personsWith_0 ?_
  refine g_istore_n C 2 rfl [(2, .int 0), (0, .ref (L.2.1 6 0)), (1, .int L1)] (Nat.le_of_ble_eq_true rfl) rfl dX6_personsWith_1 ?_
  refine g_iconst C 0 (by decide) dX6_personsWith_2 ?_
  refine g_istore_n C 3 rfl [(3, .int 0), (2, .int 0), (0, .ref (L.2.1 6 0)), (1, .int L1)] (Nat.le_of_ble_eq_true rfl) rfl dX6_personsWith_3 ?_
  refine g_iconst C 0 (by decide) dX6_personsWith_4 ?_
  refine g_istore C [(4, .int 0), (3, .int 0), (2, .int 0), (0, .ref (L.2.1 6 0)), (1, .int L1)] (Nat.le_of_ble_eq_true rfl) rfl dX6_personsWith_5 ?_
  refine g_sub [(0, .ref (L.2.1 6 0)), (1, .int L1), (2, .int 0), (3, .int 0), (4, .int 0)] [3, 4, 2, 1, 0] rfl ?_
  exact slX6_personsWith_7 C hr hno h
def TJ6_bitCount_0f7a4 (L0 : Int32) (v : gMem) (Q : Int32 → gMem → Prop) (X : String → gMem → Prop) : Prop := (Q ((((((((L0 - ((UInt32.toInt32 ((Int32.toUInt32 L0) >>> ((Int32.toUInt32 1) &&& Int32.toUInt32 31))) &&& 1431655765)) &&& 858993459) + ((UInt32.toInt32 ((Int32.toUInt32 (L0 - ((UInt32.toInt32 ((Int32.toUInt32 L0) >>> ((Int32.toUInt32 1) &&& Int32.toUInt32 31))) &&& 1431655765))) >>> ((Int32.toUInt32 2) &&& Int32.toUInt32 31))) &&& 858993459)) + (UInt32.toInt32 ((Int32.toUInt32 (((L0 - ((UInt32.toInt32 ((Int32.toUInt32 L0) >>> ((Int32.toUInt32 1) &&& Int32.toUInt32 31))) &&& 1431655765)) &&& 858993459) + ((UInt32.toInt32 ((Int32.toUInt32 (L0 - ((UInt32.toInt32 ((Int32.toUInt32 L0) >>> ((Int32.toUInt32 1) &&& Int32.toUInt32 31))) &&& 1431655765))) >>> ((Int32.toUInt32 2) &&& Int32.toUInt32 31))) &&& 858993459))) >>> ((Int32.toUInt32 4) &&& Int32.toUInt32 31)))) &&& 252645135) + (UInt32.toInt32 ((Int32.toUInt32 (((((L0 - ((UInt32.toInt32 ((Int32.toUInt32 L0) >>> ((Int32.toUInt32 1) &&& Int32.toUInt32 31))) &&& 1431655765)) &&& 858993459) + ((UInt32.toInt32 ((Int32.toUInt32 (L0 - ((UInt32.toInt32 ((Int32.toUInt32 L0) >>> ((Int32.toUInt32 1) &&& Int32.toUInt32 31))) &&& 1431655765))) >>> ((Int32.toUInt32 2) &&& Int32.toUInt32 31))) &&& 858993459)) + (UInt32.toInt32 ((Int32.toUInt32 (((L0 - ((UInt32.toInt32 ((Int32.toUInt32 L0) >>> ((Int32.toUInt32 1) &&& Int32.toUInt32 31))) &&& 1431655765)) &&& 858993459) + ((UInt32.toInt32 ((Int32.toUInt32 (L0 - ((UInt32.toInt32 ((Int32.toUInt32 L0) >>> ((Int32.toUInt32 1) &&& Int32.toUInt32 31))) &&& 1431655765))) >>> ((Int32.toUInt32 2) &&& Int32.toUInt32 31))) &&& 858993459))) >>> ((Int32.toUInt32 4) &&& Int32.toUInt32 31)))) &&& 252645135)) >>> ((Int32.toUInt32 8) &&& Int32.toUInt32 31)))) + (UInt32.toInt32 ((Int32.toUInt32 ((((((L0 - ((UInt32.toInt32 ((Int32.toUInt32 L0) >>> ((Int32.toUInt32 1) &&& Int32.toUInt32 31))) &&& 1431655765)) &&& 858993459) + ((UInt32.toInt32 ((Int32.toUInt32 (L0 - ((UInt32.toInt32 ((Int32.toUInt32 L0) >>> ((Int32.toUInt32 1) &&& Int32.toUInt32 31))) &&& 1431655765))) >>> ((Int32.toUInt32 2) &&& Int32.toUInt32 31))) &&& 858993459)) + (UInt32.toInt32 ((Int32.toUInt32 (((L0 - ((UInt32.toInt32 ((Int32.toUInt32 L0) >>> ((Int32.toUInt32 1) &&& Int32.toUInt32 31))) &&& 1431655765)) &&& 858993459) + ((UInt32.toInt32 ((Int32.toUInt32 (L0 - ((UInt32.toInt32 ((Int32.toUInt32 L0) >>> ((Int32.toUInt32 1) &&& Int32.toUInt32 31))) &&& 1431655765))) >>> ((Int32.toUInt32 2) &&& Int32.toUInt32 31))) &&& 858993459))) >>> ((Int32.toUInt32 4) &&& Int32.toUInt32 31)))) &&& 252645135) + (UInt32.toInt32 ((Int32.toUInt32 (((((L0 - ((UInt32.toInt32 ((Int32.toUInt32 L0) >>> ((Int32.toUInt32 1) &&& Int32.toUInt32 31))) &&& 1431655765)) &&& 858993459) + ((UInt32.toInt32 ((Int32.toUInt32 (L0 - ((UInt32.toInt32 ((Int32.toUInt32 L0) >>> ((Int32.toUInt32 1) &&& Int32.toUInt32 31))) &&& 1431655765))) >>> ((Int32.toUInt32 2) &&& Int32.toUInt32 31))) &&& 858993459)) + (UInt32.toInt32 ((Int32.toUInt32 (((L0 - ((UInt32.toInt32 ((Int32.toUInt32 L0) >>> ((Int32.toUInt32 1) &&& Int32.toUInt32 31))) &&& 1431655765)) &&& 858993459) + ((UInt32.toInt32 ((Int32.toUInt32 (L0 - ((UInt32.toInt32 ((Int32.toUInt32 L0) >>> ((Int32.toUInt32 1) &&& Int32.toUInt32 31))) &&& 1431655765))) >>> ((Int32.toUInt32 2) &&& Int32.toUInt32 31))) &&& 858993459))) >>> ((Int32.toUInt32 4) &&& Int32.toUInt32 31)))) &&& 252645135)) >>> ((Int32.toUInt32 8) &&& Int32.toUInt32 31))))) >>> ((Int32.toUInt32 16) &&& Int32.toUInt32 31)))) &&& 63) v)
theorem kJ6_bitCount_0f7a4 (l : Launch) (hfl : l.stackTraces = false) (L : gL) (hL : gDist L) (L0 : Int32) (v : gMem) (Q : Int32 → gMem → Prop) (X : String → gMem → Prop) (h : TJ6_bitCount_0f7a4 L0 v Q X) (sz : Nat) : vx_Met l yJ6_bitCount_0f7a4 [.code yJ6_bitCount_0f7a4 cJ6_bitCount_0f7a4 1 (some .int)] ({ frames := 0, cells := 0, slots := 0, locals := 0 } : Room) (gPc L sz [.int L0] v) (gQi L sz Q) (gXC L sz X) 0 0 (gA L sz) := by
  refine g_ofW (by decide +kernel) hfl hL (Nat.le_of_ble_eq_true rfl) ?_
  intro p e s m args below meth c C hr hno
  refine g_sub [(0, .int L0)] [0] rfl ?_
  unfold TJ6_bitCount_0f7a4 at h
  refine g_iload_n C 0 rfl 0 rfl dJ6_bitCount_0f7a4_0 ?_
  refine g_iload_n C 0 rfl 0 rfl dJ6_bitCount_0f7a4_1 ?_
  refine g_iconst C 1 (by decide) dJ6_bitCount_0f7a4_2 ?_
  refine g_iushr C dJ6_bitCount_0f7a4_3 ?_
  refine g_ldcw C 1431655765 wct_RJ6_265 dJ6_bitCount_0f7a4_4 ?_
  refine g_iand C dJ6_bitCount_0f7a4_7 ?_
  refine g_isub C dJ6_bitCount_0f7a4_8 ?_
  refine g_istore_n C 0 rfl [(0, .int (L0 - ((UInt32.toInt32 ((Int32.toUInt32 L0) >>> ((Int32.toUInt32 1) &&& Int32.toUInt32 31))) &&& 1431655765)))] (Nat.le_of_ble_eq_true rfl) rfl dJ6_bitCount_0f7a4_9 ?_
  refine g_iload_n C 0 rfl 0 rfl dJ6_bitCount_0f7a4_10 ?_
  refine g_ldcw C 858993459 wct_RJ6_266 dJ6_bitCount_0f7a4_11 ?_
  refine g_iand C dJ6_bitCount_0f7a4_14 ?_
  refine g_iload_n C 0 rfl 0 rfl dJ6_bitCount_0f7a4_15 ?_
  refine g_iconst C 2 (by decide) dJ6_bitCount_0f7a4_16 ?_
  refine g_iushr C dJ6_bitCount_0f7a4_17 ?_
  refine g_ldcw C 858993459 wct_RJ6_266 dJ6_bitCount_0f7a4_18 ?_
  refine g_iand C dJ6_bitCount_0f7a4_21 ?_
  refine g_iadd C dJ6_bitCount_0f7a4_22 ?_
  refine g_istore_n C 0 rfl [(0, .int (((L0 - ((UInt32.toInt32 ((Int32.toUInt32 L0) >>> ((Int32.toUInt32 1) &&& Int32.toUInt32 31))) &&& 1431655765)) &&& 858993459) + ((UInt32.toInt32 ((Int32.toUInt32 (L0 - ((UInt32.toInt32 ((Int32.toUInt32 L0) >>> ((Int32.toUInt32 1) &&& Int32.toUInt32 31))) &&& 1431655765))) >>> ((Int32.toUInt32 2) &&& Int32.toUInt32 31))) &&& 858993459)))] (Nat.le_of_ble_eq_true rfl) rfl dJ6_bitCount_0f7a4_23 ?_
  refine g_iload_n C 0 rfl 0 rfl dJ6_bitCount_0f7a4_24 ?_
  refine g_iload_n C 0 rfl 0 rfl dJ6_bitCount_0f7a4_25 ?_
  refine g_iconst C 4 (by decide) dJ6_bitCount_0f7a4_26 ?_
  refine g_iushr C dJ6_bitCount_0f7a4_27 ?_
  refine g_iadd C dJ6_bitCount_0f7a4_28 ?_
  refine g_ldcw C 252645135 wct_RJ6_267 dJ6_bitCount_0f7a4_29 ?_
  refine g_iand C dJ6_bitCount_0f7a4_32 ?_
  refine g_istore_n C 0 rfl [(0, .int (((((L0 - ((UInt32.toInt32 ((Int32.toUInt32 L0) >>> ((Int32.toUInt32 1) &&& Int32.toUInt32 31))) &&& 1431655765)) &&& 858993459) + ((UInt32.toInt32 ((Int32.toUInt32 (L0 - ((UInt32.toInt32 ((Int32.toUInt32 L0) >>> ((Int32.toUInt32 1) &&& Int32.toUInt32 31))) &&& 1431655765))) >>> ((Int32.toUInt32 2) &&& Int32.toUInt32 31))) &&& 858993459)) + (UInt32.toInt32 ((Int32.toUInt32 (((L0 - ((UInt32.toInt32 ((Int32.toUInt32 L0) >>> ((Int32.toUInt32 1) &&& Int32.toUInt32 31))) &&& 1431655765)) &&& 858993459) + ((UInt32.toInt32 ((Int32.toUInt32 (L0 - ((UInt32.toInt32 ((Int32.toUInt32 L0) >>> ((Int32.toUInt32 1) &&& Int32.toUInt32 31))) &&& 1431655765))) >>> ((Int32.toUInt32 2) &&& Int32.toUInt32 31))) &&& 858993459))) >>> ((Int32.toUInt32 4) &&& Int32.toUInt32 31)))) &&& 252645135))] (Nat.le_of_ble_eq_true rfl) rfl dJ6_bitCount_0f7a4_33 ?_
  refine g_iload_n C 0 rfl 0 rfl dJ6_bitCount_0f7a4_34 ?_
  refine g_iload_n C 0 rfl 0 rfl dJ6_bitCount_0f7a4_35 ?_
  refine g_bipush C 8 (by decide) dJ6_bitCount_0f7a4_36 ?_
  refine g_iushr C dJ6_bitCount_0f7a4_38 ?_
  refine g_iadd C dJ6_bitCount_0f7a4_39 ?_
  refine g_istore_n C 0 rfl [(0, .int ((((((L0 - ((UInt32.toInt32 ((Int32.toUInt32 L0) >>> ((Int32.toUInt32 1) &&& Int32.toUInt32 31))) &&& 1431655765)) &&& 858993459) + ((UInt32.toInt32 ((Int32.toUInt32 (L0 - ((UInt32.toInt32 ((Int32.toUInt32 L0) >>> ((Int32.toUInt32 1) &&& Int32.toUInt32 31))) &&& 1431655765))) >>> ((Int32.toUInt32 2) &&& Int32.toUInt32 31))) &&& 858993459)) + (UInt32.toInt32 ((Int32.toUInt32 (((L0 - ((UInt32.toInt32 ((Int32.toUInt32 L0) >>> ((Int32.toUInt32 1) &&& Int32.toUInt32 31))) &&& 1431655765)) &&& 858993459) + ((UInt32.toInt32 ((Int32.toUInt32 (L0 - ((UInt32.toInt32 ((Int32.toUInt32 L0) >>> ((Int32.toUInt32 1) &&& Int32.toUInt32 31))) &&& 1431655765))) >>> ((Int32.toUInt32 2) &&& Int32.toUInt32 31))) &&& 858993459))) >>> ((Int32.toUInt32 4) &&& Int32.toUInt32 31)))) &&& 252645135) + (UInt32.toInt32 ((Int32.toUInt32 (((((L0 - ((UInt32.toInt32 ((Int32.toUInt32 L0) >>> ((Int32.toUInt32 1) &&& Int32.toUInt32 31))) &&& 1431655765)) &&& 858993459) + ((UInt32.toInt32 ((Int32.toUInt32 (L0 - ((UInt32.toInt32 ((Int32.toUInt32 L0) >>> ((Int32.toUInt32 1) &&& Int32.toUInt32 31))) &&& 1431655765))) >>> ((Int32.toUInt32 2) &&& Int32.toUInt32 31))) &&& 858993459)) + (UInt32.toInt32 ((Int32.toUInt32 (((L0 - ((UInt32.toInt32 ((Int32.toUInt32 L0) >>> ((Int32.toUInt32 1) &&& Int32.toUInt32 31))) &&& 1431655765)) &&& 858993459) + ((UInt32.toInt32 ((Int32.toUInt32 (L0 - ((UInt32.toInt32 ((Int32.toUInt32 L0) >>> ((Int32.toUInt32 1) &&& Int32.toUInt32 31))) &&& 1431655765))) >>> ((Int32.toUInt32 2) &&& Int32.toUInt32 31))) &&& 858993459))) >>> ((Int32.toUInt32 4) &&& Int32.toUInt32 31)))) &&& 252645135)) >>> ((Int32.toUInt32 8) &&& Int32.toUInt32 31)))))] (Nat.le_of_ble_eq_true rfl) rfl dJ6_bitCount_0f7a4_40 ?_
  refine g_iload_n C 0 rfl 0 rfl dJ6_bitCount_0f7a4_41 ?_
  refine g_iload_n C 0 rfl 0 rfl dJ6_bitCount_0f7a4_42 ?_
  refine g_bipush C 16 (by decide) dJ6_bitCount_0f7a4_43 ?_
  refine g_iushr C dJ6_bitCount_0f7a4_45 ?_
  refine g_iadd C dJ6_bitCount_0f7a4_46 ?_
  refine g_istore_n C 0 rfl [(0, .int (((((((L0 - ((UInt32.toInt32 ((Int32.toUInt32 L0) >>> ((Int32.toUInt32 1) &&& Int32.toUInt32 31))) &&& 1431655765)) &&& 858993459) + ((UInt32.toInt32 ((Int32.toUInt32 (L0 - ((UInt32.toInt32 ((Int32.toUInt32 L0) >>> ((Int32.toUInt32 1) &&& Int32.toUInt32 31))) &&& 1431655765))) >>> ((Int32.toUInt32 2) &&& Int32.toUInt32 31))) &&& 858993459)) + (UInt32.toInt32 ((Int32.toUInt32 (((L0 - ((UInt32.toInt32 ((Int32.toUInt32 L0) >>> ((Int32.toUInt32 1) &&& Int32.toUInt32 31))) &&& 1431655765)) &&& 858993459) + ((UInt32.toInt32 ((Int32.toUInt32 (L0 - ((UInt32.toInt32 ((Int32.toUInt32 L0) >>> ((Int32.toUInt32 1) &&& Int32.toUInt32 31))) &&& 1431655765))) >>> ((Int32.toUInt32 2) &&& Int32.toUInt32 31))) &&& 858993459))) >>> ((Int32.toUInt32 4) &&& Int32.toUInt32 31)))) &&& 252645135) + (UInt32.toInt32 ((Int32.toUInt32 (((((L0 - ((UInt32.toInt32 ((Int32.toUInt32 L0) >>> ((Int32.toUInt32 1) &&& Int32.toUInt32 31))) &&& 1431655765)) &&& 858993459) + ((UInt32.toInt32 ((Int32.toUInt32 (L0 - ((UInt32.toInt32 ((Int32.toUInt32 L0) >>> ((Int32.toUInt32 1) &&& Int32.toUInt32 31))) &&& 1431655765))) >>> ((Int32.toUInt32 2) &&& Int32.toUInt32 31))) &&& 858993459)) + (UInt32.toInt32 ((Int32.toUInt32 (((L0 - ((UInt32.toInt32 ((Int32.toUInt32 L0) >>> ((Int32.toUInt32 1) &&& Int32.toUInt32 31))) &&& 1431655765)) &&& 858993459) + ((UInt32.toInt32 ((Int32.toUInt32 (L0 - ((UInt32.toInt32 ((Int32.toUInt32 L0) >>> ((Int32.toUInt32 1) &&& Int32.toUInt32 31))) &&& 1431655765))) >>> ((Int32.toUInt32 2) &&& Int32.toUInt32 31))) &&& 858993459))) >>> ((Int32.toUInt32 4) &&& Int32.toUInt32 31)))) &&& 252645135)) >>> ((Int32.toUInt32 8) &&& Int32.toUInt32 31)))) + (UInt32.toInt32 ((Int32.toUInt32 ((((((L0 - ((UInt32.toInt32 ((Int32.toUInt32 L0) >>> ((Int32.toUInt32 1) &&& Int32.toUInt32 31))) &&& 1431655765)) &&& 858993459) + ((UInt32.toInt32 ((Int32.toUInt32 (L0 - ((UInt32.toInt32 ((Int32.toUInt32 L0) >>> ((Int32.toUInt32 1) &&& Int32.toUInt32 31))) &&& 1431655765))) >>> ((Int32.toUInt32 2) &&& Int32.toUInt32 31))) &&& 858993459)) + (UInt32.toInt32 ((Int32.toUInt32 (((L0 - ((UInt32.toInt32 ((Int32.toUInt32 L0) >>> ((Int32.toUInt32 1) &&& Int32.toUInt32 31))) &&& 1431655765)) &&& 858993459) + ((UInt32.toInt32 ((Int32.toUInt32 (L0 - ((UInt32.toInt32 ((Int32.toUInt32 L0) >>> ((Int32.toUInt32 1) &&& Int32.toUInt32 31))) &&& 1431655765))) >>> ((Int32.toUInt32 2) &&& Int32.toUInt32 31))) &&& 858993459))) >>> ((Int32.toUInt32 4) &&& Int32.toUInt32 31)))) &&& 252645135) + (UInt32.toInt32 ((Int32.toUInt32 (((((L0 - ((UInt32.toInt32 ((Int32.toUInt32 L0) >>> ((Int32.toUInt32 1) &&& Int32.toUInt32 31))) &&& 1431655765)) &&& 858993459) + ((UInt32.toInt32 ((Int32.toUInt32 (L0 - ((UInt32.toInt32 ((Int32.toUInt32 L0) >>> ((Int32.toUInt32 1) &&& Int32.toUInt32 31))) &&& 1431655765))) >>> ((Int32.toUInt32 2) &&& Int32.toUInt32 31))) &&& 858993459)) + (UInt32.toInt32 ((Int32.toUInt32 (((L0 - ((UInt32.toInt32 ((Int32.toUInt32 L0) >>> ((Int32.toUInt32 1) &&& Int32.toUInt32 31))) &&& 1431655765)) &&& 858993459) + ((UInt32.toInt32 ((Int32.toUInt32 (L0 - ((UInt32.toInt32 ((Int32.toUInt32 L0) >>> ((Int32.toUInt32 1) &&& Int32.toUInt32 31))) &&& 1431655765))) >>> ((Int32.toUInt32 2) &&& Int32.toUInt32 31))) &&& 858993459))) >>> ((Int32.toUInt32 4) &&& Int32.toUInt32 31)))) &&& 252645135)) >>> ((Int32.toUInt32 8) &&& Int32.toUInt32 31))))) >>> ((Int32.toUInt32 16) &&& Int32.toUInt32 31)))))] (Nat.le_of_ble_eq_true rfl) rfl dJ6_bitCount_0f7a4_47 ?_
  refine g_iload_n C 0 rfl 0 rfl dJ6_bitCount_0f7a4_48 ?_
  refine g_bipush C 63 (by decide) dJ6_bitCount_0f7a4_49 ?_
  refine g_iand C dJ6_bitCount_0f7a4_51 ?_
  exact g_iret C hr rfl (Nat.le_of_ble_eq_true rfl) (Nat.le_of_ble_eq_true rfl) h dJ6_bitCount_0f7a4_52
def TX6_undo (L1 : Int32) (v : gMem) (Q : Int32 → gMem → Prop) (X : String → gMem → Prop) : Prop := (TX6_requireMerge L1 v (fun v2 => (vp_in L1 30 ∧ ((¬ (v2 19 0 (Int32.toNatClampNeg L1)) = 0 → (TX3_takeBack L1 v2 (fun v32 => (TX6_allCards v32 (fun r37 v37 => (TX6_personsWith r37 v37 (fun r40 v40 => (TJ6_bitCount_0f7a4 r40 v40 (fun r43 v43 => (Q r43 v43)) X)) X)) X)) X)) ∧ ((v2 19 0 (Int32.toNatClampNeg L1)) = 0 → (X "java/lang/IllegalStateException" v2))))) X)
theorem kX6_undo (l : Launch) (hfl : l.stackTraces = false) (L : gL) (hL : gDist L) (L1 : Int32) (v : gMem) (Q : Int32 → gMem → Prop) (X : String → gMem → Prop) (h : TX6_undo L1 v Q X) (sz : Nat) : vx_Met l yX6_undo [.code yX6_undo cX6_undo 2 (some .int)] ({ frames := 7, cells := 2, slots := 12, locals := 103 } : Room) (gPc L sz [.ref (L.2.1 6 0), .int L1] v) (gQi L sz Q) (gXC L sz X) 2 12 (gA L sz) := by
  refine g_ofW (by decide +kernel) hfl hL (Nat.le_of_ble_eq_true rfl) ?_
  intro p e s m args below meth c C hr hno
  refine g_sub [(0, .ref (L.2.1 6 0)), (1, .int L1)] [0, 1] rfl ?_
  unfold TX6_undo at h
  refine g_aload_n C 0 rfl 0 rfl dX6_undo_0 ?_
  refine g_iload_n C 1 rfl 1 rfl dX6_undo_1 ?_
  refine g_callVv C hno gok_6 rfl rfl [.int L1] (fun sz9 => kX6_requireMerge l C.2.2.2.2.2.2.1 L C.2.2.2.2.2.2.2.1 L1 v _ X h sz9) wml_RX6_242 winst_X6_requireMerge wsel_X6_requireMerge wini_RX6 wcode_X6_requireMerge rfl rfl (n := 1) (by decide +kernel) rfl ⟨(Nat.le_of_ble_eq_true rfl), (Nat.le_of_ble_eq_true rfl)⟩ ⟨(Nat.le_of_ble_eq_true rfl), (Nat.le_of_ble_eq_true rfl)⟩ ⟨(Nat.le_of_ble_eq_true rfl), (Nat.le_of_ble_eq_true rfl)⟩ (Nat.le_of_ble_eq_true rfl) dX6_undo_2 (fun v2 h => ?_)
  refine g_aload_n C 0 rfl 0 rfl dX6_undo_5 ?_
  refine fgX6_39 C dX6_undo_6 ?_
  refine fgX6_245 C dX6_undo_9 ?_
  refine g_iload_n C 1 rfl 1 rfl dX6_undo_12 ?_
  obtain ⟨hb13, h⟩ := h
  refine g_zald C gok_19 rfl hb13 dX6_undo_13 ?_
  refine g_if_ne C 27 (by decide) dX6_undo_14 (fun hc => ?_) (fun hc => ?_)
  · replace h := h.1 hc
    refine g_aload_n C 0 rfl 0 rfl dX6_undo_27 ?_
    refine fgX6_39 C dX6_undo_28 ?_
    refine g_iload_n C 1 rfl 1 rfl dX6_undo_31 ?_
    refine g_callVv C hno gok_3 rfl rfl [.int L1] (fun sz9 => kX3_takeBack l C.2.2.2.2.2.2.1 L C.2.2.2.2.2.2.2.1 L1 v2 _ X h sz9) wml_RX6_251 winst_X3_takeBack wsel_X3_takeBack wini_RX3 wcode_X3_takeBack rfl rfl (n := 1) (by decide +kernel) rfl ⟨(Nat.le_of_ble_eq_true rfl), (Nat.le_of_ble_eq_true rfl)⟩ ⟨(Nat.le_of_ble_eq_true rfl), (Nat.le_of_ble_eq_true rfl)⟩ ⟨(Nat.le_of_ble_eq_true rfl), (Nat.le_of_ble_eq_true rfl)⟩ (Nat.le_of_ble_eq_true rfl) dX6_undo_32 (fun v32 h => ?_)
    refine g_aload_n C 0 rfl 0 rfl dX6_undo_35 ?_
    refine g_aload_n C 0 rfl 0 rfl dX6_undo_36 ?_
    refine g_callVi C hno gok_6 rfl rfl [] (fun sz9 => kX6_allCards l C.2.2.2.2.2.2.1 L C.2.2.2.2.2.2.2.1 v32 _ X h sz9) wml_RX6_254 winst_X6_allCards wsel_X6_allCards wini_RX6 wcode_X6_allCards rfl rfl (n := 0) (by decide +kernel) rfl ⟨(Nat.le_of_ble_eq_true rfl), (Nat.le_of_ble_eq_true rfl)⟩ ⟨(Nat.le_of_ble_eq_true rfl), (Nat.le_of_ble_eq_true rfl)⟩ ⟨(Nat.le_of_ble_eq_true rfl), (Nat.le_of_ble_eq_true rfl)⟩ (Nat.le_of_ble_eq_true rfl) dX6_undo_37 (fun r37 v37 h => ?_)
    refine g_callVi C hno gok_6 rfl rfl [.int r37] (fun sz9 => kX6_personsWith l C.2.2.2.2.2.2.1 L C.2.2.2.2.2.2.2.1 r37 v37 _ X h sz9) wml_RX6_257 winst_X6_personsWith wsel_X6_personsWith wini_RX6 wcode_X6_personsWith rfl rfl (n := 1) (by decide +kernel) rfl ⟨(Nat.le_of_ble_eq_true rfl), (Nat.le_of_ble_eq_true rfl)⟩ ⟨(Nat.le_of_ble_eq_true rfl), (Nat.le_of_ble_eq_true rfl)⟩ ⟨(Nat.le_of_ble_eq_true rfl), (Nat.le_of_ble_eq_true rfl)⟩ (Nat.le_of_ble_eq_true rfl) dX6_undo_40 (fun r40 v40 h => ?_)
    refine g_callSi C hno [.int r40] (fun sz9 => kJ6_bitCount_0f7a4 l C.2.2.2.2.2.2.1 L C.2.2.2.2.2.2.2.1 r40 v40 _ X h sz9) wml_RX6_260 wstat_J6_bitCount_0f7a4 wini_RJ6 wcode_J6_bitCount_0f7a4 rfl rfl (n := 1) (by decide +kernel) rfl ⟨(Nat.le_of_ble_eq_true rfl), (Nat.le_of_ble_eq_true rfl)⟩ ⟨(Nat.le_of_ble_eq_true rfl), (Nat.le_of_ble_eq_true rfl)⟩ ⟨(Nat.le_of_ble_eq_true rfl), (Nat.le_of_ble_eq_true rfl)⟩ (Nat.le_of_ble_eq_true rfl) dX6_undo_43 (fun r43 v43 h => ?_)
    exact g_iret C hr rfl (Nat.le_of_ble_eq_true rfl) (Nat.le_of_ble_eq_true rfl) h dX6_undo_46
  · replace h := h.2 hc
    exact g_throwS C hno (text := "the merge does not stand") (is := 249) rfl (by decide) wcl_RX6_78 wini_java_lang_IllegalStateException (List.mem_of_getElem? (i := 24) rfl) wat_RX6_82 dX6_undo_17 dX6_undo_20 dX6_undo_21 dX6_undo_23 dX6_undo_26 (Nat.le_of_ble_eq_true rfl) (Nat.le_of_ble_eq_true rfl) ⟨(Nat.le_of_ble_eq_true rfl), (Nat.le_of_ble_eq_true rfl)⟩ (Nat.le_of_ble_eq_true rfl) (Nat.le_of_ble_eq_true rfl) h
def TX6_stands (L1 : Int32) (v : gMem) (Q : Int32 → gMem → Prop) (X : String → gMem → Prop) : Prop := (TX6_requireMerge L1 v (fun v2 => (vp_in L1 30 ∧ (narrow .boolean (.int (v2 19 0 (Int32.toNatClampNeg L1))) = .int (v2 19 0 (Int32.toNatClampNeg L1)) ∧ Q (v2 19 0 (Int32.toNatClampNeg L1)) v2))) X)
theorem kX6_stands (l : Launch) (hfl : l.stackTraces = false) (L : gL) (hL : gDist L) (L1 : Int32) (v : gMem) (Q : Int32 → gMem → Prop) (X : String → gMem → Prop) (h : TX6_stands L1 v Q X) (sz : Nat) : vx_Met l yX6_stands [.code yX6_stands cX6_stands 2 (some .boolean)] ({ frames := 7, cells := 1, slots := 6, locals := 103 } : Room) (gPc L sz [.ref (L.2.1 6 0), .int L1] v) (gQi L sz Q) (gXC L sz X) 1 6 (gA L sz) := by
  refine g_ofW (by decide +kernel) hfl hL (Nat.le_of_ble_eq_true rfl) ?_
  intro p e s m args below meth c C hr hno
  refine g_sub [(0, .ref (L.2.1 6 0)), (1, .int L1)] [0, 1] rfl ?_
  unfold TX6_stands at h
  refine g_aload_n C 0 rfl 0 rfl dX6_stands_0 ?_
  refine g_iload_n C 1 rfl 1 rfl dX6_stands_1 ?_
  refine g_callVv C hno gok_6 rfl rfl [.int L1] (fun sz9 => kX6_requireMerge l C.2.2.2.2.2.2.1 L C.2.2.2.2.2.2.2.1 L1 v _ X h sz9) wml_RX6_242 winst_X6_requireMerge wsel_X6_requireMerge wini_RX6 wcode_X6_requireMerge rfl rfl (n := 1) (by decide +kernel) rfl ⟨(Nat.le_of_ble_eq_true rfl), (Nat.le_of_ble_eq_true rfl)⟩ ⟨(Nat.le_of_ble_eq_true rfl), (Nat.le_of_ble_eq_true rfl)⟩ ⟨(Nat.le_of_ble_eq_true rfl), (Nat.le_of_ble_eq_true rfl)⟩ (Nat.le_of_ble_eq_true rfl) dX6_stands_2 (fun v2 h => ?_)
  refine g_aload_n C 0 rfl 0 rfl dX6_stands_5 ?_
  refine fgX6_39 C dX6_stands_6 ?_
  refine fgX6_245 C dX6_stands_9 ?_
  refine g_iload_n C 1 rfl 1 rfl dX6_stands_12 ?_
  obtain ⟨hb13, h⟩ := h
  refine g_zald C gok_19 rfl hb13 dX6_stands_13 ?_
  exact g_iret C hr h.1 (Nat.le_of_ble_eq_true rfl) (Nat.le_of_ble_eq_true rfl) h.2 dX6_stands_14
def TX6_steps (L1 : Int32) (L2 : Int32) (v : gMem) (Q : Int32 → gMem → Prop) (X : String → gMem → Prop) : Prop := (TX6_requireCards L1 L2 v (fun v3 => (TX3_distance L1 L2 v3 (fun r12 v12 => ((¬ r12 = (-1) → (Q r12 v12)) ∧ (r12 = (-1) → (X "java/util/NoSuchElementException" v12)))) X)) X)
theorem kX6_steps (l : Launch) (hfl : l.stackTraces = false) (L : gL) (hL : gDist L) (L1 : Int32) (L2 : Int32) (v : gMem) (Q : Int32 → gMem → Prop) (X : String → gMem → Prop) (h : TX6_steps L1 L2 v Q X) (sz : Nat) : vx_Met l yX6_steps [.code yX6_steps cX6_steps 4 (some .int)] ({ frames := 8, cells := 3, slots := 18, locals := 125 } : Room) (gPc L sz [.ref (L.2.1 6 0), .int L1, .int L2] v) (gQi L sz Q) (gXC L sz X) 3 18 (gA L sz) := by
  refine g_ofW (by decide +kernel) hfl hL (Nat.le_of_ble_eq_true rfl) ?_
  intro p e s m args below meth c C hr hno
  refine g_sub [(0, .ref (L.2.1 6 0)), (1, .int L1), (2, .int L2)] [0, 1, 2] rfl ?_
  unfold TX6_steps at h
  refine g_aload_n C 0 rfl 0 rfl dX6_steps_0 ?_
  refine g_iload_n C 1 rfl 1 rfl dX6_steps_1 ?_
  refine g_iload_n C 2 rfl 2 rfl dX6_steps_2 ?_
  refine g_callVv C hno gok_6 rfl rfl [.int L1, .int L2] (fun sz9 => kX6_requireCards l C.2.2.2.2.2.2.1 L C.2.2.2.2.2.2.2.1 L1 L2 v _ X h sz9) wml_RX6_153 winst_X6_requireCards wsel_X6_requireCards wini_RX6 wcode_X6_requireCards rfl rfl (n := 2) (by decide +kernel) rfl ⟨(Nat.le_of_ble_eq_true rfl), (Nat.le_of_ble_eq_true rfl)⟩ ⟨(Nat.le_of_ble_eq_true rfl), (Nat.le_of_ble_eq_true rfl)⟩ ⟨(Nat.le_of_ble_eq_true rfl), (Nat.le_of_ble_eq_true rfl)⟩ (Nat.le_of_ble_eq_true rfl) dX6_steps_3 (fun v3 h => ?_)
  refine g_aload_n C 0 rfl 0 rfl dX6_steps_6 ?_
  refine fgX6_39 C dX6_steps_7 ?_
  refine g_iload_n C 1 rfl 1 rfl dX6_steps_10 ?_
  refine g_iload_n C 2 rfl 2 rfl dX6_steps_11 ?_
  refine g_callVi C hno gok_3 rfl rfl [.int L1, .int L2] (fun sz9 => kX3_distance l C.2.2.2.2.2.2.1 L C.2.2.2.2.2.2.2.1 L1 L2 v3 _ X h sz9) wml_RX6_265 winst_X3_distance wsel_X3_distance wini_RX3 wcode_X3_distance rfl rfl (n := 2) (by decide +kernel) rfl ⟨(Nat.le_of_ble_eq_true rfl), (Nat.le_of_ble_eq_true rfl)⟩ ⟨(Nat.le_of_ble_eq_true rfl), (Nat.le_of_ble_eq_true rfl)⟩ ⟨(Nat.le_of_ble_eq_true rfl), (Nat.le_of_ble_eq_true rfl)⟩ (Nat.le_of_ble_eq_true rfl) dX6_steps_12 (fun r12 v12 h => ?_)
  refine g_istore_n C 3 rfl [(3, .int r12), (0, .ref (L.2.1 6 0)), (1, .int L1), (2, .int L2)] (Nat.le_of_ble_eq_true rfl) rfl dX6_steps_15 ?_
  refine g_iload_n C 3 rfl 0 rfl dX6_steps_16 ?_
  refine g_iconst C (-1) (by decide) dX6_steps_17 ?_
  refine g_icmp_ne C 32 (by decide) dX6_steps_18 (fun hc => ?_) (fun hc => ?_)
  · replace h := h.1 hc
    refine g_iload_n C 3 rfl 0 rfl dX6_steps_32 ?_
    exact g_iret C hr rfl (Nat.le_of_ble_eq_true rfl) (Nat.le_of_ble_eq_true rfl) h dX6_steps_33
  · replace h := h.2 hc
    exact g_throwNW C hno (text := "the cards are not one person") (is := 268) rfl (by decide) wcl_RX6_128 wini_java_util_NoSuchElementException (List.mem_of_getElem? (i := 25) rfl) wat_RX6_132 dX6_steps_21 dX6_steps_24 dX6_steps_25 dX6_steps_28 dX6_steps_31 (Nat.le_of_ble_eq_true rfl) (Nat.le_of_ble_eq_true rfl) ⟨(Nat.le_of_ble_eq_true rfl), (Nat.le_of_ble_eq_true rfl)⟩ (Nat.le_of_ble_eq_true rfl) (Nat.le_of_ble_eq_true rfl) h
def TX6_person (L1 : Int32) (v : gMem) (Q : Int32 → gMem → Prop) (X : String → gMem → Prop) : Prop := (TX6_requireCard L1 v (fun v2 => (TX3_joinedWith L1 v2 (fun r10 v10 => (TX6_lowestOf r10 v10 (fun r13 v13 => (Q r13 v13)) X)) X)) X)
theorem kX6_person (l : Launch) (hfl : l.stackTraces = false) (L : gL) (hL : gDist L) (L1 : Int32) (v : gMem) (Q : Int32 → gMem → Prop) (X : String → gMem → Prop) (h : TX6_person L1 v Q X) (sz : Nat) : vx_Met l yX6_person [.code yX6_person cX6_person 2 (some .int)] ({ frames := 7, cells := 1, slots := 6, locals := 103 } : Room) (gPc L sz [.ref (L.2.1 6 0), .int L1] v) (gQi L sz Q) (gXC L sz X) 1 6 (gA L sz) := by
  refine g_ofW (by decide +kernel) hfl hL (Nat.le_of_ble_eq_true rfl) ?_
  intro p e s m args below meth c C hr hno
  refine g_sub [(0, .ref (L.2.1 6 0)), (1, .int L1)] [0, 1] rfl ?_
  unfold TX6_person at h
  refine g_aload_n C 0 rfl 0 rfl dX6_person_0 ?_
  refine g_iload_n C 1 rfl 1 rfl dX6_person_1 ?_
  refine g_callVv C hno gok_6 rfl rfl [.int L1] (fun sz9 => kX6_requireCard l C.2.2.2.2.2.2.1 L C.2.2.2.2.2.2.2.1 L1 v _ X h sz9) wml_RX6_96 winst_X6_requireCard wsel_X6_requireCard wini_RX6 wcode_X6_requireCard rfl rfl (n := 1) (by decide +kernel) rfl ⟨(Nat.le_of_ble_eq_true rfl), (Nat.le_of_ble_eq_true rfl)⟩ ⟨(Nat.le_of_ble_eq_true rfl), (Nat.le_of_ble_eq_true rfl)⟩ ⟨(Nat.le_of_ble_eq_true rfl), (Nat.le_of_ble_eq_true rfl)⟩ (Nat.le_of_ble_eq_true rfl) dX6_person_2 (fun v2 h => ?_)
  refine g_aload_n C 0 rfl 0 rfl dX6_person_5 ?_
  refine fgX6_39 C dX6_person_6 ?_
  refine g_iload_n C 1 rfl 1 rfl dX6_person_9 ?_
  refine g_callVi C hno gok_3 rfl rfl [.int L1] (fun sz9 => kX3_joinedWith l C.2.2.2.2.2.2.1 L C.2.2.2.2.2.2.2.1 L1 v2 _ X h sz9) wml_RX6_226 winst_X3_joinedWith wsel_X3_joinedWith wini_RX3 wcode_X3_joinedWith rfl rfl (n := 1) (by decide +kernel) rfl ⟨(Nat.le_of_ble_eq_true rfl), (Nat.le_of_ble_eq_true rfl)⟩ ⟨(Nat.le_of_ble_eq_true rfl), (Nat.le_of_ble_eq_true rfl)⟩ ⟨(Nat.le_of_ble_eq_true rfl), (Nat.le_of_ble_eq_true rfl)⟩ (Nat.le_of_ble_eq_true rfl) dX6_person_10 (fun r10 v10 h => ?_)
  refine g_callSi C hno [.int r10] (fun sz9 => kX6_lowestOf l C.2.2.2.2.2.2.1 L C.2.2.2.2.2.2.2.1 r10 v10 _ X h sz9) wml_RX6_219 wstat_X6_lowestOf wini_RX6 wcode_X6_lowestOf rfl rfl (n := 1) (by decide +kernel) rfl ⟨(Nat.le_of_ble_eq_true rfl), (Nat.le_of_ble_eq_true rfl)⟩ ⟨(Nat.le_of_ble_eq_true rfl), (Nat.le_of_ble_eq_true rfl)⟩ ⟨(Nat.le_of_ble_eq_true rfl), (Nat.le_of_ble_eq_true rfl)⟩ (Nat.le_of_ble_eq_true rfl) dX6_person_13 (fun r13 v13 h => ?_)
  exact g_iret C hr rfl (Nat.le_of_ble_eq_true rfl) (Nat.le_of_ble_eq_true rfl) h dX6_person_16
def TX6_personByRounds (L1 : Int32) (v : gMem) (Q : Int32 → gMem → Prop) (X : String → gMem → Prop) : Prop := (TX6_requireCard L1 v (fun v2 => (TX3_labelByRounds v2 (fun v9 => (vp_in L1 16 ∧ (Q (v9 20 0 (Int32.toNatClampNeg L1)) v9))) X)) X)
theorem kX6_personByRounds (l : Launch) (hfl : l.stackTraces = false) (L : gL) (hL : gDist L) (L1 : Int32) (v : gMem) (Q : Int32 → gMem → Prop) (X : String → gMem → Prop) (h : TX6_personByRounds L1 v Q X) (sz : Nat) : vx_Met l yX6_personByRounds [.code yX6_personByRounds cX6_personByRounds 2 (some .int)] ({ frames := 7, cells := 1, slots := 6, locals := 103 } : Room) (gPc L sz [.ref (L.2.1 6 0), .int L1] v) (gQi L sz Q) (gXC L sz X) 1 6 (gA L sz) := by
  refine g_ofW (by decide +kernel) hfl hL (Nat.le_of_ble_eq_true rfl) ?_
  intro p e s m args below meth c C hr hno
  refine g_sub [(0, .ref (L.2.1 6 0)), (1, .int L1)] [0, 1] rfl ?_
  unfold TX6_personByRounds at h
  refine g_aload_n C 0 rfl 0 rfl dX6_personByRounds_0 ?_
  refine g_iload_n C 1 rfl 1 rfl dX6_personByRounds_1 ?_
  refine g_callVv C hno gok_6 rfl rfl [.int L1] (fun sz9 => kX6_requireCard l C.2.2.2.2.2.2.1 L C.2.2.2.2.2.2.2.1 L1 v _ X h sz9) wml_RX6_96 winst_X6_requireCard wsel_X6_requireCard wini_RX6 wcode_X6_requireCard rfl rfl (n := 1) (by decide +kernel) rfl ⟨(Nat.le_of_ble_eq_true rfl), (Nat.le_of_ble_eq_true rfl)⟩ ⟨(Nat.le_of_ble_eq_true rfl), (Nat.le_of_ble_eq_true rfl)⟩ ⟨(Nat.le_of_ble_eq_true rfl), (Nat.le_of_ble_eq_true rfl)⟩ (Nat.le_of_ble_eq_true rfl) dX6_personByRounds_2 (fun v2 h => ?_)
  refine g_aload_n C 0 rfl 0 rfl dX6_personByRounds_5 ?_
  refine fgX6_39 C dX6_personByRounds_6 ?_
  refine g_callVv C hno gok_3 rfl rfl [] (fun sz9 => kX3_labelByRounds l C.2.2.2.2.2.2.1 L C.2.2.2.2.2.2.2.1 v2 _ X h sz9) wml_RX6_270 winst_X3_labelByRounds wsel_X3_labelByRounds wini_RX3 wcode_X3_labelByRounds rfl rfl (n := 0) (by decide +kernel) rfl ⟨(Nat.le_of_ble_eq_true rfl), (Nat.le_of_ble_eq_true rfl)⟩ ⟨(Nat.le_of_ble_eq_true rfl), (Nat.le_of_ble_eq_true rfl)⟩ ⟨(Nat.le_of_ble_eq_true rfl), (Nat.le_of_ble_eq_true rfl)⟩ (Nat.le_of_ble_eq_true rfl) dX6_personByRounds_9 (fun v9 h => ?_)
  refine g_aload_n C 0 rfl 0 rfl dX6_personByRounds_12 ?_
  refine fgX6_39 C dX6_personByRounds_13 ?_
  refine fgX6_273 C dX6_personByRounds_16 ?_
  refine g_iload_n C 1 rfl 1 rfl dX6_personByRounds_19 ?_
  obtain ⟨hb20, h⟩ := h
  refine g_iald C gok_20 rfl hb20 dX6_personByRounds_20 ?_
  exact g_iret C hr rfl (Nat.le_of_ble_eq_true rfl) (Nat.le_of_ble_eq_true rfl) h dX6_personByRounds_21
def TX6_persons (v : gMem) (Q : Int32 → gMem → Prop) (X : String → gMem → Prop) : Prop := (TX6_allCards v (fun r2 v2 => (TX6_personsWith r2 v2 (fun r5 v5 => (TJ6_bitCount_0f7a4 r5 v5 (fun r8 v8 => (Q r8 v8)) X)) X)) X)
theorem kX6_persons (l : Launch) (hfl : l.stackTraces = false) (L : gL) (hL : gDist L) (v : gMem) (Q : Int32 → gMem → Prop) (X : String → gMem → Prop) (h : TX6_persons v Q X) (sz : Nat) : vx_Met l yX6_persons [.code yX6_persons cX6_persons 1 (some .int)] ({ frames := 4, cells := 0, slots := 0, locals := 93 } : Room) (gPc L sz [.ref (L.2.1 6 0)] v) (gQi L sz Q) (gXC L sz X) 0 0 (gA L sz) := by
  refine g_ofW (by decide +kernel) hfl hL (Nat.le_of_ble_eq_true rfl) ?_
  intro p e s m args below meth c C hr hno
  refine g_sub [(0, .ref (L.2.1 6 0))] [0] rfl ?_
  unfold TX6_persons at h
  refine g_aload_n C 0 rfl 0 rfl dX6_persons_0 ?_
  refine g_aload_n C 0 rfl 0 rfl dX6_persons_1 ?_
  refine g_callVi C hno gok_6 rfl rfl [] (fun sz9 => kX6_allCards l C.2.2.2.2.2.2.1 L C.2.2.2.2.2.2.2.1 v _ X h sz9) wml_RX6_254 winst_X6_allCards wsel_X6_allCards wini_RX6 wcode_X6_allCards rfl rfl (n := 0) (by decide +kernel) rfl ⟨(Nat.le_of_ble_eq_true rfl), (Nat.le_of_ble_eq_true rfl)⟩ ⟨(Nat.le_of_ble_eq_true rfl), (Nat.le_of_ble_eq_true rfl)⟩ ⟨(Nat.le_of_ble_eq_true rfl), (Nat.le_of_ble_eq_true rfl)⟩ (Nat.le_of_ble_eq_true rfl) dX6_persons_2 (fun r2 v2 h => ?_)
  refine g_callVi C hno gok_6 rfl rfl [.int r2] (fun sz9 => kX6_personsWith l C.2.2.2.2.2.2.1 L C.2.2.2.2.2.2.2.1 r2 v2 _ X h sz9) wml_RX6_257 winst_X6_personsWith wsel_X6_personsWith wini_RX6 wcode_X6_personsWith rfl rfl (n := 1) (by decide +kernel) rfl ⟨(Nat.le_of_ble_eq_true rfl), (Nat.le_of_ble_eq_true rfl)⟩ ⟨(Nat.le_of_ble_eq_true rfl), (Nat.le_of_ble_eq_true rfl)⟩ ⟨(Nat.le_of_ble_eq_true rfl), (Nat.le_of_ble_eq_true rfl)⟩ (Nat.le_of_ble_eq_true rfl) dX6_persons_5 (fun r5 v5 h => ?_)
  refine g_callSi C hno [.int r5] (fun sz9 => kJ6_bitCount_0f7a4 l C.2.2.2.2.2.2.1 L C.2.2.2.2.2.2.2.1 r5 v5 _ X h sz9) wml_RX6_260 wstat_J6_bitCount_0f7a4 wini_RJ6 wcode_J6_bitCount_0f7a4 rfl rfl (n := 1) (by decide +kernel) rfl ⟨(Nat.le_of_ble_eq_true rfl), (Nat.le_of_ble_eq_true rfl)⟩ ⟨(Nat.le_of_ble_eq_true rfl), (Nat.le_of_ble_eq_true rfl)⟩ ⟨(Nat.le_of_ble_eq_true rfl), (Nat.le_of_ble_eq_true rfl)⟩ (Nat.le_of_ble_eq_true rfl) dX6_persons_8 (fun r8 v8 h => ?_)
  exact g_iret C hr rfl (Nat.le_of_ble_eq_true rfl) (Nat.le_of_ble_eq_true rfl) h dX6_persons_11
def TX6_size (L1 : Int32) (v : gMem) (Q : Int32 → gMem → Prop) (X : String → gMem → Prop) : Prop := (TX6_requireCard L1 v (fun v2 => (TX3_joinedWith L1 v2 (fun r10 v10 => (TJ6_bitCount_0f7a4 r10 v10 (fun r13 v13 => (Q r13 v13)) X)) X)) X)
theorem kX6_size (l : Launch) (hfl : l.stackTraces = false) (L : gL) (hL : gDist L) (L1 : Int32) (v : gMem) (Q : Int32 → gMem → Prop) (X : String → gMem → Prop) (h : TX6_size L1 v Q X) (sz : Nat) : vx_Met l yX6_size [.code yX6_size cX6_size 2 (some .int)] ({ frames := 7, cells := 1, slots := 6, locals := 103 } : Room) (gPc L sz [.ref (L.2.1 6 0), .int L1] v) (gQi L sz Q) (gXC L sz X) 1 6 (gA L sz) := by
  refine g_ofW (by decide +kernel) hfl hL (Nat.le_of_ble_eq_true rfl) ?_
  intro p e s m args below meth c C hr hno
  refine g_sub [(0, .ref (L.2.1 6 0)), (1, .int L1)] [0, 1] rfl ?_
  unfold TX6_size at h
  refine g_aload_n C 0 rfl 0 rfl dX6_size_0 ?_
  refine g_iload_n C 1 rfl 1 rfl dX6_size_1 ?_
  refine g_callVv C hno gok_6 rfl rfl [.int L1] (fun sz9 => kX6_requireCard l C.2.2.2.2.2.2.1 L C.2.2.2.2.2.2.2.1 L1 v _ X h sz9) wml_RX6_96 winst_X6_requireCard wsel_X6_requireCard wini_RX6 wcode_X6_requireCard rfl rfl (n := 1) (by decide +kernel) rfl ⟨(Nat.le_of_ble_eq_true rfl), (Nat.le_of_ble_eq_true rfl)⟩ ⟨(Nat.le_of_ble_eq_true rfl), (Nat.le_of_ble_eq_true rfl)⟩ ⟨(Nat.le_of_ble_eq_true rfl), (Nat.le_of_ble_eq_true rfl)⟩ (Nat.le_of_ble_eq_true rfl) dX6_size_2 (fun v2 h => ?_)
  refine g_aload_n C 0 rfl 0 rfl dX6_size_5 ?_
  refine fgX6_39 C dX6_size_6 ?_
  refine g_iload_n C 1 rfl 1 rfl dX6_size_9 ?_
  refine g_callVi C hno gok_3 rfl rfl [.int L1] (fun sz9 => kX3_joinedWith l C.2.2.2.2.2.2.1 L C.2.2.2.2.2.2.2.1 L1 v2 _ X h sz9) wml_RX6_226 winst_X3_joinedWith wsel_X3_joinedWith wini_RX3 wcode_X3_joinedWith rfl rfl (n := 1) (by decide +kernel) rfl ⟨(Nat.le_of_ble_eq_true rfl), (Nat.le_of_ble_eq_true rfl)⟩ ⟨(Nat.le_of_ble_eq_true rfl), (Nat.le_of_ble_eq_true rfl)⟩ ⟨(Nat.le_of_ble_eq_true rfl), (Nat.le_of_ble_eq_true rfl)⟩ (Nat.le_of_ble_eq_true rfl) dX6_size_10 (fun r10 v10 h => ?_)
  refine g_callSi C hno [.int r10] (fun sz9 => kJ6_bitCount_0f7a4 l C.2.2.2.2.2.2.1 L C.2.2.2.2.2.2.2.1 r10 v10 _ X h sz9) wml_RX6_260 wstat_J6_bitCount_0f7a4 wini_RJ6 wcode_J6_bitCount_0f7a4 rfl rfl (n := 1) (by decide +kernel) rfl ⟨(Nat.le_of_ble_eq_true rfl), (Nat.le_of_ble_eq_true rfl)⟩ ⟨(Nat.le_of_ble_eq_true rfl), (Nat.le_of_ble_eq_true rfl)⟩ ⟨(Nat.le_of_ble_eq_true rfl), (Nat.le_of_ble_eq_true rfl)⟩ (Nat.le_of_ble_eq_true rfl) dX6_size_13 (fun r13 v13 h => ?_)
  exact g_iret C hr rfl (Nat.le_of_ble_eq_true rfl) (Nat.le_of_ble_eq_true rfl) h dX6_size_16
def BX6_highestRanked_80 (I8 : Int32 → Int32 → Int32 → gMem → Prop) (L1 : Int32) (L2 : Int32) (L3 : Int32) (L4 : Int32) (L5 : Int32) (v : gMem) (Q : Int32 → gMem → Prop) (X : String → gMem → Prop) : Prop := (I8 L3 L4 (L5 + 1) v)
theorem sX6_highestRanked_80 (C : gC p l s m args meth c cX6_highestRanked 6 RX6 L sz) (hr : meth.sig.returnType = (some .int)) (hno : ∀ x ∈ c.exceptionTable.toList, False) {L1 : Int32} {L2 : Int32} {L3 : Int32} {L4 : Int32} {L5 : Int32} {v : gMem} {Q : Int32 → gMem → Prop} {X : String → gMem → Prop} {I8 : Int32 → Int32 → Int32 → gMem → Prop} (hI8 : ∀ (L3 : Int32) (L4 : Int32) (L5 : Int32) (v : gMem), I8 L3 L4 L5 v → gS p l e ({ frames := 1, cells := 0, slots := 0, locals := 21 } : Room) s m args below meth c 6 L sz (vx_MQ below (gQi L sz Q) (gXC L sz X) args s 0 0 (gA L sz)) 0 0 8 [(0, .ref (L.2.1 6 0)), (1, .int L1), (2, .int L2), (3, .int L3), (4, .int L4), (5, .int L5)] [] v) (h : BX6_highestRanked_80 I8 L1 L2 L3 L4 L5 v Q X) : gS p l e ({ frames := 1, cells := 0, slots := 0, locals := 21 } : Room) s m args below meth c 6 L sz (vx_MQ below (gQi L sz Q) (gXC L sz X) args s 0 0 (gA L sz)) 0 0 80 [(0, .ref (L.2.1 6 0)), (1, .int L1), (2, .int L2), (3, .int L3), (4, .int L4), (5, .int L5)] [] v := by
  unfold BX6_highestRanked_80 at h
  refine g_iinc C (k := 5) (L5 + 1) [(5, .int (L5 + 1)), (0, .ref (L.2.1 6 0)), (1, .int L1), (2, .int L2), (3, .int L3), (4, .int L4)] rfl rfl (Nat.le_of_ble_eq_true rfl) rfl dX6_highestRanked_80 ?_
  refine g_goto C 8 (by decide) dX6_highestRanked_83 ?_
  refine g_sub [(0, .ref (L.2.1 6 0)), (1, .int L1), (2, .int L2), (3, .int L3), (4, .int L4), (5, .int (L5 + 1))] [1, 2, 3, 4, 5, 0] rfl ?_
  exact hI8 _ _ _ _ h
def BX6_highestRanked_8 (I8 : Int32 → Int32 → Int32 → gMem → Prop) (L1 : Int32) (L2 : Int32) (L3 : Int32) (L4 : Int32) (L5 : Int32) (v : gMem) (Q : Int32 → gMem → Prop) (X : String → gMem → Prop) : Prop := (((v 6 0 3) ≤ L5 → (Q L3 v)) ∧ (¬ (v 6 0 3) ≤ L5 → (TX6_contains L1 L5 v (fun r20 v20 => ((r20 = 0 → (BX6_highestRanked_80 I8 L1 L2 L3 L4 L5 v20 Q X)) ∧ (¬ r20 = 0 → (vp_in L5 16 ∧ (TX2_has (Int32.toNatClampNeg L5) L2 v20 (fun r34 v34 => ((r34 = 0 → (BX6_highestRanked_80 I8 L1 L2 L3 L4 L5 v34 Q X)) ∧ (¬ r34 = 0 → (vp_in L5 16 ∧ (vp_in (v34 2 (Int32.toNatClampNeg L5) 0) 4 ∧ (((v34 10 0 (Int32.toNatClampNeg (v34 2 (Int32.toNatClampNeg L5) 0))) ≤ L4 → (BX6_highestRanked_80 I8 L1 L2 L3 L4 L5 v34 Q X)) ∧ (¬ (v34 10 0 (Int32.toNatClampNeg (v34 2 (Int32.toNatClampNeg L5) 0))) ≤ L4 → (vp_in L5 16 ∧ (vp_in (v34 2 (Int32.toNatClampNeg L5) 0) 4 ∧ (BX6_highestRanked_80 I8 L1 L2 L5 (v34 10 0 (Int32.toNatClampNeg (v34 2 (Int32.toNatClampNeg L5) 0))) L5 v34 Q X)))))))))) X))))) X)))
theorem sX6_highestRanked_8 (C : gC p l s m args meth c cX6_highestRanked 6 RX6 L sz) (hr : meth.sig.returnType = (some .int)) (hno : ∀ x ∈ c.exceptionTable.toList, False) {L1 : Int32} {L2 : Int32} {L3 : Int32} {L4 : Int32} {L5 : Int32} {v : gMem} {Q : Int32 → gMem → Prop} {X : String → gMem → Prop} {I8 : Int32 → Int32 → Int32 → gMem → Prop} (hI8 : ∀ (L3 : Int32) (L4 : Int32) (L5 : Int32) (v : gMem), I8 L3 L4 L5 v → gS p l e ({ frames := 1, cells := 0, slots := 0, locals := 21 } : Room) s m args below meth c 6 L sz (vx_MQ below (gQi L sz Q) (gXC L sz X) args s 0 0 (gA L sz)) 0 0 8 [(0, .ref (L.2.1 6 0)), (1, .int L1), (2, .int L2), (3, .int L3), (4, .int L4), (5, .int L5)] [] v) (h : BX6_highestRanked_8 I8 L1 L2 L3 L4 L5 v Q X) : gS p l e ({ frames := 1, cells := 0, slots := 0, locals := 21 } : Room) s m args below meth c 6 L sz (vx_MQ below (gQi L sz Q) (gXC L sz X) args s 0 0 (gA L sz)) 0 0 8 [(0, .ref (L.2.1 6 0)), (1, .int L1), (2, .int L2), (3, .int L3), (4, .int L4), (5, .int L5)] [] v := by
  unfold BX6_highestRanked_8 at h
  refine g_iload C 5 rfl dX6_highestRanked_8 ?_
  refine g_aload_n C 0 rfl 0 rfl dX6_highestRanked_10 ?_
  refine fgX6_88 C dX6_highestRanked_11 ?_
  refine g_icmp_ge C 86 (by decide) dX6_highestRanked_14 (fun hc => ?_) (fun hc => ?_)
  · replace h := h.1 hc
    refine g_iload_n C 3 rfl 3 rfl dX6_highestRanked_86 ?_
    exact g_iret C hr rfl (Nat.le_of_ble_eq_true rfl) (Nat.le_of_ble_eq_true rfl) h dX6_highestRanked_87
  · replace h := h.2 hc
    refine g_iload_n C 1 rfl 1 rfl dX6_highestRanked_17 ?_
    refine g_iload C 5 rfl dX6_highestRanked_18 ?_
    refine g_callSi C hno [.int L1, .int L5] (fun sz9 => kX6_contains l C.2.2.2.2.2.2.1 L C.2.2.2.2.2.2.2.1 L1 L5 v _ X h sz9) wml_RX6_287 wstat_X6_contains wini_RX6 wcode_X6_contains rfl rfl (n := 2) (by decide +kernel) rfl ⟨(Nat.le_of_ble_eq_true rfl), (Nat.le_of_ble_eq_true rfl)⟩ ⟨(Nat.le_of_ble_eq_true rfl), (Nat.le_of_ble_eq_true rfl)⟩ ⟨(Nat.le_of_ble_eq_true rfl), (Nat.le_of_ble_eq_true rfl)⟩ (Nat.le_of_ble_eq_true rfl) dX6_highestRanked_20 (fun r20 v20 h => ?_)
    refine g_if_eq C 80 (by decide) dX6_highestRanked_23 (fun hc => ?_) (fun hc => ?_)
    · replace h := h.1 hc
      exact sX6_highestRanked_80 C hr hno hI8 h
    · replace h := h.2 hc
      refine g_aload_n C 0 rfl 0 rfl dX6_highestRanked_26 ?_
      refine fgX6_15 C dX6_highestRanked_27 ?_
      refine g_iload C 5 rfl dX6_highestRanked_30 ?_
      obtain ⟨hb32, h⟩ := h
      refine g_book C hb32 dX6_highestRanked_32 ?_
      refine g_iload_n C 2 rfl 2 rfl dX6_highestRanked_33 ?_
      refine g_callVi C hno (gok_2 (vp_lt hb32)) rfl rfl [.int L2] (fun sz9 => kX2_has l C.2.2.2.2.2.2.1 L C.2.2.2.2.2.2.2.1 (vp_lt hb32) L2 v20 _ X h sz9) wml_RX6_344 winst_X2_has wsel_X2_has wini_RX2 wcode_X2_has rfl rfl (n := 1) (by decide +kernel) rfl ⟨(Nat.le_of_ble_eq_true rfl), (Nat.le_of_ble_eq_true rfl)⟩ ⟨(Nat.le_of_ble_eq_true rfl), (Nat.le_of_ble_eq_true rfl)⟩ ⟨(Nat.le_of_ble_eq_true rfl), (Nat.le_of_ble_eq_true rfl)⟩ (Nat.le_of_ble_eq_true rfl) dX6_highestRanked_34 (fun r34 v34 h => ?_)
      refine g_if_eq C 80 (by decide) dX6_highestRanked_37 (fun hc => ?_) (fun hc => ?_)
      · replace h := h.1 hc
        exact sX6_highestRanked_80 C hr hno hI8 h
      · replace h := h.2 hc
        refine g_aload_n C 0 rfl 0 rfl dX6_highestRanked_40 ?_
        refine fgX6_9 C dX6_highestRanked_41 ?_
        refine g_aload_n C 0 rfl 0 rfl dX6_highestRanked_44 ?_
        refine fgX6_15 C dX6_highestRanked_45 ?_
        refine g_iload C 5 rfl dX6_highestRanked_48 ?_
        obtain ⟨hb50, h⟩ := h
        refine g_book C hb50 dX6_highestRanked_50 ?_
        refine fgX6_93 C (gok_2 (vp_lt hb50)) dX6_highestRanked_51 ?_
        obtain ⟨hb54, h⟩ := h
        refine g_iald C gok_10 rfl hb54 dX6_highestRanked_54 ?_
        refine g_iload C 4 rfl dX6_highestRanked_55 ?_
        refine g_icmp_le C 80 (by decide) dX6_highestRanked_57 (fun hc => ?_) (fun hc => ?_)
        · replace h := h.1 hc
          exact sX6_highestRanked_80 C hr hno hI8 h
        · replace h := h.2 hc
          refine g_iload C 5 rfl dX6_highestRanked_60 ?_
          refine g_istore_n C 3 rfl [(3, .int L5), (0, .ref (L.2.1 6 0)), (1, .int L1), (2, .int L2), (4, .int L4), (5, .int L5)] (Nat.le_of_ble_eq_true rfl) rfl dX6_highestRanked_62 ?_
          refine g_aload_n C 0 rfl 1 rfl dX6_highestRanked_63 ?_
          refine fgX6_9 C dX6_highestRanked_64 ?_
          refine g_aload_n C 0 rfl 1 rfl dX6_highestRanked_67 ?_
          refine fgX6_15 C dX6_highestRanked_68 ?_
          refine g_iload C 5 rfl dX6_highestRanked_71 ?_
          obtain ⟨hb73, h⟩ := h
          refine g_book C hb73 dX6_highestRanked_73 ?_
          refine fgX6_93 C (gok_2 (vp_lt hb73)) dX6_highestRanked_74 ?_
          obtain ⟨hb77, h⟩ := h
          refine g_iald C gok_10 rfl hb77 dX6_highestRanked_77 ?_
          refine g_istore C [(4, .int (v34 10 0 (Int32.toNatClampNeg (v34 2 (Int32.toNatClampNeg L5) 0)))), (3, .int L5), (0, .ref (L.2.1 6 0)), (1, .int L1), (2, .int L2), (5, .int L5)] (Nat.le_of_ble_eq_true rfl) rfl dX6_highestRanked_78 ?_
          refine g_sub [(0, .ref (L.2.1 6 0)), (1, .int L1), (2, .int L2), (3, .int L5), (4, .int (v34 10 0 (Int32.toNatClampNeg (v34 2 (Int32.toNatClampNeg L5) 0)))), (5, .int L5)] [2, 3, 4, 1, 0, 5] rfl ?_
          exact sX6_highestRanked_80 C hr hno hI8 h
def LX6_highestRanked_8 (L1 : Int32) (L2 : Int32) (L3 : Int32) (L4 : Int32) (L5 : Int32) (v : gMem) (Q : Int32 → gMem → Prop) (X : String → gMem → Prop) : Prop := ∀ I8 : Int32 → Int32 → Int32 → gMem → Prop, (∀ (L3 : Int32) (L4 : Int32) (L5 : Int32) (v : gMem), BX6_highestRanked_8 I8 L1 L2 L3 L4 L5 v Q X → I8 L3 L4 L5 v) → I8 L3 L4 L5 v
theorem slX6_highestRanked_8 (C : gC p l s m args meth c cX6_highestRanked 6 RX6 L sz) (hr : meth.sig.returnType = (some .int)) (hno : ∀ x ∈ c.exceptionTable.toList, False) {L1 : Int32} {L2 : Int32} {L3 : Int32} {L4 : Int32} {L5 : Int32} {v : gMem} {Q : Int32 → gMem → Prop} {X : String → gMem → Prop} (h : LX6_highestRanked_8 L1 L2 L3 L4 L5 v Q X) : gS p l e ({ frames := 1, cells := 0, slots := 0, locals := 21 } : Room) s m args below meth c 6 L sz (vx_MQ below (gQi L sz Q) (gXC L sz X) args s 0 0 (gA L sz)) 0 0 8 [(0, .ref (L.2.1 6 0)), (1, .int L1), (2, .int L2), (3, .int L3), (4, .int L4), (5, .int L5)] [] v := by
  refine h (fun L3 L4 L5 v => gS p l e ({ frames := 1, cells := 0, slots := 0, locals := 21 } : Room) s m args below meth c 6 L sz (vx_MQ below (gQi L sz Q) (gXC L sz X) args s 0 0 (gA L sz)) 0 0 8 [(0, .ref (L.2.1 6 0)), (1, .int L1), (2, .int L2), (3, .int L3), (4, .int L4), (5, .int L5)] [] v) (fun L3 L4 L5 v hb => ?_)
  exact sX6_highestRanked_8 C hr hno (fun _ _ _ _ hs => hs) hb
def TX6_highestRanked (L1 : Int32) (L2 : Int32) (v : gMem) (Q : Int32 → gMem → Prop) (X : String → gMem → Prop) : Prop := (LX6_highestRanked_8 L1 L2 (-1) 0 0 v Q X)
theorem kX6_highestRanked (l : Launch) (hfl : l.stackTraces = false) (L : gL) (hL : gDist L) (L1 : Int32) (L2 : Int32) (v : gMem) (Q : Int32 → gMem → Prop) (X : String → gMem → Prop) (h : TX6_highestRanked L1 L2 v Q X) (sz : Nat) : vx_Met l yX6_highestRanked [.code yX6_highestRanked cX6_highestRanked 6 (some .int)] ({ frames := 1, cells := 0, slots := 0, locals := 21 } : Room) (gPc L sz [.ref (L.2.1 6 0), .int L1, .int L2] v) (gQi L sz Q) (gXC L sz X) 0 0 (gA L sz) := by
  refine g_ofW (by decide +kernel) hfl hL (Nat.le_of_ble_eq_true rfl) ?_
  intro p e s m args below meth c C hr hno
  refine g_sub [(0, .ref (L.2.1 6 0)), (1, .int L1), (2, .int L2)] [0, 1, 2] rfl ?_
  unfold TX6_highestRanked at h
  refine g_iconst C (-1) (by decide) dX6_highestRanked_0 ?_
  refine g_istore_n C 3 rfl [(3, .int (-1)), (0, .ref (L.2.1 6 0)), (1, .int L1), (2, .int L2)] (Nat.le_of_ble_eq_true rfl) rfl dX6_highestRanked_1 ?_
  refine g_iconst C 0 (by decide) dX6_highestRanked_2 ?_
  refine g_istore C [(4, .int 0), (3, .int (-1)), (0, .ref (L.2.1 6 0)), (1, .int L1), (2, .int L2)] (Nat.le_of_ble_eq_true rfl) rfl dX6_highestRanked_3 ?_
  refine g_iconst C 0 (by decide) dX6_highestRanked_5 ?_
  refine g_istore C [(5, .int 0), (4, .int 0), (3, .int (-1)), (0, .ref (L.2.1 6 0)), (1, .int L1), (2, .int L2)] (Nat.le_of_ble_eq_true rfl) rfl dX6_highestRanked_6 ?_
  refine g_sub [(0, .ref (L.2.1 6 0)), (1, .int L1), (2, .int L2), (3, .int (-1)), (4, .int 0), (5, .int 0)] [3, 4, 5, 2, 1, 0] rfl ?_
  exact slX6_highestRanked_8 C hr hno h
def TX6_fieldFrom (L1 : Int32) (L2 : Int32) (v : gMem) (Q : Int32 → gMem → Prop) (X : String → gMem → Prop) : Prop := (TX6_requireCard L1 v (fun v2 => (TX6_requireField L2 v2 (fun v7 => (TX3_joinedWith L1 v7 (fun r16 v16 => (TX6_highestRanked r16 L2 v16 (fun r20 v20 => ((¬ r20 = (-1) → (Q r20 v20)) ∧ (r20 = (-1) → (X "java/util/NoSuchElementException" v20)))) X)) X)) X)) X)
theorem kX6_fieldFrom (l : Launch) (hfl : l.stackTraces = false) (L : gL) (hL : gDist L) (L1 : Int32) (L2 : Int32) (v : gMem) (Q : Int32 → gMem → Prop) (X : String → gMem → Prop) (h : TX6_fieldFrom L1 L2 v Q X) (sz : Nat) : vx_Met l yX6_fieldFrom [.code yX6_fieldFrom cX6_fieldFrom 4 (some .int)] ({ frames := 7, cells := 3, slots := 18, locals := 103 } : Room) (gPc L sz [.ref (L.2.1 6 0), .int L1, .int L2] v) (gQi L sz Q) (gXC L sz X) 3 18 (gA L sz) := by
  refine g_ofW (by decide +kernel) hfl hL (Nat.le_of_ble_eq_true rfl) ?_
  intro p e s m args below meth c C hr hno
  refine g_sub [(0, .ref (L.2.1 6 0)), (1, .int L1), (2, .int L2)] [0, 1, 2] rfl ?_
  unfold TX6_fieldFrom at h
  refine g_aload_n C 0 rfl 0 rfl dX6_fieldFrom_0 ?_
  refine g_iload_n C 1 rfl 1 rfl dX6_fieldFrom_1 ?_
  refine g_callVv C hno gok_6 rfl rfl [.int L1] (fun sz9 => kX6_requireCard l C.2.2.2.2.2.2.1 L C.2.2.2.2.2.2.2.1 L1 v _ X h sz9) wml_RX6_96 winst_X6_requireCard wsel_X6_requireCard wini_RX6 wcode_X6_requireCard rfl rfl (n := 1) (by decide +kernel) rfl ⟨(Nat.le_of_ble_eq_true rfl), (Nat.le_of_ble_eq_true rfl)⟩ ⟨(Nat.le_of_ble_eq_true rfl), (Nat.le_of_ble_eq_true rfl)⟩ ⟨(Nat.le_of_ble_eq_true rfl), (Nat.le_of_ble_eq_true rfl)⟩ (Nat.le_of_ble_eq_true rfl) dX6_fieldFrom_2 (fun v2 h => ?_)
  refine g_aload_n C 0 rfl 0 rfl dX6_fieldFrom_5 ?_
  refine g_iload_n C 2 rfl 2 rfl dX6_fieldFrom_6 ?_
  refine g_callVv C hno gok_6 rfl rfl [.int L2] (fun sz9 => kX6_requireField l C.2.2.2.2.2.2.1 L C.2.2.2.2.2.2.2.1 L2 v2 _ X h sz9) wml_RX6_145 winst_X6_requireField wsel_X6_requireField wini_RX6 wcode_X6_requireField rfl rfl (n := 1) (by decide +kernel) rfl ⟨(Nat.le_of_ble_eq_true rfl), (Nat.le_of_ble_eq_true rfl)⟩ ⟨(Nat.le_of_ble_eq_true rfl), (Nat.le_of_ble_eq_true rfl)⟩ ⟨(Nat.le_of_ble_eq_true rfl), (Nat.le_of_ble_eq_true rfl)⟩ (Nat.le_of_ble_eq_true rfl) dX6_fieldFrom_7 (fun v7 h => ?_)
  refine g_aload_n C 0 rfl 0 rfl dX6_fieldFrom_10 ?_
  refine g_aload_n C 0 rfl 0 rfl dX6_fieldFrom_11 ?_
  refine fgX6_39 C dX6_fieldFrom_12 ?_
  refine g_iload_n C 1 rfl 1 rfl dX6_fieldFrom_15 ?_
  refine g_callVi C hno gok_3 rfl rfl [.int L1] (fun sz9 => kX3_joinedWith l C.2.2.2.2.2.2.1 L C.2.2.2.2.2.2.2.1 L1 v7 _ X h sz9) wml_RX6_226 winst_X3_joinedWith wsel_X3_joinedWith wini_RX3 wcode_X3_joinedWith rfl rfl (n := 1) (by decide +kernel) rfl ⟨(Nat.le_of_ble_eq_true rfl), (Nat.le_of_ble_eq_true rfl)⟩ ⟨(Nat.le_of_ble_eq_true rfl), (Nat.le_of_ble_eq_true rfl)⟩ ⟨(Nat.le_of_ble_eq_true rfl), (Nat.le_of_ble_eq_true rfl)⟩ (Nat.le_of_ble_eq_true rfl) dX6_fieldFrom_16 (fun r16 v16 h => ?_)
  refine g_iload_n C 2 rfl 2 rfl dX6_fieldFrom_19 ?_
  refine g_callVi C hno gok_6 rfl rfl [.int r16, .int L2] (fun sz9 => kX6_highestRanked l C.2.2.2.2.2.2.1 L C.2.2.2.2.2.2.2.1 r16 L2 v16 _ X h sz9) wml_RX6_276 winst_X6_highestRanked wsel_X6_highestRanked wini_RX6 wcode_X6_highestRanked rfl rfl (n := 2) (by decide +kernel) rfl ⟨(Nat.le_of_ble_eq_true rfl), (Nat.le_of_ble_eq_true rfl)⟩ ⟨(Nat.le_of_ble_eq_true rfl), (Nat.le_of_ble_eq_true rfl)⟩ ⟨(Nat.le_of_ble_eq_true rfl), (Nat.le_of_ble_eq_true rfl)⟩ (Nat.le_of_ble_eq_true rfl) dX6_fieldFrom_20 (fun r20 v20 h => ?_)
  refine g_istore_n C 3 rfl [(3, .int r20), (0, .ref (L.2.1 6 0)), (1, .int L1), (2, .int L2)] (Nat.le_of_ble_eq_true rfl) rfl dX6_fieldFrom_23 ?_
  refine g_iload_n C 3 rfl 0 rfl dX6_fieldFrom_24 ?_
  refine g_iconst C (-1) (by decide) dX6_fieldFrom_25 ?_
  refine g_icmp_ne C 40 (by decide) dX6_fieldFrom_26 (fun hc => ?_) (fun hc => ?_)
  · replace h := h.1 hc
    refine g_iload_n C 3 rfl 0 rfl dX6_fieldFrom_40 ?_
    exact g_iret C hr rfl (Nat.le_of_ble_eq_true rfl) (Nat.le_of_ble_eq_true rfl) h dX6_fieldFrom_41
  · replace h := h.2 hc
    exact g_throwNW C hno (text := "no card of the person has the field") (is := 279) rfl (by decide) wcl_RX6_128 wini_java_util_NoSuchElementException (List.mem_of_getElem? (i := 26) rfl) wat_RX6_132 dX6_fieldFrom_29 dX6_fieldFrom_32 dX6_fieldFrom_33 dX6_fieldFrom_36 dX6_fieldFrom_39 (Nat.le_of_ble_eq_true rfl) (Nat.le_of_ble_eq_true rfl) ⟨(Nat.le_of_ble_eq_true rfl), (Nat.le_of_ble_eq_true rfl)⟩ (Nat.le_of_ble_eq_true rfl) (Nat.le_of_ble_eq_true rfl) h
def BX6_disagree_70 (I5 : Int32 → Int32 → gMem → Prop) (L1 : Int32) (L2 : Int32) (L3 : Int32) (L4 : Int32) (v : gMem) (Q : Int32 → gMem → Prop) (X : String → gMem → Prop) : Prop := (I5 L3 (L4 + 1) v)
theorem sX6_disagree_70 (C : gC p l s m args meth c cX6_disagree 5 RX6 L sz) (hr : meth.sig.returnType = (some .boolean)) (hno : ∀ x ∈ c.exceptionTable.toList, False) {L1 : Int32} {L2 : Int32} {L3 : Int32} {L4 : Int32} {v : gMem} {Q : Int32 → gMem → Prop} {X : String → gMem → Prop} {I5 : Int32 → Int32 → gMem → Prop} (hI5 : ∀ (L3 : Int32) (L4 : Int32) (v : gMem), I5 L3 L4 v → gS p l e ({ frames := 2, cells := 0, slots := 0, locals := 44 } : Room) s m args below meth c 5 L sz (vx_MQ below (gQi L sz Q) (gXC L sz X) args s 0 0 (gA L sz)) 0 0 5 [(0, .ref (L.2.1 6 0)), (1, .int L1), (2, .int L2), (3, .int L3), (4, .int L4)] [] v) (h : BX6_disagree_70 I5 L1 L2 L3 L4 v Q X) : gS p l e ({ frames := 2, cells := 0, slots := 0, locals := 44 } : Room) s m args below meth c 5 L sz (vx_MQ below (gQi L sz Q) (gXC L sz X) args s 0 0 (gA L sz)) 0 0 70 [(0, .ref (L.2.1 6 0)), (1, .int L1), (2, .int L2), (3, .int L3), (4, .int L4)] [] v := by
  unfold BX6_disagree_70 at h
  refine g_iinc C (k := 4) (L4 + 1) [(4, .int (L4 + 1)), (0, .ref (L.2.1 6 0)), (1, .int L1), (2, .int L2), (3, .int L3)] rfl rfl (Nat.le_of_ble_eq_true rfl) rfl dX6_disagree_70 ?_
  refine g_goto C 5 (by decide) dX6_disagree_73 ?_
  refine g_sub [(0, .ref (L.2.1 6 0)), (1, .int L1), (2, .int L2), (3, .int L3), (4, .int (L4 + 1))] [1, 2, 3, 4, 0] rfl ?_
  exact hI5 _ _ _ h
def BX6_disagree_5 (I5 : Int32 → Int32 → gMem → Prop) (L1 : Int32) (L2 : Int32) (L3 : Int32) (L4 : Int32) (v : gMem) (Q : Int32 → gMem → Prop) (X : String → gMem → Prop) : Prop := (((v 6 0 3) ≤ L4 → (Q 0 v)) ∧ (¬ (v 6 0 3) ≤ L4 → (TX6_contains L1 L4 v (fun r17 v17 => ((r17 = 0 → (BX6_disagree_70 I5 L1 L2 L3 L4 v17 Q X)) ∧ (¬ r17 = 0 → (vp_in L4 16 ∧ (TX2_has (Int32.toNatClampNeg L4) L2 v17 (fun r31 v31 => ((r31 = 0 → (BX6_disagree_70 I5 L1 L2 L3 L4 v31 Q X)) ∧ (¬ r31 = 0 → ((¬ L3 = (-1) → (vp_in L3 16 ∧ (vp_in L4 16 ∧ (TX2_agrees (Int32.toNatClampNeg L3) (Int32.toNatClampNeg L4) L2 v31 (fun r62 v62 => ((¬ r62 = 0 → (BX6_disagree_70 I5 L1 L2 L3 L4 v62 Q X)) ∧ (r62 = 0 → (Q 1 v62)))) X)))) ∧ (L3 = (-1) → (BX6_disagree_70 I5 L1 L2 L4 L4 v31 Q X)))))) X))))) X)))
theorem sX6_disagree_5 (C : gC p l s m args meth c cX6_disagree 5 RX6 L sz) (hr : meth.sig.returnType = (some .boolean)) (hno : ∀ x ∈ c.exceptionTable.toList, False) {L1 : Int32} {L2 : Int32} {L3 : Int32} {L4 : Int32} {v : gMem} {Q : Int32 → gMem → Prop} {X : String → gMem → Prop} {I5 : Int32 → Int32 → gMem → Prop} (hI5 : ∀ (L3 : Int32) (L4 : Int32) (v : gMem), I5 L3 L4 v → gS p l e ({ frames := 2, cells := 0, slots := 0, locals := 44 } : Room) s m args below meth c 5 L sz (vx_MQ below (gQi L sz Q) (gXC L sz X) args s 0 0 (gA L sz)) 0 0 5 [(0, .ref (L.2.1 6 0)), (1, .int L1), (2, .int L2), (3, .int L3), (4, .int L4)] [] v) (h : BX6_disagree_5 I5 L1 L2 L3 L4 v Q X) : gS p l e ({ frames := 2, cells := 0, slots := 0, locals := 44 } : Room) s m args below meth c 5 L sz (vx_MQ below (gQi L sz Q) (gXC L sz X) args s 0 0 (gA L sz)) 0 0 5 [(0, .ref (L.2.1 6 0)), (1, .int L1), (2, .int L2), (3, .int L3), (4, .int L4)] [] v := by
  unfold BX6_disagree_5 at h
  refine g_iload C 4 rfl dX6_disagree_5 ?_
  refine g_aload_n C 0 rfl 0 rfl dX6_disagree_7 ?_
  refine fgX6_88 C dX6_disagree_8 ?_
  refine g_icmp_ge C 76 (by decide) dX6_disagree_11 (fun hc => ?_) (fun hc => ?_)
  · replace h := h.1 hc
    refine g_iconst C 0 (by decide) dX6_disagree_76 ?_
    exact g_iret C hr rfl (Nat.le_of_ble_eq_true rfl) (Nat.le_of_ble_eq_true rfl) h dX6_disagree_77
  · replace h := h.2 hc
    refine g_iload_n C 1 rfl 1 rfl dX6_disagree_14 ?_
    refine g_iload C 4 rfl dX6_disagree_15 ?_
    refine g_callSi C hno [.int L1, .int L4] (fun sz9 => kX6_contains l C.2.2.2.2.2.2.1 L C.2.2.2.2.2.2.2.1 L1 L4 v _ X h sz9) wml_RX6_287 wstat_X6_contains wini_RX6 wcode_X6_contains rfl rfl (n := 2) (by decide +kernel) rfl ⟨(Nat.le_of_ble_eq_true rfl), (Nat.le_of_ble_eq_true rfl)⟩ ⟨(Nat.le_of_ble_eq_true rfl), (Nat.le_of_ble_eq_true rfl)⟩ ⟨(Nat.le_of_ble_eq_true rfl), (Nat.le_of_ble_eq_true rfl)⟩ (Nat.le_of_ble_eq_true rfl) dX6_disagree_17 (fun r17 v17 h => ?_)
    refine g_if_eq C 70 (by decide) dX6_disagree_20 (fun hc => ?_) (fun hc => ?_)
    · replace h := h.1 hc
      exact sX6_disagree_70 C hr hno hI5 h
    · replace h := h.2 hc
      refine g_aload_n C 0 rfl 0 rfl dX6_disagree_23 ?_
      refine fgX6_15 C dX6_disagree_24 ?_
      refine g_iload C 4 rfl dX6_disagree_27 ?_
      obtain ⟨hb29, h⟩ := h
      refine g_book C hb29 dX6_disagree_29 ?_
      refine g_iload_n C 2 rfl 2 rfl dX6_disagree_30 ?_
      refine g_callVi C hno (gok_2 (vp_lt hb29)) rfl rfl [.int L2] (fun sz9 => kX2_has l C.2.2.2.2.2.2.1 L C.2.2.2.2.2.2.2.1 (vp_lt hb29) L2 v17 _ X h sz9) wml_RX6_344 winst_X2_has wsel_X2_has wini_RX2 wcode_X2_has rfl rfl (n := 1) (by decide +kernel) rfl ⟨(Nat.le_of_ble_eq_true rfl), (Nat.le_of_ble_eq_true rfl)⟩ ⟨(Nat.le_of_ble_eq_true rfl), (Nat.le_of_ble_eq_true rfl)⟩ ⟨(Nat.le_of_ble_eq_true rfl), (Nat.le_of_ble_eq_true rfl)⟩ (Nat.le_of_ble_eq_true rfl) dX6_disagree_31 (fun r31 v31 h => ?_)
      refine g_if_eq C 70 (by decide) dX6_disagree_34 (fun hc => ?_) (fun hc => ?_)
      · replace h := h.1 hc
        exact sX6_disagree_70 C hr hno hI5 h
      · replace h := h.2 hc
        refine g_iload_n C 3 rfl 3 rfl dX6_disagree_37 ?_
        refine g_iconst C (-1) (by decide) dX6_disagree_38 ?_
        refine g_icmp_ne C 48 (by decide) dX6_disagree_39 (fun hc => ?_) (fun hc => ?_)
        · replace h := h.1 hc
          refine g_aload_n C 0 rfl 0 rfl dX6_disagree_48 ?_
          refine fgX6_15 C dX6_disagree_49 ?_
          refine g_iload_n C 3 rfl 3 rfl dX6_disagree_52 ?_
          obtain ⟨hb53, h⟩ := h
          refine g_book C hb53 dX6_disagree_53 ?_
          refine g_aload_n C 0 rfl 0 rfl dX6_disagree_54 ?_
          refine fgX6_15 C dX6_disagree_55 ?_
          refine g_iload C 4 rfl dX6_disagree_58 ?_
          obtain ⟨hb60, h⟩ := h
          refine g_book C hb60 dX6_disagree_60 ?_
          refine g_iload_n C 2 rfl 2 rfl dX6_disagree_61 ?_
          refine g_callVi C hno (gok_2 (vp_lt hb53)) rfl rfl [.ref (L.2.1 2 (Int32.toNatClampNeg L4)), .int L2] (fun sz9 => kX2_agrees l C.2.2.2.2.2.2.1 L C.2.2.2.2.2.2.2.1 (vp_lt hb53) (vp_lt hb60) L2 v31 _ X h sz9) wml_RX6_348 winst_X2_agrees wsel_X2_agrees wini_RX2 wcode_X2_agrees rfl rfl (n := 2) (by decide +kernel) rfl ⟨(Nat.le_of_ble_eq_true rfl), (Nat.le_of_ble_eq_true rfl)⟩ ⟨(Nat.le_of_ble_eq_true rfl), (Nat.le_of_ble_eq_true rfl)⟩ ⟨(Nat.le_of_ble_eq_true rfl), (Nat.le_of_ble_eq_true rfl)⟩ (Nat.le_of_ble_eq_true rfl) dX6_disagree_62 (fun r62 v62 h => ?_)
          refine g_if_ne C 70 (by decide) dX6_disagree_65 (fun hc => ?_) (fun hc => ?_)
          · replace h := h.1 hc
            exact sX6_disagree_70 C hr hno hI5 h
          · replace h := h.2 hc
            refine g_iconst C 1 (by decide) dX6_disagree_68 ?_
            exact g_iret C hr rfl (Nat.le_of_ble_eq_true rfl) (Nat.le_of_ble_eq_true rfl) h dX6_disagree_69
        · replace h := h.2 hc
          refine g_iload C 4 rfl dX6_disagree_42 ?_
          refine g_istore_n C 3 rfl [(3, .int L4), (0, .ref (L.2.1 6 0)), (1, .int L1), (2, .int L2), (4, .int L4)] (Nat.le_of_ble_eq_true rfl) rfl dX6_disagree_44 ?_
          refine g_goto C 70 (by decide) dX6_disagree_45 ?_
          refine g_sub [(0, .ref (L.2.1 6 0)), (1, .int L1), (2, .int L2), (3, .int L4), (4, .int L4)] [1, 2, 3, 0, 4] rfl ?_
          exact sX6_disagree_70 C hr hno hI5 h
def LX6_disagree_5 (L1 : Int32) (L2 : Int32) (L3 : Int32) (L4 : Int32) (v : gMem) (Q : Int32 → gMem → Prop) (X : String → gMem → Prop) : Prop := ∀ I5 : Int32 → Int32 → gMem → Prop, (∀ (L3 : Int32) (L4 : Int32) (v : gMem), BX6_disagree_5 I5 L1 L2 L3 L4 v Q X → I5 L3 L4 v) → I5 L3 L4 v
theorem slX6_disagree_5 (C : gC p l s m args meth c cX6_disagree 5 RX6 L sz) (hr : meth.sig.returnType = (some .boolean)) (hno : ∀ x ∈ c.exceptionTable.toList, False) {L1 : Int32} {L2 : Int32} {L3 : Int32} {L4 : Int32} {v : gMem} {Q : Int32 → gMem → Prop} {X : String → gMem → Prop} (h : LX6_disagree_5 L1 L2 L3 L4 v Q X) : gS p l e ({ frames := 2, cells := 0, slots := 0, locals := 44 } : Room) s m args below meth c 5 L sz (vx_MQ below (gQi L sz Q) (gXC L sz X) args s 0 0 (gA L sz)) 0 0 5 [(0, .ref (L.2.1 6 0)), (1, .int L1), (2, .int L2), (3, .int L3), (4, .int L4)] [] v := by
  refine h (fun L3 L4 v => gS p l e ({ frames := 2, cells := 0, slots := 0, locals := 44 } : Room) s m args below meth c 5 L sz (vx_MQ below (gQi L sz Q) (gXC L sz X) args s 0 0 (gA L sz)) 0 0 5 [(0, .ref (L.2.1 6 0)), (1, .int L1), (2, .int L2), (3, .int L3), (4, .int L4)] [] v) (fun L3 L4 v hb => ?_)
  exact sX6_disagree_5 C hr hno (fun _ _ _ hs => hs) hb
def TX6_disagree (L1 : Int32) (L2 : Int32) (v : gMem) (Q : Int32 → gMem → Prop) (X : String → gMem → Prop) : Prop := (LX6_disagree_5 L1 L2 (-1) 0 v Q X)
theorem kX6_disagree (l : Launch) (hfl : l.stackTraces = false) (L : gL) (hL : gDist L) (L1 : Int32) (L2 : Int32) (v : gMem) (Q : Int32 → gMem → Prop) (X : String → gMem → Prop) (h : TX6_disagree L1 L2 v Q X) (sz : Nat) : vx_Met l yX6_disagree [.code yX6_disagree cX6_disagree 5 (some .boolean)] ({ frames := 2, cells := 0, slots := 0, locals := 44 } : Room) (gPc L sz [.ref (L.2.1 6 0), .int L1, .int L2] v) (gQi L sz Q) (gXC L sz X) 0 0 (gA L sz) := by
  refine g_ofW (by decide +kernel) hfl hL (Nat.le_of_ble_eq_true rfl) ?_
  intro p e s m args below meth c C hr hno
  refine g_sub [(0, .ref (L.2.1 6 0)), (1, .int L1), (2, .int L2)] [0, 1, 2] rfl ?_
  unfold TX6_disagree at h
  refine g_iconst C (-1) (by decide) dX6_disagree_0 ?_
  refine g_istore_n C 3 rfl [(3, .int (-1)), (0, .ref (L.2.1 6 0)), (1, .int L1), (2, .int L2)] (Nat.le_of_ble_eq_true rfl) rfl dX6_disagree_1 ?_
  refine g_iconst C 0 (by decide) dX6_disagree_2 ?_
  refine g_istore C [(4, .int 0), (3, .int (-1)), (0, .ref (L.2.1 6 0)), (1, .int L1), (2, .int L2)] (Nat.le_of_ble_eq_true rfl) rfl dX6_disagree_3 ?_
  refine g_sub [(0, .ref (L.2.1 6 0)), (1, .int L1), (2, .int L2), (3, .int (-1)), (4, .int 0)] [2, 3, 4, 1, 0] rfl ?_
  exact slX6_disagree_5 C hr hno h
def BX6_conflicts_38 (I19 : Int32 → Int32 → gMem → Prop) (L2 : Int32) (L3 : Int32) (L4 : Int32) (v : gMem) (Q : Int32 → gMem → Prop) (X : String → gMem → Prop) : Prop := (I19 L3 (L4 + 1) v)
theorem sX6_conflicts_38 (C : gC p l s m args meth c cX6_conflicts 5 RX6 L sz) (hr : meth.sig.returnType = (some .int)) (hno : ∀ x ∈ c.exceptionTable.toList, False) {L2 : Int32} {L3 : Int32} {L4 : Int32} {v : gMem} {Q : Int32 → gMem → Prop} {X : String → gMem → Prop} {I19 : Int32 → Int32 → gMem → Prop} (hI19 : ∀ (L3 : Int32) (L4 : Int32) (v : gMem), I19 L3 L4 v → gS p l e ({ frames := 7, cells := 1, slots := 6, locals := 103 } : Room) s m args below meth c 5 L sz (vx_MQ below (gQi L sz Q) (gXC L sz X) args s 1 6 (gA L sz)) 1 6 19 [(0, .ref (L.2.1 6 0)), (2, .int L2), (3, .int L3), (4, .int L4)] [] v) (h : BX6_conflicts_38 I19 L2 L3 L4 v Q X) : gS p l e ({ frames := 7, cells := 1, slots := 6, locals := 103 } : Room) s m args below meth c 5 L sz (vx_MQ below (gQi L sz Q) (gXC L sz X) args s 1 6 (gA L sz)) 1 6 38 [(0, .ref (L.2.1 6 0)), (2, .int L2), (3, .int L3), (4, .int L4)] [] v := by
  unfold BX6_conflicts_38 at h
  refine g_iinc C (k := 3) (L4 + 1) [(4, .int (L4 + 1)), (0, .ref (L.2.1 6 0)), (2, .int L2), (3, .int L3)] rfl rfl (Nat.le_of_ble_eq_true rfl) rfl dX6_conflicts_38 ?_
  refine g_goto C 19 (by decide) dX6_conflicts_41 ?_
  refine g_sub [(0, .ref (L.2.1 6 0)), (2, .int L2), (3, .int L3), (4, .int (L4 + 1))] [1, 2, 3, 0] rfl ?_
  exact hI19 _ _ _ h
def BX6_conflicts_19 (I19 : Int32 → Int32 → gMem → Prop) (L2 : Int32) (L3 : Int32) (L4 : Int32) (v : gMem) (Q : Int32 → gMem → Prop) (X : String → gMem → Prop) : Prop := ((4 ≤ L4 → (Q L3 v)) ∧ (¬ 4 ≤ L4 → (TX6_disagree L2 L4 v (fun r29 v29 => ((r29 = 0 → (BX6_conflicts_38 I19 L2 L3 L4 v29 Q X)) ∧ (¬ r29 = 0 → (BX6_conflicts_38 I19 L2 (L3 + 1) L4 v29 Q X)))) X)))
theorem sX6_conflicts_19 (C : gC p l s m args meth c cX6_conflicts 5 RX6 L sz) (hr : meth.sig.returnType = (some .int)) (hno : ∀ x ∈ c.exceptionTable.toList, False) {L2 : Int32} {L3 : Int32} {L4 : Int32} {v : gMem} {Q : Int32 → gMem → Prop} {X : String → gMem → Prop} {I19 : Int32 → Int32 → gMem → Prop} (hI19 : ∀ (L3 : Int32) (L4 : Int32) (v : gMem), I19 L3 L4 v → gS p l e ({ frames := 7, cells := 1, slots := 6, locals := 103 } : Room) s m args below meth c 5 L sz (vx_MQ below (gQi L sz Q) (gXC L sz X) args s 1 6 (gA L sz)) 1 6 19 [(0, .ref (L.2.1 6 0)), (2, .int L2), (3, .int L3), (4, .int L4)] [] v) (h : BX6_conflicts_19 I19 L2 L3 L4 v Q X) : gS p l e ({ frames := 7, cells := 1, slots := 6, locals := 103 } : Room) s m args below meth c 5 L sz (vx_MQ below (gQi L sz Q) (gXC L sz X) args s 1 6 (gA L sz)) 1 6 19 [(0, .ref (L.2.1 6 0)), (2, .int L2), (3, .int L3), (4, .int L4)] [] v := by
  unfold BX6_conflicts_19 at h
  refine g_iload C 3 rfl dX6_conflicts_19 ?_
  refine g_iconst C 4 (by decide) dX6_conflicts_21 ?_
  refine g_icmp_ge C 44 (by decide) dX6_conflicts_22 (fun hc => ?_) (fun hc => ?_)
  · replace h := h.1 hc
    refine g_iload_n C 3 rfl 2 rfl dX6_conflicts_44 ?_
    exact g_iret C hr rfl (Nat.le_of_ble_eq_true rfl) (Nat.le_of_ble_eq_true rfl) h dX6_conflicts_45
  · replace h := h.2 hc
    refine g_aload_n C 0 rfl 0 rfl dX6_conflicts_25 ?_
    refine g_iload_n C 2 rfl 1 rfl dX6_conflicts_26 ?_
    refine g_iload C 3 rfl dX6_conflicts_27 ?_
    refine g_callVi C hno gok_6 rfl rfl [.int L2, .int L4] (fun sz9 => kX6_disagree l C.2.2.2.2.2.2.1 L C.2.2.2.2.2.2.2.1 L2 L4 v _ X h sz9) wml_RX6_281 winst_X6_disagree wsel_X6_disagree wini_RX6 wcode_X6_disagree rfl rfl (n := 2) (by decide +kernel) rfl ⟨(Nat.le_of_ble_eq_true rfl), (Nat.le_of_ble_eq_true rfl)⟩ ⟨(Nat.le_of_ble_eq_true rfl), (Nat.le_of_ble_eq_true rfl)⟩ ⟨(Nat.le_of_ble_eq_true rfl), (Nat.le_of_ble_eq_true rfl)⟩ (Nat.le_of_ble_eq_true rfl) dX6_conflicts_29 (fun r29 v29 h => ?_)
    refine g_if_eq C 38 (by decide) dX6_conflicts_32 (fun hc => ?_) (fun hc => ?_)
    · replace h := h.1 hc
      exact sX6_conflicts_38 C hr hno hI19 h
    · replace h := h.2 hc
      refine g_iinc C (k := 2) (L3 + 1) [(3, .int (L3 + 1)), (0, .ref (L.2.1 6 0)), (2, .int L2), (4, .int L4)] rfl rfl (Nat.le_of_ble_eq_true rfl) rfl dX6_conflicts_35 ?_
      refine g_sub [(0, .ref (L.2.1 6 0)), (2, .int L2), (3, .int (L3 + 1)), (4, .int L4)] [1, 2, 0, 3] rfl ?_
      exact sX6_conflicts_38 C hr hno hI19 h
def LX6_conflicts_19 (L2 : Int32) (L3 : Int32) (L4 : Int32) (v : gMem) (Q : Int32 → gMem → Prop) (X : String → gMem → Prop) : Prop := ∀ I19 : Int32 → Int32 → gMem → Prop, (∀ (L3 : Int32) (L4 : Int32) (v : gMem), BX6_conflicts_19 I19 L2 L3 L4 v Q X → I19 L3 L4 v) → I19 L3 L4 v
theorem slX6_conflicts_19 (C : gC p l s m args meth c cX6_conflicts 5 RX6 L sz) (hr : meth.sig.returnType = (some .int)) (hno : ∀ x ∈ c.exceptionTable.toList, False) {L2 : Int32} {L3 : Int32} {L4 : Int32} {v : gMem} {Q : Int32 → gMem → Prop} {X : String → gMem → Prop} (h : LX6_conflicts_19 L2 L3 L4 v Q X) : gS p l e ({ frames := 7, cells := 1, slots := 6, locals := 103 } : Room) s m args below meth c 5 L sz (vx_MQ below (gQi L sz Q) (gXC L sz X) args s 1 6 (gA L sz)) 1 6 19 [(0, .ref (L.2.1 6 0)), (2, .int L2), (3, .int L3), (4, .int L4)] [] v := by
  refine h (fun L3 L4 v => gS p l e ({ frames := 7, cells := 1, slots := 6, locals := 103 } : Room) s m args below meth c 5 L sz (vx_MQ below (gQi L sz Q) (gXC L sz X) args s 1 6 (gA L sz)) 1 6 19 [(0, .ref (L.2.1 6 0)), (2, .int L2), (3, .int L3), (4, .int L4)] [] v) (fun L3 L4 v hb => ?_)
  exact sX6_conflicts_19 C hr hno (fun _ _ _ hs => hs) hb
def TX6_conflicts (L1 : Int32) (v : gMem) (Q : Int32 → gMem → Prop) (X : String → gMem → Prop) : Prop := (TX6_requireCard L1 v (fun v2 => (TX3_joinedWith L1 v2 (fun r10 v10 => (LX6_conflicts_19 r10 0 0 v10 Q X)) X)) X)
theorem kX6_conflicts (l : Launch) (hfl : l.stackTraces = false) (L : gL) (hL : gDist L) (L1 : Int32) (v : gMem) (Q : Int32 → gMem → Prop) (X : String → gMem → Prop) (h : TX6_conflicts L1 v Q X) (sz : Nat) : vx_Met l yX6_conflicts [.code yX6_conflicts cX6_conflicts 5 (some .int)] ({ frames := 7, cells := 1, slots := 6, locals := 103 } : Room) (gPc L sz [.ref (L.2.1 6 0), .int L1] v) (gQi L sz Q) (gXC L sz X) 1 6 (gA L sz) := by
  refine g_ofW (by decide +kernel) hfl hL (Nat.le_of_ble_eq_true rfl) ?_
  intro p e s m args below meth c C hr hno
  refine g_sub [(0, .ref (L.2.1 6 0)), (1, .int L1)] [0, 1] rfl ?_
  unfold TX6_conflicts at h
  refine g_aload_n C 0 rfl 0 rfl dX6_conflicts_0 ?_
  refine g_iload_n C 1 rfl 1 rfl dX6_conflicts_1 ?_
  refine g_callVv C hno gok_6 rfl rfl [.int L1] (fun sz9 => kX6_requireCard l C.2.2.2.2.2.2.1 L C.2.2.2.2.2.2.2.1 L1 v _ X h sz9) wml_RX6_96 winst_X6_requireCard wsel_X6_requireCard wini_RX6 wcode_X6_requireCard rfl rfl (n := 1) (by decide +kernel) rfl ⟨(Nat.le_of_ble_eq_true rfl), (Nat.le_of_ble_eq_true rfl)⟩ ⟨(Nat.le_of_ble_eq_true rfl), (Nat.le_of_ble_eq_true rfl)⟩ ⟨(Nat.le_of_ble_eq_true rfl), (Nat.le_of_ble_eq_true rfl)⟩ (Nat.le_of_ble_eq_true rfl) dX6_conflicts_2 (fun v2 h => ?_)
  refine g_aload_n C 0 rfl 0 rfl dX6_conflicts_5 ?_
  refine fgX6_39 C dX6_conflicts_6 ?_
  refine g_iload_n C 1 rfl 1 rfl dX6_conflicts_9 ?_
  refine g_callVi C hno gok_3 rfl rfl [.int L1] (fun sz9 => kX3_joinedWith l C.2.2.2.2.2.2.1 L C.2.2.2.2.2.2.2.1 L1 v2 _ X h sz9) wml_RX6_226 winst_X3_joinedWith wsel_X3_joinedWith wini_RX3 wcode_X3_joinedWith rfl rfl (n := 1) (by decide +kernel) rfl ⟨(Nat.le_of_ble_eq_true rfl), (Nat.le_of_ble_eq_true rfl)⟩ ⟨(Nat.le_of_ble_eq_true rfl), (Nat.le_of_ble_eq_true rfl)⟩ ⟨(Nat.le_of_ble_eq_true rfl), (Nat.le_of_ble_eq_true rfl)⟩ (Nat.le_of_ble_eq_true rfl) dX6_conflicts_10 (fun r10 v10 h => ?_)
  refine g_istore_n C 2 rfl [(2, .int r10), (0, .ref (L.2.1 6 0)), (1, .int L1)] (Nat.le_of_ble_eq_true rfl) rfl dX6_conflicts_13 ?_
  refine g_iconst C 0 (by decide) dX6_conflicts_14 ?_
  refine g_istore_n C 3 rfl [(3, .int 0), (2, .int r10), (0, .ref (L.2.1 6 0)), (1, .int L1)] (Nat.le_of_ble_eq_true rfl) rfl dX6_conflicts_15 ?_
  refine g_iconst C 0 (by decide) dX6_conflicts_16 ?_
  refine g_istore C [(4, .int 0), (3, .int 0), (2, .int r10), (0, .ref (L.2.1 6 0)), (1, .int L1)] (Nat.le_of_ble_eq_true rfl) rfl dX6_conflicts_17 ?_
  refine g_sub [(0, .ref (L.2.1 6 0)), (2, .int r10), (3, .int 0), (4, .int 0)] [3, 2, 1, 0] rfl ?_
  exact slX6_conflicts_19 C hr hno h
def BX6_requireGroup_9 (v : gMem) (Q : gMem → Prop) (X : String → gMem → Prop) : Prop := (X "java/lang/IndexOutOfBoundsException" v)
theorem sX6_requireGroup_9 (C : gC p l s m args meth c cX6_requireGroup 2 RX6 L sz) (hr : meth.sig.returnType = none) (hno : ∀ x ∈ c.exceptionTable.toList, False) {v : gMem} {Q : gMem → Prop} {X : String → gMem → Prop} (h : BX6_requireGroup_9 v Q X) : gS p l e ({ frames := 6, cells := 1, slots := 6, locals := 82 } : Room) s m args below meth c 2 L sz (vx_MQ below (gQv L sz Q) (gXC L sz X) args s 1 6 (gA L sz)) 0 0 9 [] [] v := by
  unfold BX6_requireGroup_9 at h
  exact g_throwSW C hno (text := "no such group") (is := 326) rfl (by decide) wcl_RX6_304 wini_java_lang_IndexOutOfBoundsException (List.mem_of_getElem? (i := 27) rfl) wat_RX6_308 dX6_requireGroup_9 dX6_requireGroup_12 dX6_requireGroup_13 dX6_requireGroup_16 dX6_requireGroup_19 (Nat.le_of_ble_eq_true rfl) (Nat.le_of_ble_eq_true rfl) ⟨(Nat.le_of_ble_eq_true rfl), (Nat.le_of_ble_eq_true rfl)⟩ (Nat.le_of_ble_eq_true rfl) (Nat.le_of_ble_eq_true rfl) h
def TX6_requireGroup (L1 : Int32) (v : gMem) (Q : gMem → Prop) (X : String → gMem → Prop) : Prop := ((L1 < 0 → (BX6_requireGroup_9 v Q X)) ∧ (¬ L1 < 0 → ((L1 < 4 → (Q v)) ∧ (¬ L1 < 4 → (BX6_requireGroup_9 v Q X)))))
theorem kX6_requireGroup (l : Launch) (hfl : l.stackTraces = false) (L : gL) (hL : gDist L) (L1 : Int32) (v : gMem) (Q : gMem → Prop) (X : String → gMem → Prop) (h : TX6_requireGroup L1 v Q X) (sz : Nat) : vx_Met l yX6_requireGroup [.code yX6_requireGroup cX6_requireGroup 2 none] ({ frames := 6, cells := 1, slots := 6, locals := 82 } : Room) (gPc L sz [.ref (L.2.1 6 0), .int L1] v) (gQv L sz Q) (gXC L sz X) 1 6 (gA L sz) := by
  refine g_ofW (by decide +kernel) hfl hL (Nat.le_of_ble_eq_true rfl) ?_
  intro p e s m args below meth c C hr hno
  refine g_sub [(0, .ref (L.2.1 6 0)), (1, .int L1)] [0, 1] rfl ?_
  unfold TX6_requireGroup at h
  refine g_iload_n C 1 rfl 1 rfl dX6_requireGroup_0 ?_
  refine g_if_lt C 9 (by decide) dX6_requireGroup_1 (fun hc => ?_) (fun hc => ?_)
  · replace h := h.1 hc
    refine g_sub [] [] rfl ?_
    exact sX6_requireGroup_9 C hr hno h
  · replace h := h.2 hc
    refine g_iload_n C 1 rfl 1 rfl dX6_requireGroup_4 ?_
    refine g_iconst C 4 (by decide) dX6_requireGroup_5 ?_
    refine g_icmp_lt C 20 (by decide) dX6_requireGroup_6 (fun hc => ?_) (fun hc => ?_)
    · replace h := h.1 hc
      exact g_vret C hr (Nat.le_of_ble_eq_true rfl) (Nat.le_of_ble_eq_true rfl) h dX6_requireGroup_20
    · replace h := h.2 hc
      refine g_sub [] [] rfl ?_
      exact sX6_requireGroup_9 C hr hno h
def TX6_join (L1 : Int32) (L2 : Int32) (v : gMem) (Q : Int32 → gMem → Prop) (X : String → gMem → Prop) : Prop := (TX6_requireGroup L1 v (fun v2 => (TX6_requireCard L2 v2 (fun v7 => (vp_in L1 4 ∧ (TX6_contains (v7 14 0 (Int32.toNatClampNeg L1)) L2 v7 (fun r17 v17 => ((r17 = 0 → (vp_in L1 4 ∧ (vp_in L1 4 ∧ (vp_in L1 4 ∧ (TJ6_bitCount_0f7a4 ((gw v17 14 0 (Int32.toNatClampNeg L1) ((v17 14 0 (Int32.toNatClampNeg L1)) ||| (1 <<< (L2 &&& 31)))) 14 0 (Int32.toNatClampNeg L1)) (gw v17 14 0 (Int32.toNatClampNeg L1) ((v17 14 0 (Int32.toNatClampNeg L1)) ||| (1 <<< (L2 &&& 31)))) (fun r52 v52 => (Q r52 v52)) X))))) ∧ (¬ r17 = 0 → (X "java/lang/IllegalStateException" v17)))) X))) X)) X)
theorem kX6_join (l : Launch) (hfl : l.stackTraces = false) (L : gL) (hL : gDist L) (L1 : Int32) (L2 : Int32) (v : gMem) (Q : Int32 → gMem → Prop) (X : String → gMem → Prop) (h : TX6_join L1 L2 v Q X) (sz : Nat) : vx_Met l yX6_join [.code yX6_join cX6_join 3 (some .int)] ({ frames := 7, cells := 3, slots := 18, locals := 103 } : Room) (gPc L sz [.ref (L.2.1 6 0), .int L1, .int L2] v) (gQi L sz Q) (gXC L sz X) 3 18 (gA L sz) := by
  refine g_ofW (by decide +kernel) hfl hL (Nat.le_of_ble_eq_true rfl) ?_
  intro p e s m args below meth c C hr hno
  refine g_sub [(0, .ref (L.2.1 6 0)), (1, .int L1), (2, .int L2)] [0, 1, 2] rfl ?_
  unfold TX6_join at h
  refine g_aload_n C 0 rfl 0 rfl dX6_join_0 ?_
  refine g_iload_n C 1 rfl 1 rfl dX6_join_1 ?_
  refine g_callVv C hno gok_6 rfl rfl [.int L1] (fun sz9 => kX6_requireGroup l C.2.2.2.2.2.2.1 L C.2.2.2.2.2.2.2.1 L1 v _ X h sz9) wml_RX6_284 winst_X6_requireGroup wsel_X6_requireGroup wini_RX6 wcode_X6_requireGroup rfl rfl (n := 1) (by decide +kernel) rfl ⟨(Nat.le_of_ble_eq_true rfl), (Nat.le_of_ble_eq_true rfl)⟩ ⟨(Nat.le_of_ble_eq_true rfl), (Nat.le_of_ble_eq_true rfl)⟩ ⟨(Nat.le_of_ble_eq_true rfl), (Nat.le_of_ble_eq_true rfl)⟩ (Nat.le_of_ble_eq_true rfl) dX6_join_2 (fun v2 h => ?_)
  refine g_aload_n C 0 rfl 0 rfl dX6_join_5 ?_
  refine g_iload_n C 2 rfl 2 rfl dX6_join_6 ?_
  refine g_callVv C hno gok_6 rfl rfl [.int L2] (fun sz9 => kX6_requireCard l C.2.2.2.2.2.2.1 L C.2.2.2.2.2.2.2.1 L2 v2 _ X h sz9) wml_RX6_96 winst_X6_requireCard wsel_X6_requireCard wini_RX6 wcode_X6_requireCard rfl rfl (n := 1) (by decide +kernel) rfl ⟨(Nat.le_of_ble_eq_true rfl), (Nat.le_of_ble_eq_true rfl)⟩ ⟨(Nat.le_of_ble_eq_true rfl), (Nat.le_of_ble_eq_true rfl)⟩ ⟨(Nat.le_of_ble_eq_true rfl), (Nat.le_of_ble_eq_true rfl)⟩ (Nat.le_of_ble_eq_true rfl) dX6_join_7 (fun v7 h => ?_)
  refine g_aload_n C 0 rfl 0 rfl dX6_join_10 ?_
  refine fgX6_43 C dX6_join_11 ?_
  refine g_iload_n C 1 rfl 1 rfl dX6_join_14 ?_
  obtain ⟨hb15, h⟩ := h
  refine g_iald C gok_14 rfl hb15 dX6_join_15 ?_
  refine g_iload_n C 2 rfl 2 rfl dX6_join_16 ?_
  refine g_callSi C hno [.int (v7 14 0 (Int32.toNatClampNeg L1)), .int L2] (fun sz9 => kX6_contains l C.2.2.2.2.2.2.1 L C.2.2.2.2.2.2.2.1 (v7 14 0 (Int32.toNatClampNeg L1)) L2 v7 _ X h sz9) wml_RX6_287 wstat_X6_contains wini_RX6 wcode_X6_contains rfl rfl (n := 2) (by decide +kernel) rfl ⟨(Nat.le_of_ble_eq_true rfl), (Nat.le_of_ble_eq_true rfl)⟩ ⟨(Nat.le_of_ble_eq_true rfl), (Nat.le_of_ble_eq_true rfl)⟩ ⟨(Nat.le_of_ble_eq_true rfl), (Nat.le_of_ble_eq_true rfl)⟩ (Nat.le_of_ble_eq_true rfl) dX6_join_17 (fun r17 v17 h => ?_)
  refine g_if_eq C 34 (by decide) dX6_join_20 (fun hc => ?_) (fun hc => ?_)
  · replace h := h.1 hc
    refine g_aload_n C 0 rfl 0 rfl dX6_join_34 ?_
    refine fgX6_43 C dX6_join_35 ?_
    refine g_iload_n C 1 rfl 1 rfl dX6_join_38 ?_
    refine g_dup2 C rfl rfl dX6_join_39 ?_
    obtain ⟨hb40, h⟩ := h
    refine g_iald C gok_14 rfl hb40 dX6_join_40 ?_
    refine g_iconst C 1 (by decide) dX6_join_41 ?_
    refine g_iload_n C 2 rfl 2 rfl dX6_join_42 ?_
    refine g_ishl C dX6_join_43 ?_
    refine g_ior C dX6_join_44 ?_
    obtain ⟨hb45, h⟩ := h
    refine g_iast C gok_14 (fun _ => rfl) hb45 dX6_join_45 ?_
    refine g_aload_n C 0 rfl 0 rfl dX6_join_46 ?_
    refine fgX6_43 C dX6_join_47 ?_
    refine g_iload_n C 1 rfl 1 rfl dX6_join_50 ?_
    obtain ⟨hb51, h⟩ := h
    refine g_iald C gok_14 rfl hb51 dX6_join_51 ?_
    refine g_callSi C hno [.int ((gw v17 14 0 (Int32.toNatClampNeg L1) ((v17 14 0 (Int32.toNatClampNeg L1)) ||| (1 <<< (L2 &&& 31)))) 14 0 (Int32.toNatClampNeg L1))] (fun sz9 => kJ6_bitCount_0f7a4 l C.2.2.2.2.2.2.1 L C.2.2.2.2.2.2.2.1 ((gw v17 14 0 (Int32.toNatClampNeg L1) ((v17 14 0 (Int32.toNatClampNeg L1)) ||| (1 <<< (L2 &&& 31)))) 14 0 (Int32.toNatClampNeg L1)) (gw v17 14 0 (Int32.toNatClampNeg L1) ((v17 14 0 (Int32.toNatClampNeg L1)) ||| (1 <<< (L2 &&& 31)))) _ X h sz9) wml_RX6_260 wstat_J6_bitCount_0f7a4 wini_RJ6 wcode_J6_bitCount_0f7a4 rfl rfl (n := 1) (by decide +kernel) rfl ⟨(Nat.le_of_ble_eq_true rfl), (Nat.le_of_ble_eq_true rfl)⟩ ⟨(Nat.le_of_ble_eq_true rfl), (Nat.le_of_ble_eq_true rfl)⟩ ⟨(Nat.le_of_ble_eq_true rfl), (Nat.le_of_ble_eq_true rfl)⟩ (Nat.le_of_ble_eq_true rfl) dX6_join_52 (fun r52 v52 h => ?_)
    exact g_iret C hr rfl (Nat.le_of_ble_eq_true rfl) (Nat.le_of_ble_eq_true rfl) h dX6_join_55
  · replace h := h.2 hc
    exact g_throwSW C hno (text := "the card is in the group") (is := 290) rfl (by decide) wcl_RX6_78 wini_java_lang_IllegalStateException (List.mem_of_getElem? (i := 28) rfl) wat_RX6_82 dX6_join_23 dX6_join_26 dX6_join_27 dX6_join_30 dX6_join_33 (Nat.le_of_ble_eq_true rfl) (Nat.le_of_ble_eq_true rfl) ⟨(Nat.le_of_ble_eq_true rfl), (Nat.le_of_ble_eq_true rfl)⟩ (Nat.le_of_ble_eq_true rfl) (Nat.le_of_ble_eq_true rfl) h
def TX6_leave (L1 : Int32) (L2 : Int32) (v : gMem) (Q : Int32 → gMem → Prop) (X : String → gMem → Prop) : Prop := (TX6_requireGroup L1 v (fun v2 => (TX6_requireCard L2 v2 (fun v7 => (vp_in L1 4 ∧ (TX6_contains (v7 14 0 (Int32.toNatClampNeg L1)) L2 v7 (fun r17 v17 => ((¬ r17 = 0 → (vp_in L1 4 ∧ (vp_in L1 4 ∧ (vp_in L1 4 ∧ (TJ6_bitCount_0f7a4 ((gw v17 14 0 (Int32.toNatClampNeg L1) ((v17 14 0 (Int32.toNatClampNeg L1)) &&& ((1 <<< (L2 &&& 31)) ^^^ (-1)))) 14 0 (Int32.toNatClampNeg L1)) (gw v17 14 0 (Int32.toNatClampNeg L1) ((v17 14 0 (Int32.toNatClampNeg L1)) &&& ((1 <<< (L2 &&& 31)) ^^^ (-1)))) (fun r54 v54 => (Q r54 v54)) X))))) ∧ (r17 = 0 → (X "java/util/NoSuchElementException" v17)))) X))) X)) X)
theorem kX6_leave (l : Launch) (hfl : l.stackTraces = false) (L : gL) (hL : gDist L) (L1 : Int32) (L2 : Int32) (v : gMem) (Q : Int32 → gMem → Prop) (X : String → gMem → Prop) (h : TX6_leave L1 L2 v Q X) (sz : Nat) : vx_Met l yX6_leave [.code yX6_leave cX6_leave 3 (some .int)] ({ frames := 7, cells := 3, slots := 18, locals := 103 } : Room) (gPc L sz [.ref (L.2.1 6 0), .int L1, .int L2] v) (gQi L sz Q) (gXC L sz X) 3 18 (gA L sz) := by
  refine g_ofW (by decide +kernel) hfl hL (Nat.le_of_ble_eq_true rfl) ?_
  intro p e s m args below meth c C hr hno
  refine g_sub [(0, .ref (L.2.1 6 0)), (1, .int L1), (2, .int L2)] [0, 1, 2] rfl ?_
  unfold TX6_leave at h
  refine g_aload_n C 0 rfl 0 rfl dX6_leave_0 ?_
  refine g_iload_n C 1 rfl 1 rfl dX6_leave_1 ?_
  refine g_callVv C hno gok_6 rfl rfl [.int L1] (fun sz9 => kX6_requireGroup l C.2.2.2.2.2.2.1 L C.2.2.2.2.2.2.2.1 L1 v _ X h sz9) wml_RX6_284 winst_X6_requireGroup wsel_X6_requireGroup wini_RX6 wcode_X6_requireGroup rfl rfl (n := 1) (by decide +kernel) rfl ⟨(Nat.le_of_ble_eq_true rfl), (Nat.le_of_ble_eq_true rfl)⟩ ⟨(Nat.le_of_ble_eq_true rfl), (Nat.le_of_ble_eq_true rfl)⟩ ⟨(Nat.le_of_ble_eq_true rfl), (Nat.le_of_ble_eq_true rfl)⟩ (Nat.le_of_ble_eq_true rfl) dX6_leave_2 (fun v2 h => ?_)
  refine g_aload_n C 0 rfl 0 rfl dX6_leave_5 ?_
  refine g_iload_n C 2 rfl 2 rfl dX6_leave_6 ?_
  refine g_callVv C hno gok_6 rfl rfl [.int L2] (fun sz9 => kX6_requireCard l C.2.2.2.2.2.2.1 L C.2.2.2.2.2.2.2.1 L2 v2 _ X h sz9) wml_RX6_96 winst_X6_requireCard wsel_X6_requireCard wini_RX6 wcode_X6_requireCard rfl rfl (n := 1) (by decide +kernel) rfl ⟨(Nat.le_of_ble_eq_true rfl), (Nat.le_of_ble_eq_true rfl)⟩ ⟨(Nat.le_of_ble_eq_true rfl), (Nat.le_of_ble_eq_true rfl)⟩ ⟨(Nat.le_of_ble_eq_true rfl), (Nat.le_of_ble_eq_true rfl)⟩ (Nat.le_of_ble_eq_true rfl) dX6_leave_7 (fun v7 h => ?_)
  refine g_aload_n C 0 rfl 0 rfl dX6_leave_10 ?_
  refine fgX6_43 C dX6_leave_11 ?_
  refine g_iload_n C 1 rfl 1 rfl dX6_leave_14 ?_
  obtain ⟨hb15, h⟩ := h
  refine g_iald C gok_14 rfl hb15 dX6_leave_15 ?_
  refine g_iload_n C 2 rfl 2 rfl dX6_leave_16 ?_
  refine g_callSi C hno [.int (v7 14 0 (Int32.toNatClampNeg L1)), .int L2] (fun sz9 => kX6_contains l C.2.2.2.2.2.2.1 L C.2.2.2.2.2.2.2.1 (v7 14 0 (Int32.toNatClampNeg L1)) L2 v7 _ X h sz9) wml_RX6_287 wstat_X6_contains wini_RX6 wcode_X6_contains rfl rfl (n := 2) (by decide +kernel) rfl ⟨(Nat.le_of_ble_eq_true rfl), (Nat.le_of_ble_eq_true rfl)⟩ ⟨(Nat.le_of_ble_eq_true rfl), (Nat.le_of_ble_eq_true rfl)⟩ ⟨(Nat.le_of_ble_eq_true rfl), (Nat.le_of_ble_eq_true rfl)⟩ (Nat.le_of_ble_eq_true rfl) dX6_leave_17 (fun r17 v17 h => ?_)
  refine g_if_ne C 34 (by decide) dX6_leave_20 (fun hc => ?_) (fun hc => ?_)
  · replace h := h.1 hc
    refine g_aload_n C 0 rfl 0 rfl dX6_leave_34 ?_
    refine fgX6_43 C dX6_leave_35 ?_
    refine g_iload_n C 1 rfl 1 rfl dX6_leave_38 ?_
    refine g_dup2 C rfl rfl dX6_leave_39 ?_
    obtain ⟨hb40, h⟩ := h
    refine g_iald C gok_14 rfl hb40 dX6_leave_40 ?_
    refine g_iconst C 1 (by decide) dX6_leave_41 ?_
    refine g_iload_n C 2 rfl 2 rfl dX6_leave_42 ?_
    refine g_ishl C dX6_leave_43 ?_
    refine g_iconst C (-1) (by decide) dX6_leave_44 ?_
    refine g_ixor C dX6_leave_45 ?_
    refine g_iand C dX6_leave_46 ?_
    obtain ⟨hb47, h⟩ := h
    refine g_iast C gok_14 (fun _ => rfl) hb47 dX6_leave_47 ?_
    refine g_aload_n C 0 rfl 0 rfl dX6_leave_48 ?_
    refine fgX6_43 C dX6_leave_49 ?_
    refine g_iload_n C 1 rfl 1 rfl dX6_leave_52 ?_
    obtain ⟨hb53, h⟩ := h
    refine g_iald C gok_14 rfl hb53 dX6_leave_53 ?_
    refine g_callSi C hno [.int ((gw v17 14 0 (Int32.toNatClampNeg L1) ((v17 14 0 (Int32.toNatClampNeg L1)) &&& ((1 <<< (L2 &&& 31)) ^^^ (-1)))) 14 0 (Int32.toNatClampNeg L1))] (fun sz9 => kJ6_bitCount_0f7a4 l C.2.2.2.2.2.2.1 L C.2.2.2.2.2.2.2.1 ((gw v17 14 0 (Int32.toNatClampNeg L1) ((v17 14 0 (Int32.toNatClampNeg L1)) &&& ((1 <<< (L2 &&& 31)) ^^^ (-1)))) 14 0 (Int32.toNatClampNeg L1)) (gw v17 14 0 (Int32.toNatClampNeg L1) ((v17 14 0 (Int32.toNatClampNeg L1)) &&& ((1 <<< (L2 &&& 31)) ^^^ (-1)))) _ X h sz9) wml_RX6_260 wstat_J6_bitCount_0f7a4 wini_RJ6 wcode_J6_bitCount_0f7a4 rfl rfl (n := 1) (by decide +kernel) rfl ⟨(Nat.le_of_ble_eq_true rfl), (Nat.le_of_ble_eq_true rfl)⟩ ⟨(Nat.le_of_ble_eq_true rfl), (Nat.le_of_ble_eq_true rfl)⟩ ⟨(Nat.le_of_ble_eq_true rfl), (Nat.le_of_ble_eq_true rfl)⟩ (Nat.le_of_ble_eq_true rfl) dX6_leave_54 (fun r54 v54 h => ?_)
    exact g_iret C hr rfl (Nat.le_of_ble_eq_true rfl) (Nat.le_of_ble_eq_true rfl) h dX6_leave_57
  · replace h := h.2 hc
    exact g_throwNW C hno (text := "the card is not in the group") (is := 292) rfl (by decide) wcl_RX6_128 wini_java_util_NoSuchElementException (List.mem_of_getElem? (i := 29) rfl) wat_RX6_132 dX6_leave_23 dX6_leave_26 dX6_leave_27 dX6_leave_30 dX6_leave_33 (Nat.le_of_ble_eq_true rfl) (Nat.le_of_ble_eq_true rfl) ⟨(Nat.le_of_ble_eq_true rfl), (Nat.le_of_ble_eq_true rfl)⟩ (Nat.le_of_ble_eq_true rfl) (Nat.le_of_ble_eq_true rfl) h
def BX6_isIn_33 (t0 : Int32) (v : gMem) (Q : Int32 → gMem → Prop) (X : String → gMem → Prop) : Prop := (narrow .boolean (.int t0) = .int t0 ∧ Q t0 v)
theorem sX6_isIn_33 (C : gC p l s m args meth c cX6_isIn 3 RX6 L sz) (hr : meth.sig.returnType = (some .boolean)) (hno : ∀ x ∈ c.exceptionTable.toList, False) {t0 : Int32} {v : gMem} {Q : Int32 → gMem → Prop} {X : String → gMem → Prop} (h : BX6_isIn_33 t0 v Q X) : gS p l e ({ frames := 7, cells := 2, slots := 12, locals := 103 } : Room) s m args below meth c 3 L sz (vx_MQ below (gQi L sz Q) (gXC L sz X) args s 2 12 (gA L sz)) 2 12 33 [] [.int t0] v := by
  unfold BX6_isIn_33 at h
  exact g_iret C hr h.1 (Nat.le_of_ble_eq_true rfl) (Nat.le_of_ble_eq_true rfl) h.2 dX6_isIn_33
def TX6_isIn (L1 : Int32) (L2 : Int32) (v : gMem) (Q : Int32 → gMem → Prop) (X : String → gMem → Prop) : Prop := (TX6_requireGroup L1 v (fun v2 => (TX6_requireCard L2 v2 (fun v7 => (vp_in L1 4 ∧ (TX3_joinedWith L2 v7 (fun r21 v21 => ((((v7 14 0 (Int32.toNatClampNeg L1)) &&& r21) = 0 → (BX6_isIn_33 0 v21 Q X)) ∧ (¬ ((v7 14 0 (Int32.toNatClampNeg L1)) &&& r21) = 0 → (BX6_isIn_33 1 v21 Q X)))) X))) X)) X)
theorem kX6_isIn (l : Launch) (hfl : l.stackTraces = false) (L : gL) (hL : gDist L) (L1 : Int32) (L2 : Int32) (v : gMem) (Q : Int32 → gMem → Prop) (X : String → gMem → Prop) (h : TX6_isIn L1 L2 v Q X) (sz : Nat) : vx_Met l yX6_isIn [.code yX6_isIn cX6_isIn 3 (some .boolean)] ({ frames := 7, cells := 2, slots := 12, locals := 103 } : Room) (gPc L sz [.ref (L.2.1 6 0), .int L1, .int L2] v) (gQi L sz Q) (gXC L sz X) 2 12 (gA L sz) := by
  refine g_ofW (by decide +kernel) hfl hL (Nat.le_of_ble_eq_true rfl) ?_
  intro p e s m args below meth c C hr hno
  refine g_sub [(0, .ref (L.2.1 6 0)), (1, .int L1), (2, .int L2)] [0, 1, 2] rfl ?_
  unfold TX6_isIn at h
  refine g_aload_n C 0 rfl 0 rfl dX6_isIn_0 ?_
  refine g_iload_n C 1 rfl 1 rfl dX6_isIn_1 ?_
  refine g_callVv C hno gok_6 rfl rfl [.int L1] (fun sz9 => kX6_requireGroup l C.2.2.2.2.2.2.1 L C.2.2.2.2.2.2.2.1 L1 v _ X h sz9) wml_RX6_284 winst_X6_requireGroup wsel_X6_requireGroup wini_RX6 wcode_X6_requireGroup rfl rfl (n := 1) (by decide +kernel) rfl ⟨(Nat.le_of_ble_eq_true rfl), (Nat.le_of_ble_eq_true rfl)⟩ ⟨(Nat.le_of_ble_eq_true rfl), (Nat.le_of_ble_eq_true rfl)⟩ ⟨(Nat.le_of_ble_eq_true rfl), (Nat.le_of_ble_eq_true rfl)⟩ (Nat.le_of_ble_eq_true rfl) dX6_isIn_2 (fun v2 h => ?_)
  refine g_aload_n C 0 rfl 0 rfl dX6_isIn_5 ?_
  refine g_iload_n C 2 rfl 2 rfl dX6_isIn_6 ?_
  refine g_callVv C hno gok_6 rfl rfl [.int L2] (fun sz9 => kX6_requireCard l C.2.2.2.2.2.2.1 L C.2.2.2.2.2.2.2.1 L2 v2 _ X h sz9) wml_RX6_96 winst_X6_requireCard wsel_X6_requireCard wini_RX6 wcode_X6_requireCard rfl rfl (n := 1) (by decide +kernel) rfl ⟨(Nat.le_of_ble_eq_true rfl), (Nat.le_of_ble_eq_true rfl)⟩ ⟨(Nat.le_of_ble_eq_true rfl), (Nat.le_of_ble_eq_true rfl)⟩ ⟨(Nat.le_of_ble_eq_true rfl), (Nat.le_of_ble_eq_true rfl)⟩ (Nat.le_of_ble_eq_true rfl) dX6_isIn_7 (fun v7 h => ?_)
  refine g_aload_n C 0 rfl 0 rfl dX6_isIn_10 ?_
  refine fgX6_43 C dX6_isIn_11 ?_
  refine g_iload_n C 1 rfl 1 rfl dX6_isIn_14 ?_
  obtain ⟨hb15, h⟩ := h
  refine g_iald C gok_14 rfl hb15 dX6_isIn_15 ?_
  refine g_aload_n C 0 rfl 0 rfl dX6_isIn_16 ?_
  refine fgX6_39 C dX6_isIn_17 ?_
  refine g_iload_n C 2 rfl 2 rfl dX6_isIn_20 ?_
  refine g_callVi C hno gok_3 rfl rfl [.int L2] (fun sz9 => kX3_joinedWith l C.2.2.2.2.2.2.1 L C.2.2.2.2.2.2.2.1 L2 v7 _ X h sz9) wml_RX6_226 winst_X3_joinedWith wsel_X3_joinedWith wini_RX3 wcode_X3_joinedWith rfl rfl (n := 1) (by decide +kernel) rfl ⟨(Nat.le_of_ble_eq_true rfl), (Nat.le_of_ble_eq_true rfl)⟩ ⟨(Nat.le_of_ble_eq_true rfl), (Nat.le_of_ble_eq_true rfl)⟩ ⟨(Nat.le_of_ble_eq_true rfl), (Nat.le_of_ble_eq_true rfl)⟩ (Nat.le_of_ble_eq_true rfl) dX6_isIn_21 (fun r21 v21 h => ?_)
  refine g_iand C dX6_isIn_24 ?_
  refine g_if_eq C 32 (by decide) dX6_isIn_25 (fun hc => ?_) (fun hc => ?_)
  · replace h := h.1 hc
    refine g_iconst C 0 (by decide) dX6_isIn_32 ?_
    refine g_sub [] [] rfl ?_
    exact sX6_isIn_33 C hr hno h
  · replace h := h.2 hc
    refine g_iconst C 1 (by decide) dX6_isIn_28 ?_
    refine g_goto C 33 (by decide) dX6_isIn_29 ?_
    refine g_sub [] [] rfl ?_
    exact sX6_isIn_33 C hr hno h
def TX6_personsIn (L1 : Int32) (v : gMem) (Q : Int32 → gMem → Prop) (X : String → gMem → Prop) : Prop := (TX6_requireGroup L1 v (fun v2 => (vp_in L1 4 ∧ (TX6_personsWith (v2 14 0 (Int32.toNatClampNeg L1)) v2 (fun r12 v12 => (TJ6_bitCount_0f7a4 r12 v12 (fun r15 v15 => (Q r15 v15)) X)) X))) X)
theorem kX6_personsIn (l : Launch) (hfl : l.stackTraces = false) (L : gL) (hL : gDist L) (L1 : Int32) (v : gMem) (Q : Int32 → gMem → Prop) (X : String → gMem → Prop) (h : TX6_personsIn L1 v Q X) (sz : Nat) : vx_Met l yX6_personsIn [.code yX6_personsIn cX6_personsIn 2 (some .int)] ({ frames := 7, cells := 1, slots := 6, locals := 103 } : Room) (gPc L sz [.ref (L.2.1 6 0), .int L1] v) (gQi L sz Q) (gXC L sz X) 1 6 (gA L sz) := by
  refine g_ofW (by decide +kernel) hfl hL (Nat.le_of_ble_eq_true rfl) ?_
  intro p e s m args below meth c C hr hno
  refine g_sub [(0, .ref (L.2.1 6 0)), (1, .int L1)] [0, 1] rfl ?_
  unfold TX6_personsIn at h
  refine g_aload_n C 0 rfl 0 rfl dX6_personsIn_0 ?_
  refine g_iload_n C 1 rfl 1 rfl dX6_personsIn_1 ?_
  refine g_callVv C hno gok_6 rfl rfl [.int L1] (fun sz9 => kX6_requireGroup l C.2.2.2.2.2.2.1 L C.2.2.2.2.2.2.2.1 L1 v _ X h sz9) wml_RX6_284 winst_X6_requireGroup wsel_X6_requireGroup wini_RX6 wcode_X6_requireGroup rfl rfl (n := 1) (by decide +kernel) rfl ⟨(Nat.le_of_ble_eq_true rfl), (Nat.le_of_ble_eq_true rfl)⟩ ⟨(Nat.le_of_ble_eq_true rfl), (Nat.le_of_ble_eq_true rfl)⟩ ⟨(Nat.le_of_ble_eq_true rfl), (Nat.le_of_ble_eq_true rfl)⟩ (Nat.le_of_ble_eq_true rfl) dX6_personsIn_2 (fun v2 h => ?_)
  refine g_aload_n C 0 rfl 0 rfl dX6_personsIn_5 ?_
  refine g_aload_n C 0 rfl 0 rfl dX6_personsIn_6 ?_
  refine fgX6_43 C dX6_personsIn_7 ?_
  refine g_iload_n C 1 rfl 1 rfl dX6_personsIn_10 ?_
  obtain ⟨hb11, h⟩ := h
  refine g_iald C gok_14 rfl hb11 dX6_personsIn_11 ?_
  refine g_callVi C hno gok_6 rfl rfl [.int (v2 14 0 (Int32.toNatClampNeg L1))] (fun sz9 => kX6_personsWith l C.2.2.2.2.2.2.1 L C.2.2.2.2.2.2.2.1 (v2 14 0 (Int32.toNatClampNeg L1)) v2 _ X h sz9) wml_RX6_257 winst_X6_personsWith wsel_X6_personsWith wini_RX6 wcode_X6_personsWith rfl rfl (n := 1) (by decide +kernel) rfl ⟨(Nat.le_of_ble_eq_true rfl), (Nat.le_of_ble_eq_true rfl)⟩ ⟨(Nat.le_of_ble_eq_true rfl), (Nat.le_of_ble_eq_true rfl)⟩ ⟨(Nat.le_of_ble_eq_true rfl), (Nat.le_of_ble_eq_true rfl)⟩ (Nat.le_of_ble_eq_true rfl) dX6_personsIn_12 (fun r12 v12 h => ?_)
  refine g_callSi C hno [.int r12] (fun sz9 => kJ6_bitCount_0f7a4 l C.2.2.2.2.2.2.1 L C.2.2.2.2.2.2.2.1 r12 v12 _ X h sz9) wml_RX6_260 wstat_J6_bitCount_0f7a4 wini_RJ6 wcode_J6_bitCount_0f7a4 rfl rfl (n := 1) (by decide +kernel) rfl ⟨(Nat.le_of_ble_eq_true rfl), (Nat.le_of_ble_eq_true rfl)⟩ ⟨(Nat.le_of_ble_eq_true rfl), (Nat.le_of_ble_eq_true rfl)⟩ ⟨(Nat.le_of_ble_eq_true rfl), (Nat.le_of_ble_eq_true rfl)⟩ (Nat.le_of_ble_eq_true rfl) dX6_personsIn_15 (fun r15 v15 h => ?_)
  exact g_iret C hr rfl (Nat.le_of_ble_eq_true rfl) (Nat.le_of_ble_eq_true rfl) h dX6_personsIn_18
def TX6_type (L1 : Int32) (v : gMem) (Q : Int32 → gMem → Prop) (X : String → gMem → Prop) : Prop := (TX6_requireLetter L1 v (fun v2 => (TX6_appendTo 16 L1 v2 (fun r11 v11 => (Q r11 v11)) X)) X)
theorem kX6_type (l : Launch) (hfl : l.stackTraces = false) (L : gL) (hL : gDist L) (L1 : Int32) (v : gMem) (Q : Int32 → gMem → Prop) (X : String → gMem → Prop) (h : TX6_type L1 v Q X) (sz : Nat) : vx_Met l yX6_type [.code yX6_type cX6_type 2 (some .int)] ({ frames := 7, cells := 2, slots := 12, locals := 104 } : Room) (gPc L sz [.ref (L.2.1 6 0), .int L1] v) (gQi L sz Q) (gXC L sz X) 2 12 (gA L sz) := by
  refine g_ofW (by decide +kernel) hfl hL (Nat.le_of_ble_eq_true rfl) ?_
  intro p e s m args below meth c C hr hno
  refine g_sub [(0, .ref (L.2.1 6 0)), (1, .int L1)] [0, 1] rfl ?_
  unfold TX6_type at h
  refine g_aload_n C 0 rfl 0 rfl dX6_type_0 ?_
  refine g_iload_n C 1 rfl 1 rfl dX6_type_1 ?_
  refine g_callVv C hno gok_6 rfl rfl [.int L1] (fun sz9 => kX6_requireLetter l C.2.2.2.2.2.2.1 L C.2.2.2.2.2.2.2.1 L1 v _ X h sz9) wml_RX6_99 winst_X6_requireLetter wsel_X6_requireLetter wini_RX6 wcode_X6_requireLetter rfl rfl (n := 1) (by decide +kernel) rfl ⟨(Nat.le_of_ble_eq_true rfl), (Nat.le_of_ble_eq_true rfl)⟩ ⟨(Nat.le_of_ble_eq_true rfl), (Nat.le_of_ble_eq_true rfl)⟩ ⟨(Nat.le_of_ble_eq_true rfl), (Nat.le_of_ble_eq_true rfl)⟩ (Nat.le_of_ble_eq_true rfl) dX6_type_2 (fun v2 h => ?_)
  refine g_aload_n C 0 rfl 0 rfl dX6_type_5 ?_
  refine g_aload_n C 0 rfl 0 rfl dX6_type_6 ?_
  refine fgX6_49 C dX6_type_7 ?_
  refine g_iload_n C 1 rfl 1 rfl dX6_type_10 ?_
  refine g_callVi C hno gok_6 rfl rfl [.ref (L.2.1 4 16), .int L1] (fun sz9 => kX6_appendTo l C.2.2.2.2.2.2.1 L C.2.2.2.2.2.2.2.1 (by decide : 16 < 17) L1 v2 _ X h sz9) wml_RX6_106 winst_X6_appendTo wsel_X6_appendTo wini_RX6 wcode_X6_appendTo rfl rfl (n := 2) (by decide +kernel) rfl ⟨(Nat.le_of_ble_eq_true rfl), (Nat.le_of_ble_eq_true rfl)⟩ ⟨(Nat.le_of_ble_eq_true rfl), (Nat.le_of_ble_eq_true rfl)⟩ ⟨(Nat.le_of_ble_eq_true rfl), (Nat.le_of_ble_eq_true rfl)⟩ (Nat.le_of_ble_eq_true rfl) dX6_type_11 (fun r11 v11 h => ?_)
  exact g_iret C hr rfl (Nat.le_of_ble_eq_true rfl) (Nat.le_of_ble_eq_true rfl) h dX6_type_14
def TX6_clearQuery (v : gMem) (Q : Int32 → gMem → Prop) (X : String → gMem → Prop) : Prop := (TX4_empty 16 v (fun r4 v4 => (Q r4 v4)) X)
theorem kX6_clearQuery (l : Launch) (hfl : l.stackTraces = false) (L : gL) (hL : gDist L) (v : gMem) (Q : Int32 → gMem → Prop) (X : String → gMem → Prop) (h : TX6_clearQuery v Q X) (sz : Nat) : vx_Met l yX6_clearQuery [.code yX6_clearQuery cX6_clearQuery 1 (some .int)] ({ frames := 1, cells := 0, slots := 0, locals := 21 } : Room) (gPc L sz [.ref (L.2.1 6 0)] v) (gQi L sz Q) (gXC L sz X) 0 0 (gA L sz) := by
  refine g_ofW (by decide +kernel) hfl hL (Nat.le_of_ble_eq_true rfl) ?_
  intro p e s m args below meth c C hr hno
  refine g_sub [(0, .ref (L.2.1 6 0))] [0] rfl ?_
  unfold TX6_clearQuery at h
  refine g_aload_n C 0 rfl 0 rfl dX6_clearQuery_0 ?_
  refine fgX6_49 C dX6_clearQuery_1 ?_
  refine g_callVi C hno (gok_4 (by decide : 16 < 17)) rfl rfl [] (fun sz9 => kX4_empty l C.2.2.2.2.2.2.1 L C.2.2.2.2.2.2.2.1 (by decide : 16 < 17) v _ X h sz9) wml_RX6_110 winst_X4_empty wsel_X4_empty wini_RX4 wcode_X4_empty rfl rfl (n := 0) (by decide +kernel) rfl ⟨(Nat.le_of_ble_eq_true rfl), (Nat.le_of_ble_eq_true rfl)⟩ ⟨(Nat.le_of_ble_eq_true rfl), (Nat.le_of_ble_eq_true rfl)⟩ ⟨(Nat.le_of_ble_eq_true rfl), (Nat.le_of_ble_eq_true rfl)⟩ (Nat.le_of_ble_eq_true rfl) dX6_clearQuery_4 (fun r4 v4 h => ?_)
  exact g_iret C hr rfl (Nat.le_of_ble_eq_true rfl) (Nat.le_of_ble_eq_true rfl) h dX6_clearQuery_7
def BX6_matches_68 (I4 : Int32 → Int32 → gMem → Prop) (L1 : Int32) (L2 : Int32) (L3 : Int32) (v : gMem) (Q : Int32 → gMem → Prop) (X : String → gMem → Prop) : Prop := (I4 L2 (L3 + 1) v)
theorem sX6_matches_68 (C : gC p l s m args meth c cX6_matches 5 RX6 L sz) (hr : meth.sig.returnType = (some .int)) (hno : ∀ x ∈ c.exceptionTable.toList, False) {L1 : Int32} {L2 : Int32} {L3 : Int32} {v : gMem} {Q : Int32 → gMem → Prop} {X : String → gMem → Prop} {I4 : Int32 → Int32 → gMem → Prop} (hI4 : ∀ (L2 : Int32) (L3 : Int32) (v : gMem), I4 L2 L3 v → gS p l e ({ frames := 2, cells := 0, slots := 0, locals := 43 } : Room) s m args below meth c 5 L sz (vx_MQ below (gQi L sz Q) (gXC L sz X) args s 0 0 (gA L sz)) 0 0 4 [(0, .ref (L.2.1 6 0)), (1, .int L1), (2, .int L2), (3, .int L3)] [] v) (h : BX6_matches_68 I4 L1 L2 L3 v Q X) : gS p l e ({ frames := 2, cells := 0, slots := 0, locals := 43 } : Room) s m args below meth c 5 L sz (vx_MQ below (gQi L sz Q) (gXC L sz X) args s 0 0 (gA L sz)) 0 0 68 [(0, .ref (L.2.1 6 0)), (1, .int L1), (2, .int L2), (3, .int L3)] [] v := by
  unfold BX6_matches_68 at h
  refine g_iinc C (k := 3) (L3 + 1) [(3, .int (L3 + 1)), (0, .ref (L.2.1 6 0)), (1, .int L1), (2, .int L2)] rfl rfl (Nat.le_of_ble_eq_true rfl) rfl dX6_matches_68 ?_
  refine g_goto C 4 (by decide) dX6_matches_71 ?_
  refine g_sub [(0, .ref (L.2.1 6 0)), (1, .int L1), (2, .int L2), (3, .int (L3 + 1))] [1, 2, 3, 0] rfl ?_
  exact hI4 _ _ _ h
def BX6_matches_62 (I4 : Int32 → Int32 → gMem → Prop) (L1 : Int32) (L2 : Int32) (L3 : Int32) (v : gMem) (Q : Int32 → gMem → Prop) (X : String → gMem → Prop) : Prop := (BX6_matches_68 I4 L1 (L2 ||| (1 <<< (L3 &&& 31))) L3 v Q X)
theorem sX6_matches_62 (C : gC p l s m args meth c cX6_matches 5 RX6 L sz) (hr : meth.sig.returnType = (some .int)) (hno : ∀ x ∈ c.exceptionTable.toList, False) {L1 : Int32} {L2 : Int32} {L3 : Int32} {v : gMem} {Q : Int32 → gMem → Prop} {X : String → gMem → Prop} {I4 : Int32 → Int32 → gMem → Prop} (hI4 : ∀ (L2 : Int32) (L3 : Int32) (v : gMem), I4 L2 L3 v → gS p l e ({ frames := 2, cells := 0, slots := 0, locals := 43 } : Room) s m args below meth c 5 L sz (vx_MQ below (gQi L sz Q) (gXC L sz X) args s 0 0 (gA L sz)) 0 0 4 [(0, .ref (L.2.1 6 0)), (1, .int L1), (2, .int L2), (3, .int L3)] [] v) (h : BX6_matches_62 I4 L1 L2 L3 v Q X) : gS p l e ({ frames := 2, cells := 0, slots := 0, locals := 43 } : Room) s m args below meth c 5 L sz (vx_MQ below (gQi L sz Q) (gXC L sz X) args s 0 0 (gA L sz)) 0 0 62 [(0, .ref (L.2.1 6 0)), (1, .int L1), (2, .int L2), (3, .int L3)] [] v := by
  unfold BX6_matches_62 at h
  refine g_iload_n C 2 rfl 2 rfl dX6_matches_62 ?_
  refine g_iconst C 1 (by decide) dX6_matches_63 ?_
  refine g_iload_n C 3 rfl 3 rfl dX6_matches_64 ?_
  refine g_ishl C dX6_matches_65 ?_
  refine g_ior C dX6_matches_66 ?_
  refine g_istore_n C 2 rfl [(2, .int (L2 ||| (1 <<< (L3 &&& 31)))), (0, .ref (L.2.1 6 0)), (1, .int L1), (3, .int L3)] (Nat.le_of_ble_eq_true rfl) rfl dX6_matches_67 ?_
  refine g_sub [(0, .ref (L.2.1 6 0)), (1, .int L1), (2, .int (L2 ||| (1 <<< (L3 &&& 31)))), (3, .int L3)] [1, 2, 0, 3] rfl ?_
  exact sX6_matches_68 C hr hno hI4 h
def BX6_matches_4 (I4 : Int32 → Int32 → gMem → Prop) (L1 : Int32) (L2 : Int32) (L3 : Int32) (v : gMem) (Q : Int32 → gMem → Prop) (X : String → gMem → Prop) : Prop := (((v 6 0 3) ≤ L3 → (Q L2 v)) ∧ (¬ (v 6 0 3) ≤ L3 → (vp_in L3 16 ∧ ((L1 = 0 → (((v 4 (Int32.toNatClampNeg L3) 1) ≤ 0 → (BX6_matches_68 I4 L1 L2 L3 v Q X)) ∧ (¬ (v 4 (Int32.toNatClampNeg L3) 1) ≤ 0 → (TX4_beginsWith (Int32.toNatClampNeg L3) 16 v (fun r56 v56 => ((r56 = 0 → (BX6_matches_68 I4 L1 L2 L3 v56 Q X)) ∧ (¬ r56 = 0 → (BX6_matches_62 I4 L1 L2 L3 v56 Q X)))) X)))) ∧ (¬ L1 = 0 → (TX4_soundsLike (Int32.toNatClampNeg L3) 16 v (fun r33 v33 => ((r33 = 0 → (BX6_matches_68 I4 L1 L2 L3 v33 Q X)) ∧ (¬ r33 = 0 → (BX6_matches_62 I4 L1 L2 L3 v33 Q X)))) X))))))
theorem sX6_matches_4 (C : gC p l s m args meth c cX6_matches 5 RX6 L sz) (hr : meth.sig.returnType = (some .int)) (hno : ∀ x ∈ c.exceptionTable.toList, False) {L1 : Int32} {L2 : Int32} {L3 : Int32} {v : gMem} {Q : Int32 → gMem → Prop} {X : String → gMem → Prop} {I4 : Int32 → Int32 → gMem → Prop} (hI4 : ∀ (L2 : Int32) (L3 : Int32) (v : gMem), I4 L2 L3 v → gS p l e ({ frames := 2, cells := 0, slots := 0, locals := 43 } : Room) s m args below meth c 5 L sz (vx_MQ below (gQi L sz Q) (gXC L sz X) args s 0 0 (gA L sz)) 0 0 4 [(0, .ref (L.2.1 6 0)), (1, .int L1), (2, .int L2), (3, .int L3)] [] v) (h : BX6_matches_4 I4 L1 L2 L3 v Q X) : gS p l e ({ frames := 2, cells := 0, slots := 0, locals := 43 } : Room) s m args below meth c 5 L sz (vx_MQ below (gQi L sz Q) (gXC L sz X) args s 0 0 (gA L sz)) 0 0 4 [(0, .ref (L.2.1 6 0)), (1, .int L1), (2, .int L2), (3, .int L3)] [] v := by
  unfold BX6_matches_4 at h
  refine g_iload_n C 3 rfl 3 rfl dX6_matches_4 ?_
  refine g_aload_n C 0 rfl 0 rfl dX6_matches_5 ?_
  refine fgX6_88 C dX6_matches_6 ?_
  refine g_icmp_ge C 74 (by decide) dX6_matches_9 (fun hc => ?_) (fun hc => ?_)
  · replace h := h.1 hc
    refine g_iload_n C 2 rfl 2 rfl dX6_matches_74 ?_
    exact g_iret C hr rfl (Nat.le_of_ble_eq_true rfl) (Nat.le_of_ble_eq_true rfl) h dX6_matches_75
  · replace h := h.2 hc
    refine g_aload_n C 0 rfl 0 rfl dX6_matches_12 ?_
    refine fgX6_15 C dX6_matches_13 ?_
    refine g_iload_n C 3 rfl 3 rfl dX6_matches_16 ?_
    obtain ⟨hb17, h⟩ := h
    refine g_book C hb17 dX6_matches_17 ?_
    refine fgX6_103 C (gok_2 (vp_lt hb17)) dX6_matches_18 ?_
    refine g_astore C [(4, .ref (L.2.1 4 (Int32.toNatClampNeg L3))), (0, .ref (L.2.1 6 0)), (1, .int L1), (2, .int L2), (3, .int L3)] (Nat.le_of_ble_eq_true rfl) rfl dX6_matches_21 ?_
    refine g_iload_n C 1 rfl 2 rfl dX6_matches_23 ?_
    refine g_if_eq C 42 (by decide) dX6_matches_24 (fun hc => ?_) (fun hc => ?_)
    · replace h := h.1 hc
      refine g_aload C 0 rfl dX6_matches_42 ?_
      refine fgX6_125 C (gok_4 (Nat.lt_of_lt_of_le (vp_lt hb17) (by decide))) dX6_matches_44 ?_
      refine g_if_le C 68 (by decide) dX6_matches_47 (fun hc => ?_) (fun hc => ?_)
      · replace h := h.1 hc
        refine g_sub [(0, .ref (L.2.1 6 0)), (1, .int L1), (2, .int L2), (3, .int L3)] [1, 2, 3, 4] rfl ?_
        exact sX6_matches_68 C hr hno hI4 h
      · replace h := h.2 hc
        refine g_aload C 0 rfl dX6_matches_50 ?_
        refine g_aload_n C 0 rfl 1 rfl dX6_matches_52 ?_
        refine fgX6_49 C dX6_matches_53 ?_
        refine g_callVi C hno (gok_4 (Nat.lt_of_lt_of_le (vp_lt hb17) (by decide))) rfl rfl [.ref (L.2.1 4 16)] (fun sz9 => kX4_beginsWith l C.2.2.2.2.2.2.1 L C.2.2.2.2.2.2.2.1 (Nat.lt_of_lt_of_le (vp_lt hb17) (by decide)) (by decide : 16 < 17) v _ X h sz9) wml_RX6_389 winst_X4_beginsWith wsel_X4_beginsWith wini_RX4 wcode_X4_beginsWith rfl rfl (n := 1) (by decide +kernel) rfl ⟨(Nat.le_of_ble_eq_true rfl), (Nat.le_of_ble_eq_true rfl)⟩ ⟨(Nat.le_of_ble_eq_true rfl), (Nat.le_of_ble_eq_true rfl)⟩ ⟨(Nat.le_of_ble_eq_true rfl), (Nat.le_of_ble_eq_true rfl)⟩ (Nat.le_of_ble_eq_true rfl) dX6_matches_56 (fun r56 v56 h => ?_)
        refine g_if_eq C 68 (by decide) dX6_matches_59 (fun hc => ?_) (fun hc => ?_)
        · replace h := h.1 hc
          refine g_sub [(0, .ref (L.2.1 6 0)), (1, .int L1), (2, .int L2), (3, .int L3)] [1, 2, 3, 4] rfl ?_
          exact sX6_matches_68 C hr hno hI4 h
        · replace h := h.2 hc
          refine g_sub [(0, .ref (L.2.1 6 0)), (1, .int L1), (2, .int L2), (3, .int L3)] [1, 2, 3, 4] rfl ?_
          exact sX6_matches_62 C hr hno hI4 h
    · replace h := h.2 hc
      refine g_aload C 0 rfl dX6_matches_27 ?_
      refine g_aload_n C 0 rfl 1 rfl dX6_matches_29 ?_
      refine fgX6_49 C dX6_matches_30 ?_
      refine g_callVi C hno (gok_4 (Nat.lt_of_lt_of_le (vp_lt hb17) (by decide))) rfl rfl [.ref (L.2.1 4 16)] (fun sz9 => kX4_soundsLike l C.2.2.2.2.2.2.1 L C.2.2.2.2.2.2.2.1 (Nat.lt_of_lt_of_le (vp_lt hb17) (by decide)) (by decide : 16 < 17) v _ X h sz9) wml_RX6_352 winst_X4_soundsLike wsel_X4_soundsLike wini_RX4 wcode_X4_soundsLike rfl rfl (n := 1) (by decide +kernel) rfl ⟨(Nat.le_of_ble_eq_true rfl), (Nat.le_of_ble_eq_true rfl)⟩ ⟨(Nat.le_of_ble_eq_true rfl), (Nat.le_of_ble_eq_true rfl)⟩ ⟨(Nat.le_of_ble_eq_true rfl), (Nat.le_of_ble_eq_true rfl)⟩ (Nat.le_of_ble_eq_true rfl) dX6_matches_33 (fun r33 v33 h => ?_)
      refine g_if_eq C 68 (by decide) dX6_matches_36 (fun hc => ?_) (fun hc => ?_)
      · replace h := h.1 hc
        refine g_sub [(0, .ref (L.2.1 6 0)), (1, .int L1), (2, .int L2), (3, .int L3)] [1, 2, 3, 4] rfl ?_
        exact sX6_matches_68 C hr hno hI4 h
      · replace h := h.2 hc
        refine g_goto C 62 (by decide) dX6_matches_39 ?_
        refine g_sub [(0, .ref (L.2.1 6 0)), (1, .int L1), (2, .int L2), (3, .int L3)] [1, 2, 3, 4] rfl ?_
        exact sX6_matches_62 C hr hno hI4 h
def LX6_matches_4 (L1 : Int32) (L2 : Int32) (L3 : Int32) (v : gMem) (Q : Int32 → gMem → Prop) (X : String → gMem → Prop) : Prop := ∀ I4 : Int32 → Int32 → gMem → Prop, (∀ (L2 : Int32) (L3 : Int32) (v : gMem), BX6_matches_4 I4 L1 L2 L3 v Q X → I4 L2 L3 v) → I4 L2 L3 v
theorem slX6_matches_4 (C : gC p l s m args meth c cX6_matches 5 RX6 L sz) (hr : meth.sig.returnType = (some .int)) (hno : ∀ x ∈ c.exceptionTable.toList, False) {L1 : Int32} {L2 : Int32} {L3 : Int32} {v : gMem} {Q : Int32 → gMem → Prop} {X : String → gMem → Prop} (h : LX6_matches_4 L1 L2 L3 v Q X) : gS p l e ({ frames := 2, cells := 0, slots := 0, locals := 43 } : Room) s m args below meth c 5 L sz (vx_MQ below (gQi L sz Q) (gXC L sz X) args s 0 0 (gA L sz)) 0 0 4 [(0, .ref (L.2.1 6 0)), (1, .int L1), (2, .int L2), (3, .int L3)] [] v := by
  refine h (fun L2 L3 v => gS p l e ({ frames := 2, cells := 0, slots := 0, locals := 43 } : Room) s m args below meth c 5 L sz (vx_MQ below (gQi L sz Q) (gXC L sz X) args s 0 0 (gA L sz)) 0 0 4 [(0, .ref (L.2.1 6 0)), (1, .int L1), (2, .int L2), (3, .int L3)] [] v) (fun L2 L3 v hb => ?_)
  exact sX6_matches_4 C hr hno (fun _ _ _ hs => hs) hb
def TX6_matches (L1 : Int32) (v : gMem) (Q : Int32 → gMem → Prop) (X : String → gMem → Prop) : Prop := (LX6_matches_4 L1 0 0 v Q X)
theorem kX6_matches (l : Launch) (hfl : l.stackTraces = false) (L : gL) (hL : gDist L) (L1 : Int32) (v : gMem) (Q : Int32 → gMem → Prop) (X : String → gMem → Prop) (h : TX6_matches L1 v Q X) (sz : Nat) : vx_Met l yX6_matches [.code yX6_matches cX6_matches 5 (some .int)] ({ frames := 2, cells := 0, slots := 0, locals := 43 } : Room) (gPc L sz [.ref (L.2.1 6 0), .int L1] v) (gQi L sz Q) (gXC L sz X) 0 0 (gA L sz) := by
  refine g_ofW (by decide +kernel) hfl hL (Nat.le_of_ble_eq_true rfl) ?_
  intro p e s m args below meth c C hr hno
  refine g_sub [(0, .ref (L.2.1 6 0)), (1, .int L1)] [0, 1] rfl ?_
  unfold TX6_matches at h
  refine g_iconst C 0 (by decide) dX6_matches_0 ?_
  refine g_istore_n C 2 rfl [(2, .int 0), (0, .ref (L.2.1 6 0)), (1, .int L1)] (Nat.le_of_ble_eq_true rfl) rfl dX6_matches_1 ?_
  refine g_iconst C 0 (by decide) dX6_matches_2 ?_
  refine g_istore_n C 3 rfl [(3, .int 0), (2, .int 0), (0, .ref (L.2.1 6 0)), (1, .int L1)] (Nat.le_of_ble_eq_true rfl) rfl dX6_matches_3 ?_
  refine g_sub [(0, .ref (L.2.1 6 0)), (1, .int L1), (2, .int 0), (3, .int 0)] [2, 3, 1, 0] rfl ?_
  exact slX6_matches_4 C hr hno h
def TX6_found (L1 : Int32) (v : gMem) (Q : Int32 → gMem → Prop) (X : String → gMem → Prop) : Prop := (TX6_matches L1 v (fun r3 v3 => (TX6_personsWith r3 v3 (fun r6 v6 => (TJ6_bitCount_0f7a4 r6 v6 (fun r9 v9 => (Q r9 v9)) X)) X)) X)
theorem kX6_found (l : Launch) (hfl : l.stackTraces = false) (L : gL) (hL : gDist L) (L1 : Int32) (v : gMem) (Q : Int32 → gMem → Prop) (X : String → gMem → Prop) (h : TX6_found L1 v Q X) (sz : Nat) : vx_Met l yX6_found [.code yX6_found cX6_found 2 (some .int)] ({ frames := 4, cells := 0, slots := 0, locals := 93 } : Room) (gPc L sz [.ref (L.2.1 6 0), .int L1] v) (gQi L sz Q) (gXC L sz X) 0 0 (gA L sz) := by
  refine g_ofW (by decide +kernel) hfl hL (Nat.le_of_ble_eq_true rfl) ?_
  intro p e s m args below meth c C hr hno
  refine g_sub [(0, .ref (L.2.1 6 0)), (1, .int L1)] [0, 1] rfl ?_
  unfold TX6_found at h
  refine g_aload_n C 0 rfl 0 rfl dX6_found_0 ?_
  refine g_aload_n C 0 rfl 0 rfl dX6_found_1 ?_
  refine g_iload_n C 1 rfl 1 rfl dX6_found_2 ?_
  refine g_callVi C hno gok_6 rfl rfl [.int L1] (fun sz9 => kX6_matches l C.2.2.2.2.2.2.1 L C.2.2.2.2.2.2.2.1 L1 v _ X h sz9) wml_RX6_294 winst_X6_matches wsel_X6_matches wini_RX6 wcode_X6_matches rfl rfl (n := 1) (by decide +kernel) rfl ⟨(Nat.le_of_ble_eq_true rfl), (Nat.le_of_ble_eq_true rfl)⟩ ⟨(Nat.le_of_ble_eq_true rfl), (Nat.le_of_ble_eq_true rfl)⟩ ⟨(Nat.le_of_ble_eq_true rfl), (Nat.le_of_ble_eq_true rfl)⟩ (Nat.le_of_ble_eq_true rfl) dX6_found_3 (fun r3 v3 h => ?_)
  refine g_callVi C hno gok_6 rfl rfl [.int r3] (fun sz9 => kX6_personsWith l C.2.2.2.2.2.2.1 L C.2.2.2.2.2.2.2.1 r3 v3 _ X h sz9) wml_RX6_257 winst_X6_personsWith wsel_X6_personsWith wini_RX6 wcode_X6_personsWith rfl rfl (n := 1) (by decide +kernel) rfl ⟨(Nat.le_of_ble_eq_true rfl), (Nat.le_of_ble_eq_true rfl)⟩ ⟨(Nat.le_of_ble_eq_true rfl), (Nat.le_of_ble_eq_true rfl)⟩ ⟨(Nat.le_of_ble_eq_true rfl), (Nat.le_of_ble_eq_true rfl)⟩ (Nat.le_of_ble_eq_true rfl) dX6_found_6 (fun r6 v6 h => ?_)
  refine g_callSi C hno [.int r6] (fun sz9 => kJ6_bitCount_0f7a4 l C.2.2.2.2.2.2.1 L C.2.2.2.2.2.2.2.1 r6 v6 _ X h sz9) wml_RX6_260 wstat_J6_bitCount_0f7a4 wini_RJ6 wcode_J6_bitCount_0f7a4 rfl rfl (n := 1) (by decide +kernel) rfl ⟨(Nat.le_of_ble_eq_true rfl), (Nat.le_of_ble_eq_true rfl)⟩ ⟨(Nat.le_of_ble_eq_true rfl), (Nat.le_of_ble_eq_true rfl)⟩ ⟨(Nat.le_of_ble_eq_true rfl), (Nat.le_of_ble_eq_true rfl)⟩ (Nat.le_of_ble_eq_true rfl) dX6_found_9 (fun r9 v9 h => ?_)
  exact g_iret C hr rfl (Nat.le_of_ble_eq_true rfl) (Nat.le_of_ble_eq_true rfl) h dX6_found_12
def BX6_foundAt_22 (v : gMem) (Q : Int32 → gMem → Prop) (X : String → gMem → Prop) : Prop := (X "java/util/NoSuchElementException" v)
theorem sX6_foundAt_22 (C : gC p l s m args meth c cX6_foundAt 5 RX6 L sz) (hr : meth.sig.returnType = (some .int)) (hno : ∀ x ∈ c.exceptionTable.toList, False) {v : gMem} {Q : Int32 → gMem → Prop} {X : String → gMem → Prop} (h : BX6_foundAt_22 v Q X) : gS p l e ({ frames := 6, cells := 1, slots := 6, locals := 93 } : Room) s m args below meth c 5 L sz (vx_MQ below (gQi L sz Q) (gXC L sz X) args s 1 6 (gA L sz)) 0 0 22 [] [] v := by
  unfold BX6_foundAt_22 at h
  exact g_throwNW C hno (text := "no such rank") (is := 298) rfl (by decide) wcl_RX6_128 wini_java_util_NoSuchElementException (List.mem_of_getElem? (i := 30) rfl) wat_RX6_132 dX6_foundAt_22 dX6_foundAt_25 dX6_foundAt_26 dX6_foundAt_29 dX6_foundAt_32 (Nat.le_of_ble_eq_true rfl) (Nat.le_of_ble_eq_true rfl) ⟨(Nat.le_of_ble_eq_true rfl), (Nat.le_of_ble_eq_true rfl)⟩ (Nat.le_of_ble_eq_true rfl) (Nat.le_of_ble_eq_true rfl) h
def BX6_foundAt_36 (I36 : Int32 → Int32 → gMem → Prop) (L2 : Int32) (L3 : Int32) (L4 : Int32) (v : gMem) (Q : Int32 → gMem → Prop) (X : String → gMem → Prop) : Prop := ((L2 ≤ L4 → (TX6_lowestOf L3 v (fun r55 v55 => (Q r55 v55)) X)) ∧ (¬ L2 ≤ L4 → (I36 (L3 &&& (L3 - 1)) (L4 + 1) v)))
theorem sX6_foundAt_36 (C : gC p l s m args meth c cX6_foundAt 5 RX6 L sz) (hr : meth.sig.returnType = (some .int)) (hno : ∀ x ∈ c.exceptionTable.toList, False) {L2 : Int32} {L3 : Int32} {L4 : Int32} {v : gMem} {Q : Int32 → gMem → Prop} {X : String → gMem → Prop} {I36 : Int32 → Int32 → gMem → Prop} (hI36 : ∀ (L3 : Int32) (L4 : Int32) (v : gMem), I36 L3 L4 v → gS p l e ({ frames := 6, cells := 1, slots := 6, locals := 93 } : Room) s m args below meth c 5 L sz (vx_MQ below (gQi L sz Q) (gXC L sz X) args s 1 6 (gA L sz)) 0 0 36 [(2, .int L2), (3, .int L3), (4, .int L4)] [] v) (h : BX6_foundAt_36 I36 L2 L3 L4 v Q X) : gS p l e ({ frames := 6, cells := 1, slots := 6, locals := 93 } : Room) s m args below meth c 5 L sz (vx_MQ below (gQi L sz Q) (gXC L sz X) args s 1 6 (gA L sz)) 0 0 36 [(2, .int L2), (3, .int L3), (4, .int L4)] [] v := by
  unfold BX6_foundAt_36 at h
  refine g_iload C 2 rfl dX6_foundAt_36 ?_
  refine g_iload_n C 2 rfl 0 rfl dX6_foundAt_38 ?_
  refine g_icmp_ge C 54 (by decide) dX6_foundAt_39 (fun hc => ?_) (fun hc => ?_)
  · replace h := h.1 hc
    refine g_iload_n C 3 rfl 1 rfl dX6_foundAt_54 ?_
    refine g_callSi C hno [.int L3] (fun sz9 => kX6_lowestOf l C.2.2.2.2.2.2.1 L C.2.2.2.2.2.2.2.1 L3 v _ X h sz9) wml_RX6_219 wstat_X6_lowestOf wini_RX6 wcode_X6_lowestOf rfl rfl (n := 1) (by decide +kernel) rfl ⟨(Nat.le_of_ble_eq_true rfl), (Nat.le_of_ble_eq_true rfl)⟩ ⟨(Nat.le_of_ble_eq_true rfl), (Nat.le_of_ble_eq_true rfl)⟩ ⟨(Nat.le_of_ble_eq_true rfl), (Nat.le_of_ble_eq_true rfl)⟩ (Nat.le_of_ble_eq_true rfl) dX6_foundAt_55 (fun r55 v55 h => ?_)
    exact g_iret C hr rfl (Nat.le_of_ble_eq_true rfl) (Nat.le_of_ble_eq_true rfl) h dX6_foundAt_58
  · replace h := h.2 hc
    refine g_iload_n C 3 rfl 1 rfl dX6_foundAt_42 ?_
    refine g_iload_n C 3 rfl 1 rfl dX6_foundAt_43 ?_
    refine g_iconst C 1 (by decide) dX6_foundAt_44 ?_
    refine g_isub C dX6_foundAt_45 ?_
    refine g_iand C dX6_foundAt_46 ?_
    refine g_istore_n C 3 rfl [(3, .int (L3 &&& (L3 - 1))), (2, .int L2), (4, .int L4)] (Nat.le_of_ble_eq_true rfl) rfl dX6_foundAt_47 ?_
    refine g_iinc C (k := 2) (L4 + 1) [(4, .int (L4 + 1)), (3, .int (L3 &&& (L3 - 1))), (2, .int L2)] rfl rfl (Nat.le_of_ble_eq_true rfl) rfl dX6_foundAt_48 ?_
    refine g_goto C 36 (by decide) dX6_foundAt_51 ?_
    refine g_sub [(2, .int L2), (3, .int (L3 &&& (L3 - 1))), (4, .int (L4 + 1))] [2, 1, 0] rfl ?_
    exact hI36 _ _ _ h
def LX6_foundAt_36 (L2 : Int32) (L3 : Int32) (L4 : Int32) (v : gMem) (Q : Int32 → gMem → Prop) (X : String → gMem → Prop) : Prop := ∀ I36 : Int32 → Int32 → gMem → Prop, (∀ (L3 : Int32) (L4 : Int32) (v : gMem), BX6_foundAt_36 I36 L2 L3 L4 v Q X → I36 L3 L4 v) → I36 L3 L4 v
theorem slX6_foundAt_36 (C : gC p l s m args meth c cX6_foundAt 5 RX6 L sz) (hr : meth.sig.returnType = (some .int)) (hno : ∀ x ∈ c.exceptionTable.toList, False) {L2 : Int32} {L3 : Int32} {L4 : Int32} {v : gMem} {Q : Int32 → gMem → Prop} {X : String → gMem → Prop} (h : LX6_foundAt_36 L2 L3 L4 v Q X) : gS p l e ({ frames := 6, cells := 1, slots := 6, locals := 93 } : Room) s m args below meth c 5 L sz (vx_MQ below (gQi L sz Q) (gXC L sz X) args s 1 6 (gA L sz)) 0 0 36 [(2, .int L2), (3, .int L3), (4, .int L4)] [] v := by
  refine h (fun L3 L4 v => gS p l e ({ frames := 6, cells := 1, slots := 6, locals := 93 } : Room) s m args below meth c 5 L sz (vx_MQ below (gQi L sz Q) (gXC L sz X) args s 1 6 (gA L sz)) 0 0 36 [(2, .int L2), (3, .int L3), (4, .int L4)] [] v) (fun L3 L4 v hb => ?_)
  exact sX6_foundAt_36 C hr hno (fun _ _ _ hs => hs) hb
def TX6_foundAt (L1 : Int32) (L2 : Int32) (v : gMem) (Q : Int32 → gMem → Prop) (X : String → gMem → Prop) : Prop := (TX6_matches L1 v (fun r3 v3 => (TX6_personsWith r3 v3 (fun r6 v6 => ((L2 < 0 → (BX6_foundAt_22 v6 Q X)) ∧ (¬ L2 < 0 → (TJ6_bitCount_0f7a4 r6 v6 (fun r16 v16 => ((L2 < r16 → (LX6_foundAt_36 L2 r6 0 v16 Q X)) ∧ (¬ L2 < r16 → (BX6_foundAt_22 v16 Q X)))) X)))) X)) X)
theorem kX6_foundAt (l : Launch) (hfl : l.stackTraces = false) (L : gL) (hL : gDist L) (L1 : Int32) (L2 : Int32) (v : gMem) (Q : Int32 → gMem → Prop) (X : String → gMem → Prop) (h : TX6_foundAt L1 L2 v Q X) (sz : Nat) : vx_Met l yX6_foundAt [.code yX6_foundAt cX6_foundAt 5 (some .int)] ({ frames := 6, cells := 1, slots := 6, locals := 93 } : Room) (gPc L sz [.ref (L.2.1 6 0), .int L1, .int L2] v) (gQi L sz Q) (gXC L sz X) 1 6 (gA L sz) := by
  refine g_ofW (by decide +kernel) hfl hL (Nat.le_of_ble_eq_true rfl) ?_
  intro p e s m args below meth c C hr hno
  refine g_sub [(0, .ref (L.2.1 6 0)), (1, .int L1), (2, .int L2)] [0, 1, 2] rfl ?_
  unfold TX6_foundAt at h
  refine g_aload_n C 0 rfl 0 rfl dX6_foundAt_0 ?_
  refine g_aload_n C 0 rfl 0 rfl dX6_foundAt_1 ?_
  refine g_iload_n C 1 rfl 1 rfl dX6_foundAt_2 ?_
  refine g_callVi C hno gok_6 rfl rfl [.int L1] (fun sz9 => kX6_matches l C.2.2.2.2.2.2.1 L C.2.2.2.2.2.2.2.1 L1 v _ X h sz9) wml_RX6_294 winst_X6_matches wsel_X6_matches wini_RX6 wcode_X6_matches rfl rfl (n := 1) (by decide +kernel) rfl ⟨(Nat.le_of_ble_eq_true rfl), (Nat.le_of_ble_eq_true rfl)⟩ ⟨(Nat.le_of_ble_eq_true rfl), (Nat.le_of_ble_eq_true rfl)⟩ ⟨(Nat.le_of_ble_eq_true rfl), (Nat.le_of_ble_eq_true rfl)⟩ (Nat.le_of_ble_eq_true rfl) dX6_foundAt_3 (fun r3 v3 h => ?_)
  refine g_callVi C hno gok_6 rfl rfl [.int r3] (fun sz9 => kX6_personsWith l C.2.2.2.2.2.2.1 L C.2.2.2.2.2.2.2.1 r3 v3 _ X h sz9) wml_RX6_257 winst_X6_personsWith wsel_X6_personsWith wini_RX6 wcode_X6_personsWith rfl rfl (n := 1) (by decide +kernel) rfl ⟨(Nat.le_of_ble_eq_true rfl), (Nat.le_of_ble_eq_true rfl)⟩ ⟨(Nat.le_of_ble_eq_true rfl), (Nat.le_of_ble_eq_true rfl)⟩ ⟨(Nat.le_of_ble_eq_true rfl), (Nat.le_of_ble_eq_true rfl)⟩ (Nat.le_of_ble_eq_true rfl) dX6_foundAt_6 (fun r6 v6 h => ?_)
  refine g_istore_n C 3 rfl [(3, .int r6), (0, .ref (L.2.1 6 0)), (1, .int L1), (2, .int L2)] (Nat.le_of_ble_eq_true rfl) rfl dX6_foundAt_9 ?_
  refine g_iload_n C 2 rfl 3 rfl dX6_foundAt_10 ?_
  refine g_if_lt C 22 (by decide) dX6_foundAt_11 (fun hc => ?_) (fun hc => ?_)
  · replace h := h.1 hc
    refine g_sub [] [] rfl ?_
    exact sX6_foundAt_22 C hr hno h
  · replace h := h.2 hc
    refine g_iload_n C 2 rfl 3 rfl dX6_foundAt_14 ?_
    refine g_iload_n C 3 rfl 0 rfl dX6_foundAt_15 ?_
    refine g_callSi C hno [.int r6] (fun sz9 => kJ6_bitCount_0f7a4 l C.2.2.2.2.2.2.1 L C.2.2.2.2.2.2.2.1 r6 v6 _ X h sz9) wml_RX6_260 wstat_J6_bitCount_0f7a4 wini_RJ6 wcode_J6_bitCount_0f7a4 rfl rfl (n := 1) (by decide +kernel) rfl ⟨(Nat.le_of_ble_eq_true rfl), (Nat.le_of_ble_eq_true rfl)⟩ ⟨(Nat.le_of_ble_eq_true rfl), (Nat.le_of_ble_eq_true rfl)⟩ ⟨(Nat.le_of_ble_eq_true rfl), (Nat.le_of_ble_eq_true rfl)⟩ (Nat.le_of_ble_eq_true rfl) dX6_foundAt_16 (fun r16 v16 h => ?_)
    refine g_icmp_lt C 33 (by decide) dX6_foundAt_19 (fun hc => ?_) (fun hc => ?_)
    · replace h := h.1 hc
      refine g_iconst C 0 (by decide) dX6_foundAt_33 ?_
      refine g_istore C [(4, .int 0), (3, .int r6), (0, .ref (L.2.1 6 0)), (1, .int L1), (2, .int L2)] (Nat.le_of_ble_eq_true rfl) rfl dX6_foundAt_34 ?_
      refine g_sub [(2, .int L2), (3, .int r6), (4, .int 0)] [4, 1, 0] rfl ?_
      exact slX6_foundAt_36 C hr hno h
    · replace h := h.2 hc
      refine g_sub [] [] rfl ?_
      exact sX6_foundAt_22 C hr hno h
def BX6_mergedShare_48 (I22 : Int32 → Int32 → gMem → Prop) (L1 : Int32) (L2 : Int32) (v : gMem) (Q : UInt32 → gMem → Prop) (X : String → gMem → Prop) : Prop := (I22 L1 (L2 + 1) v)
theorem sX6_mergedShare_48 (C : gC p l s m args meth c cX6_mergedShare 3 RX6 L sz) (hr : meth.sig.returnType = (some .float)) (hno : ∀ x ∈ c.exceptionTable.toList, False) {L1 : Int32} {L2 : Int32} {v : gMem} {Q : UInt32 → gMem → Prop} {X : String → gMem → Prop} {I22 : Int32 → Int32 → gMem → Prop} (hI22 : ∀ (L1 : Int32) (L2 : Int32) (v : gMem), I22 L1 L2 v → gS p l e ({ frames := 6, cells := 1, slots := 6, locals := 82 } : Room) s m args below meth c 3 L sz (vx_MQ below (gQf L sz Q) (gXC L sz X) args s 1 6 (gA L sz)) 0 0 22 [(0, .ref (L.2.1 6 0)), (1, .int L1), (2, .int L2)] [] v) (h : BX6_mergedShare_48 I22 L1 L2 v Q X) : gS p l e ({ frames := 6, cells := 1, slots := 6, locals := 82 } : Room) s m args below meth c 3 L sz (vx_MQ below (gQf L sz Q) (gXC L sz X) args s 1 6 (gA L sz)) 0 0 48 [(0, .ref (L.2.1 6 0)), (1, .int L1), (2, .int L2)] [] v := by
  unfold BX6_mergedShare_48 at h
  refine g_iinc C (k := 2) (L2 + 1) [(2, .int (L2 + 1)), (0, .ref (L.2.1 6 0)), (1, .int L1)] rfl rfl (Nat.le_of_ble_eq_true rfl) rfl dX6_mergedShare_48 ?_
  refine g_goto C 22 (by decide) dX6_mergedShare_51 ?_
  refine g_sub [(0, .ref (L.2.1 6 0)), (1, .int L1), (2, .int (L2 + 1))] [1, 2, 0] rfl ?_
  exact hI22 _ _ _ h
def BX6_mergedShare_22 (I22 : Int32 → Int32 → gMem → Prop) (L1 : Int32) (L2 : Int32) (v : gMem) (Q : UInt32 → gMem → Prop) (X : String → gMem → Prop) : Prop := (((v 6 0 3) ≤ L2 → (vf_n32 (FP.fdiv (FP.i2f L1) (FP.i2f (v 6 0 3))) ∧ (Q (FP.fdiv (FP.i2f L1) (FP.i2f (v 6 0 3))) v))) ∧ (¬ (v 6 0 3) ≤ L2 → (TX3_joinedWith L2 v (fun r35 v35 => (TJ6_bitCount_0f7a4 r35 v35 (fun r38 v38 => ((r38 ≤ 1 → (BX6_mergedShare_48 I22 L1 L2 v38 Q X)) ∧ (¬ r38 ≤ 1 → (BX6_mergedShare_48 I22 (L1 + 1) L2 v38 Q X)))) X)) X)))
theorem sX6_mergedShare_22 (C : gC p l s m args meth c cX6_mergedShare 3 RX6 L sz) (hr : meth.sig.returnType = (some .float)) (hno : ∀ x ∈ c.exceptionTable.toList, False) {L1 : Int32} {L2 : Int32} {v : gMem} {Q : UInt32 → gMem → Prop} {X : String → gMem → Prop} {I22 : Int32 → Int32 → gMem → Prop} (hI22 : ∀ (L1 : Int32) (L2 : Int32) (v : gMem), I22 L1 L2 v → gS p l e ({ frames := 6, cells := 1, slots := 6, locals := 82 } : Room) s m args below meth c 3 L sz (vx_MQ below (gQf L sz Q) (gXC L sz X) args s 1 6 (gA L sz)) 0 0 22 [(0, .ref (L.2.1 6 0)), (1, .int L1), (2, .int L2)] [] v) (h : BX6_mergedShare_22 I22 L1 L2 v Q X) : gS p l e ({ frames := 6, cells := 1, slots := 6, locals := 82 } : Room) s m args below meth c 3 L sz (vx_MQ below (gQf L sz Q) (gXC L sz X) args s 1 6 (gA L sz)) 0 0 22 [(0, .ref (L.2.1 6 0)), (1, .int L1), (2, .int L2)] [] v := by
  unfold BX6_mergedShare_22 at h
  refine g_iload_n C 2 rfl 2 rfl dX6_mergedShare_22 ?_
  refine g_aload_n C 0 rfl 0 rfl dX6_mergedShare_23 ?_
  refine fgX6_88 C dX6_mergedShare_24 ?_
  refine g_icmp_ge C 54 (by decide) dX6_mergedShare_27 (fun hc => ?_) (fun hc => ?_)
  · replace h := h.1 hc
    refine g_iload_n C 1 rfl 1 rfl dX6_mergedShare_54 ?_
    refine g_i2f C dX6_mergedShare_55 ?_
    refine g_aload_n C 0 rfl 0 rfl dX6_mergedShare_56 ?_
    refine fgX6_88 C dX6_mergedShare_57 ?_
    refine g_i2f C dX6_mergedShare_60 ?_
    obtain ⟨hb61, h⟩ := h
    refine g_fdiv C hb61 dX6_mergedShare_61 ?_
    exact g_fret C hr (Nat.le_of_ble_eq_true rfl) (Nat.le_of_ble_eq_true rfl) h dX6_mergedShare_62
  · replace h := h.2 hc
    refine g_aload_n C 0 rfl 0 rfl dX6_mergedShare_30 ?_
    refine fgX6_39 C dX6_mergedShare_31 ?_
    refine g_iload_n C 2 rfl 2 rfl dX6_mergedShare_34 ?_
    refine g_callVi C hno gok_3 rfl rfl [.int L2] (fun sz9 => kX3_joinedWith l C.2.2.2.2.2.2.1 L C.2.2.2.2.2.2.2.1 L2 v _ X h sz9) wml_RX6_226 winst_X3_joinedWith wsel_X3_joinedWith wini_RX3 wcode_X3_joinedWith rfl rfl (n := 1) (by decide +kernel) rfl ⟨(Nat.le_of_ble_eq_true rfl), (Nat.le_of_ble_eq_true rfl)⟩ ⟨(Nat.le_of_ble_eq_true rfl), (Nat.le_of_ble_eq_true rfl)⟩ ⟨(Nat.le_of_ble_eq_true rfl), (Nat.le_of_ble_eq_true rfl)⟩ (Nat.le_of_ble_eq_true rfl) dX6_mergedShare_35 (fun r35 v35 h => ?_)
    refine g_callSi C hno [.int r35] (fun sz9 => kJ6_bitCount_0f7a4 l C.2.2.2.2.2.2.1 L C.2.2.2.2.2.2.2.1 r35 v35 _ X h sz9) wml_RX6_260 wstat_J6_bitCount_0f7a4 wini_RJ6 wcode_J6_bitCount_0f7a4 rfl rfl (n := 1) (by decide +kernel) rfl ⟨(Nat.le_of_ble_eq_true rfl), (Nat.le_of_ble_eq_true rfl)⟩ ⟨(Nat.le_of_ble_eq_true rfl), (Nat.le_of_ble_eq_true rfl)⟩ ⟨(Nat.le_of_ble_eq_true rfl), (Nat.le_of_ble_eq_true rfl)⟩ (Nat.le_of_ble_eq_true rfl) dX6_mergedShare_38 (fun r38 v38 h => ?_)
    refine g_iconst C 1 (by decide) dX6_mergedShare_41 ?_
    refine g_icmp_le C 48 (by decide) dX6_mergedShare_42 (fun hc => ?_) (fun hc => ?_)
    · replace h := h.1 hc
      exact sX6_mergedShare_48 C hr hno hI22 h
    · replace h := h.2 hc
      refine g_iinc C (k := 1) (L1 + 1) [(1, .int (L1 + 1)), (0, .ref (L.2.1 6 0)), (2, .int L2)] rfl rfl (Nat.le_of_ble_eq_true rfl) rfl dX6_mergedShare_45 ?_
      refine g_sub [(0, .ref (L.2.1 6 0)), (1, .int (L1 + 1)), (2, .int L2)] [1, 0, 2] rfl ?_
      exact sX6_mergedShare_48 C hr hno hI22 h
def LX6_mergedShare_22 (L1 : Int32) (L2 : Int32) (v : gMem) (Q : UInt32 → gMem → Prop) (X : String → gMem → Prop) : Prop := ∀ I22 : Int32 → Int32 → gMem → Prop, (∀ (L1 : Int32) (L2 : Int32) (v : gMem), BX6_mergedShare_22 I22 L1 L2 v Q X → I22 L1 L2 v) → I22 L1 L2 v
theorem slX6_mergedShare_22 (C : gC p l s m args meth c cX6_mergedShare 3 RX6 L sz) (hr : meth.sig.returnType = (some .float)) (hno : ∀ x ∈ c.exceptionTable.toList, False) {L1 : Int32} {L2 : Int32} {v : gMem} {Q : UInt32 → gMem → Prop} {X : String → gMem → Prop} (h : LX6_mergedShare_22 L1 L2 v Q X) : gS p l e ({ frames := 6, cells := 1, slots := 6, locals := 82 } : Room) s m args below meth c 3 L sz (vx_MQ below (gQf L sz Q) (gXC L sz X) args s 1 6 (gA L sz)) 0 0 22 [(0, .ref (L.2.1 6 0)), (1, .int L1), (2, .int L2)] [] v := by
  refine h (fun L1 L2 v => gS p l e ({ frames := 6, cells := 1, slots := 6, locals := 82 } : Room) s m args below meth c 3 L sz (vx_MQ below (gQf L sz Q) (gXC L sz X) args s 1 6 (gA L sz)) 0 0 22 [(0, .ref (L.2.1 6 0)), (1, .int L1), (2, .int L2)] [] v) (fun L1 L2 v hb => ?_)
  exact sX6_mergedShare_22 C hr hno (fun _ _ _ hs => hs) hb
def TX6_mergedShare (v : gMem) (Q : UInt32 → gMem → Prop) (X : String → gMem → Prop) : Prop := ((¬ (v 6 0 3) = 0 → (LX6_mergedShare_22 0 0 v Q X)) ∧ ((v 6 0 3) = 0 → (X "java/util/NoSuchElementException" v)))
theorem kX6_mergedShare (l : Launch) (hfl : l.stackTraces = false) (L : gL) (hL : gDist L) (v : gMem) (Q : UInt32 → gMem → Prop) (X : String → gMem → Prop) (h : TX6_mergedShare v Q X) (sz : Nat) : vx_Met l yX6_mergedShare [.code yX6_mergedShare cX6_mergedShare 3 (some .float)] ({ frames := 6, cells := 1, slots := 6, locals := 82 } : Room) (gPc L sz [.ref (L.2.1 6 0)] v) (gQf L sz Q) (gXC L sz X) 1 6 (gA L sz) := by
  refine g_ofW (by decide +kernel) hfl hL (Nat.le_of_ble_eq_true rfl) ?_
  intro p e s m args below meth c C hr hno
  refine g_sub [(0, .ref (L.2.1 6 0))] [0] rfl ?_
  unfold TX6_mergedShare at h
  refine g_aload_n C 0 rfl 0 rfl dX6_mergedShare_0 ?_
  refine fgX6_88 C dX6_mergedShare_1 ?_
  refine g_if_ne C 18 (by decide) dX6_mergedShare_4 (fun hc => ?_) (fun hc => ?_)
  · replace h := h.1 hc
    refine g_iconst C 0 (by decide) dX6_mergedShare_18 ?_
    refine g_istore_n C 1 rfl [(1, .int 0), (0, .ref (L.2.1 6 0))] (Nat.le_of_ble_eq_true rfl) rfl dX6_mergedShare_19 ?_
    refine g_iconst C 0 (by decide) dX6_mergedShare_20 ?_
    refine g_istore_n C 2 rfl [(2, .int 0), (1, .int 0), (0, .ref (L.2.1 6 0))] (Nat.le_of_ble_eq_true rfl) rfl dX6_mergedShare_21 ?_
    refine g_sub [(0, .ref (L.2.1 6 0)), (1, .int 0), (2, .int 0)] [2, 1, 0] rfl ?_
    exact slX6_mergedShare_22 C hr hno h
  · replace h := h.2 hc
    exact g_throwNW C hno (text := "there is no card") (is := 300) rfl (by decide) wcl_RX6_128 wini_java_util_NoSuchElementException (List.mem_of_getElem? (i := 31) rfl) wat_RX6_132 dX6_mergedShare_7 dX6_mergedShare_10 dX6_mergedShare_11 dX6_mergedShare_14 dX6_mergedShare_17 (Nat.le_of_ble_eq_true rfl) (Nat.le_of_ble_eq_true rfl) ⟨(Nat.le_of_ble_eq_true rfl), (Nat.le_of_ble_eq_true rfl)⟩ (Nat.le_of_ble_eq_true rfl) (Nat.le_of_ble_eq_true rfl) h
end
