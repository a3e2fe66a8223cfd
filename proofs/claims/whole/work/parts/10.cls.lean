section
variable {p : Program} {l : Launch} {e : Env} {s : State} {m : MethodId} {args : Array Value} {below : List Frame} {meth : Method} {c : Code} {L : gL} {sz : Nat}
def TX0_forget (v : gMem) (Q : gMem → Prop) (X : String → gMem → Prop) : Prop := (Q (gw v 0 0 0 (-1)))
theorem kX0_forget (l : Launch) (hfl : l.stackTraces = false) (L : gL) (hL : gDist L) (v : gMem) (Q : gMem → Prop) (X : String → gMem → Prop) (h : TX0_forget v Q X) (sz : Nat) : vx_Met l yX0_forget [.code yX0_forget cX0_forget 1 none] ({ frames := 0, cells := 0, slots := 0, locals := 0 } : Room) (gPc L sz [.ref (L.2.1 0 0)] v) (gQv L sz Q) (gXC L sz X) 0 0 (gA L sz) := by
  refine g_ofW (by decide +kernel) hfl hL (Nat.le_of_ble_eq_true rfl) ?_
  intro p e s m args below meth c C hr hno
  refine g_sub [(0, .ref (L.2.1 0 0))] [0] rfl ?_
  unfold TX0_forget at h
  refine g_aload_n C 0 rfl 0 rfl dX0_forget_0 ?_
  refine g_iconst C (-1) (by decide) dX0_forget_1 ?_
  refine fpX0_9 C dX0_forget_2 ?_
  exact g_vret C hr (Nat.le_of_ble_eq_true rfl) (Nat.le_of_ble_eq_true rfl) h dX0_forget_5
def BX0_isMissing_13 (t0 : Int32) (v : gMem) (Q : Int32 → gMem → Prop) (X : String → gMem → Prop) : Prop := (narrow .boolean (.int t0) = .int t0 ∧ Q t0 v)
theorem sX0_isMissing_13 (C : gC p l s m args meth c cX0_isMissing 1 RX0 L sz) (hr : meth.sig.returnType = (some .boolean)) (hno : ∀ x ∈ c.exceptionTable.toList, False) {t0 : Int32} {v : gMem} {Q : Int32 → gMem → Prop} {X : String → gMem → Prop} (h : BX0_isMissing_13 t0 v Q X) : gS p l e ({ frames := 0, cells := 0, slots := 0, locals := 0 } : Room) s m args below meth c 1 L sz (vx_MQ below (gQi L sz Q) (gXC L sz X) args s 0 0 (gA L sz)) 0 0 13 [] [.int t0] v := by
  unfold BX0_isMissing_13 at h
  exact g_iret C hr h.1 (Nat.le_of_ble_eq_true rfl) (Nat.le_of_ble_eq_true rfl) h.2 dX0_isMissing_13
def TX0_isMissing (v : gMem) (Q : Int32 → gMem → Prop) (X : String → gMem → Prop) : Prop := ((¬ (v 0 0 0) = (-1) → (BX0_isMissing_13 0 v Q X)) ∧ ((v 0 0 0) = (-1) → (BX0_isMissing_13 1 v Q X)))
theorem kX0_isMissing (l : Launch) (hfl : l.stackTraces = false) (L : gL) (hL : gDist L) (v : gMem) (Q : Int32 → gMem → Prop) (X : String → gMem → Prop) (h : TX0_isMissing v Q X) (sz : Nat) : vx_Met l yX0_isMissing [.code yX0_isMissing cX0_isMissing 1 (some .boolean)] ({ frames := 0, cells := 0, slots := 0, locals := 0 } : Room) (gPc L sz [.ref (L.2.1 0 0)] v) (gQi L sz Q) (gXC L sz X) 0 0 (gA L sz) := by
  refine g_ofW (by decide +kernel) hfl hL (Nat.le_of_ble_eq_true rfl) ?_
  intro p e s m args below meth c C hr hno
  refine g_sub [(0, .ref (L.2.1 0 0))] [0] rfl ?_
  unfold TX0_isMissing at h
  refine g_aload_n C 0 rfl 0 rfl dX0_isMissing_0 ?_
  refine fgX0_9 C dX0_isMissing_1 ?_
  refine g_iconst C (-1) (by decide) dX0_isMissing_4 ?_
  refine g_icmp_ne C 12 (by decide) dX0_isMissing_5 (fun hc => ?_) (fun hc => ?_)
  · replace h := h.1 hc
    refine g_iconst C 0 (by decide) dX0_isMissing_12 ?_
    refine g_sub [] [] rfl ?_
    exact sX0_isMissing_13 C hr hno h
  · replace h := h.2 hc
    refine g_iconst C 1 (by decide) dX0_isMissing_8 ?_
    refine g_goto C 13 (by decide) dX0_isMissing_9 ?_
    refine g_sub [] [] rfl ?_
    exact sX0_isMissing_13 C hr hno h
def BX0_consider_30 (v : gMem) (Q : gMem → Prop) (X : String → gMem → Prop) : Prop := (Q v)
theorem sX0_consider_30 (C : gC p l s m args meth c cX0_consider 4 RX0 L sz) (hr : meth.sig.returnType = none) (hno : ∀ x ∈ c.exceptionTable.toList, False) {v : gMem} {Q : gMem → Prop} {X : String → gMem → Prop} (h : BX0_consider_30 v Q X) : gS p l e ({ frames := 1, cells := 0, slots := 0, locals := 20 } : Room) s m args below meth c 4 L sz (vx_MQ below (gQv L sz Q) (gXC L sz X) args s 0 0 (gA L sz)) 0 0 30 [] [] v := by
  unfold BX0_consider_30 at h
  exact g_vret C hr (Nat.le_of_ble_eq_true rfl) (Nat.le_of_ble_eq_true rfl) h dX0_consider_30
def BX0_consider_15 (L1 : Int32) (L2 : Int32) (L3 : Int32) (v : gMem) (Q : gMem → Prop) (X : String → gMem → Prop) : Prop := (BX0_consider_30 (gw (gw (gw v 0 0 2 L1) 0 0 0 L2) 0 0 1 L3) Q X)
theorem sX0_consider_15 (C : gC p l s m args meth c cX0_consider 4 RX0 L sz) (hr : meth.sig.returnType = none) (hno : ∀ x ∈ c.exceptionTable.toList, False) {L1 : Int32} {L2 : Int32} {L3 : Int32} {v : gMem} {Q : gMem → Prop} {X : String → gMem → Prop} (h : BX0_consider_15 L1 L2 L3 v Q X) : gS p l e ({ frames := 1, cells := 0, slots := 0, locals := 20 } : Room) s m args below meth c 4 L sz (vx_MQ below (gQv L sz Q) (gXC L sz X) args s 0 0 (gA L sz)) 0 0 15 [(0, .ref (L.2.1 0 0)), (1, .int L1), (2, .int L2), (3, .int L3)] [] v := by
  unfold BX0_consider_15 at h
  refine g_aload_n C 0 rfl 0 rfl dX0_consider_15 ?_
  refine g_iload_n C 1 rfl 1 rfl dX0_consider_16 ?_
  refine fpX0_22 C dX0_consider_17 ?_
  refine g_aload_n C 0 rfl 0 rfl dX0_consider_20 ?_
  refine g_iload_n C 2 rfl 2 rfl dX0_consider_21 ?_
  refine fpX0_9 C dX0_consider_22 ?_
  refine g_aload_n C 0 rfl 0 rfl dX0_consider_25 ?_
  refine g_iload_n C 3 rfl 3 rfl dX0_consider_26 ?_
  refine fpX0_15 C dX0_consider_27 ?_
  refine g_sub [] [] rfl ?_
  exact sX0_consider_30 C hr hno h
def TX0_consider (L1 : Int32) (L2 : Int32) (L3 : Int32) (v : gMem) (Q : gMem → Prop) (X : String → gMem → Prop) : Prop := (TX0_isMissing v (fun r1 v1 => ((¬ r1 = 0 → (BX0_consider_15 L1 L2 L3 v1 Q X)) ∧ (r1 = 0 → ((L1 ≤ (v1 0 0 2) → (BX0_consider_30 v1 Q X)) ∧ (¬ L1 ≤ (v1 0 0 2) → (BX0_consider_15 L1 L2 L3 v1 Q X)))))) X)
theorem kX0_consider (l : Launch) (hfl : l.stackTraces = false) (L : gL) (hL : gDist L) (L1 : Int32) (L2 : Int32) (L3 : Int32) (v : gMem) (Q : gMem → Prop) (X : String → gMem → Prop) (h : TX0_consider L1 L2 L3 v Q X) (sz : Nat) : vx_Met l yX0_consider [.code yX0_consider cX0_consider 4 none] ({ frames := 1, cells := 0, slots := 0, locals := 20 } : Room) (gPc L sz [.ref (L.2.1 0 0), .int L1, .int L2, .int L3] v) (gQv L sz Q) (gXC L sz X) 0 0 (gA L sz) := by
  refine g_ofW (by decide +kernel) hfl hL (Nat.le_of_ble_eq_true rfl) ?_
  intro p e s m args below meth c C hr hno
  refine g_sub [(0, .ref (L.2.1 0 0)), (1, .int L1), (2, .int L2), (3, .int L3)] [0, 1, 2, 3] rfl ?_
  unfold TX0_consider at h
  refine g_aload_n C 0 rfl 0 rfl dX0_consider_0 ?_
  refine g_callVi C hno gok_0 rfl rfl [] (fun sz9 => kX0_isMissing l C.2.2.2.2.2.2.1 L C.2.2.2.2.2.2.2.1 v _ X h sz9) wml_RX0_18 winst_X0_isMissing wsel_X0_isMissing wini_RX0 wcode_X0_isMissing rfl rfl (n := 0) (by decide +kernel) rfl ⟨(Nat.le_of_ble_eq_true rfl), (Nat.le_of_ble_eq_true rfl)⟩ ⟨(Nat.le_of_ble_eq_true rfl), (Nat.le_of_ble_eq_true rfl)⟩ ⟨(Nat.le_of_ble_eq_true rfl), (Nat.le_of_ble_eq_true rfl)⟩ (Nat.le_of_ble_eq_true rfl) dX0_consider_1 (fun r1 v1 h => ?_)
  refine g_if_ne C 15 (by decide) dX0_consider_4 (fun hc => ?_) (fun hc => ?_)
  · replace h := h.1 hc
    exact sX0_consider_15 C hr hno h
  · replace h := h.2 hc
    refine g_iload_n C 1 rfl 1 rfl dX0_consider_7 ?_
    refine g_aload_n C 0 rfl 0 rfl dX0_consider_8 ?_
    refine fgX0_22 C dX0_consider_9 ?_
    refine g_icmp_le C 30 (by decide) dX0_consider_12 (fun hc => ?_) (fun hc => ?_)
    · replace h := h.1 hc
      refine g_sub [] [] rfl ?_
      exact sX0_consider_30 C hr hno h
    · replace h := h.2 hc
      exact sX0_consider_15 C hr hno h
def TX1_empty (v : gMem) (Q : gMem → Prop) (X : String → gMem → Prop) : Prop := (Q (gw v 1 0 2 0))
theorem kX1_empty (l : Launch) (hfl : l.stackTraces = false) (L : gL) (hL : gDist L) (v : gMem) (Q : gMem → Prop) (X : String → gMem → Prop) (h : TX1_empty v Q X) (sz : Nat) : vx_Met l yX1_empty [.code yX1_empty cX1_empty 1 none] ({ frames := 0, cells := 0, slots := 0, locals := 0 } : Room) (gPc L sz [.ref (L.2.1 1 0)] v) (gQv L sz Q) (gXC L sz X) 0 0 (gA L sz) := by
  refine g_ofW (by decide +kernel) hfl hL (Nat.le_of_ble_eq_true rfl) ?_
  intro p e s m args below meth c C hr hno
  refine g_sub [(0, .ref (L.2.1 1 0))] [0] rfl ?_
  unfold TX1_empty at h
  refine g_aload_n C 0 rfl 0 rfl dX1_empty_0 ?_
  refine g_iconst C 0 (by decide) dX1_empty_1 ?_
  refine fpX1_18 C dX1_empty_2 ?_
  exact g_vret C hr (Nat.le_of_ble_eq_true rfl) (Nat.le_of_ble_eq_true rfl) h dX1_empty_5
def BX1_placeOf_2 (I2 : Int32 → gMem → Prop) (L1 : Int32) (L2 : Int32) (v : gMem) (Q : Int32 → gMem → Prop) (X : String → gMem → Prop) : Prop := (((v 1 0 2) ≤ L2 → (Q (v 1 0 2) v)) ∧ (¬ (v 1 0 2) ≤ L2 → (vp_in L2 16 ∧ ((¬ (v 24 0 (Int32.toNatClampNeg L2)) = L1 → (I2 (L2 + 1) v)) ∧ ((v 24 0 (Int32.toNatClampNeg L2)) = L1 → (Q L2 v))))))
theorem sX1_placeOf_2 (C : gC p l s m args meth c cX1_placeOf 3 RX1 L sz) (hr : meth.sig.returnType = (some .int)) (hno : ∀ x ∈ c.exceptionTable.toList, False) {L1 : Int32} {L2 : Int32} {v : gMem} {Q : Int32 → gMem → Prop} {X : String → gMem → Prop} {I2 : Int32 → gMem → Prop} (hI2 : ∀ (L2 : Int32) (v : gMem), I2 L2 v → gS p l e ({ frames := 0, cells := 0, slots := 0, locals := 0 } : Room) s m args below meth c 3 L sz (vx_MQ below (gQi L sz Q) (gXC L sz X) args s 0 0 (gA L sz)) 0 0 2 [(0, .ref (L.2.1 1 0)), (1, .int L1), (2, .int L2)] [] v) (h : BX1_placeOf_2 I2 L1 L2 v Q X) : gS p l e ({ frames := 0, cells := 0, slots := 0, locals := 0 } : Room) s m args below meth c 3 L sz (vx_MQ below (gQi L sz Q) (gXC L sz X) args s 0 0 (gA L sz)) 0 0 2 [(0, .ref (L.2.1 1 0)), (1, .int L1), (2, .int L2)] [] v := by
  unfold BX1_placeOf_2 at h
  refine g_iload_n C 2 rfl 2 rfl dX1_placeOf_2 ?_
  refine g_aload_n C 0 rfl 0 rfl dX1_placeOf_3 ?_
  refine fgX1_18 C dX1_placeOf_4 ?_
  refine g_icmp_ge C 28 (by decide) dX1_placeOf_7 (fun hc => ?_) (fun hc => ?_)
  · replace h := h.1 hc
    refine g_aload_n C 0 rfl 0 rfl dX1_placeOf_28 ?_
    refine fgX1_18 C dX1_placeOf_29 ?_
    exact g_iret C hr rfl (Nat.le_of_ble_eq_true rfl) (Nat.le_of_ble_eq_true rfl) h dX1_placeOf_32
  · replace h := h.2 hc
    refine g_aload_n C 0 rfl 0 rfl dX1_placeOf_10 ?_
    refine fgX1_9 C dX1_placeOf_11 ?_
    refine g_iload_n C 2 rfl 2 rfl dX1_placeOf_14 ?_
    obtain ⟨hb15, h⟩ := h
    refine g_iald C gok_24 rfl hb15 dX1_placeOf_15 ?_
    refine g_iload_n C 1 rfl 1 rfl dX1_placeOf_16 ?_
    refine g_icmp_ne C 22 (by decide) dX1_placeOf_17 (fun hc => ?_) (fun hc => ?_)
    · replace h := h.1 hc
      refine g_iinc C (k := 2) (L2 + 1) [(2, .int (L2 + 1)), (0, .ref (L.2.1 1 0)), (1, .int L1)] rfl rfl (Nat.le_of_ble_eq_true rfl) rfl dX1_placeOf_22 ?_
      refine g_goto C 2 (by decide) dX1_placeOf_25 ?_
      refine g_sub [(0, .ref (L.2.1 1 0)), (1, .int L1), (2, .int (L2 + 1))] [1, 2, 0] rfl ?_
      exact hI2 _ _ h
    · replace h := h.2 hc
      refine g_iload_n C 2 rfl 2 rfl dX1_placeOf_20 ?_
      exact g_iret C hr rfl (Nat.le_of_ble_eq_true rfl) (Nat.le_of_ble_eq_true rfl) h dX1_placeOf_21
def LX1_placeOf_2 (L1 : Int32) (L2 : Int32) (v : gMem) (Q : Int32 → gMem → Prop) (X : String → gMem → Prop) : Prop := ∀ I2 : Int32 → gMem → Prop, (∀ (L2 : Int32) (v : gMem), BX1_placeOf_2 I2 L1 L2 v Q X → I2 L2 v) → I2 L2 v
theorem slX1_placeOf_2 (C : gC p l s m args meth c cX1_placeOf 3 RX1 L sz) (hr : meth.sig.returnType = (some .int)) (hno : ∀ x ∈ c.exceptionTable.toList, False) {L1 : Int32} {L2 : Int32} {v : gMem} {Q : Int32 → gMem → Prop} {X : String → gMem → Prop} (h : LX1_placeOf_2 L1 L2 v Q X) : gS p l e ({ frames := 0, cells := 0, slots := 0, locals := 0 } : Room) s m args below meth c 3 L sz (vx_MQ below (gQi L sz Q) (gXC L sz X) args s 0 0 (gA L sz)) 0 0 2 [(0, .ref (L.2.1 1 0)), (1, .int L1), (2, .int L2)] [] v := by
  refine h (fun L2 v => gS p l e ({ frames := 0, cells := 0, slots := 0, locals := 0 } : Room) s m args below meth c 3 L sz (vx_MQ below (gQi L sz Q) (gXC L sz X) args s 0 0 (gA L sz)) 0 0 2 [(0, .ref (L.2.1 1 0)), (1, .int L1), (2, .int L2)] [] v) (fun L2 v hb => ?_)
  exact sX1_placeOf_2 C hr hno (fun _ _ hs => hs) hb
def TX1_placeOf (L1 : Int32) (v : gMem) (Q : Int32 → gMem → Prop) (X : String → gMem → Prop) : Prop := (LX1_placeOf_2 L1 0 v Q X)
theorem kX1_placeOf (l : Launch) (hfl : l.stackTraces = false) (L : gL) (hL : gDist L) (L1 : Int32) (v : gMem) (Q : Int32 → gMem → Prop) (X : String → gMem → Prop) (h : TX1_placeOf L1 v Q X) (sz : Nat) : vx_Met l yX1_placeOf [.code yX1_placeOf cX1_placeOf 3 (some .int)] ({ frames := 0, cells := 0, slots := 0, locals := 0 } : Room) (gPc L sz [.ref (L.2.1 1 0), .int L1] v) (gQi L sz Q) (gXC L sz X) 0 0 (gA L sz) := by
  refine g_ofW (by decide +kernel) hfl hL (Nat.le_of_ble_eq_true rfl) ?_
  intro p e s m args below meth c C hr hno
  refine g_sub [(0, .ref (L.2.1 1 0)), (1, .int L1)] [0, 1] rfl ?_
  unfold TX1_placeOf at h
  refine g_iconst C 0 (by decide) dX1_placeOf_0 ?_
  refine g_istore_n C 2 rfl [(2, .int 0), (0, .ref (L.2.1 1 0)), (1, .int L1)] (Nat.le_of_ble_eq_true rfl) rfl dX1_placeOf_1 ?_
  refine g_sub [(0, .ref (L.2.1 1 0)), (1, .int L1), (2, .int 0)] [1, 2, 0] rfl ?_
  exact slX1_placeOf_2 C hr hno h
def BX1_put_71 (v : gMem) (Q : gMem → Prop) (X : String → gMem → Prop) : Prop := (Q v)
theorem sX1_put_71 (C : gC p l s m args meth c cX1_put 4 RX1 L sz) (hr : meth.sig.returnType = none) (hno : ∀ x ∈ c.exceptionTable.toList, False) {v : gMem} {Q : gMem → Prop} {X : String → gMem → Prop} (h : BX1_put_71 v Q X) : gS p l e ({ frames := 1, cells := 0, slots := 0, locals := 22 } : Room) s m args below meth c 4 L sz (vx_MQ below (gQv L sz Q) (gXC L sz X) args s 0 0 (gA L sz)) 0 0 71 [] [] v := by
  unfold BX1_put_71 at h
  exact g_vret C hr (Nat.le_of_ble_eq_true rfl) (Nat.le_of_ble_eq_true rfl) h dX1_put_71
def BX1_put_51 (L2 : Int32) (L3 : Int32) (v : gMem) (Q : gMem → Prop) (X : String → gMem → Prop) : Prop := (((v 1 0 2) ≤ L3 → (BX1_put_71 v Q X)) ∧ (¬ (v 1 0 2) ≤ L3 → (vp_in L3 16 ∧ (vp_in L3 16 ∧ (BX1_put_71 (gw v 25 0 (Int32.toNatClampNeg L3) ((v 25 0 (Int32.toNatClampNeg L3)) ||| (1 <<< (L2 &&& 31)))) Q X)))))
theorem sX1_put_51 (C : gC p l s m args meth c cX1_put 4 RX1 L sz) (hr : meth.sig.returnType = none) (hno : ∀ x ∈ c.exceptionTable.toList, False) {L2 : Int32} {L3 : Int32} {v : gMem} {Q : gMem → Prop} {X : String → gMem → Prop} (h : BX1_put_51 L2 L3 v Q X) : gS p l e ({ frames := 1, cells := 0, slots := 0, locals := 22 } : Room) s m args below meth c 4 L sz (vx_MQ below (gQv L sz Q) (gXC L sz X) args s 0 0 (gA L sz)) 0 0 51 [(0, .ref (L.2.1 1 0)), (2, .int L2), (3, .int L3)] [] v := by
  unfold BX1_put_51 at h
  refine g_iload_n C 3 rfl 2 rfl dX1_put_51 ?_
  refine g_aload_n C 0 rfl 0 rfl dX1_put_52 ?_
  refine fgX1_18 C dX1_put_53 ?_
  refine g_icmp_ge C 71 (by decide) dX1_put_56 (fun hc => ?_) (fun hc => ?_)
  · replace h := h.1 hc
    refine g_sub [] [] rfl ?_
    exact sX1_put_71 C hr hno h
  · replace h := h.2 hc
    refine g_aload_n C 0 rfl 0 rfl dX1_put_59 ?_
    refine fgX1_15 C dX1_put_60 ?_
    refine g_iload_n C 3 rfl 2 rfl dX1_put_63 ?_
    refine g_dup2 C rfl rfl dX1_put_64 ?_
    obtain ⟨hb65, h⟩ := h
    refine g_iald C gok_25 rfl hb65 dX1_put_65 ?_
    refine g_iconst C 1 (by decide) dX1_put_66 ?_
    refine g_iload_n C 2 rfl 1 rfl dX1_put_67 ?_
    refine g_ishl C dX1_put_68 ?_
    refine g_ior C dX1_put_69 ?_
    obtain ⟨hb70, h⟩ := h
    refine g_iast C gok_25 (fun _ => rfl) hb70 dX1_put_70 ?_
    refine g_sub [] [] rfl ?_
    exact sX1_put_71 C hr hno h
def TX1_put (L1 : Int32) (L2 : Int32) (v : gMem) (Q : gMem → Prop) (X : String → gMem → Prop) : Prop := (TX1_placeOf L1 v (fun r2 v2 => ((¬ r2 = (v2 1 0 2) → (BX1_put_51 L2 r2 v2 Q X)) ∧ (r2 = (v2 1 0 2) → ((L1 < 0 → (BX1_put_51 L2 r2 v2 Q X)) ∧ (¬ L1 < 0 → ((16 ≤ (v2 1 0 2) → (BX1_put_51 L2 r2 v2 Q X)) ∧ (¬ 16 ≤ (v2 1 0 2) → (vp_in r2 16 ∧ (vp_in r2 16 ∧ (BX1_put_51 L2 r2 (gw (gw (gw v2 24 0 (Int32.toNatClampNeg r2) L1) 25 0 (Int32.toNatClampNeg r2) 0) 1 0 2 (((gw (gw v2 24 0 (Int32.toNatClampNeg r2) L1) 25 0 (Int32.toNatClampNeg r2) 0) 1 0 2) + 1)) Q X)))))))))) X)
theorem kX1_put (l : Launch) (hfl : l.stackTraces = false) (L : gL) (hL : gDist L) (L1 : Int32) (L2 : Int32) (v : gMem) (Q : gMem → Prop) (X : String → gMem → Prop) (h : TX1_put L1 L2 v Q X) (sz : Nat) : vx_Met l yX1_put [.code yX1_put cX1_put 4 none] ({ frames := 1, cells := 0, slots := 0, locals := 22 } : Room) (gPc L sz [.ref (L.2.1 1 0), .int L1, .int L2] v) (gQv L sz Q) (gXC L sz X) 0 0 (gA L sz) := by
  refine g_ofW (by decide +kernel) hfl hL (Nat.le_of_ble_eq_true rfl) ?_
  intro p e s m args below meth c C hr hno
  refine g_sub [(0, .ref (L.2.1 1 0)), (1, .int L1), (2, .int L2)] [0, 1, 2] rfl ?_
  unfold TX1_put at h
  refine g_aload_n C 0 rfl 0 rfl dX1_put_0 ?_
  refine g_iload_n C 1 rfl 1 rfl dX1_put_1 ?_
  refine g_callVi C hno gok_1 rfl rfl [.int L1] (fun sz9 => kX1_placeOf l C.2.2.2.2.2.2.1 L C.2.2.2.2.2.2.2.1 L1 v _ X h sz9) wml_RX1_22 winst_X1_placeOf wsel_X1_placeOf wini_RX1 wcode_X1_placeOf rfl rfl (n := 1) (by decide +kernel) rfl ⟨(Nat.le_of_ble_eq_true rfl), (Nat.le_of_ble_eq_true rfl)⟩ ⟨(Nat.le_of_ble_eq_true rfl), (Nat.le_of_ble_eq_true rfl)⟩ ⟨(Nat.le_of_ble_eq_true rfl), (Nat.le_of_ble_eq_true rfl)⟩ (Nat.le_of_ble_eq_true rfl) dX1_put_2 (fun r2 v2 h => ?_)
  refine g_istore_n C 3 rfl [(3, .int r2), (0, .ref (L.2.1 1 0)), (1, .int L1), (2, .int L2)] (Nat.le_of_ble_eq_true rfl) rfl dX1_put_5 ?_
  refine g_iload_n C 3 rfl 0 rfl dX1_put_6 ?_
  refine g_aload_n C 0 rfl 1 rfl dX1_put_7 ?_
  refine fgX1_18 C dX1_put_8 ?_
  refine g_icmp_ne C 51 (by decide) dX1_put_11 (fun hc => ?_) (fun hc => ?_)
  · replace h := h.1 hc
    refine g_sub [(0, .ref (L.2.1 1 0)), (2, .int L2), (3, .int r2)] [1, 3, 0] rfl ?_
    exact sX1_put_51 C hr hno h
  · replace h := h.2 hc
    refine g_iload_n C 1 rfl 2 rfl dX1_put_14 ?_
    refine g_if_lt C 51 (by decide) dX1_put_15 (fun hc => ?_) (fun hc => ?_)
    · replace h := h.1 hc
      refine g_sub [(0, .ref (L.2.1 1 0)), (2, .int L2), (3, .int r2)] [1, 3, 0] rfl ?_
      exact sX1_put_51 C hr hno h
    · replace h := h.2 hc
      refine g_aload_n C 0 rfl 1 rfl dX1_put_18 ?_
      refine fgX1_18 C dX1_put_19 ?_
      refine g_bipush C 16 (by decide) dX1_put_22 ?_
      refine g_icmp_ge C 51 (by decide) dX1_put_24 (fun hc => ?_) (fun hc => ?_)
      · replace h := h.1 hc
        refine g_sub [(0, .ref (L.2.1 1 0)), (2, .int L2), (3, .int r2)] [1, 3, 0] rfl ?_
        exact sX1_put_51 C hr hno h
      · replace h := h.2 hc
        refine g_aload_n C 0 rfl 1 rfl dX1_put_27 ?_
        refine fgX1_9 C dX1_put_28 ?_
        refine g_iload_n C 3 rfl 0 rfl dX1_put_31 ?_
        refine g_iload_n C 1 rfl 2 rfl dX1_put_32 ?_
        obtain ⟨hb33, h⟩ := h
        refine g_iast C gok_24 (fun _ => rfl) hb33 dX1_put_33 ?_
        refine g_aload_n C 0 rfl 1 rfl dX1_put_34 ?_
        refine fgX1_15 C dX1_put_35 ?_
        refine g_iload_n C 3 rfl 0 rfl dX1_put_38 ?_
        refine g_iconst C 0 (by decide) dX1_put_39 ?_
        obtain ⟨hb40, h⟩ := h
        refine g_iast C gok_25 (fun _ => rfl) hb40 dX1_put_40 ?_
        refine g_aload_n C 0 rfl 1 rfl dX1_put_41 ?_
        refine g_dup C rfl dX1_put_42 ?_
        refine fgX1_18 C dX1_put_43 ?_
        refine g_iconst C 1 (by decide) dX1_put_46 ?_
        refine g_iadd C dX1_put_47 ?_
        refine fpX1_18 C dX1_put_48 ?_
        refine g_sub [(0, .ref (L.2.1 1 0)), (2, .int L2), (3, .int r2)] [1, 3, 0] rfl ?_
        exact sX1_put_51 C hr hno h
def BX1_holdersOf_24 (t0 : Int32) (v : gMem) (Q : Int32 → gMem → Prop) (X : String → gMem → Prop) : Prop := (Q t0 v)
theorem sX1_holdersOf_24 (C : gC p l s m args meth c cX1_holdersOf 3 RX1 L sz) (hr : meth.sig.returnType = (some .int)) (hno : ∀ x ∈ c.exceptionTable.toList, False) {t0 : Int32} {v : gMem} {Q : Int32 → gMem → Prop} {X : String → gMem → Prop} (h : BX1_holdersOf_24 t0 v Q X) : gS p l e ({ frames := 1, cells := 0, slots := 0, locals := 22 } : Room) s m args below meth c 3 L sz (vx_MQ below (gQi L sz Q) (gXC L sz X) args s 0 0 (gA L sz)) 0 0 24 [] [.int t0] v := by
  unfold BX1_holdersOf_24 at h
  exact g_iret C hr rfl (Nat.le_of_ble_eq_true rfl) (Nat.le_of_ble_eq_true rfl) h dX1_holdersOf_24
def TX1_holdersOf (L1 : Int32) (v : gMem) (Q : Int32 → gMem → Prop) (X : String → gMem → Prop) : Prop := (TX1_placeOf L1 v (fun r2 v2 => (((v2 1 0 2) ≤ r2 → (BX1_holdersOf_24 0 v2 Q X)) ∧ (¬ (v2 1 0 2) ≤ r2 → (vp_in r2 16 ∧ (BX1_holdersOf_24 (v2 25 0 (Int32.toNatClampNeg r2)) v2 Q X))))) X)
theorem kX1_holdersOf (l : Launch) (hfl : l.stackTraces = false) (L : gL) (hL : gDist L) (L1 : Int32) (v : gMem) (Q : Int32 → gMem → Prop) (X : String → gMem → Prop) (h : TX1_holdersOf L1 v Q X) (sz : Nat) : vx_Met l yX1_holdersOf [.code yX1_holdersOf cX1_holdersOf 3 (some .int)] ({ frames := 1, cells := 0, slots := 0, locals := 22 } : Room) (gPc L sz [.ref (L.2.1 1 0), .int L1] v) (gQi L sz Q) (gXC L sz X) 0 0 (gA L sz) := by
  refine g_ofW (by decide +kernel) hfl hL (Nat.le_of_ble_eq_true rfl) ?_
  intro p e s m args below meth c C hr hno
  refine g_sub [(0, .ref (L.2.1 1 0)), (1, .int L1)] [0, 1] rfl ?_
  unfold TX1_holdersOf at h
  refine g_aload_n C 0 rfl 0 rfl dX1_holdersOf_0 ?_
  refine g_iload_n C 1 rfl 1 rfl dX1_holdersOf_1 ?_
  refine g_callVi C hno gok_1 rfl rfl [.int L1] (fun sz9 => kX1_placeOf l C.2.2.2.2.2.2.1 L C.2.2.2.2.2.2.2.1 L1 v _ X h sz9) wml_RX1_22 winst_X1_placeOf wsel_X1_placeOf wini_RX1 wcode_X1_placeOf rfl rfl (n := 1) (by decide +kernel) rfl ⟨(Nat.le_of_ble_eq_true rfl), (Nat.le_of_ble_eq_true rfl)⟩ ⟨(Nat.le_of_ble_eq_true rfl), (Nat.le_of_ble_eq_true rfl)⟩ ⟨(Nat.le_of_ble_eq_true rfl), (Nat.le_of_ble_eq_true rfl)⟩ (Nat.le_of_ble_eq_true rfl) dX1_holdersOf_2 (fun r2 v2 h => ?_)
  refine g_istore_n C 2 rfl [(2, .int r2), (0, .ref (L.2.1 1 0)), (1, .int L1)] (Nat.le_of_ble_eq_true rfl) rfl dX1_holdersOf_5 ?_
  refine g_iload_n C 2 rfl 0 rfl dX1_holdersOf_6 ?_
  refine g_aload_n C 0 rfl 1 rfl dX1_holdersOf_7 ?_
  refine fgX1_18 C dX1_holdersOf_8 ?_
  refine g_icmp_ge C 23 (by decide) dX1_holdersOf_11 (fun hc => ?_) (fun hc => ?_)
  · replace h := h.1 hc
    refine g_iconst C 0 (by decide) dX1_holdersOf_23 ?_
    refine g_sub [] [] rfl ?_
    exact sX1_holdersOf_24 C hr hno h
  · replace h := h.2 hc
    refine g_aload_n C 0 rfl 1 rfl dX1_holdersOf_14 ?_
    refine fgX1_15 C dX1_holdersOf_15 ?_
    refine g_iload_n C 2 rfl 0 rfl dX1_holdersOf_18 ?_
    obtain ⟨hb19, h⟩ := h
    refine g_iald C gok_25 rfl hb19 dX1_holdersOf_19 ?_
    refine g_goto C 24 (by decide) dX1_holdersOf_20 ?_
    refine g_sub [] [] rfl ?_
    exact sX1_holdersOf_24 C hr hno h
def BX2_has_37 (i0 : Nat) (t0 : Int32) (v : gMem) (Q : Int32 → gMem → Prop) (X : String → gMem → Prop) : Prop := (narrow .boolean (.int t0) = .int t0 ∧ Q t0 v)
theorem sX2_has_37 (C : gC p l s m args meth c cX2_has 2 RX2 L sz) (hr : meth.sig.returnType = (some .boolean)) (hno : ∀ x ∈ c.exceptionTable.toList, False) {i0 : Nat} (hi0 : i0 < 16) {t0 : Int32} {v : gMem} {Q : Int32 → gMem → Prop} {X : String → gMem → Prop} (h : BX2_has_37 i0 t0 v Q X) : gS p l e ({ frames := 0, cells := 0, slots := 0, locals := 0 } : Room) s m args below meth c 2 L sz (vx_MQ below (gQi L sz Q) (gXC L sz X) args s 0 0 (gA L sz)) 0 0 37 [] [.int t0] v := by
  unfold BX2_has_37 at h
  exact g_iret C hr h.1 (Nat.le_of_ble_eq_true rfl) (Nat.le_of_ble_eq_true rfl) h.2 dX2_has_37
def TX2_has (i0 : Nat) (L1 : Int32) (v : gMem) (Q : Int32 → gMem → Prop) (X : String → gMem → Prop) : Prop := ((¬ L1 = 0 → (vp_in L1 4 ∧ (((v 23 i0 (Int32.toNatClampNeg L1)) = (-1) → (BX2_has_37 i0 0 v Q X)) ∧ (¬ (v 23 i0 (Int32.toNatClampNeg L1)) = (-1) → (BX2_has_37 i0 1 v Q X))))) ∧ (L1 = 0 → (((v 4 i0 1) ≤ 0 → (BX2_has_37 i0 0 v Q X)) ∧ (¬ (v 4 i0 1) ≤ 0 → (BX2_has_37 i0 1 v Q X)))))
theorem kX2_has (l : Launch) (hfl : l.stackTraces = false) (L : gL) (hL : gDist L) {i0 : Nat} (hi0 : i0 < 16) (L1 : Int32) (v : gMem) (Q : Int32 → gMem → Prop) (X : String → gMem → Prop) (h : TX2_has i0 L1 v Q X) (sz : Nat) : vx_Met l yX2_has [.code yX2_has cX2_has 2 (some .boolean)] ({ frames := 0, cells := 0, slots := 0, locals := 0 } : Room) (gPc L sz [.ref (L.2.1 2 i0), .int L1] v) (gQi L sz Q) (gXC L sz X) 0 0 (gA L sz) := by
  refine g_ofW (by decide +kernel) hfl hL (Nat.le_of_ble_eq_true rfl) ?_
  intro p e s m args below meth c C hr hno
  refine g_sub [(0, .ref (L.2.1 2 i0)), (1, .int L1)] [0, 1] rfl ?_
  unfold TX2_has at h
  refine g_iload_n C 1 rfl 1 rfl dX2_has_0 ?_
  refine g_if_ne C 22 (by decide) dX2_has_1 (fun hc => ?_) (fun hc => ?_)
  · replace h := h.1 hc
    refine g_aload_n C 0 rfl 0 rfl dX2_has_22 ?_
    refine fgX2_18 C (gok_2 hi0) dX2_has_23 ?_
    refine g_iload_n C 1 rfl 1 rfl dX2_has_26 ?_
    obtain ⟨hb27, h⟩ := h
    refine g_iald C (gok_23 hi0) rfl hb27 dX2_has_27 ?_
    refine g_iconst C (-1) (by decide) dX2_has_28 ?_
    refine g_icmp_eq C 36 (by decide) dX2_has_29 (fun hc => ?_) (fun hc => ?_)
    · replace h := h.1 hc
      refine g_iconst C 0 (by decide) dX2_has_36 ?_
      refine g_sub [] [] rfl ?_
      exact sX2_has_37 C hr hno hi0 h
    · replace h := h.2 hc
      refine g_iconst C 1 (by decide) dX2_has_32 ?_
      refine g_goto C 37 (by decide) dX2_has_33 ?_
      refine g_sub [] [] rfl ?_
      exact sX2_has_37 C hr hno hi0 h
  · replace h := h.2 hc
    refine g_aload_n C 0 rfl 0 rfl dX2_has_4 ?_
    refine fgX2_12 C (gok_2 hi0) dX2_has_5 ?_
    refine fgX2_22 C (gok_4 (Nat.lt_of_lt_of_le hi0 (by decide))) dX2_has_8 ?_
    refine g_if_le C 18 (by decide) dX2_has_11 (fun hc => ?_) (fun hc => ?_)
    · replace h := h.1 hc
      refine g_iconst C 0 (by decide) dX2_has_18 ?_
      refine g_goto C 37 (by decide) dX2_has_19 ?_
      refine g_sub [] [] rfl ?_
      exact sX2_has_37 C hr hno hi0 h
    · replace h := h.2 hc
      refine g_iconst C 1 (by decide) dX2_has_14 ?_
      refine g_goto C 37 (by decide) dX2_has_15 ?_
      refine g_sub [] [] rfl ?_
      exact sX2_has_37 C hr hno hi0 h
def BX4_beginsWith_15 (I15 : Int32 → gMem → Prop) (i0 : Nat) (i1 : Nat) (L2 : Int32) (v : gMem) (Q : Int32 → gMem → Prop) (X : String → gMem → Prop) : Prop := (((v 4 i1 1) ≤ L2 → (Q 1 v)) ∧ (¬ (v 4 i1 1) ≤ L2 → (vp_in L2 10 ∧ (vp_in L2 10 ∧ (((v 21 i0 (Int32.toNatClampNeg L2)) = (v 21 i1 (Int32.toNatClampNeg L2)) → (I15 (L2 + 1) v)) ∧ (¬ (v 21 i0 (Int32.toNatClampNeg L2)) = (v 21 i1 (Int32.toNatClampNeg L2)) → (Q 0 v)))))))
theorem sX4_beginsWith_15 (C : gC p l s m args meth c cX4_beginsWith 3 RX4 L sz) (hr : meth.sig.returnType = (some .boolean)) (hno : ∀ x ∈ c.exceptionTable.toList, False) {i0 : Nat} {i1 : Nat} (hi0 : i0 < 17) (hi1 : i1 < 17) {L2 : Int32} {v : gMem} {Q : Int32 → gMem → Prop} {X : String → gMem → Prop} {I15 : Int32 → gMem → Prop} (hI15 : ∀ (L2 : Int32) (v : gMem), I15 L2 v → gS p l e ({ frames := 0, cells := 0, slots := 0, locals := 0 } : Room) s m args below meth c 3 L sz (vx_MQ below (gQi L sz Q) (gXC L sz X) args s 0 0 (gA L sz)) 0 0 15 [(0, .ref (L.2.1 4 i0)), (1, .ref (L.2.1 4 i1)), (2, .int L2)] [] v) (h : BX4_beginsWith_15 I15 i0 i1 L2 v Q X) : gS p l e ({ frames := 0, cells := 0, slots := 0, locals := 0 } : Room) s m args below meth c 3 L sz (vx_MQ below (gQi L sz Q) (gXC L sz X) args s 0 0 (gA L sz)) 0 0 15 [(0, .ref (L.2.1 4 i0)), (1, .ref (L.2.1 4 i1)), (2, .int L2)] [] v := by
  unfold BX4_beginsWith_15 at h
  refine g_iload_n C 2 rfl 2 rfl dX4_beginsWith_15 ?_
  refine g_aload_n C 1 rfl 1 rfl dX4_beginsWith_16 ?_
  refine fgX4_18 C (gok_4 hi1) dX4_beginsWith_17 ?_
  refine g_icmp_ge C 46 (by decide) dX4_beginsWith_20 (fun hc => ?_) (fun hc => ?_)
  · replace h := h.1 hc
    refine g_iconst C 1 (by decide) dX4_beginsWith_46 ?_
    exact g_iret C hr rfl (Nat.le_of_ble_eq_true rfl) (Nat.le_of_ble_eq_true rfl) h dX4_beginsWith_47
  · replace h := h.2 hc
    refine g_aload_n C 0 rfl 0 rfl dX4_beginsWith_23 ?_
    refine fgX4_9 C (gok_4 hi0) dX4_beginsWith_24 ?_
    refine g_iload_n C 2 rfl 2 rfl dX4_beginsWith_27 ?_
    obtain ⟨hb28, h⟩ := h
    refine g_cald C (gok_21 hi0) rfl hb28 dX4_beginsWith_28 ?_
    refine g_aload_n C 1 rfl 1 rfl dX4_beginsWith_29 ?_
    refine fgX4_9 C (gok_4 hi1) dX4_beginsWith_30 ?_
    refine g_iload_n C 2 rfl 2 rfl dX4_beginsWith_33 ?_
    obtain ⟨hb34, h⟩ := h
    refine g_cald C (gok_21 hi1) rfl hb34 dX4_beginsWith_34 ?_
    refine g_icmp_eq C 40 (by decide) dX4_beginsWith_35 (fun hc => ?_) (fun hc => ?_)
    · replace h := h.1 hc
      refine g_iinc C (k := 2) (L2 + 1) [(2, .int (L2 + 1)), (0, .ref (L.2.1 4 i0)), (1, .ref (L.2.1 4 i1))] rfl rfl (Nat.le_of_ble_eq_true rfl) rfl dX4_beginsWith_40 ?_
      refine g_goto C 15 (by decide) dX4_beginsWith_43 ?_
      refine g_sub [(0, .ref (L.2.1 4 i0)), (1, .ref (L.2.1 4 i1)), (2, .int (L2 + 1))] [1, 2, 0] rfl ?_
      exact hI15 _ _ h
    · replace h := h.2 hc
      refine g_iconst C 0 (by decide) dX4_beginsWith_38 ?_
      exact g_iret C hr rfl (Nat.le_of_ble_eq_true rfl) (Nat.le_of_ble_eq_true rfl) h dX4_beginsWith_39
def LX4_beginsWith_15 (i0 : Nat) (i1 : Nat) (L2 : Int32) (v : gMem) (Q : Int32 → gMem → Prop) (X : String → gMem → Prop) : Prop := ∀ I15 : Int32 → gMem → Prop, (∀ (L2 : Int32) (v : gMem), BX4_beginsWith_15 I15 i0 i1 L2 v Q X → I15 L2 v) → I15 L2 v
theorem slX4_beginsWith_15 (C : gC p l s m args meth c cX4_beginsWith 3 RX4 L sz) (hr : meth.sig.returnType = (some .boolean)) (hno : ∀ x ∈ c.exceptionTable.toList, False) {i0 : Nat} {i1 : Nat} (hi0 : i0 < 17) (hi1 : i1 < 17) {L2 : Int32} {v : gMem} {Q : Int32 → gMem → Prop} {X : String → gMem → Prop} (h : LX4_beginsWith_15 i0 i1 L2 v Q X) : gS p l e ({ frames := 0, cells := 0, slots := 0, locals := 0 } : Room) s m args below meth c 3 L sz (vx_MQ below (gQi L sz Q) (gXC L sz X) args s 0 0 (gA L sz)) 0 0 15 [(0, .ref (L.2.1 4 i0)), (1, .ref (L.2.1 4 i1)), (2, .int L2)] [] v := by
  refine h (fun L2 v => gS p l e ({ frames := 0, cells := 0, slots := 0, locals := 0 } : Room) s m args below meth c 3 L sz (vx_MQ below (gQi L sz Q) (gXC L sz X) args s 0 0 (gA L sz)) 0 0 15 [(0, .ref (L.2.1 4 i0)), (1, .ref (L.2.1 4 i1)), (2, .int L2)] [] v) (fun L2 v hb => ?_)
  exact sX4_beginsWith_15 C hr hno hi0 hi1 (fun _ _ hs => hs) hb
def TX4_beginsWith (i0 : Nat) (i1 : Nat) (v : gMem) (Q : Int32 → gMem → Prop) (X : String → gMem → Prop) : Prop := (((v 4 i1 1) ≤ (v 4 i0 1) → (LX4_beginsWith_15 i0 i1 0 v Q X)) ∧ (¬ (v 4 i1 1) ≤ (v 4 i0 1) → (Q 0 v)))
theorem kX4_beginsWith (l : Launch) (hfl : l.stackTraces = false) (L : gL) (hL : gDist L) {i0 : Nat} {i1 : Nat} (hi0 : i0 < 17) (hi1 : i1 < 17) (v : gMem) (Q : Int32 → gMem → Prop) (X : String → gMem → Prop) (h : TX4_beginsWith i0 i1 v Q X) (sz : Nat) : vx_Met l yX4_beginsWith [.code yX4_beginsWith cX4_beginsWith 3 (some .boolean)] ({ frames := 0, cells := 0, slots := 0, locals := 0 } : Room) (gPc L sz [.ref (L.2.1 4 i0), .ref (L.2.1 4 i1)] v) (gQi L sz Q) (gXC L sz X) 0 0 (gA L sz) := by
  refine g_ofW (by decide +kernel) hfl hL (Nat.le_of_ble_eq_true rfl) ?_
  intro p e s m args below meth c C hr hno
  refine g_sub [(0, .ref (L.2.1 4 i0)), (1, .ref (L.2.1 4 i1))] [0, 1] rfl ?_
  unfold TX4_beginsWith at h
  refine g_aload_n C 1 rfl 1 rfl dX4_beginsWith_0 ?_
  refine fgX4_18 C (gok_4 hi1) dX4_beginsWith_1 ?_
  refine g_aload_n C 0 rfl 0 rfl dX4_beginsWith_4 ?_
  refine fgX4_18 C (gok_4 hi0) dX4_beginsWith_5 ?_
  refine g_icmp_le C 13 (by decide) dX4_beginsWith_8 (fun hc => ?_) (fun hc => ?_)
  · replace h := h.1 hc
    refine g_iconst C 0 (by decide) dX4_beginsWith_13 ?_
    refine g_istore_n C 2 rfl [(2, .int 0), (0, .ref (L.2.1 4 i0)), (1, .ref (L.2.1 4 i1))] (Nat.le_of_ble_eq_true rfl) rfl dX4_beginsWith_14 ?_
    refine g_sub [(0, .ref (L.2.1 4 i0)), (1, .ref (L.2.1 4 i1)), (2, .int 0)] [1, 2, 0] rfl ?_
    exact slX4_beginsWith_15 C hr hno hi0 hi1 h
  · replace h := h.2 hc
    refine g_iconst C 0 (by decide) dX4_beginsWith_11 ?_
    exact g_iret C hr rfl (Nat.le_of_ble_eq_true rfl) (Nat.le_of_ble_eq_true rfl) h dX4_beginsWith_12
def BX2_agrees_61 (i0 : Nat) (i1 : Nat) (t0 : Int32) (v : gMem) (Q : Int32 → gMem → Prop) (X : String → gMem → Prop) : Prop := (narrow .boolean (.int t0) = .int t0 ∧ Q t0 v)
theorem sX2_agrees_61 (C : gC p l s m args meth c cX2_agrees 3 RX2 L sz) (hr : meth.sig.returnType = (some .boolean)) (hno : ∀ x ∈ c.exceptionTable.toList, False) {i0 : Nat} {i1 : Nat} (hi0 : i0 < 16) (hi1 : i1 < 16) {t0 : Int32} {v : gMem} {Q : Int32 → gMem → Prop} {X : String → gMem → Prop} (h : BX2_agrees_61 i0 i1 t0 v Q X) : gS p l e ({ frames := 1, cells := 0, slots := 0, locals := 22 } : Room) s m args below meth c 3 L sz (vx_MQ below (gQi L sz Q) (gXC L sz X) args s 0 0 (gA L sz)) 0 0 61 [] [.int t0] v := by
  unfold BX2_agrees_61 at h
  exact g_iret C hr h.1 (Nat.le_of_ble_eq_true rfl) (Nat.le_of_ble_eq_true rfl) h.2 dX2_agrees_61
def BX2_agrees_40 (i0 : Nat) (i1 : Nat) (t0 : Int32) (v : gMem) (Q : Int32 → gMem → Prop) (X : String → gMem → Prop) : Prop := (narrow .boolean (.int t0) = .int t0 ∧ Q t0 v)
theorem sX2_agrees_40 (C : gC p l s m args meth c cX2_agrees 3 RX2 L sz) (hr : meth.sig.returnType = (some .boolean)) (hno : ∀ x ∈ c.exceptionTable.toList, False) {i0 : Nat} {i1 : Nat} (hi0 : i0 < 16) (hi1 : i1 < 16) {t0 : Int32} {v : gMem} {Q : Int32 → gMem → Prop} {X : String → gMem → Prop} (h : BX2_agrees_40 i0 i1 t0 v Q X) : gS p l e ({ frames := 1, cells := 0, slots := 0, locals := 22 } : Room) s m args below meth c 3 L sz (vx_MQ below (gQi L sz Q) (gXC L sz X) args s 0 0 (gA L sz)) 0 0 40 [] [.int t0] v := by
  unfold BX2_agrees_40 at h
  exact g_iret C hr h.1 (Nat.le_of_ble_eq_true rfl) (Nat.le_of_ble_eq_true rfl) h.2 dX2_agrees_40
def BX2_agrees_39 (i0 : Nat) (i1 : Nat) (v : gMem) (Q : Int32 → gMem → Prop) (X : String → gMem → Prop) : Prop := (BX2_agrees_40 i0 i1 0 v Q X)
theorem sX2_agrees_39 (C : gC p l s m args meth c cX2_agrees 3 RX2 L sz) (hr : meth.sig.returnType = (some .boolean)) (hno : ∀ x ∈ c.exceptionTable.toList, False) {i0 : Nat} {i1 : Nat} (hi0 : i0 < 16) (hi1 : i1 < 16) {v : gMem} {Q : Int32 → gMem → Prop} {X : String → gMem → Prop} (h : BX2_agrees_39 i0 i1 v Q X) : gS p l e ({ frames := 1, cells := 0, slots := 0, locals := 22 } : Room) s m args below meth c 3 L sz (vx_MQ below (gQi L sz Q) (gXC L sz X) args s 0 0 (gA L sz)) 0 0 39 [] [] v := by
  unfold BX2_agrees_39 at h
  refine g_iconst C 0 (by decide) dX2_agrees_39 ?_
  exact sX2_agrees_40 C hr hno hi0 hi1 h
def TX2_agrees (i0 : Nat) (i1 : Nat) (L2 : Int32) (v : gMem) (Q : Int32 → gMem → Prop) (X : String → gMem → Prop) : Prop := ((¬ L2 = 0 → (vp_in L2 4 ∧ (vp_in L2 4 ∧ ((¬ (v 23 i0 (Int32.toNatClampNeg L2)) = (v 23 i1 (Int32.toNatClampNeg L2)) → (BX2_agrees_61 i0 i1 0 v Q X)) ∧ ((v 23 i0 (Int32.toNatClampNeg L2)) = (v 23 i1 (Int32.toNatClampNeg L2)) → (BX2_agrees_61 i0 i1 1 v Q X)))))) ∧ (L2 = 0 → ((¬ (v 4 i0 1) = (v 4 i1 1) → (BX2_agrees_39 i0 i1 v Q X)) ∧ ((v 4 i0 1) = (v 4 i1 1) → (TX4_beginsWith i0 i1 v (fun r29 v29 => ((r29 = 0 → (BX2_agrees_39 i0 i1 v29 Q X)) ∧ (¬ r29 = 0 → (BX2_agrees_40 i0 i1 1 v29 Q X)))) X)))))
theorem kX2_agrees (l : Launch) (hfl : l.stackTraces = false) (L : gL) (hL : gDist L) {i0 : Nat} {i1 : Nat} (hi0 : i0 < 16) (hi1 : i1 < 16) (L2 : Int32) (v : gMem) (Q : Int32 → gMem → Prop) (X : String → gMem → Prop) (h : TX2_agrees i0 i1 L2 v Q X) (sz : Nat) : vx_Met l yX2_agrees [.code yX2_agrees cX2_agrees 3 (some .boolean)] ({ frames := 1, cells := 0, slots := 0, locals := 22 } : Room) (gPc L sz [.ref (L.2.1 2 i0), .ref (L.2.1 2 i1), .int L2] v) (gQi L sz Q) (gXC L sz X) 0 0 (gA L sz) := by
  refine g_ofW (by decide +kernel) hfl hL (Nat.le_of_ble_eq_true rfl) ?_
  intro p e s m args below meth c C hr hno
  refine g_sub [(0, .ref (L.2.1 2 i0)), (1, .ref (L.2.1 2 i1)), (2, .int L2)] [0, 1, 2] rfl ?_
  unfold TX2_agrees at h
  refine g_iload_n C 2 rfl 2 rfl dX2_agrees_0 ?_
  refine g_if_ne C 41 (by decide) dX2_agrees_1 (fun hc => ?_) (fun hc => ?_)
  · replace h := h.1 hc
    refine g_aload_n C 0 rfl 0 rfl dX2_agrees_41 ?_
    refine fgX2_18 C (gok_2 hi0) dX2_agrees_42 ?_
    refine g_iload_n C 2 rfl 2 rfl dX2_agrees_45 ?_
    obtain ⟨hb46, h⟩ := h
    refine g_iald C (gok_23 hi0) rfl hb46 dX2_agrees_46 ?_
    refine g_aload_n C 1 rfl 1 rfl dX2_agrees_47 ?_
    refine fgX2_18 C (gok_2 hi1) dX2_agrees_48 ?_
    refine g_iload_n C 2 rfl 2 rfl dX2_agrees_51 ?_
    obtain ⟨hb52, h⟩ := h
    refine g_iald C (gok_23 hi1) rfl hb52 dX2_agrees_52 ?_
    refine g_icmp_ne C 60 (by decide) dX2_agrees_53 (fun hc => ?_) (fun hc => ?_)
    · replace h := h.1 hc
      refine g_iconst C 0 (by decide) dX2_agrees_60 ?_
      refine g_sub [] [] rfl ?_
      exact sX2_agrees_61 C hr hno hi0 hi1 h
    · replace h := h.2 hc
      refine g_iconst C 1 (by decide) dX2_agrees_56 ?_
      refine g_goto C 61 (by decide) dX2_agrees_57 ?_
      refine g_sub [] [] rfl ?_
      exact sX2_agrees_61 C hr hno hi0 hi1 h
  · replace h := h.2 hc
    refine g_aload_n C 0 rfl 0 rfl dX2_agrees_4 ?_
    refine fgX2_12 C (gok_2 hi0) dX2_agrees_5 ?_
    refine fgX2_22 C (gok_4 (Nat.lt_of_lt_of_le hi0 (by decide))) dX2_agrees_8 ?_
    refine g_aload_n C 1 rfl 1 rfl dX2_agrees_11 ?_
    refine fgX2_12 C (gok_2 hi1) dX2_agrees_12 ?_
    refine fgX2_22 C (gok_4 (Nat.lt_of_lt_of_le hi1 (by decide))) dX2_agrees_15 ?_
    refine g_icmp_ne C 39 (by decide) dX2_agrees_18 (fun hc => ?_) (fun hc => ?_)
    · replace h := h.1 hc
      refine g_sub [] [] rfl ?_
      exact sX2_agrees_39 C hr hno hi0 hi1 h
    · replace h := h.2 hc
      refine g_aload_n C 0 rfl 0 rfl dX2_agrees_21 ?_
      refine fgX2_12 C (gok_2 hi0) dX2_agrees_22 ?_
      refine g_aload_n C 1 rfl 1 rfl dX2_agrees_25 ?_
      refine fgX2_12 C (gok_2 hi1) dX2_agrees_26 ?_
      refine g_callVi C hno (gok_4 (Nat.lt_of_lt_of_le hi0 (by decide))) rfl rfl [.ref (L.2.1 4 i1)] (fun sz9 => kX4_beginsWith l C.2.2.2.2.2.2.1 L C.2.2.2.2.2.2.2.1 (Nat.lt_of_lt_of_le hi0 (by decide)) (Nat.lt_of_lt_of_le hi1 (by decide)) v _ X h sz9) wml_RX2_26 winst_X4_beginsWith wsel_X4_beginsWith wini_RX4 wcode_X4_beginsWith rfl rfl (n := 1) (by decide +kernel) rfl ⟨(Nat.le_of_ble_eq_true rfl), (Nat.le_of_ble_eq_true rfl)⟩ ⟨(Nat.le_of_ble_eq_true rfl), (Nat.le_of_ble_eq_true rfl)⟩ ⟨(Nat.le_of_ble_eq_true rfl), (Nat.le_of_ble_eq_true rfl)⟩ (Nat.le_of_ble_eq_true rfl) dX2_agrees_29 (fun r29 v29 h => ?_)
      refine g_if_eq C 39 (by decide) dX2_agrees_32 (fun hc => ?_) (fun hc => ?_)
      · replace h := h.1 hc
        refine g_sub [] [] rfl ?_
        exact sX2_agrees_39 C hr hno hi0 hi1 h
      · replace h := h.2 hc
        refine g_iconst C 1 (by decide) dX2_agrees_35 ?_
        refine g_goto C 40 (by decide) dX2_agrees_36 ?_
        refine g_sub [] [] rfl ?_
        exact sX2_agrees_40 C hr hno hi0 hi1 h
def BX4_soundKey_13 (I13 : Int32 → Int32 → gMem → Prop) (i0 : Nat) (L1 : Int32) (L2 : Int32) (v : gMem) (Q : Int32 → gMem → Prop) (X : String → gMem → Prop) : Prop := (((v 4 i0 3) ≤ L2 → (Q L1 v)) ∧ (¬ (v 4 i0 3) ≤ L2 → (vp_in L2 4 ∧ (I13 ((L1 * 128) + (v 22 i0 (Int32.toNatClampNeg L2))) (L2 + 1) v))))
theorem sX4_soundKey_13 (C : gC p l s m args meth c cX4_soundKey 3 RX4 L sz) (hr : meth.sig.returnType = (some .int)) (hno : ∀ x ∈ c.exceptionTable.toList, False) {i0 : Nat} (hi0 : i0 < 17) {L1 : Int32} {L2 : Int32} {v : gMem} {Q : Int32 → gMem → Prop} {X : String → gMem → Prop} {I13 : Int32 → Int32 → gMem → Prop} (hI13 : ∀ (L1 : Int32) (L2 : Int32) (v : gMem), I13 L1 L2 v → gS p l e ({ frames := 0, cells := 0, slots := 0, locals := 0 } : Room) s m args below meth c 3 L sz (vx_MQ below (gQi L sz Q) (gXC L sz X) args s 0 0 (gA L sz)) 0 0 13 [(0, .ref (L.2.1 4 i0)), (1, .int L1), (2, .int L2)] [] v) (h : BX4_soundKey_13 I13 i0 L1 L2 v Q X) : gS p l e ({ frames := 0, cells := 0, slots := 0, locals := 0 } : Room) s m args below meth c 3 L sz (vx_MQ below (gQi L sz Q) (gXC L sz X) args s 0 0 (gA L sz)) 0 0 13 [(0, .ref (L.2.1 4 i0)), (1, .int L1), (2, .int L2)] [] v := by
  unfold BX4_soundKey_13 at h
  refine g_iload_n C 2 rfl 2 rfl dX4_soundKey_13 ?_
  refine g_aload_n C 0 rfl 0 rfl dX4_soundKey_14 ?_
  refine fgX4_30 C (gok_4 hi0) dX4_soundKey_15 ?_
  refine g_icmp_ge C 40 (by decide) dX4_soundKey_18 (fun hc => ?_) (fun hc => ?_)
  · replace h := h.1 hc
    refine g_iload_n C 1 rfl 1 rfl dX4_soundKey_40 ?_
    exact g_iret C hr rfl (Nat.le_of_ble_eq_true rfl) (Nat.le_of_ble_eq_true rfl) h dX4_soundKey_41
  · replace h := h.2 hc
    refine g_iload_n C 1 rfl 1 rfl dX4_soundKey_21 ?_
    refine g_sipush C 128 (by decide) dX4_soundKey_22 ?_
    refine g_imul C dX4_soundKey_25 ?_
    refine g_aload_n C 0 rfl 0 rfl dX4_soundKey_26 ?_
    refine fgX4_15 C (gok_4 hi0) dX4_soundKey_27 ?_
    refine g_iload_n C 2 rfl 2 rfl dX4_soundKey_30 ?_
    obtain ⟨hb31, h⟩ := h
    refine g_cald C (gok_22 hi0) rfl hb31 dX4_soundKey_31 ?_
    refine g_iadd C dX4_soundKey_32 ?_
    refine g_istore_n C 1 rfl [(1, .int ((L1 * 128) + (v 22 i0 (Int32.toNatClampNeg L2)))), (0, .ref (L.2.1 4 i0)), (2, .int L2)] (Nat.le_of_ble_eq_true rfl) rfl dX4_soundKey_33 ?_
    refine g_iinc C (k := 2) (L2 + 1) [(2, .int (L2 + 1)), (1, .int ((L1 * 128) + (v 22 i0 (Int32.toNatClampNeg L2)))), (0, .ref (L.2.1 4 i0))] rfl rfl (Nat.le_of_ble_eq_true rfl) rfl dX4_soundKey_34 ?_
    refine g_goto C 13 (by decide) dX4_soundKey_37 ?_
    refine g_sub [(0, .ref (L.2.1 4 i0)), (1, .int ((L1 * 128) + (v 22 i0 (Int32.toNatClampNeg L2)))), (2, .int (L2 + 1))] [2, 1, 0] rfl ?_
    exact hI13 _ _ _ h
def LX4_soundKey_13 (i0 : Nat) (L1 : Int32) (L2 : Int32) (v : gMem) (Q : Int32 → gMem → Prop) (X : String → gMem → Prop) : Prop := ∀ I13 : Int32 → Int32 → gMem → Prop, (∀ (L1 : Int32) (L2 : Int32) (v : gMem), BX4_soundKey_13 I13 i0 L1 L2 v Q X → I13 L1 L2 v) → I13 L1 L2 v
theorem slX4_soundKey_13 (C : gC p l s m args meth c cX4_soundKey 3 RX4 L sz) (hr : meth.sig.returnType = (some .int)) (hno : ∀ x ∈ c.exceptionTable.toList, False) {i0 : Nat} (hi0 : i0 < 17) {L1 : Int32} {L2 : Int32} {v : gMem} {Q : Int32 → gMem → Prop} {X : String → gMem → Prop} (h : LX4_soundKey_13 i0 L1 L2 v Q X) : gS p l e ({ frames := 0, cells := 0, slots := 0, locals := 0 } : Room) s m args below meth c 3 L sz (vx_MQ below (gQi L sz Q) (gXC L sz X) args s 0 0 (gA L sz)) 0 0 13 [(0, .ref (L.2.1 4 i0)), (1, .int L1), (2, .int L2)] [] v := by
  refine h (fun L1 L2 v => gS p l e ({ frames := 0, cells := 0, slots := 0, locals := 0 } : Room) s m args below meth c 3 L sz (vx_MQ below (gQi L sz Q) (gXC L sz X) args s 0 0 (gA L sz)) 0 0 13 [(0, .ref (L.2.1 4 i0)), (1, .int L1), (2, .int L2)] [] v) (fun L1 L2 v hb => ?_)
  exact sX4_soundKey_13 C hr hno hi0 (fun _ _ _ hs => hs) hb
def TX4_soundKey (i0 : Nat) (v : gMem) (Q : Int32 → gMem → Prop) (X : String → gMem → Prop) : Prop := ((¬ (v 4 i0 1) = 0 → (LX4_soundKey_13 i0 0 0 v Q X)) ∧ ((v 4 i0 1) = 0 → (Q (-1) v)))
theorem kX4_soundKey (l : Launch) (hfl : l.stackTraces = false) (L : gL) (hL : gDist L) {i0 : Nat} (hi0 : i0 < 17) (v : gMem) (Q : Int32 → gMem → Prop) (X : String → gMem → Prop) (h : TX4_soundKey i0 v Q X) (sz : Nat) : vx_Met l yX4_soundKey [.code yX4_soundKey cX4_soundKey 3 (some .int)] ({ frames := 0, cells := 0, slots := 0, locals := 0 } : Room) (gPc L sz [.ref (L.2.1 4 i0)] v) (gQi L sz Q) (gXC L sz X) 0 0 (gA L sz) := by
  refine g_ofW (by decide +kernel) hfl hL (Nat.le_of_ble_eq_true rfl) ?_
  intro p e s m args below meth c C hr hno
  refine g_sub [(0, .ref (L.2.1 4 i0))] [0] rfl ?_
  unfold TX4_soundKey at h
  refine g_aload_n C 0 rfl 0 rfl dX4_soundKey_0 ?_
  refine fgX4_18 C (gok_4 hi0) dX4_soundKey_1 ?_
  refine g_if_ne C 9 (by decide) dX4_soundKey_4 (fun hc => ?_) (fun hc => ?_)
  · replace h := h.1 hc
    refine g_iconst C 0 (by decide) dX4_soundKey_9 ?_
    refine g_istore_n C 1 rfl [(1, .int 0), (0, .ref (L.2.1 4 i0))] (Nat.le_of_ble_eq_true rfl) rfl dX4_soundKey_10 ?_
    refine g_iconst C 0 (by decide) dX4_soundKey_11 ?_
    refine g_istore_n C 2 rfl [(2, .int 0), (1, .int 0), (0, .ref (L.2.1 4 i0))] (Nat.le_of_ble_eq_true rfl) rfl dX4_soundKey_12 ?_
    refine g_sub [(0, .ref (L.2.1 4 i0)), (1, .int 0), (2, .int 0)] [2, 1, 0] rfl ?_
    exact slX4_soundKey_13 C hr hno hi0 h
  · replace h := h.2 hc
    refine g_iconst C (-1) (by decide) dX4_soundKey_7 ?_
    exact g_iret C hr rfl (Nat.le_of_ble_eq_true rfl) (Nat.le_of_ble_eq_true rfl) h dX4_soundKey_8
def BX2_key_20 (i0 : Nat) (t0 : Int32) (v : gMem) (Q : Int32 → gMem → Prop) (X : String → gMem → Prop) : Prop := (Q t0 v)
theorem sX2_key_20 (C : gC p l s m args meth c cX2_key 2 RX2 L sz) (hr : meth.sig.returnType = (some .int)) (hno : ∀ x ∈ c.exceptionTable.toList, False) {i0 : Nat} (hi0 : i0 < 16) {t0 : Int32} {v : gMem} {Q : Int32 → gMem → Prop} {X : String → gMem → Prop} (h : BX2_key_20 i0 t0 v Q X) : gS p l e ({ frames := 1, cells := 0, slots := 0, locals := 22 } : Room) s m args below meth c 2 L sz (vx_MQ below (gQi L sz Q) (gXC L sz X) args s 0 0 (gA L sz)) 0 0 20 [] [.int t0] v := by
  unfold BX2_key_20 at h
  exact g_iret C hr rfl (Nat.le_of_ble_eq_true rfl) (Nat.le_of_ble_eq_true rfl) h dX2_key_20
def TX2_key (i0 : Nat) (L1 : Int32) (v : gMem) (Q : Int32 → gMem → Prop) (X : String → gMem → Prop) : Prop := ((¬ L1 = 0 → (vp_in L1 4 ∧ (BX2_key_20 i0 (v 23 i0 (Int32.toNatClampNeg L1)) v Q X))) ∧ (L1 = 0 → (TX4_soundKey i0 v (fun r8 v8 => (BX2_key_20 i0 r8 v8 Q X)) X)))
theorem kX2_key (l : Launch) (hfl : l.stackTraces = false) (L : gL) (hL : gDist L) {i0 : Nat} (hi0 : i0 < 16) (L1 : Int32) (v : gMem) (Q : Int32 → gMem → Prop) (X : String → gMem → Prop) (h : TX2_key i0 L1 v Q X) (sz : Nat) : vx_Met l yX2_key [.code yX2_key cX2_key 2 (some .int)] ({ frames := 1, cells := 0, slots := 0, locals := 22 } : Room) (gPc L sz [.ref (L.2.1 2 i0), .int L1] v) (gQi L sz Q) (gXC L sz X) 0 0 (gA L sz) := by
  refine g_ofW (by decide +kernel) hfl hL (Nat.le_of_ble_eq_true rfl) ?_
  intro p e s m args below meth c C hr hno
  refine g_sub [(0, .ref (L.2.1 2 i0)), (1, .int L1)] [0, 1] rfl ?_
  unfold TX2_key at h
  refine g_iload_n C 1 rfl 1 rfl dX2_key_0 ?_
  refine g_if_ne C 14 (by decide) dX2_key_1 (fun hc => ?_) (fun hc => ?_)
  · replace h := h.1 hc
    refine g_aload_n C 0 rfl 0 rfl dX2_key_14 ?_
    refine fgX2_18 C (gok_2 hi0) dX2_key_15 ?_
    refine g_iload_n C 1 rfl 1 rfl dX2_key_18 ?_
    obtain ⟨hb19, h⟩ := h
    refine g_iald C (gok_23 hi0) rfl hb19 dX2_key_19 ?_
    refine g_sub [] [] rfl ?_
    exact sX2_key_20 C hr hno hi0 h
  · replace h := h.2 hc
    refine g_aload_n C 0 rfl 0 rfl dX2_key_4 ?_
    refine fgX2_12 C (gok_2 hi0) dX2_key_5 ?_
    refine g_callVi C hno (gok_4 (Nat.lt_of_lt_of_le hi0 (by decide))) rfl rfl [] (fun sz9 => kX4_soundKey l C.2.2.2.2.2.2.1 L C.2.2.2.2.2.2.2.1 (Nat.lt_of_lt_of_le hi0 (by decide)) v _ X h sz9) wml_RX2_30 winst_X4_soundKey wsel_X4_soundKey wini_RX4 wcode_X4_soundKey rfl rfl (n := 0) (by decide +kernel) rfl ⟨(Nat.le_of_ble_eq_true rfl), (Nat.le_of_ble_eq_true rfl)⟩ ⟨(Nat.le_of_ble_eq_true rfl), (Nat.le_of_ble_eq_true rfl)⟩ ⟨(Nat.le_of_ble_eq_true rfl), (Nat.le_of_ble_eq_true rfl)⟩ (Nat.le_of_ble_eq_true rfl) dX2_key_8 (fun r8 v8 h => ?_)
    refine g_goto C 20 (by decide) dX2_key_11 ?_
    refine g_sub [] [] rfl ?_
    exact sX2_key_20 C hr hno hi0 h
def BX3_isFull_14 (t0 : Int32) (v : gMem) (Q : Int32 → gMem → Prop) (X : String → gMem → Prop) : Prop := (narrow .boolean (.int t0) = .int t0 ∧ Q t0 v)
theorem sX3_isFull_14 (C : gC p l s m args meth c cX3_isFull 1 RX3 L sz) (hr : meth.sig.returnType = (some .boolean)) (hno : ∀ x ∈ c.exceptionTable.toList, False) {t0 : Int32} {v : gMem} {Q : Int32 → gMem → Prop} {X : String → gMem → Prop} (h : BX3_isFull_14 t0 v Q X) : gS p l e ({ frames := 0, cells := 0, slots := 0, locals := 0 } : Room) s m args below meth c 1 L sz (vx_MQ below (gQi L sz Q) (gXC L sz X) args s 0 0 (gA L sz)) 0 0 14 [] [.int t0] v := by
  unfold BX3_isFull_14 at h
  exact g_iret C hr h.1 (Nat.le_of_ble_eq_true rfl) (Nat.le_of_ble_eq_true rfl) h.2 dX3_isFull_14
def TX3_isFull (v : gMem) (Q : Int32 → gMem → Prop) (X : String → gMem → Prop) : Prop := (((v 3 0 3) < 30 → (BX3_isFull_14 0 v Q X)) ∧ (¬ (v 3 0 3) < 30 → (BX3_isFull_14 1 v Q X)))
theorem kX3_isFull (l : Launch) (hfl : l.stackTraces = false) (L : gL) (hL : gDist L) (v : gMem) (Q : Int32 → gMem → Prop) (X : String → gMem → Prop) (h : TX3_isFull v Q X) (sz : Nat) : vx_Met l yX3_isFull [.code yX3_isFull cX3_isFull 1 (some .boolean)] ({ frames := 0, cells := 0, slots := 0, locals := 0 } : Room) (gPc L sz [.ref (L.2.1 3 0)] v) (gQi L sz Q) (gXC L sz X) 0 0 (gA L sz) := by
  refine g_ofW (by decide +kernel) hfl hL (Nat.le_of_ble_eq_true rfl) ?_
  intro p e s m args below meth c C hr hno
  refine g_sub [(0, .ref (L.2.1 3 0))] [0] rfl ?_
  unfold TX3_isFull at h
  refine g_aload_n C 0 rfl 0 rfl dX3_isFull_0 ?_
  refine fgX3_32 C dX3_isFull_1 ?_
  refine g_bipush C 30 (by decide) dX3_isFull_4 ?_
  refine g_icmp_lt C 13 (by decide) dX3_isFull_6 (fun hc => ?_) (fun hc => ?_)
  · replace h := h.1 hc
    refine g_iconst C 0 (by decide) dX3_isFull_13 ?_
    refine g_sub [] [] rfl ?_
    exact sX3_isFull_14 C hr hno h
  · replace h := h.2 hc
    refine g_iconst C 1 (by decide) dX3_isFull_9 ?_
    refine g_goto C 14 (by decide) dX3_isFull_10 ?_
    refine g_sub [] [] rfl ?_
    exact sX3_isFull_14 C hr hno h
def TX5_tie (i0 : Nat) (L1 : Int32) (L2 : Int32) (v : gMem) (Q : gMem → Prop) (X : String → gMem → Prop) : Prop := (vp_in L1 16 ∧ (vp_in L1 16 ∧ (vp_in L2 16 ∧ (vp_in L2 16 ∧ (Q (gw (gw v 16 i0 (Int32.toNatClampNeg L1) ((v 16 i0 (Int32.toNatClampNeg L1)) ||| (1 <<< (L2 &&& 31)))) 16 i0 (Int32.toNatClampNeg L2) (((gw v 16 i0 (Int32.toNatClampNeg L1) ((v 16 i0 (Int32.toNatClampNeg L1)) ||| (1 <<< (L2 &&& 31)))) 16 i0 (Int32.toNatClampNeg L2)) ||| (1 <<< (L1 &&& 31)))))))))
theorem kX5_tie (l : Launch) (hfl : l.stackTraces = false) (L : gL) (hL : gDist L) {i0 : Nat} (hi0 : i0 < 2) (L1 : Int32) (L2 : Int32) (v : gMem) (Q : gMem → Prop) (X : String → gMem → Prop) (h : TX5_tie i0 L1 L2 v Q X) (sz : Nat) : vx_Met l yX5_tie [.code yX5_tie cX5_tie 3 none] ({ frames := 0, cells := 0, slots := 0, locals := 0 } : Room) (gPc L sz [.ref (L.2.1 5 i0), .int L1, .int L2] v) (gQv L sz Q) (gXC L sz X) 0 0 (gA L sz) := by
  refine g_ofW (by decide +kernel) hfl hL (Nat.le_of_ble_eq_true rfl) ?_
  intro p e s m args below meth c C hr hno
  refine g_sub [(0, .ref (L.2.1 5 i0)), (1, .int L1), (2, .int L2)] [0, 1, 2] rfl ?_
  unfold TX5_tie at h
  refine g_aload_n C 0 rfl 0 rfl dX5_tie_0 ?_
  refine fgX5_9 C (gok_5 hi0) dX5_tie_1 ?_
  refine g_iload_n C 1 rfl 1 rfl dX5_tie_4 ?_
  refine g_dup2 C rfl rfl dX5_tie_5 ?_
  obtain ⟨hb6, h⟩ := h
  refine g_iald C (gok_16 hi0) rfl hb6 dX5_tie_6 ?_
  refine g_iconst C 1 (by decide) dX5_tie_7 ?_
  refine g_iload_n C 2 rfl 2 rfl dX5_tie_8 ?_
  refine g_ishl C dX5_tie_9 ?_
  refine g_ior C dX5_tie_10 ?_
  obtain ⟨hb11, h⟩ := h
  refine g_iast C (gok_16 hi0) (fun _ => rfl) hb11 dX5_tie_11 ?_
  refine g_aload_n C 0 rfl 0 rfl dX5_tie_12 ?_
  refine fgX5_9 C (gok_5 hi0) dX5_tie_13 ?_
  refine g_iload_n C 2 rfl 2 rfl dX5_tie_16 ?_
  refine g_dup2 C rfl rfl dX5_tie_17 ?_
  obtain ⟨hb18, h⟩ := h
  refine g_iald C (gok_16 hi0) rfl hb18 dX5_tie_18 ?_
  refine g_iconst C 1 (by decide) dX5_tie_19 ?_
  refine g_iload_n C 1 rfl 1 rfl dX5_tie_20 ?_
  refine g_ishl C dX5_tie_21 ?_
  refine g_ior C dX5_tie_22 ?_
  obtain ⟨hb23, h⟩ := h
  refine g_iast C (gok_16 hi0) (fun _ => rfl) hb23 dX5_tie_23 ?_
  exact g_vret C hr (Nat.le_of_ble_eq_true rfl) (Nat.le_of_ble_eq_true rfl) h dX5_tie_24
def TX3_make (L1 : Int32) (L2 : Int32) (v : gMem) (Q : Int32 → gMem → Prop) (X : String → gMem → Prop) : Prop := (TX3_isFull v (fun r1 v1 => ((r1 = 0 → (vp_in (v1 3 0 3) 30 ∧ (vp_in ((gw v1 17 0 (Int32.toNatClampNeg (v1 3 0 3)) L1) 3 0 3) 30 ∧ (vp_in ((gw (gw v1 17 0 (Int32.toNatClampNeg (v1 3 0 3)) L1) 18 0 (Int32.toNatClampNeg ((gw v1 17 0 (Int32.toNatClampNeg (v1 3 0 3)) L1) 3 0 3)) L2) 3 0 3) 30 ∧ (TX5_tie 1 L1 L2 (gw (gw (gw v1 17 0 (Int32.toNatClampNeg (v1 3 0 3)) L1) 18 0 (Int32.toNatClampNeg ((gw v1 17 0 (Int32.toNatClampNeg (v1 3 0 3)) L1) 3 0 3)) L2) 19 0 (Int32.toNatClampNeg ((gw (gw v1 17 0 (Int32.toNatClampNeg (v1 3 0 3)) L1) 18 0 (Int32.toNatClampNeg ((gw v1 17 0 (Int32.toNatClampNeg (v1 3 0 3)) L1) 3 0 3)) L2) 3 0 3)) (vp_nar .boolean 1)) (fun v45 => (Q (((gw v45 3 0 3 ((v45 3 0 3) + 1)) 3 0 3) - 1) (gw v45 3 0 3 ((v45 3 0 3) + 1)))) X))))) ∧ (¬ r1 = 0 → (Q (-1) v1)))) X)
theorem kX3_make (l : Launch) (hfl : l.stackTraces = false) (L : gL) (hL : gDist L) (L1 : Int32) (L2 : Int32) (v : gMem) (Q : Int32 → gMem → Prop) (X : String → gMem → Prop) (h : TX3_make L1 L2 v Q X) (sz : Nat) : vx_Met l yX3_make [.code yX3_make cX3_make 3 (some .int)] ({ frames := 1, cells := 0, slots := 0, locals := 22 } : Room) (gPc L sz [.ref (L.2.1 3 0), .int L1, .int L2] v) (gQi L sz Q) (gXC L sz X) 0 0 (gA L sz) := by
  refine g_ofW (by decide +kernel) hfl hL (Nat.le_of_ble_eq_true rfl) ?_
  intro p e s m args below meth c C hr hno
  refine g_sub [(0, .ref (L.2.1 3 0)), (1, .int L1), (2, .int L2)] [0, 1, 2] rfl ?_
  unfold TX3_make at h
  refine g_aload_n C 0 rfl 0 rfl dX3_make_0 ?_
  refine g_callVi C hno gok_3 rfl rfl [] (fun sz9 => kX3_isFull l C.2.2.2.2.2.2.1 L C.2.2.2.2.2.2.2.1 v _ X h sz9) wml_RX3_36 winst_X3_isFull wsel_X3_isFull wini_RX3 wcode_X3_isFull rfl rfl (n := 0) (by decide +kernel) rfl ⟨(Nat.le_of_ble_eq_true rfl), (Nat.le_of_ble_eq_true rfl)⟩ ⟨(Nat.le_of_ble_eq_true rfl), (Nat.le_of_ble_eq_true rfl)⟩ ⟨(Nat.le_of_ble_eq_true rfl), (Nat.le_of_ble_eq_true rfl)⟩ (Nat.le_of_ble_eq_true rfl) dX3_make_1 (fun r1 v1 h => ?_)
  refine g_if_eq C 9 (by decide) dX3_make_4 (fun hc => ?_) (fun hc => ?_)
  · replace h := h.1 hc
    refine g_aload_n C 0 rfl 0 rfl dX3_make_9 ?_
    refine fgX3_9 C dX3_make_10 ?_
    refine g_aload_n C 0 rfl 0 rfl dX3_make_13 ?_
    refine fgX3_32 C dX3_make_14 ?_
    refine g_iload_n C 1 rfl 1 rfl dX3_make_17 ?_
    obtain ⟨hb18, h⟩ := h
    refine g_iast C gok_17 (fun _ => rfl) hb18 dX3_make_18 ?_
    refine g_aload_n C 0 rfl 0 rfl dX3_make_19 ?_
    refine fgX3_15 C dX3_make_20 ?_
    refine g_aload_n C 0 rfl 0 rfl dX3_make_23 ?_
    refine fgX3_32 C dX3_make_24 ?_
    refine g_iload_n C 2 rfl 2 rfl dX3_make_27 ?_
    obtain ⟨hb28, h⟩ := h
    refine g_iast C gok_18 (fun _ => rfl) hb28 dX3_make_28 ?_
    refine g_aload_n C 0 rfl 0 rfl dX3_make_29 ?_
    refine fgX3_18 C dX3_make_30 ?_
    refine g_aload_n C 0 rfl 0 rfl dX3_make_33 ?_
    refine fgX3_32 C dX3_make_34 ?_
    refine g_iconst C 1 (by decide) dX3_make_37 ?_
    obtain ⟨hb38, h⟩ := h
    refine g_zast C gok_19 (fun _ => rfl) hb38 dX3_make_38 ?_
    refine g_aload_n C 0 rfl 0 rfl dX3_make_39 ?_
    refine fgX3_25 C dX3_make_40 ?_
    refine g_iload_n C 1 rfl 1 rfl dX3_make_43 ?_
    refine g_iload_n C 2 rfl 2 rfl dX3_make_44 ?_
    refine g_callVv C hno (gok_5 (by decide : 1 < 2)) rfl rfl [.int L1, .int L2] (fun sz9 => kX5_tie l C.2.2.2.2.2.2.1 L C.2.2.2.2.2.2.2.1 (by decide : 1 < 2) L1 L2 (gw (gw (gw v1 17 0 (Int32.toNatClampNeg (v1 3 0 3)) L1) 18 0 (Int32.toNatClampNeg ((gw v1 17 0 (Int32.toNatClampNeg (v1 3 0 3)) L1) 3 0 3)) L2) 19 0 (Int32.toNatClampNeg ((gw (gw v1 17 0 (Int32.toNatClampNeg (v1 3 0 3)) L1) 18 0 (Int32.toNatClampNeg ((gw v1 17 0 (Int32.toNatClampNeg (v1 3 0 3)) L1) 3 0 3)) L2) 3 0 3)) (vp_nar .boolean 1)) _ X h sz9) wml_RX3_40 winst_X5_tie wsel_X5_tie wini_RX5 wcode_X5_tie rfl rfl (n := 2) (by decide +kernel) rfl ⟨(Nat.le_of_ble_eq_true rfl), (Nat.le_of_ble_eq_true rfl)⟩ ⟨(Nat.le_of_ble_eq_true rfl), (Nat.le_of_ble_eq_true rfl)⟩ ⟨(Nat.le_of_ble_eq_true rfl), (Nat.le_of_ble_eq_true rfl)⟩ (Nat.le_of_ble_eq_true rfl) dX3_make_45 (fun v45 h => ?_)
    refine g_aload_n C 0 rfl 0 rfl dX3_make_48 ?_
    refine g_dup C rfl dX3_make_49 ?_
    refine fgX3_32 C dX3_make_50 ?_
    refine g_iconst C 1 (by decide) dX3_make_53 ?_
    refine g_iadd C dX3_make_54 ?_
    refine fpX3_32 C dX3_make_55 ?_
    refine g_aload_n C 0 rfl 0 rfl dX3_make_58 ?_
    refine fgX3_32 C dX3_make_59 ?_
    refine g_iconst C 1 (by decide) dX3_make_62 ?_
    refine g_isub C dX3_make_63 ?_
    exact g_iret C hr rfl (Nat.le_of_ble_eq_true rfl) (Nat.le_of_ble_eq_true rfl) h dX3_make_64
  · replace h := h.2 hc
    refine g_iconst C (-1) (by decide) dX3_make_7 ?_
    exact g_iret C hr rfl (Nat.le_of_ble_eq_true rfl) (Nat.le_of_ble_eq_true rfl) h dX3_make_8
def TX5_cut (i0 : Nat) (L1 : Int32) (L2 : Int32) (v : gMem) (Q : gMem → Prop) (X : String → gMem → Prop) : Prop := (vp_in L1 16 ∧ (vp_in L1 16 ∧ (vp_in L2 16 ∧ (vp_in L2 16 ∧ (Q (gw (gw v 16 i0 (Int32.toNatClampNeg L1) ((v 16 i0 (Int32.toNatClampNeg L1)) &&& ((1 <<< (L2 &&& 31)) ^^^ (-1)))) 16 i0 (Int32.toNatClampNeg L2) (((gw v 16 i0 (Int32.toNatClampNeg L1) ((v 16 i0 (Int32.toNatClampNeg L1)) &&& ((1 <<< (L2 &&& 31)) ^^^ (-1)))) 16 i0 (Int32.toNatClampNeg L2)) &&& ((1 <<< (L1 &&& 31)) ^^^ (-1)))))))))
theorem kX5_cut (l : Launch) (hfl : l.stackTraces = false) (L : gL) (hL : gDist L) {i0 : Nat} (hi0 : i0 < 2) (L1 : Int32) (L2 : Int32) (v : gMem) (Q : gMem → Prop) (X : String → gMem → Prop) (h : TX5_cut i0 L1 L2 v Q X) (sz : Nat) : vx_Met l yX5_cut [.code yX5_cut cX5_cut 3 none] ({ frames := 0, cells := 0, slots := 0, locals := 0 } : Room) (gPc L sz [.ref (L.2.1 5 i0), .int L1, .int L2] v) (gQv L sz Q) (gXC L sz X) 0 0 (gA L sz) := by
  refine g_ofW (by decide +kernel) hfl hL (Nat.le_of_ble_eq_true rfl) ?_
  intro p e s m args below meth c C hr hno
  refine g_sub [(0, .ref (L.2.1 5 i0)), (1, .int L1), (2, .int L2)] [0, 1, 2] rfl ?_
  unfold TX5_cut at h
  refine g_aload_n C 0 rfl 0 rfl dX5_cut_0 ?_
  refine fgX5_9 C (gok_5 hi0) dX5_cut_1 ?_
  refine g_iload_n C 1 rfl 1 rfl dX5_cut_4 ?_
  refine g_dup2 C rfl rfl dX5_cut_5 ?_
  obtain ⟨hb6, h⟩ := h
  refine g_iald C (gok_16 hi0) rfl hb6 dX5_cut_6 ?_
  refine g_iconst C 1 (by decide) dX5_cut_7 ?_
  refine g_iload_n C 2 rfl 2 rfl dX5_cut_8 ?_
  refine g_ishl C dX5_cut_9 ?_
  refine g_iconst C (-1) (by decide) dX5_cut_10 ?_
  refine g_ixor C dX5_cut_11 ?_
  refine g_iand C dX5_cut_12 ?_
  obtain ⟨hb13, h⟩ := h
  refine g_iast C (gok_16 hi0) (fun _ => rfl) hb13 dX5_cut_13 ?_
  refine g_aload_n C 0 rfl 0 rfl dX5_cut_14 ?_
  refine fgX5_9 C (gok_5 hi0) dX5_cut_15 ?_
  refine g_iload_n C 2 rfl 2 rfl dX5_cut_18 ?_
  refine g_dup2 C rfl rfl dX5_cut_19 ?_
  obtain ⟨hb20, h⟩ := h
  refine g_iald C (gok_16 hi0) rfl hb20 dX5_cut_20 ?_
  refine g_iconst C 1 (by decide) dX5_cut_21 ?_
  refine g_iload_n C 1 rfl 1 rfl dX5_cut_22 ?_
  refine g_ishl C dX5_cut_23 ?_
  refine g_iconst C (-1) (by decide) dX5_cut_24 ?_
  refine g_ixor C dX5_cut_25 ?_
  refine g_iand C dX5_cut_26 ?_
  obtain ⟨hb27, h⟩ := h
  refine g_iast C (gok_16 hi0) (fun _ => rfl) hb27 dX5_cut_27 ?_
  exact g_vret C hr (Nat.le_of_ble_eq_true rfl) (Nat.le_of_ble_eq_true rfl) h dX5_cut_28
def TX3_takeBack (L1 : Int32) (v : gMem) (Q : gMem → Prop) (X : String → gMem → Prop) : Prop := (vp_in L1 30 ∧ (vp_in L1 30 ∧ (vp_in L1 30 ∧ (TX5_cut 1 ((gw v 19 0 (Int32.toNatClampNeg L1) (vp_nar .boolean 0)) 17 0 (Int32.toNatClampNeg L1)) ((gw v 19 0 (Int32.toNatClampNeg L1) (vp_nar .boolean 0)) 18 0 (Int32.toNatClampNeg L1)) (gw v 19 0 (Int32.toNatClampNeg L1) (vp_nar .boolean 0)) (fun v23 => (Q v23)) X))))
theorem kX3_takeBack (l : Launch) (hfl : l.stackTraces = false) (L : gL) (hL : gDist L) (L1 : Int32) (v : gMem) (Q : gMem → Prop) (X : String → gMem → Prop) (h : TX3_takeBack L1 v Q X) (sz : Nat) : vx_Met l yX3_takeBack [.code yX3_takeBack cX3_takeBack 2 none] ({ frames := 1, cells := 0, slots := 0, locals := 22 } : Room) (gPc L sz [.ref (L.2.1 3 0), .int L1] v) (gQv L sz Q) (gXC L sz X) 0 0 (gA L sz) := by
  refine g_ofW (by decide +kernel) hfl hL (Nat.le_of_ble_eq_true rfl) ?_
  intro p e s m args below meth c C hr hno
  refine g_sub [(0, .ref (L.2.1 3 0)), (1, .int L1)] [0, 1] rfl ?_
  unfold TX3_takeBack at h
  refine g_aload_n C 0 rfl 0 rfl dX3_takeBack_0 ?_
  refine fgX3_18 C dX3_takeBack_1 ?_
  refine g_iload_n C 1 rfl 1 rfl dX3_takeBack_4 ?_
  refine g_iconst C 0 (by decide) dX3_takeBack_5 ?_
  obtain ⟨hb6, h⟩ := h
  refine g_zast C gok_19 (fun _ => rfl) hb6 dX3_takeBack_6 ?_
  refine g_aload_n C 0 rfl 0 rfl dX3_takeBack_7 ?_
  refine fgX3_25 C dX3_takeBack_8 ?_
  refine g_aload_n C 0 rfl 0 rfl dX3_takeBack_11 ?_
  refine fgX3_9 C dX3_takeBack_12 ?_
  refine g_iload_n C 1 rfl 1 rfl dX3_takeBack_15 ?_
  obtain ⟨hb16, h⟩ := h
  refine g_iald C gok_17 rfl hb16 dX3_takeBack_16 ?_
  refine g_aload_n C 0 rfl 0 rfl dX3_takeBack_17 ?_
  refine fgX3_15 C dX3_takeBack_18 ?_
  refine g_iload_n C 1 rfl 1 rfl dX3_takeBack_21 ?_
  obtain ⟨hb22, h⟩ := h
  refine g_iald C gok_18 rfl hb22 dX3_takeBack_22 ?_
  refine g_callVv C hno (gok_5 (by decide : 1 < 2)) rfl rfl [.int ((gw v 19 0 (Int32.toNatClampNeg L1) (vp_nar .boolean 0)) 17 0 (Int32.toNatClampNeg L1)), .int ((gw v 19 0 (Int32.toNatClampNeg L1) (vp_nar .boolean 0)) 18 0 (Int32.toNatClampNeg L1))] (fun sz9 => kX5_cut l C.2.2.2.2.2.2.1 L C.2.2.2.2.2.2.2.1 (by decide : 1 < 2) ((gw v 19 0 (Int32.toNatClampNeg L1) (vp_nar .boolean 0)) 17 0 (Int32.toNatClampNeg L1)) ((gw v 19 0 (Int32.toNatClampNeg L1) (vp_nar .boolean 0)) 18 0 (Int32.toNatClampNeg L1)) (gw v 19 0 (Int32.toNatClampNeg L1) (vp_nar .boolean 0)) _ X h sz9) wml_RX3_44 winst_X5_cut wsel_X5_cut wini_RX5 wcode_X5_cut rfl rfl (n := 2) (by decide +kernel) rfl ⟨(Nat.le_of_ble_eq_true rfl), (Nat.le_of_ble_eq_true rfl)⟩ ⟨(Nat.le_of_ble_eq_true rfl), (Nat.le_of_ble_eq_true rfl)⟩ ⟨(Nat.le_of_ble_eq_true rfl), (Nat.le_of_ble_eq_true rfl)⟩ (Nat.le_of_ble_eq_true rfl) dX3_takeBack_23 (fun v23 h => ?_)
  exact g_vret C hr (Nat.le_of_ble_eq_true rfl) (Nat.le_of_ble_eq_true rfl) h dX3_takeBack_26
def BX6_contains_13 (t0 : Int32) (v : gMem) (Q : Int32 → gMem → Prop) (X : String → gMem → Prop) : Prop := (narrow .boolean (.int t0) = .int t0 ∧ Q t0 v)
theorem sX6_contains_13 (C : gC p l s m args meth c cX6_contains 2 RX6 L sz) (hr : meth.sig.returnType = (some .boolean)) (hno : ∀ x ∈ c.exceptionTable.toList, False) {t0 : Int32} {v : gMem} {Q : Int32 → gMem → Prop} {X : String → gMem → Prop} (h : BX6_contains_13 t0 v Q X) : gS p l e ({ frames := 0, cells := 0, slots := 0, locals := 0 } : Room) s m args below meth c 2 L sz (vx_MQ below (gQi L sz Q) (gXC L sz X) args s 0 0 (gA L sz)) 0 0 13 [] [.int t0] v := by
  unfold BX6_contains_13 at h
  exact g_iret C hr h.1 (Nat.le_of_ble_eq_true rfl) (Nat.le_of_ble_eq_true rfl) h.2 dX6_contains_13
def TX6_contains (L0 : Int32) (L1 : Int32) (v : gMem) (Q : Int32 → gMem → Prop) (X : String → gMem → Prop) : Prop := ((((L0 >>> (L1 &&& 31)) &&& 1) = 0 → (BX6_contains_13 0 v Q X)) ∧ (¬ ((L0 >>> (L1 &&& 31)) &&& 1) = 0 → (BX6_contains_13 1 v Q X)))
theorem kX6_contains (l : Launch) (hfl : l.stackTraces = false) (L : gL) (hL : gDist L) (L0 : Int32) (L1 : Int32) (v : gMem) (Q : Int32 → gMem → Prop) (X : String → gMem → Prop) (h : TX6_contains L0 L1 v Q X) (sz : Nat) : vx_Met l yX6_contains [.code yX6_contains cX6_contains 2 (some .boolean)] ({ frames := 0, cells := 0, slots := 0, locals := 0 } : Room) (gPc L sz [.int L0, .int L1] v) (gQi L sz Q) (gXC L sz X) 0 0 (gA L sz) := by
  refine g_ofW (by decide +kernel) hfl hL (Nat.le_of_ble_eq_true rfl) ?_
  intro p e s m args below meth c C hr hno
  refine g_sub [(0, .int L0), (1, .int L1)] [0, 1] rfl ?_
  unfold TX6_contains at h
  refine g_iload_n C 0 rfl 0 rfl dX6_contains_0 ?_
  refine g_iload_n C 1 rfl 1 rfl dX6_contains_1 ?_
  refine g_ishr C dX6_contains_2 ?_
  refine g_iconst C 1 (by decide) dX6_contains_3 ?_
  refine g_iand C dX6_contains_4 ?_
  refine g_if_eq C 12 (by decide) dX6_contains_5 (fun hc => ?_) (fun hc => ?_)
  · replace h := h.1 hc
    refine g_iconst C 0 (by decide) dX6_contains_12 ?_
    refine g_sub [] [] rfl ?_
    exact sX6_contains_13 C hr hno h
  · replace h := h.2 hc
    refine g_iconst C 1 (by decide) dX6_contains_8 ?_
    refine g_goto C 13 (by decide) dX6_contains_9 ?_
    refine g_sub [] [] rfl ?_
    exact sX6_contains_13 C hr hno h
def BX5_partnersOfAll_27 (I4 : Int32 → Int32 → gMem → Prop) (i0 : Nat) (L1 : Int32) (L2 : Int32) (L3 : Int32) (v : gMem) (Q : Int32 → gMem → Prop) (X : String → gMem → Prop) : Prop := (I4 L2 (L3 + 1) v)
theorem sX5_partnersOfAll_27 (C : gC p l s m args meth c cX5_partnersOfAll 4 RX5 L sz) (hr : meth.sig.returnType = (some .int)) (hno : ∀ x ∈ c.exceptionTable.toList, False) {i0 : Nat} (hi0 : i0 < 2) {L1 : Int32} {L2 : Int32} {L3 : Int32} {v : gMem} {Q : Int32 → gMem → Prop} {X : String → gMem → Prop} {I4 : Int32 → Int32 → gMem → Prop} (hI4 : ∀ (L2 : Int32) (L3 : Int32) (v : gMem), I4 L2 L3 v → gS p l e ({ frames := 1, cells := 0, slots := 0, locals := 21 } : Room) s m args below meth c 4 L sz (vx_MQ below (gQi L sz Q) (gXC L sz X) args s 0 0 (gA L sz)) 0 0 4 [(0, .ref (L.2.1 5 i0)), (1, .int L1), (2, .int L2), (3, .int L3)] [] v) (h : BX5_partnersOfAll_27 I4 i0 L1 L2 L3 v Q X) : gS p l e ({ frames := 1, cells := 0, slots := 0, locals := 21 } : Room) s m args below meth c 4 L sz (vx_MQ below (gQi L sz Q) (gXC L sz X) args s 0 0 (gA L sz)) 0 0 27 [(0, .ref (L.2.1 5 i0)), (1, .int L1), (2, .int L2), (3, .int L3)] [] v := by
  unfold BX5_partnersOfAll_27 at h
  refine g_iinc C (k := 3) (L3 + 1) [(3, .int (L3 + 1)), (0, .ref (L.2.1 5 i0)), (1, .int L1), (2, .int L2)] rfl rfl (Nat.le_of_ble_eq_true rfl) rfl dX5_partnersOfAll_27 ?_
  refine g_goto C 4 (by decide) dX5_partnersOfAll_30 ?_
  refine g_sub [(0, .ref (L.2.1 5 i0)), (1, .int L1), (2, .int L2), (3, .int (L3 + 1))] [1, 2, 3, 0] rfl ?_
  exact hI4 _ _ _ h
def BX5_partnersOfAll_4 (I4 : Int32 → Int32 → gMem → Prop) (i0 : Nat) (L1 : Int32) (L2 : Int32) (L3 : Int32) (v : gMem) (Q : Int32 → gMem → Prop) (X : String → gMem → Prop) : Prop := ((16 ≤ L3 → (Q L2 v)) ∧ (¬ 16 ≤ L3 → (TX6_contains L1 L3 v (fun r12 v12 => ((r12 = 0 → (BX5_partnersOfAll_27 I4 i0 L1 L2 L3 v12 Q X)) ∧ (¬ r12 = 0 → (vp_in L3 16 ∧ (BX5_partnersOfAll_27 I4 i0 L1 (L2 ||| (v12 16 i0 (Int32.toNatClampNeg L3))) L3 v12 Q X))))) X)))
theorem sX5_partnersOfAll_4 (C : gC p l s m args meth c cX5_partnersOfAll 4 RX5 L sz) (hr : meth.sig.returnType = (some .int)) (hno : ∀ x ∈ c.exceptionTable.toList, False) {i0 : Nat} (hi0 : i0 < 2) {L1 : Int32} {L2 : Int32} {L3 : Int32} {v : gMem} {Q : Int32 → gMem → Prop} {X : String → gMem → Prop} {I4 : Int32 → Int32 → gMem → Prop} (hI4 : ∀ (L2 : Int32) (L3 : Int32) (v : gMem), I4 L2 L3 v → gS p l e ({ frames := 1, cells := 0, slots := 0, locals := 21 } : Room) s m args below meth c 4 L sz (vx_MQ below (gQi L sz Q) (gXC L sz X) args s 0 0 (gA L sz)) 0 0 4 [(0, .ref (L.2.1 5 i0)), (1, .int L1), (2, .int L2), (3, .int L3)] [] v) (h : BX5_partnersOfAll_4 I4 i0 L1 L2 L3 v Q X) : gS p l e ({ frames := 1, cells := 0, slots := 0, locals := 21 } : Room) s m args below meth c 4 L sz (vx_MQ below (gQi L sz Q) (gXC L sz X) args s 0 0 (gA L sz)) 0 0 4 [(0, .ref (L.2.1 5 i0)), (1, .int L1), (2, .int L2), (3, .int L3)] [] v := by
  unfold BX5_partnersOfAll_4 at h
  refine g_iload_n C 3 rfl 3 rfl dX5_partnersOfAll_4 ?_
  refine g_bipush C 16 (by decide) dX5_partnersOfAll_5 ?_
  refine g_icmp_ge C 33 (by decide) dX5_partnersOfAll_7 (fun hc => ?_) (fun hc => ?_)
  · replace h := h.1 hc
    refine g_iload_n C 2 rfl 2 rfl dX5_partnersOfAll_33 ?_
    exact g_iret C hr rfl (Nat.le_of_ble_eq_true rfl) (Nat.le_of_ble_eq_true rfl) h dX5_partnersOfAll_34
  · replace h := h.2 hc
    refine g_iload_n C 1 rfl 1 rfl dX5_partnersOfAll_10 ?_
    refine g_iload_n C 3 rfl 3 rfl dX5_partnersOfAll_11 ?_
    refine g_callSNi C hno [.int L1, .int L3] (fun sz9 => kX6_contains l C.2.2.2.2.2.2.1 L C.2.2.2.2.2.2.2.1 L1 L3 v _ X h sz9) wml_RX5_15 wstat_X6_contains wini_RX6 wcode_X6_contains rfl rfl (n := 2) (by decide +kernel) rfl ⟨(Nat.le_of_ble_eq_true rfl), (Nat.le_of_ble_eq_true rfl)⟩ ⟨(Nat.le_of_ble_eq_true rfl), (Nat.le_of_ble_eq_true rfl)⟩ ⟨(Nat.le_of_ble_eq_true rfl), (Nat.le_of_ble_eq_true rfl)⟩ (Nat.le_of_ble_eq_true rfl) dX5_partnersOfAll_12 (fun r12 v12 h => ?_)
    refine g_if_eq C 27 (by decide) dX5_partnersOfAll_15 (fun hc => ?_) (fun hc => ?_)
    · replace h := h.1 hc
      exact sX5_partnersOfAll_27 C hr hno hi0 hI4 h
    · replace h := h.2 hc
      refine g_iload_n C 2 rfl 2 rfl dX5_partnersOfAll_18 ?_
      refine g_aload_n C 0 rfl 0 rfl dX5_partnersOfAll_19 ?_
      refine fgX5_9 C (gok_5 hi0) dX5_partnersOfAll_20 ?_
      refine g_iload_n C 3 rfl 3 rfl dX5_partnersOfAll_23 ?_
      obtain ⟨hb24, h⟩ := h
      refine g_iald C (gok_16 hi0) rfl hb24 dX5_partnersOfAll_24 ?_
      refine g_ior C dX5_partnersOfAll_25 ?_
      refine g_istore_n C 2 rfl [(2, .int (L2 ||| (v12 16 i0 (Int32.toNatClampNeg L3)))), (0, .ref (L.2.1 5 i0)), (1, .int L1), (3, .int L3)] (Nat.le_of_ble_eq_true rfl) rfl dX5_partnersOfAll_26 ?_
      refine g_sub [(0, .ref (L.2.1 5 i0)), (1, .int L1), (2, .int (L2 ||| (v12 16 i0 (Int32.toNatClampNeg L3)))), (3, .int L3)] [1, 2, 0, 3] rfl ?_
      exact sX5_partnersOfAll_27 C hr hno hi0 hI4 h
def LX5_partnersOfAll_4 (i0 : Nat) (L1 : Int32) (L2 : Int32) (L3 : Int32) (v : gMem) (Q : Int32 → gMem → Prop) (X : String → gMem → Prop) : Prop := ∀ I4 : Int32 → Int32 → gMem → Prop, (∀ (L2 : Int32) (L3 : Int32) (v : gMem), BX5_partnersOfAll_4 I4 i0 L1 L2 L3 v Q X → I4 L2 L3 v) → I4 L2 L3 v
theorem slX5_partnersOfAll_4 (C : gC p l s m args meth c cX5_partnersOfAll 4 RX5 L sz) (hr : meth.sig.returnType = (some .int)) (hno : ∀ x ∈ c.exceptionTable.toList, False) {i0 : Nat} (hi0 : i0 < 2) {L1 : Int32} {L2 : Int32} {L3 : Int32} {v : gMem} {Q : Int32 → gMem → Prop} {X : String → gMem → Prop} (h : LX5_partnersOfAll_4 i0 L1 L2 L3 v Q X) : gS p l e ({ frames := 1, cells := 0, slots := 0, locals := 21 } : Room) s m args below meth c 4 L sz (vx_MQ below (gQi L sz Q) (gXC L sz X) args s 0 0 (gA L sz)) 0 0 4 [(0, .ref (L.2.1 5 i0)), (1, .int L1), (2, .int L2), (3, .int L3)] [] v := by
  refine h (fun L2 L3 v => gS p l e ({ frames := 1, cells := 0, slots := 0, locals := 21 } : Room) s m args below meth c 4 L sz (vx_MQ below (gQi L sz Q) (gXC L sz X) args s 0 0 (gA L sz)) 0 0 4 [(0, .ref (L.2.1 5 i0)), (1, .int L1), (2, .int L2), (3, .int L3)] [] v) (fun L2 L3 v hb => ?_)
  exact sX5_partnersOfAll_4 C hr hno hi0 (fun _ _ _ hs => hs) hb
def TX5_partnersOfAll (i0 : Nat) (L1 : Int32) (v : gMem) (Q : Int32 → gMem → Prop) (X : String → gMem → Prop) : Prop := (LX5_partnersOfAll_4 i0 L1 0 0 v Q X)
theorem kX5_partnersOfAll (l : Launch) (hfl : l.stackTraces = false) (L : gL) (hL : gDist L) {i0 : Nat} (hi0 : i0 < 2) (L1 : Int32) (v : gMem) (Q : Int32 → gMem → Prop) (X : String → gMem → Prop) (h : TX5_partnersOfAll i0 L1 v Q X) (sz : Nat) : vx_Met l yX5_partnersOfAll [.code yX5_partnersOfAll cX5_partnersOfAll 4 (some .int)] ({ frames := 1, cells := 0, slots := 0, locals := 21 } : Room) (gPc L sz [.ref (L.2.1 5 i0), .int L1] v) (gQi L sz Q) (gXC L sz X) 0 0 (gA L sz) := by
  refine g_ofW (by decide +kernel) hfl hL (Nat.le_of_ble_eq_true rfl) ?_
  intro p e s m args below meth c C hr hno
  refine g_sub [(0, .ref (L.2.1 5 i0)), (1, .int L1)] [0, 1] rfl ?_
  unfold TX5_partnersOfAll at h
  refine g_iconst C 0 (by decide) dX5_partnersOfAll_0 ?_
  refine g_istore_n C 2 rfl [(2, .int 0), (0, .ref (L.2.1 5 i0)), (1, .int L1)] (Nat.le_of_ble_eq_true rfl) rfl dX5_partnersOfAll_1 ?_
  refine g_iconst C 0 (by decide) dX5_partnersOfAll_2 ?_
  refine g_istore_n C 3 rfl [(3, .int 0), (2, .int 0), (0, .ref (L.2.1 5 i0)), (1, .int L1)] (Nat.le_of_ble_eq_true rfl) rfl dX5_partnersOfAll_3 ?_
  refine g_sub [(0, .ref (L.2.1 5 i0)), (1, .int L1), (2, .int 0), (3, .int 0)] [2, 3, 1, 0] rfl ?_
  exact slX5_partnersOfAll_4 C hr hno hi0 h
def BX3_joinedWith_43 (L2 : Int32) (v : gMem) (Q : Int32 → gMem → Prop) (X : String → gMem → Prop) : Prop := (Q L2 v)
theorem sX3_joinedWith_43 (C : gC p l s m args meth c cX3_joinedWith 5 RX3 L sz) (hr : meth.sig.returnType = (some .int)) (hno : ∀ x ∈ c.exceptionTable.toList, False) {L2 : Int32} {v : gMem} {Q : Int32 → gMem → Prop} {X : String → gMem → Prop} (h : BX3_joinedWith_43 L2 v Q X) : gS p l e ({ frames := 2, cells := 0, slots := 0, locals := 44 } : Room) s m args below meth c 5 L sz (vx_MQ below (gQi L sz Q) (gXC L sz X) args s 0 0 (gA L sz)) 0 0 43 [(2, .int L2)] [] v := by
  unfold BX3_joinedWith_43 at h
  refine g_iload_n C 2 rfl 0 rfl dX3_joinedWith_43 ?_
  exact g_iret C hr rfl (Nat.le_of_ble_eq_true rfl) (Nat.le_of_ble_eq_true rfl) h dX3_joinedWith_44
def BX3_joinedWith_9 (I9 : Int32 → Int32 → Int32 → gMem → Prop) (L2 : Int32) (L3 : Int32) (L4 : Int32) (v : gMem) (Q : Int32 → gMem → Prop) (X : String → gMem → Prop) : Prop := ((16 ≤ L4 → (BX3_joinedWith_43 L2 v Q X)) ∧ (¬ 16 ≤ L4 → ((L3 = 0 → (BX3_joinedWith_43 L2 v Q X)) ∧ (¬ L3 = 0 → (TX5_partnersOfAll 1 L3 v (fun r25 v25 => (I9 (L2 ||| (r25 &&& (L2 ^^^ (-1)))) (r25 &&& (L2 ^^^ (-1))) (L4 + 1) v25)) X)))))
theorem sX3_joinedWith_9 (C : gC p l s m args meth c cX3_joinedWith 5 RX3 L sz) (hr : meth.sig.returnType = (some .int)) (hno : ∀ x ∈ c.exceptionTable.toList, False) {L2 : Int32} {L3 : Int32} {L4 : Int32} {v : gMem} {Q : Int32 → gMem → Prop} {X : String → gMem → Prop} {I9 : Int32 → Int32 → Int32 → gMem → Prop} (hI9 : ∀ (L2 : Int32) (L3 : Int32) (L4 : Int32) (v : gMem), I9 L2 L3 L4 v → gS p l e ({ frames := 2, cells := 0, slots := 0, locals := 44 } : Room) s m args below meth c 5 L sz (vx_MQ below (gQi L sz Q) (gXC L sz X) args s 0 0 (gA L sz)) 0 0 9 [(0, .ref (L.2.1 3 0)), (2, .int L2), (3, .int L3), (4, .int L4)] [] v) (h : BX3_joinedWith_9 I9 L2 L3 L4 v Q X) : gS p l e ({ frames := 2, cells := 0, slots := 0, locals := 44 } : Room) s m args below meth c 5 L sz (vx_MQ below (gQi L sz Q) (gXC L sz X) args s 0 0 (gA L sz)) 0 0 9 [(0, .ref (L.2.1 3 0)), (2, .int L2), (3, .int L3), (4, .int L4)] [] v := by
  unfold BX3_joinedWith_9 at h
  refine g_iload C 3 rfl dX3_joinedWith_9 ?_
  refine g_bipush C 16 (by decide) dX3_joinedWith_11 ?_
  refine g_icmp_ge C 43 (by decide) dX3_joinedWith_13 (fun hc => ?_) (fun hc => ?_)
  · replace h := h.1 hc
    refine g_sub [(2, .int L2)] [1] rfl ?_
    exact sX3_joinedWith_43 C hr hno h
  · replace h := h.2 hc
    refine g_iload_n C 3 rfl 2 rfl dX3_joinedWith_16 ?_
    refine g_if_eq C 43 (by decide) dX3_joinedWith_17 (fun hc => ?_) (fun hc => ?_)
    · replace h := h.1 hc
      refine g_sub [(2, .int L2)] [1] rfl ?_
      exact sX3_joinedWith_43 C hr hno h
    · replace h := h.2 hc
      refine g_aload_n C 0 rfl 0 rfl dX3_joinedWith_20 ?_
      refine fgX3_25 C dX3_joinedWith_21 ?_
      refine g_iload_n C 3 rfl 2 rfl dX3_joinedWith_24 ?_
      refine g_callVi C hno (gok_5 (by decide : 1 < 2)) rfl rfl [.int L3] (fun sz9 => kX5_partnersOfAll l C.2.2.2.2.2.2.1 L C.2.2.2.2.2.2.2.1 (by decide : 1 < 2) L3 v _ X h sz9) wml_RX3_47 winst_X5_partnersOfAll wsel_X5_partnersOfAll wini_RX5 wcode_X5_partnersOfAll rfl rfl (n := 1) (by decide +kernel) rfl ⟨(Nat.le_of_ble_eq_true rfl), (Nat.le_of_ble_eq_true rfl)⟩ ⟨(Nat.le_of_ble_eq_true rfl), (Nat.le_of_ble_eq_true rfl)⟩ ⟨(Nat.le_of_ble_eq_true rfl), (Nat.le_of_ble_eq_true rfl)⟩ (Nat.le_of_ble_eq_true rfl) dX3_joinedWith_25 (fun r25 v25 h => ?_)
      refine g_iload_n C 2 rfl 1 rfl dX3_joinedWith_28 ?_
      refine g_iconst C (-1) (by decide) dX3_joinedWith_29 ?_
      refine g_ixor C dX3_joinedWith_30 ?_
      refine g_iand C dX3_joinedWith_31 ?_
      refine g_istore_n C 3 rfl [(3, .int (r25 &&& (L2 ^^^ (-1)))), (0, .ref (L.2.1 3 0)), (2, .int L2), (4, .int L4)] (Nat.le_of_ble_eq_true rfl) rfl dX3_joinedWith_32 ?_
      refine g_iload_n C 2 rfl 2 rfl dX3_joinedWith_33 ?_
      refine g_iload_n C 3 rfl 0 rfl dX3_joinedWith_34 ?_
      refine g_ior C dX3_joinedWith_35 ?_
      refine g_istore_n C 2 rfl [(2, .int (L2 ||| (r25 &&& (L2 ^^^ (-1))))), (3, .int (r25 &&& (L2 ^^^ (-1)))), (0, .ref (L.2.1 3 0)), (4, .int L4)] (Nat.le_of_ble_eq_true rfl) rfl dX3_joinedWith_36 ?_
      refine g_iinc C (k := 3) (L4 + 1) [(4, .int (L4 + 1)), (2, .int (L2 ||| (r25 &&& (L2 ^^^ (-1))))), (3, .int (r25 &&& (L2 ^^^ (-1)))), (0, .ref (L.2.1 3 0))] rfl rfl (Nat.le_of_ble_eq_true rfl) rfl dX3_joinedWith_37 ?_
      refine g_goto C 9 (by decide) dX3_joinedWith_40 ?_
      refine g_sub [(0, .ref (L.2.1 3 0)), (2, .int (L2 ||| (r25 &&& (L2 ^^^ (-1))))), (3, .int (r25 &&& (L2 ^^^ (-1)))), (4, .int (L4 + 1))] [3, 1, 2, 0] rfl ?_
      exact hI9 _ _ _ _ h
def LX3_joinedWith_9 (L2 : Int32) (L3 : Int32) (L4 : Int32) (v : gMem) (Q : Int32 → gMem → Prop) (X : String → gMem → Prop) : Prop := ∀ I9 : Int32 → Int32 → Int32 → gMem → Prop, (∀ (L2 : Int32) (L3 : Int32) (L4 : Int32) (v : gMem), BX3_joinedWith_9 I9 L2 L3 L4 v Q X → I9 L2 L3 L4 v) → I9 L2 L3 L4 v
theorem slX3_joinedWith_9 (C : gC p l s m args meth c cX3_joinedWith 5 RX3 L sz) (hr : meth.sig.returnType = (some .int)) (hno : ∀ x ∈ c.exceptionTable.toList, False) {L2 : Int32} {L3 : Int32} {L4 : Int32} {v : gMem} {Q : Int32 → gMem → Prop} {X : String → gMem → Prop} (h : LX3_joinedWith_9 L2 L3 L4 v Q X) : gS p l e ({ frames := 2, cells := 0, slots := 0, locals := 44 } : Room) s m args below meth c 5 L sz (vx_MQ below (gQi L sz Q) (gXC L sz X) args s 0 0 (gA L sz)) 0 0 9 [(0, .ref (L.2.1 3 0)), (2, .int L2), (3, .int L3), (4, .int L4)] [] v := by
  refine h (fun L2 L3 L4 v => gS p l e ({ frames := 2, cells := 0, slots := 0, locals := 44 } : Room) s m args below meth c 5 L sz (vx_MQ below (gQi L sz Q) (gXC L sz X) args s 0 0 (gA L sz)) 0 0 9 [(0, .ref (L.2.1 3 0)), (2, .int L2), (3, .int L3), (4, .int L4)] [] v) (fun L2 L3 L4 v hb => ?_)
  exact sX3_joinedWith_9 C hr hno (fun _ _ _ _ hs => hs) hb
def TX3_joinedWith (L1 : Int32) (v : gMem) (Q : Int32 → gMem → Prop) (X : String → gMem → Prop) : Prop := (LX3_joinedWith_9 (1 <<< (L1 &&& 31)) (1 <<< (L1 &&& 31)) 0 v Q X)
theorem kX3_joinedWith (l : Launch) (hfl : l.stackTraces = false) (L : gL) (hL : gDist L) (L1 : Int32) (v : gMem) (Q : Int32 → gMem → Prop) (X : String → gMem → Prop) (h : TX3_joinedWith L1 v Q X) (sz : Nat) : vx_Met l yX3_joinedWith [.code yX3_joinedWith cX3_joinedWith 5 (some .int)] ({ frames := 2, cells := 0, slots := 0, locals := 44 } : Room) (gPc L sz [.ref (L.2.1 3 0), .int L1] v) (gQi L sz Q) (gXC L sz X) 0 0 (gA L sz) := by
  refine g_ofW (by decide +kernel) hfl hL (Nat.le_of_ble_eq_true rfl) ?_
  intro p e s m args below meth c C hr hno
  refine g_sub [(0, .ref (L.2.1 3 0)), (1, .int L1)] [0, 1] rfl ?_
  unfold TX3_joinedWith at h
  refine g_iconst C 1 (by decide) dX3_joinedWith_0 ?_
  refine g_iload_n C 1 rfl 1 rfl dX3_joinedWith_1 ?_
  refine g_ishl C dX3_joinedWith_2 ?_
  refine g_istore_n C 2 rfl [(2, .int (1 <<< (L1 &&& 31))), (0, .ref (L.2.1 3 0)), (1, .int L1)] (Nat.le_of_ble_eq_true rfl) rfl dX3_joinedWith_3 ?_
  refine g_iload_n C 2 rfl 0 rfl dX3_joinedWith_4 ?_
  refine g_istore_n C 3 rfl [(3, .int (1 <<< (L1 &&& 31))), (2, .int (1 <<< (L1 &&& 31))), (0, .ref (L.2.1 3 0)), (1, .int L1)] (Nat.le_of_ble_eq_true rfl) rfl dX3_joinedWith_5 ?_
  refine g_iconst C 0 (by decide) dX3_joinedWith_6 ?_
  refine g_istore C [(4, .int 0), (3, .int (1 <<< (L1 &&& 31))), (2, .int (1 <<< (L1 &&& 31))), (0, .ref (L.2.1 3 0)), (1, .int L1)] (Nat.le_of_ble_eq_true rfl) rfl dX3_joinedWith_7 ?_
  refine g_sub [(0, .ref (L.2.1 3 0)), (2, .int (1 <<< (L1 &&& 31))), (3, .int (1 <<< (L1 &&& 31))), (4, .int 0)] [3, 2, 1, 0] rfl ?_
  exact slX3_joinedWith_9 C hr hno h
def BX3_distance_7 (I7 : Int32 → Int32 → gMem → Prop) (L2 : Int32) (L3 : Int32) (L4 : Int32) (v : gMem) (Q : Int32 → gMem → Prop) (X : String → gMem → Prop) : Prop := ((16 ≤ L4 → (Q (-1) v)) ∧ (¬ 16 ≤ L4 → (TX6_contains L3 L2 v (fun r16 v16 => ((r16 = 0 → (TX5_partnersOfAll 1 L3 v16 (fun r31 v31 => (I7 (L3 ||| r31) (L4 + 1) v31)) X)) ∧ (¬ r16 = 0 → (Q L4 v16)))) X)))
theorem sX3_distance_7 (C : gC p l s m args meth c cX3_distance 5 RX3 L sz) (hr : meth.sig.returnType = (some .int)) (hno : ∀ x ∈ c.exceptionTable.toList, False) {L2 : Int32} {L3 : Int32} {L4 : Int32} {v : gMem} {Q : Int32 → gMem → Prop} {X : String → gMem → Prop} {I7 : Int32 → Int32 → gMem → Prop} (hI7 : ∀ (L3 : Int32) (L4 : Int32) (v : gMem), I7 L3 L4 v → gS p l e ({ frames := 2, cells := 0, slots := 0, locals := 44 } : Room) s m args below meth c 5 L sz (vx_MQ below (gQi L sz Q) (gXC L sz X) args s 0 0 (gA L sz)) 0 0 7 [(0, .ref (L.2.1 3 0)), (2, .int L2), (3, .int L3), (4, .int L4)] [] v) (h : BX3_distance_7 I7 L2 L3 L4 v Q X) : gS p l e ({ frames := 2, cells := 0, slots := 0, locals := 44 } : Room) s m args below meth c 5 L sz (vx_MQ below (gQi L sz Q) (gXC L sz X) args s 0 0 (gA L sz)) 0 0 7 [(0, .ref (L.2.1 3 0)), (2, .int L2), (3, .int L3), (4, .int L4)] [] v := by
  unfold BX3_distance_7 at h
  refine g_iload C 3 rfl dX3_distance_7 ?_
  refine g_bipush C 16 (by decide) dX3_distance_9 ?_
  refine g_icmp_ge C 42 (by decide) dX3_distance_11 (fun hc => ?_) (fun hc => ?_)
  · replace h := h.1 hc
    refine g_iconst C (-1) (by decide) dX3_distance_42 ?_
    exact g_iret C hr rfl (Nat.le_of_ble_eq_true rfl) (Nat.le_of_ble_eq_true rfl) h dX3_distance_43
  · replace h := h.2 hc
    refine g_iload_n C 3 rfl 2 rfl dX3_distance_14 ?_
    refine g_iload_n C 2 rfl 1 rfl dX3_distance_15 ?_
    refine g_callSNi C hno [.int L3, .int L2] (fun sz9 => kX6_contains l C.2.2.2.2.2.2.1 L C.2.2.2.2.2.2.2.1 L3 L2 v _ X h sz9) wml_RX3_51 wstat_X6_contains wini_RX6 wcode_X6_contains rfl rfl (n := 2) (by decide +kernel) rfl ⟨(Nat.le_of_ble_eq_true rfl), (Nat.le_of_ble_eq_true rfl)⟩ ⟨(Nat.le_of_ble_eq_true rfl), (Nat.le_of_ble_eq_true rfl)⟩ ⟨(Nat.le_of_ble_eq_true rfl), (Nat.le_of_ble_eq_true rfl)⟩ (Nat.le_of_ble_eq_true rfl) dX3_distance_16 (fun r16 v16 h => ?_)
    refine g_if_eq C 25 (by decide) dX3_distance_19 (fun hc => ?_) (fun hc => ?_)
    · replace h := h.1 hc
      refine g_iload_n C 3 rfl 2 rfl dX3_distance_25 ?_
      refine g_aload_n C 0 rfl 0 rfl dX3_distance_26 ?_
      refine fgX3_25 C dX3_distance_27 ?_
      refine g_iload_n C 3 rfl 2 rfl dX3_distance_30 ?_
      refine g_callVi C hno (gok_5 (by decide : 1 < 2)) rfl rfl [.int L3] (fun sz9 => kX5_partnersOfAll l C.2.2.2.2.2.2.1 L C.2.2.2.2.2.2.2.1 (by decide : 1 < 2) L3 v16 _ X h sz9) wml_RX3_47 winst_X5_partnersOfAll wsel_X5_partnersOfAll wini_RX5 wcode_X5_partnersOfAll rfl rfl (n := 1) (by decide +kernel) rfl ⟨(Nat.le_of_ble_eq_true rfl), (Nat.le_of_ble_eq_true rfl)⟩ ⟨(Nat.le_of_ble_eq_true rfl), (Nat.le_of_ble_eq_true rfl)⟩ ⟨(Nat.le_of_ble_eq_true rfl), (Nat.le_of_ble_eq_true rfl)⟩ (Nat.le_of_ble_eq_true rfl) dX3_distance_31 (fun r31 v31 h => ?_)
      refine g_ior C dX3_distance_34 ?_
      refine g_istore_n C 3 rfl [(3, .int (L3 ||| r31)), (0, .ref (L.2.1 3 0)), (2, .int L2), (4, .int L4)] (Nat.le_of_ble_eq_true rfl) rfl dX3_distance_35 ?_
      refine g_iinc C (k := 3) (L4 + 1) [(4, .int (L4 + 1)), (3, .int (L3 ||| r31)), (0, .ref (L.2.1 3 0)), (2, .int L2)] rfl rfl (Nat.le_of_ble_eq_true rfl) rfl dX3_distance_36 ?_
      refine g_goto C 7 (by decide) dX3_distance_39 ?_
      refine g_sub [(0, .ref (L.2.1 3 0)), (2, .int L2), (3, .int (L3 ||| r31)), (4, .int (L4 + 1))] [2, 3, 1, 0] rfl ?_
      exact hI7 _ _ _ h
    · replace h := h.2 hc
      refine g_iload C 3 rfl dX3_distance_22 ?_
      exact g_iret C hr rfl (Nat.le_of_ble_eq_true rfl) (Nat.le_of_ble_eq_true rfl) h dX3_distance_24
def LX3_distance_7 (L2 : Int32) (L3 : Int32) (L4 : Int32) (v : gMem) (Q : Int32 → gMem → Prop) (X : String → gMem → Prop) : Prop := ∀ I7 : Int32 → Int32 → gMem → Prop, (∀ (L3 : Int32) (L4 : Int32) (v : gMem), BX3_distance_7 I7 L2 L3 L4 v Q X → I7 L3 L4 v) → I7 L3 L4 v
theorem slX3_distance_7 (C : gC p l s m args meth c cX3_distance 5 RX3 L sz) (hr : meth.sig.returnType = (some .int)) (hno : ∀ x ∈ c.exceptionTable.toList, False) {L2 : Int32} {L3 : Int32} {L4 : Int32} {v : gMem} {Q : Int32 → gMem → Prop} {X : String → gMem → Prop} (h : LX3_distance_7 L2 L3 L4 v Q X) : gS p l e ({ frames := 2, cells := 0, slots := 0, locals := 44 } : Room) s m args below meth c 5 L sz (vx_MQ below (gQi L sz Q) (gXC L sz X) args s 0 0 (gA L sz)) 0 0 7 [(0, .ref (L.2.1 3 0)), (2, .int L2), (3, .int L3), (4, .int L4)] [] v := by
  refine h (fun L3 L4 v => gS p l e ({ frames := 2, cells := 0, slots := 0, locals := 44 } : Room) s m args below meth c 5 L sz (vx_MQ below (gQi L sz Q) (gXC L sz X) args s 0 0 (gA L sz)) 0 0 7 [(0, .ref (L.2.1 3 0)), (2, .int L2), (3, .int L3), (4, .int L4)] [] v) (fun L3 L4 v hb => ?_)
  exact sX3_distance_7 C hr hno (fun _ _ _ hs => hs) hb
def TX3_distance (L1 : Int32) (L2 : Int32) (v : gMem) (Q : Int32 → gMem → Prop) (X : String → gMem → Prop) : Prop := (LX3_distance_7 L2 (1 <<< (L1 &&& 31)) 0 v Q X)
theorem kX3_distance (l : Launch) (hfl : l.stackTraces = false) (L : gL) (hL : gDist L) (L1 : Int32) (L2 : Int32) (v : gMem) (Q : Int32 → gMem → Prop) (X : String → gMem → Prop) (h : TX3_distance L1 L2 v Q X) (sz : Nat) : vx_Met l yX3_distance [.code yX3_distance cX3_distance 5 (some .int)] ({ frames := 2, cells := 0, slots := 0, locals := 44 } : Room) (gPc L sz [.ref (L.2.1 3 0), .int L1, .int L2] v) (gQi L sz Q) (gXC L sz X) 0 0 (gA L sz) := by
  refine g_ofW (by decide +kernel) hfl hL (Nat.le_of_ble_eq_true rfl) ?_
  intro p e s m args below meth c C hr hno
  refine g_sub [(0, .ref (L.2.1 3 0)), (1, .int L1), (2, .int L2)] [0, 1, 2] rfl ?_
  unfold TX3_distance at h
  refine g_iconst C 1 (by decide) dX3_distance_0 ?_
  refine g_iload_n C 1 rfl 1 rfl dX3_distance_1 ?_
  refine g_ishl C dX3_distance_2 ?_
  refine g_istore_n C 3 rfl [(3, .int (1 <<< (L1 &&& 31))), (0, .ref (L.2.1 3 0)), (1, .int L1), (2, .int L2)] (Nat.le_of_ble_eq_true rfl) rfl dX3_distance_3 ?_
  refine g_iconst C 0 (by decide) dX3_distance_4 ?_
  refine g_istore C [(4, .int 0), (3, .int (1 <<< (L1 &&& 31))), (0, .ref (L.2.1 3 0)), (1, .int L1), (2, .int L2)] (Nat.le_of_ble_eq_true rfl) rfl dX3_distance_5 ?_
  refine g_sub [(0, .ref (L.2.1 3 0)), (2, .int L2), (3, .int (1 <<< (L1 &&& 31))), (4, .int 0)] [2, 4, 1, 0] rfl ?_
  exact slX3_distance_7 C hr hno h
def BJ9_min_7cf53_10 (t0 : Int32) (v : gMem) (Q : Int32 → gMem → Prop) (X : String → gMem → Prop) : Prop := (Q t0 v)
theorem sJ9_min_7cf53_10 (C : gC p l s m args meth c cJ9_min_7cf53 2 RJ9 L sz) (hr : meth.sig.returnType = (some .int)) (hno : ∀ x ∈ c.exceptionTable.toList, False) {t0 : Int32} {v : gMem} {Q : Int32 → gMem → Prop} {X : String → gMem → Prop} (h : BJ9_min_7cf53_10 t0 v Q X) : gS p l e ({ frames := 0, cells := 0, slots := 0, locals := 0 } : Room) s m args below meth c 2 L sz (vx_MQ below (gQi L sz Q) (gXC L sz X) args s 0 0 (gA L sz)) 0 0 10 [] [.int t0] v := by
  unfold BJ9_min_7cf53_10 at h
  exact g_iret C hr rfl (Nat.le_of_ble_eq_true rfl) (Nat.le_of_ble_eq_true rfl) h dJ9_min_7cf53_10
def TJ9_min_7cf53 (L0 : Int32) (L1 : Int32) (v : gMem) (Q : Int32 → gMem → Prop) (X : String → gMem → Prop) : Prop := ((L1 < L0 → (BJ9_min_7cf53_10 L1 v Q X)) ∧ (¬ L1 < L0 → (BJ9_min_7cf53_10 L0 v Q X)))
theorem kJ9_min_7cf53 (l : Launch) (hfl : l.stackTraces = false) (L : gL) (hL : gDist L) (L0 : Int32) (L1 : Int32) (v : gMem) (Q : Int32 → gMem → Prop) (X : String → gMem → Prop) (h : TJ9_min_7cf53 L0 L1 v Q X) (sz : Nat) : vx_Met l yJ9_min_7cf53 [.code yJ9_min_7cf53 cJ9_min_7cf53 2 (some .int)] ({ frames := 0, cells := 0, slots := 0, locals := 0 } : Room) (gPc L sz [.int L0, .int L1] v) (gQi L sz Q) (gXC L sz X) 0 0 (gA L sz) := by
  refine g_ofW (by decide +kernel) hfl hL (Nat.le_of_ble_eq_true rfl) ?_
  intro p e s m args below meth c C hr hno
  refine g_sub [(0, .int L0), (1, .int L1)] [0, 1] rfl ?_
  unfold TJ9_min_7cf53 at h
  refine g_iload_n C 0 rfl 0 rfl dJ9_min_7cf53_0 ?_
  refine g_iload_n C 1 rfl 1 rfl dJ9_min_7cf53_1 ?_
  refine g_icmp_gt C 9 (by decide) dJ9_min_7cf53_2 (fun hc => ?_) (fun hc => ?_)
  · replace h := h.1 hc
    refine g_iload_n C 1 rfl 1 rfl dJ9_min_7cf53_9 ?_
    refine g_sub [] [] rfl ?_
    exact sJ9_min_7cf53_10 C hr hno h
  · replace h := h.2 hc
    refine g_iload_n C 0 rfl 0 rfl dJ9_min_7cf53_5 ?_
    refine g_goto C 10 (by decide) dJ9_min_7cf53_6 ?_
    refine g_sub [] [] rfl ?_
    exact sJ9_min_7cf53_10 C hr hno h
def BX3_labelByRounds_148 (v : gMem) (Q : gMem → Prop) (X : String → gMem → Prop) : Prop := (Q v)
theorem sX3_labelByRounds_148 (C : gC p l s m args meth c cX3_labelByRounds 5 RX3 L sz) (hr : meth.sig.returnType = none) (hno : ∀ x ∈ c.exceptionTable.toList, False) {v : gMem} {Q : gMem → Prop} {X : String → gMem → Prop} (h : BX3_labelByRounds_148 v Q X) : gS p l e ({ frames := 1, cells := 0, slots := 0, locals := 21 } : Room) s m args below meth c 5 L sz (vx_MQ below (gQv L sz Q) (gXC L sz X) args s 0 0 (gA L sz)) 0 0 148 [] [] v := by
  unfold BX3_labelByRounds_148 at h
  exact g_vret C hr (Nat.le_of_ble_eq_true rfl) (Nat.le_of_ble_eq_true rfl) h dX3_labelByRounds_148
def BX3_labelByRounds_136 (I25 : Int32 → Int32 → gMem → Prop) (I39 : Int32 → Int32 → gMem → Prop) (L1 : Int32) (L2 : Int32) (L3 : Int32) (v : gMem) (Q : gMem → Prop) (X : String → gMem → Prop) : Prop := (I39 L1 (L3 + 1) v)
theorem sX3_labelByRounds_136 (C : gC p l s m args meth c cX3_labelByRounds 5 RX3 L sz) (hr : meth.sig.returnType = none) (hno : ∀ x ∈ c.exceptionTable.toList, False) {L1 : Int32} {L2 : Int32} {L3 : Int32} {v : gMem} {Q : gMem → Prop} {X : String → gMem → Prop} {I25 : Int32 → Int32 → gMem → Prop} (hI25 : ∀ (L1 : Int32) (L2 : Int32) (v : gMem), I25 L1 L2 v → gS p l e ({ frames := 1, cells := 0, slots := 0, locals := 21 } : Room) s m args below meth c 5 L sz (vx_MQ below (gQv L sz Q) (gXC L sz X) args s 0 0 (gA L sz)) 0 0 25 [(0, .ref (L.2.1 3 0)), (1, .int L1), (2, .int L2)] [] v) {I39 : Int32 → Int32 → gMem → Prop} (hI39 : ∀ (L1 : Int32) (L3 : Int32) (v : gMem), I39 L1 L3 v → gS p l e ({ frames := 1, cells := 0, slots := 0, locals := 21 } : Room) s m args below meth c 5 L sz (vx_MQ below (gQv L sz Q) (gXC L sz X) args s 0 0 (gA L sz)) 0 0 39 [(0, .ref (L.2.1 3 0)), (1, .int L1), (2, .int L2), (3, .int L3)] [] v) (h : BX3_labelByRounds_136 I25 I39 L1 L2 L3 v Q X) : gS p l e ({ frames := 1, cells := 0, slots := 0, locals := 21 } : Room) s m args below meth c 5 L sz (vx_MQ below (gQv L sz Q) (gXC L sz X) args s 0 0 (gA L sz)) 0 0 136 [(0, .ref (L.2.1 3 0)), (1, .int L1), (2, .int L2), (3, .int L3)] [] v := by
  unfold BX3_labelByRounds_136 at h
  refine g_iinc C (k := 3) (L3 + 1) [(3, .int (L3 + 1)), (0, .ref (L.2.1 3 0)), (1, .int L1), (2, .int L2)] rfl rfl (Nat.le_of_ble_eq_true rfl) rfl dX3_labelByRounds_136 ?_
  refine g_goto C 39 (by decide) dX3_labelByRounds_139 ?_
  refine g_sub [(0, .ref (L.2.1 3 0)), (1, .int L1), (2, .int L2), (3, .int (L3 + 1))] [1, 2, 3, 0] rfl ?_
  exact hI39 _ _ _ h
def BX3_labelByRounds_39 (I25 : Int32 → Int32 → gMem → Prop) (I39 : Int32 → Int32 → gMem → Prop) (L1 : Int32) (L2 : Int32) (L3 : Int32) (v : gMem) (Q : gMem → Prop) (X : String → gMem → Prop) : Prop := (((v 3 0 3) ≤ L3 → (I25 L1 (L2 + 1) v)) ∧ (¬ (v 3 0 3) ≤ L3 → (vp_in L3 30 ∧ (((v 19 0 (Int32.toNatClampNeg L3)) = 0 → (BX3_labelByRounds_136 I25 I39 L1 L2 L3 v Q X)) ∧ (¬ (v 19 0 (Int32.toNatClampNeg L3)) = 0 → (vp_in L3 30 ∧ (vp_in (v 17 0 (Int32.toNatClampNeg L3)) 16 ∧ (vp_in L3 30 ∧ (vp_in (v 18 0 (Int32.toNatClampNeg L3)) 16 ∧ (((v 20 0 (Int32.toNatClampNeg (v 17 0 (Int32.toNatClampNeg L3)))) = (v 20 0 (Int32.toNatClampNeg (v 18 0 (Int32.toNatClampNeg L3)))) → (BX3_labelByRounds_136 I25 I39 L1 L2 L3 v Q X)) ∧ (¬ (v 20 0 (Int32.toNatClampNeg (v 17 0 (Int32.toNatClampNeg L3)))) = (v 20 0 (Int32.toNatClampNeg (v 18 0 (Int32.toNatClampNeg L3)))) → (vp_in L3 30 ∧ (vp_in (v 17 0 (Int32.toNatClampNeg L3)) 16 ∧ (vp_in L3 30 ∧ (vp_in (v 18 0 (Int32.toNatClampNeg L3)) 16 ∧ (TJ9_min_7cf53 (v 20 0 (Int32.toNatClampNeg (v 17 0 (Int32.toNatClampNeg L3)))) (v 20 0 (Int32.toNatClampNeg (v 18 0 (Int32.toNatClampNeg L3)))) v (fun r103 v103 => (vp_in L3 30 ∧ (vp_in (v103 17 0 (Int32.toNatClampNeg L3)) 16 ∧ (vp_in L3 30 ∧ (vp_in ((gw v103 20 0 (Int32.toNatClampNeg (v103 17 0 (Int32.toNatClampNeg L3))) r103) 18 0 (Int32.toNatClampNeg L3)) 16 ∧ (BX3_labelByRounds_136 I25 I39 1 L2 L3 (gw (gw v103 20 0 (Int32.toNatClampNeg (v103 17 0 (Int32.toNatClampNeg L3))) r103) 20 0 (Int32.toNatClampNeg ((gw v103 20 0 (Int32.toNatClampNeg (v103 17 0 (Int32.toNatClampNeg L3))) r103) 18 0 (Int32.toNatClampNeg L3))) r103) Q X)))))) X))))))))))))))))
theorem sX3_labelByRounds_39 (C : gC p l s m args meth c cX3_labelByRounds 5 RX3 L sz) (hr : meth.sig.returnType = none) (hno : ∀ x ∈ c.exceptionTable.toList, False) {L1 : Int32} {L2 : Int32} {L3 : Int32} {v : gMem} {Q : gMem → Prop} {X : String → gMem → Prop} {I25 : Int32 → Int32 → gMem → Prop} (hI25 : ∀ (L1 : Int32) (L2 : Int32) (v : gMem), I25 L1 L2 v → gS p l e ({ frames := 1, cells := 0, slots := 0, locals := 21 } : Room) s m args below meth c 5 L sz (vx_MQ below (gQv L sz Q) (gXC L sz X) args s 0 0 (gA L sz)) 0 0 25 [(0, .ref (L.2.1 3 0)), (1, .int L1), (2, .int L2)] [] v) {I39 : Int32 → Int32 → gMem → Prop} (hI39 : ∀ (L1 : Int32) (L3 : Int32) (v : gMem), I39 L1 L3 v → gS p l e ({ frames := 1, cells := 0, slots := 0, locals := 21 } : Room) s m args below meth c 5 L sz (vx_MQ below (gQv L sz Q) (gXC L sz X) args s 0 0 (gA L sz)) 0 0 39 [(0, .ref (L.2.1 3 0)), (1, .int L1), (2, .int L2), (3, .int L3)] [] v) (h : BX3_labelByRounds_39 I25 I39 L1 L2 L3 v Q X) : gS p l e ({ frames := 1, cells := 0, slots := 0, locals := 21 } : Room) s m args below meth c 5 L sz (vx_MQ below (gQv L sz Q) (gXC L sz X) args s 0 0 (gA L sz)) 0 0 39 [(0, .ref (L.2.1 3 0)), (1, .int L1), (2, .int L2), (3, .int L3)] [] v := by
  unfold BX3_labelByRounds_39 at h
  refine g_iload_n C 3 rfl 3 rfl dX3_labelByRounds_39 ?_
  refine g_aload_n C 0 rfl 0 rfl dX3_labelByRounds_40 ?_
  refine fgX3_32 C dX3_labelByRounds_41 ?_
  refine g_icmp_ge C 142 (by decide) dX3_labelByRounds_44 (fun hc => ?_) (fun hc => ?_)
  · replace h := h.1 hc
    refine g_iinc C (k := 2) (L2 + 1) [(2, .int (L2 + 1)), (0, .ref (L.2.1 3 0)), (1, .int L1), (3, .int L3)] rfl rfl (Nat.le_of_ble_eq_true rfl) rfl dX3_labelByRounds_142 ?_
    refine g_goto C 25 (by decide) dX3_labelByRounds_145 ?_
    refine g_sub [(0, .ref (L.2.1 3 0)), (1, .int L1), (2, .int (L2 + 1))] [1, 2, 0] rfl ?_
    exact hI25 _ _ _ h
  · replace h := h.2 hc
    refine g_aload_n C 0 rfl 0 rfl dX3_labelByRounds_47 ?_
    refine fgX3_18 C dX3_labelByRounds_48 ?_
    refine g_iload_n C 3 rfl 3 rfl dX3_labelByRounds_51 ?_
    obtain ⟨hb52, h⟩ := h
    refine g_zald C gok_19 rfl hb52 dX3_labelByRounds_52 ?_
    refine g_if_eq C 136 (by decide) dX3_labelByRounds_53 (fun hc => ?_) (fun hc => ?_)
    · replace h := h.1 hc
      exact sX3_labelByRounds_136 C hr hno hI25 hI39 h
    · replace h := h.2 hc
      refine g_aload_n C 0 rfl 0 rfl dX3_labelByRounds_56 ?_
      refine fgX3_29 C dX3_labelByRounds_57 ?_
      refine g_aload_n C 0 rfl 0 rfl dX3_labelByRounds_60 ?_
      refine fgX3_9 C dX3_labelByRounds_61 ?_
      refine g_iload_n C 3 rfl 3 rfl dX3_labelByRounds_64 ?_
      obtain ⟨hb65, h⟩ := h
      refine g_iald C gok_17 rfl hb65 dX3_labelByRounds_65 ?_
      obtain ⟨hb66, h⟩ := h
      refine g_iald C gok_20 rfl hb66 dX3_labelByRounds_66 ?_
      refine g_aload_n C 0 rfl 0 rfl dX3_labelByRounds_67 ?_
      refine fgX3_29 C dX3_labelByRounds_68 ?_
      refine g_aload_n C 0 rfl 0 rfl dX3_labelByRounds_71 ?_
      refine fgX3_15 C dX3_labelByRounds_72 ?_
      refine g_iload_n C 3 rfl 3 rfl dX3_labelByRounds_75 ?_
      obtain ⟨hb76, h⟩ := h
      refine g_iald C gok_18 rfl hb76 dX3_labelByRounds_76 ?_
      obtain ⟨hb77, h⟩ := h
      refine g_iald C gok_20 rfl hb77 dX3_labelByRounds_77 ?_
      refine g_icmp_eq C 136 (by decide) dX3_labelByRounds_78 (fun hc => ?_) (fun hc => ?_)
      · replace h := h.1 hc
        exact sX3_labelByRounds_136 C hr hno hI25 hI39 h
      · replace h := h.2 hc
        refine g_aload_n C 0 rfl 0 rfl dX3_labelByRounds_81 ?_
        refine fgX3_29 C dX3_labelByRounds_82 ?_
        refine g_aload_n C 0 rfl 0 rfl dX3_labelByRounds_85 ?_
        refine fgX3_9 C dX3_labelByRounds_86 ?_
        refine g_iload_n C 3 rfl 3 rfl dX3_labelByRounds_89 ?_
        obtain ⟨hb90, h⟩ := h
        refine g_iald C gok_17 rfl hb90 dX3_labelByRounds_90 ?_
        obtain ⟨hb91, h⟩ := h
        refine g_iald C gok_20 rfl hb91 dX3_labelByRounds_91 ?_
        refine g_aload_n C 0 rfl 0 rfl dX3_labelByRounds_92 ?_
        refine fgX3_29 C dX3_labelByRounds_93 ?_
        refine g_aload_n C 0 rfl 0 rfl dX3_labelByRounds_96 ?_
        refine fgX3_15 C dX3_labelByRounds_97 ?_
        refine g_iload_n C 3 rfl 3 rfl dX3_labelByRounds_100 ?_
        obtain ⟨hb101, h⟩ := h
        refine g_iald C gok_18 rfl hb101 dX3_labelByRounds_101 ?_
        obtain ⟨hb102, h⟩ := h
        refine g_iald C gok_20 rfl hb102 dX3_labelByRounds_102 ?_
        refine g_callSi C hno [.int (v 20 0 (Int32.toNatClampNeg (v 17 0 (Int32.toNatClampNeg L3)))), .int (v 20 0 (Int32.toNatClampNeg (v 18 0 (Int32.toNatClampNeg L3))))] (fun sz9 => kJ9_min_7cf53 l C.2.2.2.2.2.2.1 L C.2.2.2.2.2.2.2.1 (v 20 0 (Int32.toNatClampNeg (v 17 0 (Int32.toNatClampNeg L3)))) (v 20 0 (Int32.toNatClampNeg (v 18 0 (Int32.toNatClampNeg L3)))) v _ X h sz9) wml_RX3_55 wstat_J9_min_7cf53 wini_RJ9 wcode_J9_min_7cf53 rfl rfl (n := 2) (by decide +kernel) rfl ⟨(Nat.le_of_ble_eq_true rfl), (Nat.le_of_ble_eq_true rfl)⟩ ⟨(Nat.le_of_ble_eq_true rfl), (Nat.le_of_ble_eq_true rfl)⟩ ⟨(Nat.le_of_ble_eq_true rfl), (Nat.le_of_ble_eq_true rfl)⟩ (Nat.le_of_ble_eq_true rfl) dX3_labelByRounds_103 (fun r103 v103 h => ?_)
        refine g_istore C [(4, .int r103), (0, .ref (L.2.1 3 0)), (1, .int L1), (2, .int L2), (3, .int L3)] (Nat.le_of_ble_eq_true rfl) rfl dX3_labelByRounds_106 ?_
        refine g_aload_n C 0 rfl 1 rfl dX3_labelByRounds_108 ?_
        refine fgX3_29 C dX3_labelByRounds_109 ?_
        refine g_aload_n C 0 rfl 1 rfl dX3_labelByRounds_112 ?_
        refine fgX3_9 C dX3_labelByRounds_113 ?_
        refine g_iload_n C 3 rfl 4 rfl dX3_labelByRounds_116 ?_
        obtain ⟨hb117, h⟩ := h
        refine g_iald C gok_17 rfl hb117 dX3_labelByRounds_117 ?_
        refine g_iload C 0 rfl dX3_labelByRounds_118 ?_
        obtain ⟨hb120, h⟩ := h
        refine g_iast C gok_20 (fun _ => rfl) hb120 dX3_labelByRounds_120 ?_
        refine g_aload_n C 0 rfl 1 rfl dX3_labelByRounds_121 ?_
        refine fgX3_29 C dX3_labelByRounds_122 ?_
        refine g_aload_n C 0 rfl 1 rfl dX3_labelByRounds_125 ?_
        refine fgX3_15 C dX3_labelByRounds_126 ?_
        refine g_iload_n C 3 rfl 4 rfl dX3_labelByRounds_129 ?_
        obtain ⟨hb130, h⟩ := h
        refine g_iald C gok_18 rfl hb130 dX3_labelByRounds_130 ?_
        refine g_iload C 0 rfl dX3_labelByRounds_131 ?_
        obtain ⟨hb133, h⟩ := h
        refine g_iast C gok_20 (fun _ => rfl) hb133 dX3_labelByRounds_133 ?_
        refine g_iconst C 1 (by decide) dX3_labelByRounds_134 ?_
        refine g_istore_n C 1 rfl [(1, .int 1), (4, .int r103), (0, .ref (L.2.1 3 0)), (2, .int L2), (3, .int L3)] (Nat.le_of_ble_eq_true rfl) rfl dX3_labelByRounds_135 ?_
        refine g_sub [(0, .ref (L.2.1 3 0)), (1, .int 1), (2, .int L2), (3, .int L3)] [2, 0, 3, 4] rfl ?_
        exact sX3_labelByRounds_136 C hr hno hI25 hI39 h
def LX3_labelByRounds_39 (I25 : Int32 → Int32 → gMem → Prop) (L1 : Int32) (L2 : Int32) (L3 : Int32) (v : gMem) (Q : gMem → Prop) (X : String → gMem → Prop) : Prop := ∀ I39 : Int32 → Int32 → gMem → Prop, (∀ (L1 : Int32) (L3 : Int32) (v : gMem), BX3_labelByRounds_39 I25 I39 L1 L2 L3 v Q X → I39 L1 L3 v) → I39 L1 L3 v
theorem slX3_labelByRounds_39 (C : gC p l s m args meth c cX3_labelByRounds 5 RX3 L sz) (hr : meth.sig.returnType = none) (hno : ∀ x ∈ c.exceptionTable.toList, False) {L1 : Int32} {L2 : Int32} {L3 : Int32} {v : gMem} {Q : gMem → Prop} {X : String → gMem → Prop} {I25 : Int32 → Int32 → gMem → Prop} (hI25 : ∀ (L1 : Int32) (L2 : Int32) (v : gMem), I25 L1 L2 v → gS p l e ({ frames := 1, cells := 0, slots := 0, locals := 21 } : Room) s m args below meth c 5 L sz (vx_MQ below (gQv L sz Q) (gXC L sz X) args s 0 0 (gA L sz)) 0 0 25 [(0, .ref (L.2.1 3 0)), (1, .int L1), (2, .int L2)] [] v) (h : LX3_labelByRounds_39 I25 L1 L2 L3 v Q X) : gS p l e ({ frames := 1, cells := 0, slots := 0, locals := 21 } : Room) s m args below meth c 5 L sz (vx_MQ below (gQv L sz Q) (gXC L sz X) args s 0 0 (gA L sz)) 0 0 39 [(0, .ref (L.2.1 3 0)), (1, .int L1), (2, .int L2), (3, .int L3)] [] v := by
  refine h (fun L1 L3 v => gS p l e ({ frames := 1, cells := 0, slots := 0, locals := 21 } : Room) s m args below meth c 5 L sz (vx_MQ below (gQv L sz Q) (gXC L sz X) args s 0 0 (gA L sz)) 0 0 39 [(0, .ref (L.2.1 3 0)), (1, .int L1), (2, .int L2), (3, .int L3)] [] v) (fun L1 L3 v hb => ?_)
  exact sX3_labelByRounds_39 C hr hno hI25 (fun _ _ _ hs => hs) hb
def BX3_labelByRounds_25 (I25 : Int32 → Int32 → gMem → Prop) (L1 : Int32) (L2 : Int32) (v : gMem) (Q : gMem → Prop) (X : String → gMem → Prop) : Prop := ((16 ≤ L2 → (BX3_labelByRounds_148 v Q X)) ∧ (¬ 16 ≤ L2 → ((L1 = 0 → (BX3_labelByRounds_148 v Q X)) ∧ (¬ L1 = 0 → (LX3_labelByRounds_39 I25 0 L2 0 v Q X)))))
theorem sX3_labelByRounds_25 (C : gC p l s m args meth c cX3_labelByRounds 5 RX3 L sz) (hr : meth.sig.returnType = none) (hno : ∀ x ∈ c.exceptionTable.toList, False) {L1 : Int32} {L2 : Int32} {v : gMem} {Q : gMem → Prop} {X : String → gMem → Prop} {I25 : Int32 → Int32 → gMem → Prop} (hI25 : ∀ (L1 : Int32) (L2 : Int32) (v : gMem), I25 L1 L2 v → gS p l e ({ frames := 1, cells := 0, slots := 0, locals := 21 } : Room) s m args below meth c 5 L sz (vx_MQ below (gQv L sz Q) (gXC L sz X) args s 0 0 (gA L sz)) 0 0 25 [(0, .ref (L.2.1 3 0)), (1, .int L1), (2, .int L2)] [] v) (h : BX3_labelByRounds_25 I25 L1 L2 v Q X) : gS p l e ({ frames := 1, cells := 0, slots := 0, locals := 21 } : Room) s m args below meth c 5 L sz (vx_MQ below (gQv L sz Q) (gXC L sz X) args s 0 0 (gA L sz)) 0 0 25 [(0, .ref (L.2.1 3 0)), (1, .int L1), (2, .int L2)] [] v := by
  unfold BX3_labelByRounds_25 at h
  refine g_iload_n C 2 rfl 2 rfl dX3_labelByRounds_25 ?_
  refine g_bipush C 16 (by decide) dX3_labelByRounds_26 ?_
  refine g_icmp_ge C 148 (by decide) dX3_labelByRounds_28 (fun hc => ?_) (fun hc => ?_)
  · replace h := h.1 hc
    refine g_sub [] [] rfl ?_
    exact sX3_labelByRounds_148 C hr hno h
  · replace h := h.2 hc
    refine g_iload_n C 1 rfl 1 rfl dX3_labelByRounds_31 ?_
    refine g_if_eq C 148 (by decide) dX3_labelByRounds_32 (fun hc => ?_) (fun hc => ?_)
    · replace h := h.1 hc
      refine g_sub [] [] rfl ?_
      exact sX3_labelByRounds_148 C hr hno h
    · replace h := h.2 hc
      refine g_iconst C 0 (by decide) dX3_labelByRounds_35 ?_
      refine g_istore_n C 1 rfl [(1, .int 0), (0, .ref (L.2.1 3 0)), (2, .int L2)] (Nat.le_of_ble_eq_true rfl) rfl dX3_labelByRounds_36 ?_
      refine g_iconst C 0 (by decide) dX3_labelByRounds_37 ?_
      refine g_istore_n C 3 rfl [(3, .int 0), (1, .int 0), (0, .ref (L.2.1 3 0)), (2, .int L2)] (Nat.le_of_ble_eq_true rfl) rfl dX3_labelByRounds_38 ?_
      refine g_sub [(0, .ref (L.2.1 3 0)), (1, .int 0), (2, .int L2), (3, .int 0)] [2, 1, 3, 0] rfl ?_
      exact slX3_labelByRounds_39 C hr hno hI25 h
def LX3_labelByRounds_25 (L1 : Int32) (L2 : Int32) (v : gMem) (Q : gMem → Prop) (X : String → gMem → Prop) : Prop := ∀ I25 : Int32 → Int32 → gMem → Prop, (∀ (L1 : Int32) (L2 : Int32) (v : gMem), BX3_labelByRounds_25 I25 L1 L2 v Q X → I25 L1 L2 v) → I25 L1 L2 v
theorem slX3_labelByRounds_25 (C : gC p l s m args meth c cX3_labelByRounds 5 RX3 L sz) (hr : meth.sig.returnType = none) (hno : ∀ x ∈ c.exceptionTable.toList, False) {L1 : Int32} {L2 : Int32} {v : gMem} {Q : gMem → Prop} {X : String → gMem → Prop} (h : LX3_labelByRounds_25 L1 L2 v Q X) : gS p l e ({ frames := 1, cells := 0, slots := 0, locals := 21 } : Room) s m args below meth c 5 L sz (vx_MQ below (gQv L sz Q) (gXC L sz X) args s 0 0 (gA L sz)) 0 0 25 [(0, .ref (L.2.1 3 0)), (1, .int L1), (2, .int L2)] [] v := by
  refine h (fun L1 L2 v => gS p l e ({ frames := 1, cells := 0, slots := 0, locals := 21 } : Room) s m args below meth c 5 L sz (vx_MQ below (gQv L sz Q) (gXC L sz X) args s 0 0 (gA L sz)) 0 0 25 [(0, .ref (L.2.1 3 0)), (1, .int L1), (2, .int L2)] [] v) (fun L1 L2 v hb => ?_)
  exact sX3_labelByRounds_25 C hr hno (fun _ _ _ hs => hs) hb
def BX3_labelByRounds_2 (I2 : Int32 → gMem → Prop) (L1 : Int32) (v : gMem) (Q : gMem → Prop) (X : String → gMem → Prop) : Prop := ((16 ≤ L1 → (LX3_labelByRounds_25 1 0 v Q X)) ∧ (¬ 16 ≤ L1 → (vp_in L1 16 ∧ (I2 (L1 + 1) (gw v 20 0 (Int32.toNatClampNeg L1) L1)))))
theorem sX3_labelByRounds_2 (C : gC p l s m args meth c cX3_labelByRounds 5 RX3 L sz) (hr : meth.sig.returnType = none) (hno : ∀ x ∈ c.exceptionTable.toList, False) {L1 : Int32} {v : gMem} {Q : gMem → Prop} {X : String → gMem → Prop} {I2 : Int32 → gMem → Prop} (hI2 : ∀ (L1 : Int32) (v : gMem), I2 L1 v → gS p l e ({ frames := 1, cells := 0, slots := 0, locals := 21 } : Room) s m args below meth c 5 L sz (vx_MQ below (gQv L sz Q) (gXC L sz X) args s 0 0 (gA L sz)) 0 0 2 [(0, .ref (L.2.1 3 0)), (1, .int L1)] [] v) (h : BX3_labelByRounds_2 I2 L1 v Q X) : gS p l e ({ frames := 1, cells := 0, slots := 0, locals := 21 } : Room) s m args below meth c 5 L sz (vx_MQ below (gQv L sz Q) (gXC L sz X) args s 0 0 (gA L sz)) 0 0 2 [(0, .ref (L.2.1 3 0)), (1, .int L1)] [] v := by
  unfold BX3_labelByRounds_2 at h
  refine g_iload_n C 1 rfl 1 rfl dX3_labelByRounds_2 ?_
  refine g_bipush C 16 (by decide) dX3_labelByRounds_3 ?_
  refine g_icmp_ge C 21 (by decide) dX3_labelByRounds_5 (fun hc => ?_) (fun hc => ?_)
  · replace h := h.1 hc
    refine g_iconst C 1 (by decide) dX3_labelByRounds_21 ?_
    refine g_istore_n C 1 rfl [(1, .int 1), (0, .ref (L.2.1 3 0))] (Nat.le_of_ble_eq_true rfl) rfl dX3_labelByRounds_22 ?_
    refine g_iconst C 0 (by decide) dX3_labelByRounds_23 ?_
    refine g_istore_n C 2 rfl [(2, .int 0), (1, .int 1), (0, .ref (L.2.1 3 0))] (Nat.le_of_ble_eq_true rfl) rfl dX3_labelByRounds_24 ?_
    refine g_sub [(0, .ref (L.2.1 3 0)), (1, .int 1), (2, .int 0)] [2, 1, 0] rfl ?_
    exact slX3_labelByRounds_25 C hr hno h
  · replace h := h.2 hc
    refine g_aload_n C 0 rfl 0 rfl dX3_labelByRounds_8 ?_
    refine fgX3_29 C dX3_labelByRounds_9 ?_
    refine g_iload_n C 1 rfl 1 rfl dX3_labelByRounds_12 ?_
    refine g_iload_n C 1 rfl 1 rfl dX3_labelByRounds_13 ?_
    obtain ⟨hb14, h⟩ := h
    refine g_iast C gok_20 (fun _ => rfl) hb14 dX3_labelByRounds_14 ?_
    refine g_iinc C (k := 1) (L1 + 1) [(1, .int (L1 + 1)), (0, .ref (L.2.1 3 0))] rfl rfl (Nat.le_of_ble_eq_true rfl) rfl dX3_labelByRounds_15 ?_
    refine g_goto C 2 (by decide) dX3_labelByRounds_18 ?_
    refine g_sub [(0, .ref (L.2.1 3 0)), (1, .int (L1 + 1))] [1, 0] rfl ?_
    exact hI2 _ _ h
def LX3_labelByRounds_2 (L1 : Int32) (v : gMem) (Q : gMem → Prop) (X : String → gMem → Prop) : Prop := ∀ I2 : Int32 → gMem → Prop, (∀ (L1 : Int32) (v : gMem), BX3_labelByRounds_2 I2 L1 v Q X → I2 L1 v) → I2 L1 v
theorem slX3_labelByRounds_2 (C : gC p l s m args meth c cX3_labelByRounds 5 RX3 L sz) (hr : meth.sig.returnType = none) (hno : ∀ x ∈ c.exceptionTable.toList, False) {L1 : Int32} {v : gMem} {Q : gMem → Prop} {X : String → gMem → Prop} (h : LX3_labelByRounds_2 L1 v Q X) : gS p l e ({ frames := 1, cells := 0, slots := 0, locals := 21 } : Room) s m args below meth c 5 L sz (vx_MQ below (gQv L sz Q) (gXC L sz X) args s 0 0 (gA L sz)) 0 0 2 [(0, .ref (L.2.1 3 0)), (1, .int L1)] [] v := by
  refine h (fun L1 v => gS p l e ({ frames := 1, cells := 0, slots := 0, locals := 21 } : Room) s m args below meth c 5 L sz (vx_MQ below (gQv L sz Q) (gXC L sz X) args s 0 0 (gA L sz)) 0 0 2 [(0, .ref (L.2.1 3 0)), (1, .int L1)] [] v) (fun L1 v hb => ?_)
  exact sX3_labelByRounds_2 C hr hno (fun _ _ hs => hs) hb
def TX3_labelByRounds (v : gMem) (Q : gMem → Prop) (X : String → gMem → Prop) : Prop := (LX3_labelByRounds_2 0 v Q X)
theorem kX3_labelByRounds (l : Launch) (hfl : l.stackTraces = false) (L : gL) (hL : gDist L) (v : gMem) (Q : gMem → Prop) (X : String → gMem → Prop) (h : TX3_labelByRounds v Q X) (sz : Nat) : vx_Met l yX3_labelByRounds [.code yX3_labelByRounds cX3_labelByRounds 5 none] ({ frames := 1, cells := 0, slots := 0, locals := 21 } : Room) (gPc L sz [.ref (L.2.1 3 0)] v) (gQv L sz Q) (gXC L sz X) 0 0 (gA L sz) := by
  refine g_ofW (by decide +kernel) hfl hL (Nat.le_of_ble_eq_true rfl) ?_
  intro p e s m args below meth c C hr hno
  refine g_sub [(0, .ref (L.2.1 3 0))] [0] rfl ?_
  unfold TX3_labelByRounds at h
  refine g_iconst C 0 (by decide) dX3_labelByRounds_0 ?_
  refine g_istore_n C 1 rfl [(1, .int 0), (0, .ref (L.2.1 3 0))] (Nat.le_of_ble_eq_true rfl) rfl dX3_labelByRounds_1 ?_
  refine g_sub [(0, .ref (L.2.1 3 0)), (1, .int 0)] [1, 0] rfl ?_
  exact slX3_labelByRounds_2 C hr hno h
def BX4_digitOf_134 (v : gMem) (Q : Int32 → gMem → Prop) (X : String → gMem → Prop) : Prop := (Q 48 v)
theorem sX4_digitOf_134 (C : gC p l s m args meth c cX4_digitOf 1 RX4 L sz) (hr : meth.sig.returnType = (some .char)) (hno : ∀ x ∈ c.exceptionTable.toList, False) {v : gMem} {Q : Int32 → gMem → Prop} {X : String → gMem → Prop} (h : BX4_digitOf_134 v Q X) : gS p l e ({ frames := 0, cells := 0, slots := 0, locals := 0 } : Room) s m args below meth c 1 L sz (vx_MQ below (gQi L sz Q) (gXC L sz X) args s 0 0 (gA L sz)) 0 0 134 [] [] v := by
  unfold BX4_digitOf_134 at h
  refine g_bipush C 48 (by decide) dX4_digitOf_134 ?_
  exact g_iret C hr rfl (Nat.le_of_ble_eq_true rfl) (Nat.le_of_ble_eq_true rfl) h dX4_digitOf_136
def BX4_digitOf_116 (v : gMem) (Q : Int32 → gMem → Prop) (X : String → gMem → Prop) : Prop := (Q 49 v)
theorem sX4_digitOf_116 (C : gC p l s m args meth c cX4_digitOf 1 RX4 L sz) (hr : meth.sig.returnType = (some .char)) (hno : ∀ x ∈ c.exceptionTable.toList, False) {v : gMem} {Q : Int32 → gMem → Prop} {X : String → gMem → Prop} (h : BX4_digitOf_116 v Q X) : gS p l e ({ frames := 0, cells := 0, slots := 0, locals := 0 } : Room) s m args below meth c 1 L sz (vx_MQ below (gQi L sz Q) (gXC L sz X) args s 0 0 (gA L sz)) 0 0 116 [] [] v := by
  unfold BX4_digitOf_116 at h
  refine g_bipush C 49 (by decide) dX4_digitOf_116 ?_
  exact g_iret C hr rfl (Nat.le_of_ble_eq_true rfl) (Nat.le_of_ble_eq_true rfl) h dX4_digitOf_118
def BX4_digitOf_119 (v : gMem) (Q : Int32 → gMem → Prop) (X : String → gMem → Prop) : Prop := (Q 50 v)
theorem sX4_digitOf_119 (C : gC p l s m args meth c cX4_digitOf 1 RX4 L sz) (hr : meth.sig.returnType = (some .char)) (hno : ∀ x ∈ c.exceptionTable.toList, False) {v : gMem} {Q : Int32 → gMem → Prop} {X : String → gMem → Prop} (h : BX4_digitOf_119 v Q X) : gS p l e ({ frames := 0, cells := 0, slots := 0, locals := 0 } : Room) s m args below meth c 1 L sz (vx_MQ below (gQi L sz Q) (gXC L sz X) args s 0 0 (gA L sz)) 0 0 119 [] [] v := by
  unfold BX4_digitOf_119 at h
  refine g_bipush C 50 (by decide) dX4_digitOf_119 ?_
  exact g_iret C hr rfl (Nat.le_of_ble_eq_true rfl) (Nat.le_of_ble_eq_true rfl) h dX4_digitOf_121
def BX4_digitOf_122 (v : gMem) (Q : Int32 → gMem → Prop) (X : String → gMem → Prop) : Prop := (Q 51 v)
theorem sX4_digitOf_122 (C : gC p l s m args meth c cX4_digitOf 1 RX4 L sz) (hr : meth.sig.returnType = (some .char)) (hno : ∀ x ∈ c.exceptionTable.toList, False) {v : gMem} {Q : Int32 → gMem → Prop} {X : String → gMem → Prop} (h : BX4_digitOf_122 v Q X) : gS p l e ({ frames := 0, cells := 0, slots := 0, locals := 0 } : Room) s m args below meth c 1 L sz (vx_MQ below (gQi L sz Q) (gXC L sz X) args s 0 0 (gA L sz)) 0 0 122 [] [] v := by
  unfold BX4_digitOf_122 at h
  refine g_bipush C 51 (by decide) dX4_digitOf_122 ?_
  exact g_iret C hr rfl (Nat.le_of_ble_eq_true rfl) (Nat.le_of_ble_eq_true rfl) h dX4_digitOf_124
def BX4_digitOf_128 (v : gMem) (Q : Int32 → gMem → Prop) (X : String → gMem → Prop) : Prop := (Q 53 v)
theorem sX4_digitOf_128 (C : gC p l s m args meth c cX4_digitOf 1 RX4 L sz) (hr : meth.sig.returnType = (some .char)) (hno : ∀ x ∈ c.exceptionTable.toList, False) {v : gMem} {Q : Int32 → gMem → Prop} {X : String → gMem → Prop} (h : BX4_digitOf_128 v Q X) : gS p l e ({ frames := 0, cells := 0, slots := 0, locals := 0 } : Room) s m args below meth c 1 L sz (vx_MQ below (gQi L sz Q) (gXC L sz X) args s 0 0 (gA L sz)) 0 0 128 [] [] v := by
  unfold BX4_digitOf_128 at h
  refine g_bipush C 53 (by decide) dX4_digitOf_128 ?_
  exact g_iret C hr rfl (Nat.le_of_ble_eq_true rfl) (Nat.le_of_ble_eq_true rfl) h dX4_digitOf_130
def TX4_digitOf (L0 : Int32) (v : gMem) (Q : Int32 → gMem → Prop) (X : String → gMem → Prop) : Prop := ((((L0 : Int32).toInt < 98 ∨ 122 < (L0 : Int32).toInt) → (BX4_digitOf_134 v Q X)) ∧ ((L0.toInt = 98 ∨ L0.toInt = 102 ∨ L0.toInt = 112 ∨ L0.toInt = 118) → (BX4_digitOf_116 v Q X)) ∧ ((L0.toInt = 99 ∨ L0.toInt = 103 ∨ L0.toInt = 106 ∨ L0.toInt = 107 ∨ L0.toInt = 113 ∨ L0.toInt = 115 ∨ L0.toInt = 120 ∨ L0.toInt = 122) → (BX4_digitOf_119 v Q X)) ∧ ((L0.toInt = 100 ∨ L0.toInt = 116) → (BX4_digitOf_122 v Q X)) ∧ ((L0.toInt = 101 ∨ L0.toInt = 104 ∨ L0.toInt = 105 ∨ L0.toInt = 111 ∨ L0.toInt = 117 ∨ L0.toInt = 119 ∨ L0.toInt = 121) → (BX4_digitOf_134 v Q X)) ∧ ((L0.toInt = 108) → (Q 52 v)) ∧ ((L0.toInt = 109 ∨ L0.toInt = 110) → (BX4_digitOf_128 v Q X)) ∧ ((L0.toInt = 114) → (Q 54 v)))
theorem kX4_digitOf (l : Launch) (hfl : l.stackTraces = false) (L : gL) (hL : gDist L) (L0 : Int32) (v : gMem) (Q : Int32 → gMem → Prop) (X : String → gMem → Prop) (h : TX4_digitOf L0 v Q X) (sz : Nat) : vx_Met l yX4_digitOf [.code yX4_digitOf cX4_digitOf 1 (some .char)] ({ frames := 0, cells := 0, slots := 0, locals := 0 } : Room) (gPc L sz [.int L0] v) (gQi L sz Q) (gXC L sz X) 0 0 (gA L sz) := by
  refine g_ofW (by decide +kernel) hfl hL (Nat.le_of_ble_eq_true rfl) ?_
  intro p e s m args below meth c C hr hno
  refine g_sub [(0, .int L0)] [0] rfl ?_
  unfold TX4_digitOf at h
  refine g_iload_n C 0 rfl 0 rfl dX4_digitOf_0 ?_
  refine g_switch C dX4_digitOf_1 (fun ho => ⟨134, by decide, ?_⟩) (fun h1 h2 => ?_)
  · replace h := h.1 ho
    refine g_sub [] [] rfl ?_
    exact sX4_digitOf_134 C hr hno h
  · have hk : L0.toInt = 98 ∨ L0.toInt = 99 ∨ L0.toInt = 100 ∨ L0.toInt = 101 ∨ L0.toInt = 102 ∨ L0.toInt = 103 ∨ L0.toInt = 104 ∨ L0.toInt = 105 ∨ L0.toInt = 106 ∨ L0.toInt = 107 ∨ L0.toInt = 108 ∨ L0.toInt = 109 ∨ L0.toInt = 110 ∨ L0.toInt = 111 ∨ L0.toInt = 112 ∨ L0.toInt = 113 ∨ L0.toInt = 114 ∨ L0.toInt = 115 ∨ L0.toInt = 116 ∨ L0.toInt = 117 ∨ L0.toInt = 118 ∨ L0.toInt = 119 ∨ L0.toInt = 120 ∨ L0.toInt = 121 ∨ L0.toInt = 122 := by omega
    replace h := h.2
    rcases hk with hk | hk | hk | hk | hk | hk | hk | hk | hk | hk | hk | hk | hk | hk | hk | hk | hk | hk | hk | hk | hk | hk | hk | hk | hk
    · refine ⟨115, 116, by rw [hk]; rfl, by decide, ?_⟩
      replace h := h.1 (Or.inl hk)
      refine g_sub [] [] rfl ?_
      exact sX4_digitOf_116 C hr hno h
    · refine ⟨118, 119, by rw [hk]; rfl, by decide, ?_⟩
      replace h := h.2.1 (Or.inl hk)
      refine g_sub [] [] rfl ?_
      exact sX4_digitOf_119 C hr hno h
    · refine ⟨121, 122, by rw [hk]; rfl, by decide, ?_⟩
      replace h := h.2.2.1 (Or.inl hk)
      refine g_sub [] [] rfl ?_
      exact sX4_digitOf_122 C hr hno h
    · refine ⟨133, 134, by rw [hk]; rfl, by decide, ?_⟩
      replace h := h.2.2.2.1 (Or.inl hk)
      refine g_sub [] [] rfl ?_
      exact sX4_digitOf_134 C hr hno h
    · refine ⟨115, 116, by rw [hk]; rfl, by decide, ?_⟩
      replace h := h.1 (Or.inr (Or.inl hk))
      refine g_sub [] [] rfl ?_
      exact sX4_digitOf_116 C hr hno h
    · refine ⟨118, 119, by rw [hk]; rfl, by decide, ?_⟩
      replace h := h.2.1 (Or.inr (Or.inl hk))
      refine g_sub [] [] rfl ?_
      exact sX4_digitOf_119 C hr hno h
    · refine ⟨133, 134, by rw [hk]; rfl, by decide, ?_⟩
      replace h := h.2.2.2.1 (Or.inr (Or.inl hk))
      refine g_sub [] [] rfl ?_
      exact sX4_digitOf_134 C hr hno h
    · refine ⟨133, 134, by rw [hk]; rfl, by decide, ?_⟩
      replace h := h.2.2.2.1 (Or.inr (Or.inr (Or.inl hk)))
      refine g_sub [] [] rfl ?_
      exact sX4_digitOf_134 C hr hno h
    · refine ⟨118, 119, by rw [hk]; rfl, by decide, ?_⟩
      replace h := h.2.1 (Or.inr (Or.inr (Or.inl hk)))
      refine g_sub [] [] rfl ?_
      exact sX4_digitOf_119 C hr hno h
    · refine ⟨118, 119, by rw [hk]; rfl, by decide, ?_⟩
      replace h := h.2.1 (Or.inr (Or.inr (Or.inr (Or.inl hk))))
      refine g_sub [] [] rfl ?_
      exact sX4_digitOf_119 C hr hno h
    · refine ⟨124, 125, by rw [hk]; rfl, by decide, ?_⟩
      replace h := h.2.2.2.2.1 hk
      refine g_bipush C 52 (by decide) dX4_digitOf_125 ?_
      exact g_iret C hr rfl (Nat.le_of_ble_eq_true rfl) (Nat.le_of_ble_eq_true rfl) h dX4_digitOf_127
    · refine ⟨127, 128, by rw [hk]; rfl, by decide, ?_⟩
      replace h := h.2.2.2.2.2.1 (Or.inl hk)
      refine g_sub [] [] rfl ?_
      exact sX4_digitOf_128 C hr hno h
    · refine ⟨127, 128, by rw [hk]; rfl, by decide, ?_⟩
      replace h := h.2.2.2.2.2.1 (Or.inr hk)
      refine g_sub [] [] rfl ?_
      exact sX4_digitOf_128 C hr hno h
    · refine ⟨133, 134, by rw [hk]; rfl, by decide, ?_⟩
      replace h := h.2.2.2.1 (Or.inr (Or.inr (Or.inr (Or.inl hk))))
      refine g_sub [] [] rfl ?_
      exact sX4_digitOf_134 C hr hno h
    · refine ⟨115, 116, by rw [hk]; rfl, by decide, ?_⟩
      replace h := h.1 (Or.inr (Or.inr (Or.inl hk)))
      refine g_sub [] [] rfl ?_
      exact sX4_digitOf_116 C hr hno h
    · refine ⟨118, 119, by rw [hk]; rfl, by decide, ?_⟩
      replace h := h.2.1 (Or.inr (Or.inr (Or.inr (Or.inr (Or.inl hk)))))
      refine g_sub [] [] rfl ?_
      exact sX4_digitOf_119 C hr hno h
    · refine ⟨130, 131, by rw [hk]; rfl, by decide, ?_⟩
      replace h := h.2.2.2.2.2.2 hk
      refine g_bipush C 54 (by decide) dX4_digitOf_131 ?_
      exact g_iret C hr rfl (Nat.le_of_ble_eq_true rfl) (Nat.le_of_ble_eq_true rfl) h dX4_digitOf_133
    · refine ⟨118, 119, by rw [hk]; rfl, by decide, ?_⟩
      replace h := h.2.1 (Or.inr (Or.inr (Or.inr (Or.inr (Or.inr (Or.inl hk))))))
      refine g_sub [] [] rfl ?_
      exact sX4_digitOf_119 C hr hno h
    · refine ⟨121, 122, by rw [hk]; rfl, by decide, ?_⟩
      replace h := h.2.2.1 (Or.inr hk)
      refine g_sub [] [] rfl ?_
      exact sX4_digitOf_122 C hr hno h
    · refine ⟨133, 134, by rw [hk]; rfl, by decide, ?_⟩
      replace h := h.2.2.2.1 (Or.inr (Or.inr (Or.inr (Or.inr (Or.inl hk)))))
      refine g_sub [] [] rfl ?_
      exact sX4_digitOf_134 C hr hno h
    · refine ⟨115, 116, by rw [hk]; rfl, by decide, ?_⟩
      replace h := h.1 (Or.inr (Or.inr (Or.inr hk)))
      refine g_sub [] [] rfl ?_
      exact sX4_digitOf_116 C hr hno h
    · refine ⟨133, 134, by rw [hk]; rfl, by decide, ?_⟩
      replace h := h.2.2.2.1 (Or.inr (Or.inr (Or.inr (Or.inr (Or.inr (Or.inl hk))))))
      refine g_sub [] [] rfl ?_
      exact sX4_digitOf_134 C hr hno h
    · refine ⟨118, 119, by rw [hk]; rfl, by decide, ?_⟩
      replace h := h.2.1 (Or.inr (Or.inr (Or.inr (Or.inr (Or.inr (Or.inr (Or.inl hk)))))))
      refine g_sub [] [] rfl ?_
      exact sX4_digitOf_119 C hr hno h
    · refine ⟨133, 134, by rw [hk]; rfl, by decide, ?_⟩
      replace h := h.2.2.2.1 (Or.inr (Or.inr (Or.inr (Or.inr (Or.inr (Or.inr hk))))))
      refine g_sub [] [] rfl ?_
      exact sX4_digitOf_134 C hr hno h
    · refine ⟨118, 119, by rw [hk]; rfl, by decide, ?_⟩
      replace h := h.2.1 (Or.inr (Or.inr (Or.inr (Or.inr (Or.inr (Or.inr (Or.inr hk)))))))
      refine g_sub [] [] rfl ?_
      exact sX4_digitOf_119 C hr hno h
def BX4_extendSound_28 (i0 : Nat) (v : gMem) (Q : gMem → Prop) (X : String → gMem → Prop) : Prop := (Q v)
theorem sX4_extendSound_28 (C : gC p l s m args meth c cX4_extendSound 2 RX4 L sz) (hr : meth.sig.returnType = none) (hno : ∀ x ∈ c.exceptionTable.toList, False) {i0 : Nat} (hi0 : i0 < 17) {v : gMem} {Q : gMem → Prop} {X : String → gMem → Prop} (h : BX4_extendSound_28 i0 v Q X) : gS p l e ({ frames := 0, cells := 0, slots := 0, locals := 0 } : Room) s m args below meth c 2 L sz (vx_MQ below (gQv L sz Q) (gXC L sz X) args s 0 0 (gA L sz)) 0 0 28 [] [] v := by
  unfold BX4_extendSound_28 at h
  exact g_vret C hr (Nat.le_of_ble_eq_true rfl) (Nat.le_of_ble_eq_true rfl) h dX4_extendSound_28
def TX4_extendSound (i0 : Nat) (L1 : Int32) (v : gMem) (Q : gMem → Prop) (X : String → gMem → Prop) : Prop := ((4 ≤ (v 4 i0 3) → (BX4_extendSound_28 i0 v Q X)) ∧ (¬ 4 ≤ (v 4 i0 3) → (vp_in (v 4 i0 3) 4 ∧ (BX4_extendSound_28 i0 (gw (gw v 22 i0 (Int32.toNatClampNeg (v 4 i0 3)) (vp_nar .char L1)) 4 i0 3 (((gw v 22 i0 (Int32.toNatClampNeg (v 4 i0 3)) (vp_nar .char L1)) 4 i0 3) + 1)) Q X))))
theorem kX4_extendSound (l : Launch) (hfl : l.stackTraces = false) (L : gL) (hL : gDist L) {i0 : Nat} (hi0 : i0 < 17) (L1 : Int32) (v : gMem) (Q : gMem → Prop) (X : String → gMem → Prop) (h : TX4_extendSound i0 L1 v Q X) (sz : Nat) : vx_Met l yX4_extendSound [.code yX4_extendSound cX4_extendSound 2 none] ({ frames := 0, cells := 0, slots := 0, locals := 0 } : Room) (gPc L sz [.ref (L.2.1 4 i0), .int L1] v) (gQv L sz Q) (gXC L sz X) 0 0 (gA L sz) := by
  refine g_ofW (by decide +kernel) hfl hL (Nat.le_of_ble_eq_true rfl) ?_
  intro p e s m args below meth c C hr hno
  refine g_sub [(0, .ref (L.2.1 4 i0)), (1, .int L1)] [0, 1] rfl ?_
  unfold TX4_extendSound at h
  refine g_aload_n C 0 rfl 0 rfl dX4_extendSound_0 ?_
  refine fgX4_30 C (gok_4 hi0) dX4_extendSound_1 ?_
  refine g_iconst C 4 (by decide) dX4_extendSound_4 ?_
  refine g_icmp_ge C 28 (by decide) dX4_extendSound_5 (fun hc => ?_) (fun hc => ?_)
  · replace h := h.1 hc
    refine g_sub [] [] rfl ?_
    exact sX4_extendSound_28 C hr hno hi0 h
  · replace h := h.2 hc
    refine g_aload_n C 0 rfl 0 rfl dX4_extendSound_8 ?_
    refine fgX4_15 C (gok_4 hi0) dX4_extendSound_9 ?_
    refine g_aload_n C 0 rfl 0 rfl dX4_extendSound_12 ?_
    refine fgX4_30 C (gok_4 hi0) dX4_extendSound_13 ?_
    refine g_iload_n C 1 rfl 1 rfl dX4_extendSound_16 ?_
    obtain ⟨hb17, h⟩ := h
    refine g_cast C (gok_22 hi0) (fun _ => rfl) hb17 dX4_extendSound_17 ?_
    refine g_aload_n C 0 rfl 0 rfl dX4_extendSound_18 ?_
    refine g_dup C rfl dX4_extendSound_19 ?_
    refine fgX4_30 C (gok_4 hi0) dX4_extendSound_20 ?_
    refine g_iconst C 1 (by decide) dX4_extendSound_23 ?_
    refine g_iadd C dX4_extendSound_24 ?_
    refine fpX4_30 C (gok_4 hi0) dX4_extendSound_25 ?_
    refine g_sub [] [] rfl ?_
    exact sX4_extendSound_28 C hr hno hi0 h
def BX4_append_59 (i0 : Nat) (L1 : Int32) (v : gMem) (Q : gMem → Prop) (X : String → gMem → Prop) : Prop := (vp_in (v 4 i0 1) 10 ∧ (Q (gw (gw v 21 i0 (Int32.toNatClampNeg (v 4 i0 1)) (vp_nar .char L1)) 4 i0 1 (((gw v 21 i0 (Int32.toNatClampNeg (v 4 i0 1)) (vp_nar .char L1)) 4 i0 1) + 1))))
theorem sX4_append_59 (C : gC p l s m args meth c cX4_append 3 RX4 L sz) (hr : meth.sig.returnType = none) (hno : ∀ x ∈ c.exceptionTable.toList, False) {i0 : Nat} (hi0 : i0 < 17) {L1 : Int32} {v : gMem} {Q : gMem → Prop} {X : String → gMem → Prop} (h : BX4_append_59 i0 L1 v Q X) : gS p l e ({ frames := 1, cells := 0, slots := 0, locals := 21 } : Room) s m args below meth c 3 L sz (vx_MQ below (gQv L sz Q) (gXC L sz X) args s 0 0 (gA L sz)) 0 0 59 [(0, .ref (L.2.1 4 i0)), (1, .int L1)] [] v := by
  unfold BX4_append_59 at h
  refine g_aload_n C 0 rfl 0 rfl dX4_append_59 ?_
  refine fgX4_9 C (gok_4 hi0) dX4_append_60 ?_
  refine g_aload_n C 0 rfl 0 rfl dX4_append_63 ?_
  refine fgX4_18 C (gok_4 hi0) dX4_append_64 ?_
  refine g_iload_n C 1 rfl 1 rfl dX4_append_67 ?_
  obtain ⟨hb68, h⟩ := h
  refine g_cast C (gok_21 hi0) (fun _ => rfl) hb68 dX4_append_68 ?_
  refine g_aload_n C 0 rfl 0 rfl dX4_append_69 ?_
  refine g_dup C rfl dX4_append_70 ?_
  refine fgX4_18 C (gok_4 hi0) dX4_append_71 ?_
  refine g_iconst C 1 (by decide) dX4_append_74 ?_
  refine g_iadd C dX4_append_75 ?_
  refine fpX4_18 C (gok_4 hi0) dX4_append_76 ?_
  exact g_vret C hr (Nat.le_of_ble_eq_true rfl) (Nat.le_of_ble_eq_true rfl) h dX4_append_79
def TX4_append (i0 : Nat) (L1 : Int32) (v : gMem) (Q : gMem → Prop) (X : String → gMem → Prop) : Prop := (((v 4 i0 1) < 10 → (TX4_digitOf L1 v (fun r11 v11 => ((¬ (v11 4 i0 1) = 0 → ((r11 = 48 → (BX4_append_59 i0 L1 v11 Q X)) ∧ (¬ r11 = 48 → (vp_in ((v11 4 i0 1) - 1) 10 ∧ (TX4_digitOf (v11 21 i0 (Int32.toNatClampNeg ((v11 4 i0 1) - 1))) v11 (fun r48 v48 => ((r11 = r48 → (BX4_append_59 i0 L1 v48 Q X)) ∧ (¬ r11 = r48 → (TX4_extendSound i0 r11 v48 (fun v56 => (BX4_append_59 i0 L1 v56 Q X)) X)))) X))))) ∧ ((v11 4 i0 1) = 0 → (TX4_extendSound i0 L1 v11 (fun v24 => (BX4_append_59 i0 L1 v24 Q X)) X)))) X)) ∧ (¬ (v 4 i0 1) < 10 → (Q v)))
theorem kX4_append (l : Launch) (hfl : l.stackTraces = false) (L : gL) (hL : gDist L) {i0 : Nat} (hi0 : i0 < 17) (L1 : Int32) (v : gMem) (Q : gMem → Prop) (X : String → gMem → Prop) (h : TX4_append i0 L1 v Q X) (sz : Nat) : vx_Met l yX4_append [.code yX4_append cX4_append 3 none] ({ frames := 1, cells := 0, slots := 0, locals := 21 } : Room) (gPc L sz [.ref (L.2.1 4 i0), .int L1] v) (gQv L sz Q) (gXC L sz X) 0 0 (gA L sz) := by
  refine g_ofW (by decide +kernel) hfl hL (Nat.le_of_ble_eq_true rfl) ?_
  intro p e s m args below meth c C hr hno
  refine g_sub [(0, .ref (L.2.1 4 i0)), (1, .int L1)] [0, 1] rfl ?_
  unfold TX4_append at h
  refine g_aload_n C 0 rfl 0 rfl dX4_append_0 ?_
  refine fgX4_18 C (gok_4 hi0) dX4_append_1 ?_
  refine g_bipush C 10 (by decide) dX4_append_4 ?_
  refine g_icmp_lt C 10 (by decide) dX4_append_6 (fun hc => ?_) (fun hc => ?_)
  · replace h := h.1 hc
    refine g_iload_n C 1 rfl 1 rfl dX4_append_10 ?_
    refine g_callSi C hno [.int L1] (fun sz9 => kX4_digitOf l C.2.2.2.2.2.2.1 L C.2.2.2.2.2.2.2.1 L1 v _ X h sz9) wml_RX4_22 wstat_X4_digitOf wini_RX4 wcode_X4_digitOf rfl rfl (n := 1) (by decide +kernel) rfl ⟨(Nat.le_of_ble_eq_true rfl), (Nat.le_of_ble_eq_true rfl)⟩ ⟨(Nat.le_of_ble_eq_true rfl), (Nat.le_of_ble_eq_true rfl)⟩ ⟨(Nat.le_of_ble_eq_true rfl), (Nat.le_of_ble_eq_true rfl)⟩ (Nat.le_of_ble_eq_true rfl) dX4_append_11 (fun r11 v11 h => ?_)
    refine g_istore_n C 2 rfl [(2, .int r11), (0, .ref (L.2.1 4 i0)), (1, .int L1)] (Nat.le_of_ble_eq_true rfl) rfl dX4_append_14 ?_
    refine g_aload_n C 0 rfl 1 rfl dX4_append_15 ?_
    refine fgX4_18 C (gok_4 hi0) dX4_append_16 ?_
    refine g_if_ne C 30 (by decide) dX4_append_19 (fun hc => ?_) (fun hc => ?_)
    · replace h := h.1 hc
      refine g_iload_n C 2 rfl 0 rfl dX4_append_30 ?_
      refine g_bipush C 48 (by decide) dX4_append_31 ?_
      refine g_icmp_eq C 59 (by decide) dX4_append_33 (fun hc => ?_) (fun hc => ?_)
      · replace h := h.1 hc
        refine g_sub [(0, .ref (L.2.1 4 i0)), (1, .int L1)] [1, 2] rfl ?_
        exact sX4_append_59 C hr hno hi0 h
      · replace h := h.2 hc
        refine g_iload_n C 2 rfl 0 rfl dX4_append_36 ?_
        refine g_aload_n C 0 rfl 1 rfl dX4_append_37 ?_
        refine fgX4_9 C (gok_4 hi0) dX4_append_38 ?_
        refine g_aload_n C 0 rfl 1 rfl dX4_append_41 ?_
        refine fgX4_18 C (gok_4 hi0) dX4_append_42 ?_
        refine g_iconst C 1 (by decide) dX4_append_45 ?_
        refine g_isub C dX4_append_46 ?_
        obtain ⟨hb47, h⟩ := h
        refine g_cald C (gok_21 hi0) rfl hb47 dX4_append_47 ?_
        refine g_callSi C hno [.int (v11 21 i0 (Int32.toNatClampNeg ((v11 4 i0 1) - 1)))] (fun sz9 => kX4_digitOf l C.2.2.2.2.2.2.1 L C.2.2.2.2.2.2.2.1 (v11 21 i0 (Int32.toNatClampNeg ((v11 4 i0 1) - 1))) v11 _ X h sz9) wml_RX4_22 wstat_X4_digitOf wini_RX4 wcode_X4_digitOf rfl rfl (n := 1) (by decide +kernel) rfl ⟨(Nat.le_of_ble_eq_true rfl), (Nat.le_of_ble_eq_true rfl)⟩ ⟨(Nat.le_of_ble_eq_true rfl), (Nat.le_of_ble_eq_true rfl)⟩ ⟨(Nat.le_of_ble_eq_true rfl), (Nat.le_of_ble_eq_true rfl)⟩ (Nat.le_of_ble_eq_true rfl) dX4_append_48 (fun r48 v48 h => ?_)
        refine g_icmp_eq C 59 (by decide) dX4_append_51 (fun hc => ?_) (fun hc => ?_)
        · replace h := h.1 hc
          refine g_sub [(0, .ref (L.2.1 4 i0)), (1, .int L1)] [1, 2] rfl ?_
          exact sX4_append_59 C hr hno hi0 h
        · replace h := h.2 hc
          refine g_aload_n C 0 rfl 1 rfl dX4_append_54 ?_
          refine g_iload_n C 2 rfl 0 rfl dX4_append_55 ?_
          refine g_callVv C hno (gok_4 hi0) rfl rfl [.int r11] (fun sz9 => kX4_extendSound l C.2.2.2.2.2.2.1 L C.2.2.2.2.2.2.2.1 hi0 r11 v48 _ X h sz9) wml_RX4_26 winst_X4_extendSound wsel_X4_extendSound wini_RX4 wcode_X4_extendSound rfl rfl (n := 1) (by decide +kernel) rfl ⟨(Nat.le_of_ble_eq_true rfl), (Nat.le_of_ble_eq_true rfl)⟩ ⟨(Nat.le_of_ble_eq_true rfl), (Nat.le_of_ble_eq_true rfl)⟩ ⟨(Nat.le_of_ble_eq_true rfl), (Nat.le_of_ble_eq_true rfl)⟩ (Nat.le_of_ble_eq_true rfl) dX4_append_56 (fun v56 h => ?_)
          refine g_sub [(0, .ref (L.2.1 4 i0)), (1, .int L1)] [1, 2] rfl ?_
          exact sX4_append_59 C hr hno hi0 h
    · replace h := h.2 hc
      refine g_aload_n C 0 rfl 1 rfl dX4_append_22 ?_
      refine g_iload_n C 1 rfl 2 rfl dX4_append_23 ?_
      refine g_callVv C hno (gok_4 hi0) rfl rfl [.int L1] (fun sz9 => kX4_extendSound l C.2.2.2.2.2.2.1 L C.2.2.2.2.2.2.2.1 hi0 L1 v11 _ X h sz9) wml_RX4_26 winst_X4_extendSound wsel_X4_extendSound wini_RX4 wcode_X4_extendSound rfl rfl (n := 1) (by decide +kernel) rfl ⟨(Nat.le_of_ble_eq_true rfl), (Nat.le_of_ble_eq_true rfl)⟩ ⟨(Nat.le_of_ble_eq_true rfl), (Nat.le_of_ble_eq_true rfl)⟩ ⟨(Nat.le_of_ble_eq_true rfl), (Nat.le_of_ble_eq_true rfl)⟩ (Nat.le_of_ble_eq_true rfl) dX4_append_24 (fun v24 h => ?_)
      refine g_goto C 59 (by decide) dX4_append_27 ?_
      refine g_sub [(0, .ref (L.2.1 4 i0)), (1, .int L1)] [1, 2] rfl ?_
      exact sX4_append_59 C hr hno hi0 h
  · replace h := h.2 hc
    exact g_vret C hr (Nat.le_of_ble_eq_true rfl) (Nat.le_of_ble_eq_true rfl) h dX4_append_9
def TX4_empty (i0 : Nat) (v : gMem) (Q : Int32 → gMem → Prop) (X : String → gMem → Prop) : Prop := (Q (v 4 i0 1) (gw (gw v 4 i0 1 0) 4 i0 3 0))
theorem kX4_empty (l : Launch) (hfl : l.stackTraces = false) (L : gL) (hL : gDist L) {i0 : Nat} (hi0 : i0 < 17) (v : gMem) (Q : Int32 → gMem → Prop) (X : String → gMem → Prop) (h : TX4_empty i0 v Q X) (sz : Nat) : vx_Met l yX4_empty [.code yX4_empty cX4_empty 2 (some .int)] ({ frames := 0, cells := 0, slots := 0, locals := 0 } : Room) (gPc L sz [.ref (L.2.1 4 i0)] v) (gQi L sz Q) (gXC L sz X) 0 0 (gA L sz) := by
  refine g_ofW (by decide +kernel) hfl hL (Nat.le_of_ble_eq_true rfl) ?_
  intro p e s m args below meth c C hr hno
  refine g_sub [(0, .ref (L.2.1 4 i0))] [0] rfl ?_
  unfold TX4_empty at h
  refine g_aload_n C 0 rfl 0 rfl dX4_empty_0 ?_
  refine fgX4_18 C (gok_4 hi0) dX4_empty_1 ?_
  refine g_istore_n C 1 rfl [(1, .int (v 4 i0 1)), (0, .ref (L.2.1 4 i0))] (Nat.le_of_ble_eq_true rfl) rfl dX4_empty_4 ?_
  refine g_aload_n C 0 rfl 1 rfl dX4_empty_5 ?_
  refine g_iconst C 0 (by decide) dX4_empty_6 ?_
  refine fpX4_18 C (gok_4 hi0) dX4_empty_7 ?_
  refine g_aload_n C 0 rfl 1 rfl dX4_empty_10 ?_
  refine g_iconst C 0 (by decide) dX4_empty_11 ?_
  refine fpX4_30 C (gok_4 hi0) dX4_empty_12 ?_
  refine g_iload_n C 1 rfl 0 rfl dX4_empty_15 ?_
  exact g_iret C hr rfl (Nat.le_of_ble_eq_true rfl) (Nat.le_of_ble_eq_true rfl) h dX4_empty_16
def BX4_soundsLike_23 (i0 : Nat) (i1 : Nat) (t0 : Int32) (v : gMem) (Q : Int32 → gMem → Prop) (X : String → gMem → Prop) : Prop := (narrow .boolean (.int t0) = .int t0 ∧ Q t0 v)
theorem sX4_soundsLike_23 (C : gC p l s m args meth c cX4_soundsLike 2 RX4 L sz) (hr : meth.sig.returnType = (some .boolean)) (hno : ∀ x ∈ c.exceptionTable.toList, False) {i0 : Nat} {i1 : Nat} (hi0 : i0 < 17) (hi1 : i1 < 17) {t0 : Int32} {v : gMem} {Q : Int32 → gMem → Prop} {X : String → gMem → Prop} (h : BX4_soundsLike_23 i0 i1 t0 v Q X) : gS p l e ({ frames := 1, cells := 0, slots := 0, locals := 22 } : Room) s m args below meth c 2 L sz (vx_MQ below (gQi L sz Q) (gXC L sz X) args s 0 0 (gA L sz)) 0 0 23 [] [.int t0] v := by
  unfold BX4_soundsLike_23 at h
  exact g_iret C hr h.1 (Nat.le_of_ble_eq_true rfl) (Nat.le_of_ble_eq_true rfl) h.2 dX4_soundsLike_23
def BX4_soundsLike_22 (i0 : Nat) (i1 : Nat) (v : gMem) (Q : Int32 → gMem → Prop) (X : String → gMem → Prop) : Prop := (BX4_soundsLike_23 i0 i1 0 v Q X)
theorem sX4_soundsLike_22 (C : gC p l s m args meth c cX4_soundsLike 2 RX4 L sz) (hr : meth.sig.returnType = (some .boolean)) (hno : ∀ x ∈ c.exceptionTable.toList, False) {i0 : Nat} {i1 : Nat} (hi0 : i0 < 17) (hi1 : i1 < 17) {v : gMem} {Q : Int32 → gMem → Prop} {X : String → gMem → Prop} (h : BX4_soundsLike_22 i0 i1 v Q X) : gS p l e ({ frames := 1, cells := 0, slots := 0, locals := 22 } : Room) s m args below meth c 2 L sz (vx_MQ below (gQi L sz Q) (gXC L sz X) args s 0 0 (gA L sz)) 0 0 22 [] [] v := by
  unfold BX4_soundsLike_22 at h
  refine g_iconst C 0 (by decide) dX4_soundsLike_22 ?_
  exact sX4_soundsLike_23 C hr hno hi0 hi1 h
def TX4_soundsLike (i0 : Nat) (i1 : Nat) (v : gMem) (Q : Int32 → gMem → Prop) (X : String → gMem → Prop) : Prop := (((v 4 i0 1) ≤ 0 → (BX4_soundsLike_22 i0 i1 v Q X)) ∧ (¬ (v 4 i0 1) ≤ 0 → (TX4_soundKey i0 v (fun r8 v8 => (TX4_soundKey i1 v8 (fun r12 v12 => ((¬ r8 = r12 → (BX4_soundsLike_22 i0 i1 v12 Q X)) ∧ (r8 = r12 → (BX4_soundsLike_23 i0 i1 1 v12 Q X)))) X)) X)))
theorem kX4_soundsLike (l : Launch) (hfl : l.stackTraces = false) (L : gL) (hL : gDist L) {i0 : Nat} {i1 : Nat} (hi0 : i0 < 17) (hi1 : i1 < 17) (v : gMem) (Q : Int32 → gMem → Prop) (X : String → gMem → Prop) (h : TX4_soundsLike i0 i1 v Q X) (sz : Nat) : vx_Met l yX4_soundsLike [.code yX4_soundsLike cX4_soundsLike 2 (some .boolean)] ({ frames := 1, cells := 0, slots := 0, locals := 22 } : Room) (gPc L sz [.ref (L.2.1 4 i0), .ref (L.2.1 4 i1)] v) (gQi L sz Q) (gXC L sz X) 0 0 (gA L sz) := by
  refine g_ofW (by decide +kernel) hfl hL (Nat.le_of_ble_eq_true rfl) ?_
  intro p e s m args below meth c C hr hno
  refine g_sub [(0, .ref (L.2.1 4 i0)), (1, .ref (L.2.1 4 i1))] [0, 1] rfl ?_
  unfold TX4_soundsLike at h
  refine g_aload_n C 0 rfl 0 rfl dX4_soundsLike_0 ?_
  refine fgX4_18 C (gok_4 hi0) dX4_soundsLike_1 ?_
  refine g_if_le C 22 (by decide) dX4_soundsLike_4 (fun hc => ?_) (fun hc => ?_)
  · replace h := h.1 hc
    refine g_sub [] [] rfl ?_
    exact sX4_soundsLike_22 C hr hno hi0 hi1 h
  · replace h := h.2 hc
    refine g_aload_n C 0 rfl 0 rfl dX4_soundsLike_7 ?_
    refine g_callVi C hno (gok_4 hi0) rfl rfl [] (fun sz9 => kX4_soundKey l C.2.2.2.2.2.2.1 L C.2.2.2.2.2.2.2.1 hi0 v _ X h sz9) wml_RX4_33 winst_X4_soundKey wsel_X4_soundKey wini_RX4 wcode_X4_soundKey rfl rfl (n := 0) (by decide +kernel) rfl ⟨(Nat.le_of_ble_eq_true rfl), (Nat.le_of_ble_eq_true rfl)⟩ ⟨(Nat.le_of_ble_eq_true rfl), (Nat.le_of_ble_eq_true rfl)⟩ ⟨(Nat.le_of_ble_eq_true rfl), (Nat.le_of_ble_eq_true rfl)⟩ (Nat.le_of_ble_eq_true rfl) dX4_soundsLike_8 (fun r8 v8 h => ?_)
    refine g_aload_n C 1 rfl 1 rfl dX4_soundsLike_11 ?_
    refine g_callVi C hno (gok_4 hi1) rfl rfl [] (fun sz9 => kX4_soundKey l C.2.2.2.2.2.2.1 L C.2.2.2.2.2.2.2.1 hi1 v8 _ X h sz9) wml_RX4_33 winst_X4_soundKey wsel_X4_soundKey wini_RX4 wcode_X4_soundKey rfl rfl (n := 0) (by decide +kernel) rfl ⟨(Nat.le_of_ble_eq_true rfl), (Nat.le_of_ble_eq_true rfl)⟩ ⟨(Nat.le_of_ble_eq_true rfl), (Nat.le_of_ble_eq_true rfl)⟩ ⟨(Nat.le_of_ble_eq_true rfl), (Nat.le_of_ble_eq_true rfl)⟩ (Nat.le_of_ble_eq_true rfl) dX4_soundsLike_12 (fun r12 v12 h => ?_)
    refine g_icmp_ne C 22 (by decide) dX4_soundsLike_15 (fun hc => ?_) (fun hc => ?_)
    · replace h := h.1 hc
      refine g_sub [] [] rfl ?_
      exact sX4_soundsLike_22 C hr hno hi0 hi1 h
    · replace h := h.2 hc
      refine g_iconst C 1 (by decide) dX4_soundsLike_18 ?_
      refine g_goto C 23 (by decide) dX4_soundsLike_19 ?_
      refine g_sub [] [] rfl ?_
      exact sX4_soundsLike_23 C hr hno hi0 hi1 h
def TX5_holds (i0 : Nat) (L1 : Int32) (L2 : Int32) (v : gMem) (Q : Int32 → gMem → Prop) (X : String → gMem → Prop) : Prop := (vp_in L1 16 ∧ (TX6_contains (v 16 i0 (Int32.toNatClampNeg L1)) L2 v (fun r7 v7 => (narrow .boolean (.int r7) = .int r7 ∧ Q r7 v7)) X))
theorem kX5_holds (l : Launch) (hfl : l.stackTraces = false) (L : gL) (hL : gDist L) {i0 : Nat} (hi0 : i0 < 2) (L1 : Int32) (L2 : Int32) (v : gMem) (Q : Int32 → gMem → Prop) (X : String → gMem → Prop) (h : TX5_holds i0 L1 L2 v Q X) (sz : Nat) : vx_Met l yX5_holds [.code yX5_holds cX5_holds 3 (some .boolean)] ({ frames := 1, cells := 0, slots := 0, locals := 21 } : Room) (gPc L sz [.ref (L.2.1 5 i0), .int L1, .int L2] v) (gQi L sz Q) (gXC L sz X) 0 0 (gA L sz) := by
  refine g_ofW (by decide +kernel) hfl hL (Nat.le_of_ble_eq_true rfl) ?_
  intro p e s m args below meth c C hr hno
  refine g_sub [(0, .ref (L.2.1 5 i0)), (1, .int L1), (2, .int L2)] [0, 1, 2] rfl ?_
  unfold TX5_holds at h
  refine g_aload_n C 0 rfl 0 rfl dX5_holds_0 ?_
  refine fgX5_9 C (gok_5 hi0) dX5_holds_1 ?_
  refine g_iload_n C 1 rfl 1 rfl dX5_holds_4 ?_
  obtain ⟨hb5, h⟩ := h
  refine g_iald C (gok_16 hi0) rfl hb5 dX5_holds_5 ?_
  refine g_iload_n C 2 rfl 2 rfl dX5_holds_6 ?_
  refine g_callSNi C hno [.int (v 16 i0 (Int32.toNatClampNeg L1)), .int L2] (fun sz9 => kX6_contains l C.2.2.2.2.2.2.1 L C.2.2.2.2.2.2.2.1 (v 16 i0 (Int32.toNatClampNeg L1)) L2 v _ X h sz9) wml_RX5_15 wstat_X6_contains wini_RX6 wcode_X6_contains rfl rfl (n := 2) (by decide +kernel) rfl ⟨(Nat.le_of_ble_eq_true rfl), (Nat.le_of_ble_eq_true rfl)⟩ ⟨(Nat.le_of_ble_eq_true rfl), (Nat.le_of_ble_eq_true rfl)⟩ ⟨(Nat.le_of_ble_eq_true rfl), (Nat.le_of_ble_eq_true rfl)⟩ (Nat.le_of_ble_eq_true rfl) dX5_holds_7 (fun r7 v7 h => ?_)
  exact g_iret C hr h.1 (Nat.le_of_ble_eq_true rfl) (Nat.le_of_ble_eq_true rfl) h.2 dX5_holds_10
def BX6_requireRank_11 (v : gMem) (Q : gMem → Prop) (X : String → gMem → Prop) : Prop := (X "java/lang/IllegalArgumentException" v)
theorem sX6_requireRank_11 (C : gC p l s m args meth c cX6_requireRank 2 RX6 L sz) (hr : meth.sig.returnType = none) (hno : ∀ x ∈ c.exceptionTable.toList, False) {v : gMem} {Q : gMem → Prop} {X : String → gMem → Prop} (h : BX6_requireRank_11 v Q X) : gS p l e ({ frames := 6, cells := 1, slots := 6, locals := 82 } : Room) s m args below meth c 2 L sz (vx_MQ below (gQv L sz Q) (gXC L sz X) args s 1 6 (gA L sz)) 0 0 11 [] [] v := by
  unfold BX6_requireRank_11 at h
  exact g_throwSW C hno (text := "the rank is not between 1 and 9") (is := 302) rfl (by decide) wcl_RX6_117 wini_java_lang_IllegalArgumentException (List.mem_of_getElem? (i := 0) rfl) wat_RX6_121 dX6_requireRank_11 dX6_requireRank_14 dX6_requireRank_15 dX6_requireRank_18 dX6_requireRank_21 (Nat.le_of_ble_eq_true rfl) (Nat.le_of_ble_eq_true rfl) ⟨(Nat.le_of_ble_eq_true rfl), (Nat.le_of_ble_eq_true rfl)⟩ (Nat.le_of_ble_eq_true rfl) (Nat.le_of_ble_eq_true rfl) h
def TX6_requireRank (L1 : Int32) (v : gMem) (Q : gMem → Prop) (X : String → gMem → Prop) : Prop := ((L1 < 1 → (BX6_requireRank_11 v Q X)) ∧ (¬ L1 < 1 → ((L1 ≤ 9 → (Q v)) ∧ (¬ L1 ≤ 9 → (BX6_requireRank_11 v Q X)))))
theorem kX6_requireRank (l : Launch) (hfl : l.stackTraces = false) (L : gL) (hL : gDist L) (L1 : Int32) (v : gMem) (Q : gMem → Prop) (X : String → gMem → Prop) (h : TX6_requireRank L1 v Q X) (sz : Nat) : vx_Met l yX6_requireRank [.code yX6_requireRank cX6_requireRank 2 none] ({ frames := 6, cells := 1, slots := 6, locals := 82 } : Room) (gPc L sz [.ref (L.2.1 6 0), .int L1] v) (gQv L sz Q) (gXC L sz X) 1 6 (gA L sz) := by
  refine g_ofW (by decide +kernel) hfl hL (Nat.le_of_ble_eq_true rfl) ?_
  intro p e s m args below meth c C hr hno
  refine g_sub [(0, .ref (L.2.1 6 0)), (1, .int L1)] [0, 1] rfl ?_
  unfold TX6_requireRank at h
  refine g_iload_n C 1 rfl 1 rfl dX6_requireRank_0 ?_
  refine g_iconst C 1 (by decide) dX6_requireRank_1 ?_
  refine g_icmp_lt C 11 (by decide) dX6_requireRank_2 (fun hc => ?_) (fun hc => ?_)
  · replace h := h.1 hc
    refine g_sub [] [] rfl ?_
    exact sX6_requireRank_11 C hr hno h
  · replace h := h.2 hc
    refine g_iload_n C 1 rfl 1 rfl dX6_requireRank_5 ?_
    refine g_bipush C 9 (by decide) dX6_requireRank_6 ?_
    refine g_icmp_le C 22 (by decide) dX6_requireRank_8 (fun hc => ?_) (fun hc => ?_)
    · replace h := h.1 hc
      exact g_vret C hr (Nat.le_of_ble_eq_true rfl) (Nat.le_of_ble_eq_true rfl) h dX6_requireRank_22
    · replace h := h.2 hc
      refine g_sub [] [] rfl ?_
      exact sX6_requireRank_11 C hr hno h
def TX6_addSource (L1 : Int32) (v : gMem) (Q : Int32 → gMem → Prop) (X : String → gMem → Prop) : Prop := (TX6_requireRank L1 v (fun v2 => (((v2 6 0 1) < 4 → (vp_in (v2 6 0 1) 4 ∧ (Q (((gw (gw v2 10 0 (Int32.toNatClampNeg (v2 6 0 1)) L1) 6 0 1 (((gw v2 10 0 (Int32.toNatClampNeg (v2 6 0 1)) L1) 6 0 1) + 1)) 6 0 1) - 1) (gw (gw v2 10 0 (Int32.toNatClampNeg (v2 6 0 1)) L1) 6 0 1 (((gw v2 10 0 (Int32.toNatClampNeg (v2 6 0 1)) L1) 6 0 1) + 1))))) ∧ (¬ (v2 6 0 1) < 4 → (X "java/lang/IllegalStateException" v2)))) X)
theorem kX6_addSource (l : Launch) (hfl : l.stackTraces = false) (L : gL) (hL : gDist L) (L1 : Int32) (v : gMem) (Q : Int32 → gMem → Prop) (X : String → gMem → Prop) (h : TX6_addSource L1 v Q X) (sz : Nat) : vx_Met l yX6_addSource [.code yX6_addSource cX6_addSource 2 (some .int)] ({ frames := 7, cells := 2, slots := 12, locals := 103 } : Room) (gPc L sz [.ref (L.2.1 6 0), .int L1] v) (gQi L sz Q) (gXC L sz X) 2 12 (gA L sz) := by
  refine g_ofW (by decide +kernel) hfl hL (Nat.le_of_ble_eq_true rfl) ?_
  intro p e s m args below meth c C hr hno
  refine g_sub [(0, .ref (L.2.1 6 0)), (1, .int L1)] [0, 1] rfl ?_
  unfold TX6_addSource at h
  refine g_aload_n C 0 rfl 0 rfl dX6_addSource_0 ?_
  refine g_iload_n C 1 rfl 1 rfl dX6_addSource_1 ?_
  refine g_callVv C hno gok_6 rfl rfl [.int L1] (fun sz9 => kX6_requireRank l C.2.2.2.2.2.2.1 L C.2.2.2.2.2.2.2.1 L1 v _ X h sz9) wml_RX6_71 winst_X6_requireRank wsel_X6_requireRank wini_RX6 wcode_X6_requireRank rfl rfl (n := 1) (by decide +kernel) rfl ⟨(Nat.le_of_ble_eq_true rfl), (Nat.le_of_ble_eq_true rfl)⟩ ⟨(Nat.le_of_ble_eq_true rfl), (Nat.le_of_ble_eq_true rfl)⟩ ⟨(Nat.le_of_ble_eq_true rfl), (Nat.le_of_ble_eq_true rfl)⟩ (Nat.le_of_ble_eq_true rfl) dX6_addSource_2 (fun v2 h => ?_)
  refine g_aload_n C 0 rfl 0 rfl dX6_addSource_5 ?_
  refine fgX6_75 C dX6_addSource_6 ?_
  refine g_iconst C 4 (by decide) dX6_addSource_9 ?_
  refine g_icmp_lt C 23 (by decide) dX6_addSource_10 (fun hc => ?_) (fun hc => ?_)
  · replace h := h.1 hc
    refine g_aload_n C 0 rfl 0 rfl dX6_addSource_23 ?_
    refine fgX6_9 C dX6_addSource_24 ?_
    refine g_aload_n C 0 rfl 0 rfl dX6_addSource_27 ?_
    refine fgX6_75 C dX6_addSource_28 ?_
    refine g_iload_n C 1 rfl 1 rfl dX6_addSource_31 ?_
    obtain ⟨hb32, h⟩ := h
    refine g_iast C gok_10 (fun _ => rfl) hb32 dX6_addSource_32 ?_
    refine g_aload_n C 0 rfl 0 rfl dX6_addSource_33 ?_
    refine g_dup C rfl dX6_addSource_34 ?_
    refine fgX6_75 C dX6_addSource_35 ?_
    refine g_iconst C 1 (by decide) dX6_addSource_38 ?_
    refine g_iadd C dX6_addSource_39 ?_
    refine fpX6_75 C dX6_addSource_40 ?_
    refine g_aload_n C 0 rfl 0 rfl dX6_addSource_43 ?_
    refine fgX6_75 C dX6_addSource_44 ?_
    refine g_iconst C 1 (by decide) dX6_addSource_47 ?_
    refine g_isub C dX6_addSource_48 ?_
    exact g_iret C hr rfl (Nat.le_of_ble_eq_true rfl) (Nat.le_of_ble_eq_true rfl) h dX6_addSource_49
  · replace h := h.2 hc
    exact g_throwS C hno (text := "there are 4 sources") (is := 80) rfl (by decide) wcl_RX6_78 wini_java_lang_IllegalStateException (List.mem_of_getElem? (i := 1) rfl) wat_RX6_82 dX6_addSource_13 dX6_addSource_16 dX6_addSource_17 dX6_addSource_19 dX6_addSource_22 (Nat.le_of_ble_eq_true rfl) (Nat.le_of_ble_eq_true rfl) ⟨(Nat.le_of_ble_eq_true rfl), (Nat.le_of_ble_eq_true rfl)⟩ (Nat.le_of_ble_eq_true rfl) (Nat.le_of_ble_eq_true rfl) h
def BX6_requireSource_12 (v : gMem) (Q : gMem → Prop) (X : String → gMem → Prop) : Prop := (X "java/lang/IndexOutOfBoundsException" v)
theorem sX6_requireSource_12 (C : gC p l s m args meth c cX6_requireSource 2 RX6 L sz) (hr : meth.sig.returnType = none) (hno : ∀ x ∈ c.exceptionTable.toList, False) {v : gMem} {Q : gMem → Prop} {X : String → gMem → Prop} (h : BX6_requireSource_12 v Q X) : gS p l e ({ frames := 6, cells := 1, slots := 6, locals := 82 } : Room) s m args below meth c 2 L sz (vx_MQ below (gQv L sz Q) (gXC L sz X) args s 1 6 (gA L sz)) 0 0 12 [] [] v := by
  unfold BX6_requireSource_12 at h
  exact g_throwSW C hno (text := "no such source") (is := 306) rfl (by decide) wcl_RX6_304 wini_java_lang_IndexOutOfBoundsException (List.mem_of_getElem? (i := 2) rfl) wat_RX6_308 dX6_requireSource_12 dX6_requireSource_15 dX6_requireSource_16 dX6_requireSource_19 dX6_requireSource_22 (Nat.le_of_ble_eq_true rfl) (Nat.le_of_ble_eq_true rfl) ⟨(Nat.le_of_ble_eq_true rfl), (Nat.le_of_ble_eq_true rfl)⟩ (Nat.le_of_ble_eq_true rfl) (Nat.le_of_ble_eq_true rfl) h
def TX6_requireSource (L1 : Int32) (v : gMem) (Q : gMem → Prop) (X : String → gMem → Prop) : Prop := ((L1 < 0 → (BX6_requireSource_12 v Q X)) ∧ (¬ L1 < 0 → ((L1 < (v 6 0 1) → (Q v)) ∧ (¬ L1 < (v 6 0 1) → (BX6_requireSource_12 v Q X)))))
theorem kX6_requireSource (l : Launch) (hfl : l.stackTraces = false) (L : gL) (hL : gDist L) (L1 : Int32) (v : gMem) (Q : gMem → Prop) (X : String → gMem → Prop) (h : TX6_requireSource L1 v Q X) (sz : Nat) : vx_Met l yX6_requireSource [.code yX6_requireSource cX6_requireSource 2 none] ({ frames := 6, cells := 1, slots := 6, locals := 82 } : Room) (gPc L sz [.ref (L.2.1 6 0), .int L1] v) (gQv L sz Q) (gXC L sz X) 1 6 (gA L sz) := by
  refine g_ofW (by decide +kernel) hfl hL (Nat.le_of_ble_eq_true rfl) ?_
  intro p e s m args below meth c C hr hno
  refine g_sub [(0, .ref (L.2.1 6 0)), (1, .int L1)] [0, 1] rfl ?_
  unfold TX6_requireSource at h
  refine g_iload_n C 1 rfl 1 rfl dX6_requireSource_0 ?_
  refine g_if_lt C 12 (by decide) dX6_requireSource_1 (fun hc => ?_) (fun hc => ?_)
  · replace h := h.1 hc
    refine g_sub [] [] rfl ?_
    exact sX6_requireSource_12 C hr hno h
  · replace h := h.2 hc
    refine g_iload_n C 1 rfl 1 rfl dX6_requireSource_4 ?_
    refine g_aload_n C 0 rfl 0 rfl dX6_requireSource_5 ?_
    refine fgX6_75 C dX6_requireSource_6 ?_
    refine g_icmp_lt C 23 (by decide) dX6_requireSource_9 (fun hc => ?_) (fun hc => ?_)
    · replace h := h.1 hc
      exact g_vret C hr (Nat.le_of_ble_eq_true rfl) (Nat.le_of_ble_eq_true rfl) h dX6_requireSource_23
    · replace h := h.2 hc
      refine g_sub [] [] rfl ?_
      exact sX6_requireSource_12 C hr hno h
def TX6_setRank (L1 : Int32) (L2 : Int32) (v : gMem) (Q : Int32 → gMem → Prop) (X : String → gMem → Prop) : Prop := (TX6_requireSource L1 v (fun v2 => (TX6_requireRank L2 v2 (fun v7 => (vp_in L1 4 ∧ (vp_in L1 4 ∧ (Q (v7 10 0 (Int32.toNatClampNeg L1)) (gw v7 10 0 (Int32.toNatClampNeg L1) L2))))) X)) X)
theorem kX6_setRank (l : Launch) (hfl : l.stackTraces = false) (L : gL) (hL : gDist L) (L1 : Int32) (L2 : Int32) (v : gMem) (Q : Int32 → gMem → Prop) (X : String → gMem → Prop) (h : TX6_setRank L1 L2 v Q X) (sz : Nat) : vx_Met l yX6_setRank [.code yX6_setRank cX6_setRank 4 (some .int)] ({ frames := 7, cells := 2, slots := 12, locals := 103 } : Room) (gPc L sz [.ref (L.2.1 6 0), .int L1, .int L2] v) (gQi L sz Q) (gXC L sz X) 2 12 (gA L sz) := by
  refine g_ofW (by decide +kernel) hfl hL (Nat.le_of_ble_eq_true rfl) ?_
  intro p e s m args below meth c C hr hno
  refine g_sub [(0, .ref (L.2.1 6 0)), (1, .int L1), (2, .int L2)] [0, 1, 2] rfl ?_
  unfold TX6_setRank at h
  refine g_aload_n C 0 rfl 0 rfl dX6_setRank_0 ?_
  refine g_iload_n C 1 rfl 1 rfl dX6_setRank_1 ?_
  refine g_callVv C hno gok_6 rfl rfl [.int L1] (fun sz9 => kX6_requireSource l C.2.2.2.2.2.2.1 L C.2.2.2.2.2.2.2.1 L1 v _ X h sz9) wml_RX6_85 winst_X6_requireSource wsel_X6_requireSource wini_RX6 wcode_X6_requireSource rfl rfl (n := 1) (by decide +kernel) rfl ⟨(Nat.le_of_ble_eq_true rfl), (Nat.le_of_ble_eq_true rfl)⟩ ⟨(Nat.le_of_ble_eq_true rfl), (Nat.le_of_ble_eq_true rfl)⟩ ⟨(Nat.le_of_ble_eq_true rfl), (Nat.le_of_ble_eq_true rfl)⟩ (Nat.le_of_ble_eq_true rfl) dX6_setRank_2 (fun v2 h => ?_)
  refine g_aload_n C 0 rfl 0 rfl dX6_setRank_5 ?_
  refine g_iload_n C 2 rfl 2 rfl dX6_setRank_6 ?_
  refine g_callVv C hno gok_6 rfl rfl [.int L2] (fun sz9 => kX6_requireRank l C.2.2.2.2.2.2.1 L C.2.2.2.2.2.2.2.1 L2 v2 _ X h sz9) wml_RX6_71 winst_X6_requireRank wsel_X6_requireRank wini_RX6 wcode_X6_requireRank rfl rfl (n := 1) (by decide +kernel) rfl ⟨(Nat.le_of_ble_eq_true rfl), (Nat.le_of_ble_eq_true rfl)⟩ ⟨(Nat.le_of_ble_eq_true rfl), (Nat.le_of_ble_eq_true rfl)⟩ ⟨(Nat.le_of_ble_eq_true rfl), (Nat.le_of_ble_eq_true rfl)⟩ (Nat.le_of_ble_eq_true rfl) dX6_setRank_7 (fun v7 h => ?_)
  refine g_aload_n C 0 rfl 0 rfl dX6_setRank_10 ?_
  refine fgX6_9 C dX6_setRank_11 ?_
  refine g_iload_n C 1 rfl 1 rfl dX6_setRank_14 ?_
  obtain ⟨hb15, h⟩ := h
  refine g_iald C gok_10 rfl hb15 dX6_setRank_15 ?_
  refine g_istore_n C 3 rfl [(3, .int (v7 10 0 (Int32.toNatClampNeg L1))), (0, .ref (L.2.1 6 0)), (1, .int L1), (2, .int L2)] (Nat.le_of_ble_eq_true rfl) rfl dX6_setRank_16 ?_
  refine g_aload_n C 0 rfl 1 rfl dX6_setRank_17 ?_
  refine fgX6_9 C dX6_setRank_18 ?_
  refine g_iload_n C 1 rfl 2 rfl dX6_setRank_21 ?_
  refine g_iload_n C 2 rfl 3 rfl dX6_setRank_22 ?_
  obtain ⟨hb23, h⟩ := h
  refine g_iast C gok_10 (fun _ => rfl) hb23 dX6_setRank_23 ?_
  refine g_iload_n C 3 rfl 0 rfl dX6_setRank_24 ?_
  exact g_iret C hr rfl (Nat.le_of_ble_eq_true rfl) (Nat.le_of_ble_eq_true rfl) h dX6_setRank_25
def TX6_addCard (L1 : Int32) (v : gMem) (Q : Int32 → gMem → Prop) (X : String → gMem → Prop) : Prop := (TX6_requireSource L1 v (fun v2 => (((v2 6 0 3) < 16 → (vp_in (v2 6 0 3) 16 ∧ (Q (((gw (gw v2 2 (Int32.toNatClampNeg (v2 6 0 3)) 0 L1) 6 0 3 (((gw v2 2 (Int32.toNatClampNeg (v2 6 0 3)) 0 L1) 6 0 3) + 1)) 6 0 3) - 1) (gw (gw v2 2 (Int32.toNatClampNeg (v2 6 0 3)) 0 L1) 6 0 3 (((gw v2 2 (Int32.toNatClampNeg (v2 6 0 3)) 0 L1) 6 0 3) + 1))))) ∧ (¬ (v2 6 0 3) < 16 → (X "java/lang/IllegalStateException" v2)))) X)
theorem kX6_addCard (l : Launch) (hfl : l.stackTraces = false) (L : gL) (hL : gDist L) (L1 : Int32) (v : gMem) (Q : Int32 → gMem → Prop) (X : String → gMem → Prop) (h : TX6_addCard L1 v Q X) (sz : Nat) : vx_Met l yX6_addCard [.code yX6_addCard cX6_addCard 2 (some .int)] ({ frames := 7, cells := 2, slots := 12, locals := 103 } : Room) (gPc L sz [.ref (L.2.1 6 0), .int L1] v) (gQi L sz Q) (gXC L sz X) 2 12 (gA L sz) := by
  refine g_ofW (by decide +kernel) hfl hL (Nat.le_of_ble_eq_true rfl) ?_
  intro p e s m args below meth c C hr hno
  refine g_sub [(0, .ref (L.2.1 6 0)), (1, .int L1)] [0, 1] rfl ?_
  unfold TX6_addCard at h
  refine g_aload_n C 0 rfl 0 rfl dX6_addCard_0 ?_
  refine g_iload_n C 1 rfl 1 rfl dX6_addCard_1 ?_
  refine g_callVv C hno gok_6 rfl rfl [.int L1] (fun sz9 => kX6_requireSource l C.2.2.2.2.2.2.1 L C.2.2.2.2.2.2.2.1 L1 v _ X h sz9) wml_RX6_85 winst_X6_requireSource wsel_X6_requireSource wini_RX6 wcode_X6_requireSource rfl rfl (n := 1) (by decide +kernel) rfl ⟨(Nat.le_of_ble_eq_true rfl), (Nat.le_of_ble_eq_true rfl)⟩ ⟨(Nat.le_of_ble_eq_true rfl), (Nat.le_of_ble_eq_true rfl)⟩ ⟨(Nat.le_of_ble_eq_true rfl), (Nat.le_of_ble_eq_true rfl)⟩ (Nat.le_of_ble_eq_true rfl) dX6_addCard_2 (fun v2 h => ?_)
  refine g_aload_n C 0 rfl 0 rfl dX6_addCard_5 ?_
  refine fgX6_88 C dX6_addCard_6 ?_
  refine g_bipush C 16 (by decide) dX6_addCard_9 ?_
  refine g_icmp_lt C 24 (by decide) dX6_addCard_11 (fun hc => ?_) (fun hc => ?_)
  · replace h := h.1 hc
    refine g_aload_n C 0 rfl 0 rfl dX6_addCard_24 ?_
    refine fgX6_15 C dX6_addCard_25 ?_
    refine g_aload_n C 0 rfl 0 rfl dX6_addCard_28 ?_
    refine fgX6_88 C dX6_addCard_29 ?_
    obtain ⟨hb32, h⟩ := h
    refine g_book C hb32 dX6_addCard_32 ?_
    refine g_iload_n C 1 rfl 1 rfl dX6_addCard_33 ?_
    refine fpX6_93 C (gok_2 (vp_lt hb32)) dX6_addCard_34 ?_
    refine g_aload_n C 0 rfl 0 rfl dX6_addCard_37 ?_
    refine g_dup C rfl dX6_addCard_38 ?_
    refine fgX6_88 C dX6_addCard_39 ?_
    refine g_iconst C 1 (by decide) dX6_addCard_42 ?_
    refine g_iadd C dX6_addCard_43 ?_
    refine fpX6_88 C dX6_addCard_44 ?_
    refine g_aload_n C 0 rfl 0 rfl dX6_addCard_47 ?_
    refine fgX6_88 C dX6_addCard_48 ?_
    refine g_iconst C 1 (by decide) dX6_addCard_51 ?_
    refine g_isub C dX6_addCard_52 ?_
    exact g_iret C hr rfl (Nat.le_of_ble_eq_true rfl) (Nat.le_of_ble_eq_true rfl) h dX6_addCard_53
  · replace h := h.2 hc
    exact g_throwS C hno (text := "there are 16 cards") (is := 91) rfl (by decide) wcl_RX6_78 wini_java_lang_IllegalStateException (List.mem_of_getElem? (i := 3) rfl) wat_RX6_82 dX6_addCard_14 dX6_addCard_17 dX6_addCard_18 dX6_addCard_20 dX6_addCard_23 (Nat.le_of_ble_eq_true rfl) (Nat.le_of_ble_eq_true rfl) ⟨(Nat.le_of_ble_eq_true rfl), (Nat.le_of_ble_eq_true rfl)⟩ (Nat.le_of_ble_eq_true rfl) (Nat.le_of_ble_eq_true rfl) h
def TX6_cards (v : gMem) (Q : Int32 → gMem → Prop) (X : String → gMem → Prop) : Prop := (Q (v 6 0 3) v)
theorem kX6_cards (l : Launch) (hfl : l.stackTraces = false) (L : gL) (hL : gDist L) (v : gMem) (Q : Int32 → gMem → Prop) (X : String → gMem → Prop) (h : TX6_cards v Q X) (sz : Nat) : vx_Met l yX6_cards [.code yX6_cards cX6_cards 1 (some .int)] ({ frames := 0, cells := 0, slots := 0, locals := 0 } : Room) (gPc L sz [.ref (L.2.1 6 0)] v) (gQi L sz Q) (gXC L sz X) 0 0 (gA L sz) := by
  refine g_ofW (by decide +kernel) hfl hL (Nat.le_of_ble_eq_true rfl) ?_
  intro p e s m args below meth c C hr hno
  refine g_sub [(0, .ref (L.2.1 6 0))] [0] rfl ?_
  unfold TX6_cards at h
  refine g_aload_n C 0 rfl 0 rfl dX6_cards_0 ?_
  refine fgX6_88 C dX6_cards_1 ?_
  exact g_iret C hr rfl (Nat.le_of_ble_eq_true rfl) (Nat.le_of_ble_eq_true rfl) h dX6_cards_4
def BX6_requireCard_12 (v : gMem) (Q : gMem → Prop) (X : String → gMem → Prop) : Prop := (X "java/lang/IndexOutOfBoundsException" v)
theorem sX6_requireCard_12 (C : gC p l s m args meth c cX6_requireCard 2 RX6 L sz) (hr : meth.sig.returnType = none) (hno : ∀ x ∈ c.exceptionTable.toList, False) {v : gMem} {Q : gMem → Prop} {X : String → gMem → Prop} (h : BX6_requireCard_12 v Q X) : gS p l e ({ frames := 6, cells := 1, slots := 6, locals := 82 } : Room) s m args below meth c 2 L sz (vx_MQ below (gQv L sz Q) (gXC L sz X) args s 1 6 (gA L sz)) 0 0 12 [] [] v := by
  unfold BX6_requireCard_12 at h
  exact g_throwSW C hno (text := "no such card") (is := 309) rfl (by decide) wcl_RX6_304 wini_java_lang_IndexOutOfBoundsException (List.mem_of_getElem? (i := 4) rfl) wat_RX6_308 dX6_requireCard_12 dX6_requireCard_15 dX6_requireCard_16 dX6_requireCard_19 dX6_requireCard_22 (Nat.le_of_ble_eq_true rfl) (Nat.le_of_ble_eq_true rfl) ⟨(Nat.le_of_ble_eq_true rfl), (Nat.le_of_ble_eq_true rfl)⟩ (Nat.le_of_ble_eq_true rfl) (Nat.le_of_ble_eq_true rfl) h
def TX6_requireCard (L1 : Int32) (v : gMem) (Q : gMem → Prop) (X : String → gMem → Prop) : Prop := ((L1 < 0 → (BX6_requireCard_12 v Q X)) ∧ (¬ L1 < 0 → ((L1 < (v 6 0 3) → (Q v)) ∧ (¬ L1 < (v 6 0 3) → (BX6_requireCard_12 v Q X)))))
theorem kX6_requireCard (l : Launch) (hfl : l.stackTraces = false) (L : gL) (hL : gDist L) (L1 : Int32) (v : gMem) (Q : gMem → Prop) (X : String → gMem → Prop) (h : TX6_requireCard L1 v Q X) (sz : Nat) : vx_Met l yX6_requireCard [.code yX6_requireCard cX6_requireCard 2 none] ({ frames := 6, cells := 1, slots := 6, locals := 82 } : Room) (gPc L sz [.ref (L.2.1 6 0), .int L1] v) (gQv L sz Q) (gXC L sz X) 1 6 (gA L sz) := by
  refine g_ofW (by decide +kernel) hfl hL (Nat.le_of_ble_eq_true rfl) ?_
  intro p e s m args below meth c C hr hno
  refine g_sub [(0, .ref (L.2.1 6 0)), (1, .int L1)] [0, 1] rfl ?_
  unfold TX6_requireCard at h
  refine g_iload_n C 1 rfl 1 rfl dX6_requireCard_0 ?_
  refine g_if_lt C 12 (by decide) dX6_requireCard_1 (fun hc => ?_) (fun hc => ?_)
  · replace h := h.1 hc
    refine g_sub [] [] rfl ?_
    exact sX6_requireCard_12 C hr hno h
  · replace h := h.2 hc
    refine g_iload_n C 1 rfl 1 rfl dX6_requireCard_4 ?_
    refine g_aload_n C 0 rfl 0 rfl dX6_requireCard_5 ?_
    refine fgX6_88 C dX6_requireCard_6 ?_
    refine g_icmp_lt C 23 (by decide) dX6_requireCard_9 (fun hc => ?_) (fun hc => ?_)
    · replace h := h.1 hc
      exact g_vret C hr (Nat.le_of_ble_eq_true rfl) (Nat.le_of_ble_eq_true rfl) h dX6_requireCard_23
    · replace h := h.2 hc
      refine g_sub [] [] rfl ?_
      exact sX6_requireCard_12 C hr hno h
def BX6_requireLetter_12 (v : gMem) (Q : gMem → Prop) (X : String → gMem → Prop) : Prop := (X "java/lang/IllegalArgumentException" v)
theorem sX6_requireLetter_12 (C : gC p l s m args meth c cX6_requireLetter 2 RX6 L sz) (hr : meth.sig.returnType = none) (hno : ∀ x ∈ c.exceptionTable.toList, False) {v : gMem} {Q : gMem → Prop} {X : String → gMem → Prop} (h : BX6_requireLetter_12 v Q X) : gS p l e ({ frames := 6, cells := 1, slots := 6, locals := 82 } : Room) s m args below meth c 2 L sz (vx_MQ below (gQv L sz Q) (gXC L sz X) args s 1 6 (gA L sz)) 0 0 12 [] [] v := by
  unfold BX6_requireLetter_12 at h
  exact g_throwSW C hno (text := "not a letter from 'a' to 'z'") (is := 313) rfl (by decide) wcl_RX6_117 wini_java_lang_IllegalArgumentException (List.mem_of_getElem? (i := 5) rfl) wat_RX6_121 dX6_requireLetter_12 dX6_requireLetter_15 dX6_requireLetter_16 dX6_requireLetter_19 dX6_requireLetter_22 (Nat.le_of_ble_eq_true rfl) (Nat.le_of_ble_eq_true rfl) ⟨(Nat.le_of_ble_eq_true rfl), (Nat.le_of_ble_eq_true rfl)⟩ (Nat.le_of_ble_eq_true rfl) (Nat.le_of_ble_eq_true rfl) h
def TX6_requireLetter (L1 : Int32) (v : gMem) (Q : gMem → Prop) (X : String → gMem → Prop) : Prop := ((L1 < 97 → (BX6_requireLetter_12 v Q X)) ∧ (¬ L1 < 97 → ((L1 ≤ 122 → (Q v)) ∧ (¬ L1 ≤ 122 → (BX6_requireLetter_12 v Q X)))))
theorem kX6_requireLetter (l : Launch) (hfl : l.stackTraces = false) (L : gL) (hL : gDist L) (L1 : Int32) (v : gMem) (Q : gMem → Prop) (X : String → gMem → Prop) (h : TX6_requireLetter L1 v Q X) (sz : Nat) : vx_Met l yX6_requireLetter [.code yX6_requireLetter cX6_requireLetter 2 none] ({ frames := 6, cells := 1, slots := 6, locals := 82 } : Room) (gPc L sz [.ref (L.2.1 6 0), .int L1] v) (gQv L sz Q) (gXC L sz X) 1 6 (gA L sz) := by
  refine g_ofW (by decide +kernel) hfl hL (Nat.le_of_ble_eq_true rfl) ?_
  intro p e s m args below meth c C hr hno
  refine g_sub [(0, .ref (L.2.1 6 0)), (1, .int L1)] [0, 1] rfl ?_
  unfold TX6_requireLetter at h
  refine g_iload_n C 1 rfl 1 rfl dX6_requireLetter_0 ?_
  refine g_bipush C 97 (by decide) dX6_requireLetter_1 ?_
  refine g_icmp_lt C 12 (by decide) dX6_requireLetter_3 (fun hc => ?_) (fun hc => ?_)
  · replace h := h.1 hc
    refine g_sub [] [] rfl ?_
    exact sX6_requireLetter_12 C hr hno h
  · replace h := h.2 hc
    refine g_iload_n C 1 rfl 1 rfl dX6_requireLetter_6 ?_
    refine g_bipush C 122 (by decide) dX6_requireLetter_7 ?_
    refine g_icmp_le C 23 (by decide) dX6_requireLetter_9 (fun hc => ?_) (fun hc => ?_)
    · replace h := h.1 hc
      exact g_vret C hr (Nat.le_of_ble_eq_true rfl) (Nat.le_of_ble_eq_true rfl) h dX6_requireLetter_23
    · replace h := h.2 hc
      refine g_sub [] [] rfl ?_
      exact sX6_requireLetter_12 C hr hno h
def TX6_appendTo (i1 : Nat) (L2 : Int32) (v : gMem) (Q : Int32 → gMem → Prop) (X : String → gMem → Prop) : Prop := (((v 4 i1 1) < 10 → (TX4_append i1 L2 v (fun v22 => (Q (v22 4 i1 1) v22)) X)) ∧ (¬ (v 4 i1 1) < 10 → (X "java/lang/IllegalStateException" v)))
theorem kX6_appendTo (l : Launch) (hfl : l.stackTraces = false) (L : gL) (hL : gDist L) {i1 : Nat} (hi1 : i1 < 17) (L2 : Int32) (v : gMem) (Q : Int32 → gMem → Prop) (X : String → gMem → Prop) (h : TX6_appendTo i1 L2 v Q X) (sz : Nat) : vx_Met l yX6_appendTo [.code yX6_appendTo cX6_appendTo 3 (some .int)] ({ frames := 6, cells := 1, slots := 6, locals := 82 } : Room) (gPc L sz [.ref (L.2.1 6 0), .ref (L.2.1 4 i1), .int L2] v) (gQi L sz Q) (gXC L sz X) 1 6 (gA L sz) := by
  refine g_ofW (by decide +kernel) hfl hL (Nat.le_of_ble_eq_true rfl) ?_
  intro p e s m args below meth c C hr hno
  refine g_sub [(0, .ref (L.2.1 6 0)), (1, .ref (L.2.1 4 i1)), (2, .int L2)] [0, 1, 2] rfl ?_
  unfold TX6_appendTo at h
  refine g_aload_n C 1 rfl 1 rfl dX6_appendTo_0 ?_
  refine fgX6_125 C (gok_4 hi1) dX6_appendTo_1 ?_
  refine g_bipush C 10 (by decide) dX6_appendTo_4 ?_
  refine g_icmp_lt C 20 (by decide) dX6_appendTo_6 (fun hc => ?_) (fun hc => ?_)
  · replace h := h.1 hc
    refine g_aload_n C 1 rfl 1 rfl dX6_appendTo_20 ?_
    refine g_iload_n C 2 rfl 2 rfl dX6_appendTo_21 ?_
    refine g_callVv C hno (gok_4 hi1) rfl rfl [.int L2] (fun sz9 => kX4_append l C.2.2.2.2.2.2.1 L C.2.2.2.2.2.2.2.1 hi1 L2 v _ X h sz9) wml_RX6_337 winst_X4_append wsel_X4_append wini_RX4 wcode_X4_append rfl rfl (n := 1) (by decide +kernel) rfl ⟨(Nat.le_of_ble_eq_true rfl), (Nat.le_of_ble_eq_true rfl)⟩ ⟨(Nat.le_of_ble_eq_true rfl), (Nat.le_of_ble_eq_true rfl)⟩ ⟨(Nat.le_of_ble_eq_true rfl), (Nat.le_of_ble_eq_true rfl)⟩ (Nat.le_of_ble_eq_true rfl) dX6_appendTo_22 (fun v22 h => ?_)
    refine g_aload_n C 1 rfl 1 rfl dX6_appendTo_25 ?_
    refine fgX6_125 C (gok_4 hi1) dX6_appendTo_26 ?_
    exact g_iret C hr rfl (Nat.le_of_ble_eq_true rfl) (Nat.le_of_ble_eq_true rfl) h dX6_appendTo_29
  · replace h := h.2 hc
    exact g_throwSW C hno (text := "there are 10 letters") (is := 335) rfl (by decide) wcl_RX6_78 wini_java_lang_IllegalStateException (List.mem_of_getElem? (i := 6) rfl) wat_RX6_82 dX6_appendTo_9 dX6_appendTo_12 dX6_appendTo_13 dX6_appendTo_16 dX6_appendTo_19 (Nat.le_of_ble_eq_true rfl) (Nat.le_of_ble_eq_true rfl) ⟨(Nat.le_of_ble_eq_true rfl), (Nat.le_of_ble_eq_true rfl)⟩ (Nat.le_of_ble_eq_true rfl) (Nat.le_of_ble_eq_true rfl) h
def TX6_letter (L1 : Int32) (L2 : Int32) (v : gMem) (Q : Int32 → gMem → Prop) (X : String → gMem → Prop) : Prop := (TX6_requireCard L1 v (fun v2 => (TX6_requireLetter L2 v2 (fun v7 => (vp_in L1 16 ∧ (TX6_appendTo (Int32.toNatClampNeg L1) L2 v7 (fun r21 v21 => (Q r21 v21)) X))) X)) X)
theorem kX6_letter (l : Launch) (hfl : l.stackTraces = false) (L : gL) (hL : gDist L) (L1 : Int32) (L2 : Int32) (v : gMem) (Q : Int32 → gMem → Prop) (X : String → gMem → Prop) (h : TX6_letter L1 L2 v Q X) (sz : Nat) : vx_Met l yX6_letter [.code yX6_letter cX6_letter 3 (some .int)] ({ frames := 7, cells := 3, slots := 18, locals := 104 } : Room) (gPc L sz [.ref (L.2.1 6 0), .int L1, .int L2] v) (gQi L sz Q) (gXC L sz X) 3 18 (gA L sz) := by
  refine g_ofW (by decide +kernel) hfl hL (Nat.le_of_ble_eq_true rfl) ?_
  intro p e s m args below meth c C hr hno
  refine g_sub [(0, .ref (L.2.1 6 0)), (1, .int L1), (2, .int L2)] [0, 1, 2] rfl ?_
  unfold TX6_letter at h
  refine g_aload_n C 0 rfl 0 rfl dX6_letter_0 ?_
  refine g_iload_n C 1 rfl 1 rfl dX6_letter_1 ?_
  refine g_callVv C hno gok_6 rfl rfl [.int L1] (fun sz9 => kX6_requireCard l C.2.2.2.2.2.2.1 L C.2.2.2.2.2.2.2.1 L1 v _ X h sz9) wml_RX6_96 winst_X6_requireCard wsel_X6_requireCard wini_RX6 wcode_X6_requireCard rfl rfl (n := 1) (by decide +kernel) rfl ⟨(Nat.le_of_ble_eq_true rfl), (Nat.le_of_ble_eq_true rfl)⟩ ⟨(Nat.le_of_ble_eq_true rfl), (Nat.le_of_ble_eq_true rfl)⟩ ⟨(Nat.le_of_ble_eq_true rfl), (Nat.le_of_ble_eq_true rfl)⟩ (Nat.le_of_ble_eq_true rfl) dX6_letter_2 (fun v2 h => ?_)
  refine g_aload_n C 0 rfl 0 rfl dX6_letter_5 ?_
  refine g_iload_n C 2 rfl 2 rfl dX6_letter_6 ?_
  refine g_callVv C hno gok_6 rfl rfl [.int L2] (fun sz9 => kX6_requireLetter l C.2.2.2.2.2.2.1 L C.2.2.2.2.2.2.2.1 L2 v2 _ X h sz9) wml_RX6_99 winst_X6_requireLetter wsel_X6_requireLetter wini_RX6 wcode_X6_requireLetter rfl rfl (n := 1) (by decide +kernel) rfl ⟨(Nat.le_of_ble_eq_true rfl), (Nat.le_of_ble_eq_true rfl)⟩ ⟨(Nat.le_of_ble_eq_true rfl), (Nat.le_of_ble_eq_true rfl)⟩ ⟨(Nat.le_of_ble_eq_true rfl), (Nat.le_of_ble_eq_true rfl)⟩ (Nat.le_of_ble_eq_true rfl) dX6_letter_7 (fun v7 h => ?_)
  refine g_aload_n C 0 rfl 0 rfl dX6_letter_10 ?_
  refine g_aload_n C 0 rfl 0 rfl dX6_letter_11 ?_
  refine fgX6_15 C dX6_letter_12 ?_
  refine g_iload_n C 1 rfl 1 rfl dX6_letter_15 ?_
  obtain ⟨hb16, h⟩ := h
  refine g_book C hb16 dX6_letter_16 ?_
  refine fgX6_103 C (gok_2 (vp_lt hb16)) dX6_letter_17 ?_
  refine g_iload_n C 2 rfl 2 rfl dX6_letter_20 ?_
  refine g_callVi C hno gok_6 rfl rfl [.ref (L.2.1 4 (Int32.toNatClampNeg L1)), .int L2] (fun sz9 => kX6_appendTo l C.2.2.2.2.2.2.1 L C.2.2.2.2.2.2.2.1 (Nat.lt_of_lt_of_le (vp_lt hb16) (by decide)) L2 v7 _ X h sz9) wml_RX6_106 winst_X6_appendTo wsel_X6_appendTo wini_RX6 wcode_X6_appendTo rfl rfl (n := 2) (by decide +kernel) rfl ⟨(Nat.le_of_ble_eq_true rfl), (Nat.le_of_ble_eq_true rfl)⟩ ⟨(Nat.le_of_ble_eq_true rfl), (Nat.le_of_ble_eq_true rfl)⟩ ⟨(Nat.le_of_ble_eq_true rfl), (Nat.le_of_ble_eq_true rfl)⟩ (Nat.le_of_ble_eq_true rfl) dX6_letter_21 (fun r21 v21 h => ?_)
  exact g_iret C hr rfl (Nat.le_of_ble_eq_true rfl) (Nat.le_of_ble_eq_true rfl) h dX6_letter_24
def TX6_clearName (L1 : Int32) (v : gMem) (Q : Int32 → gMem → Prop) (X : String → gMem → Prop) : Prop := (TX6_requireCard L1 v (fun v2 => (vp_in L1 16 ∧ (TX4_empty (Int32.toNatClampNeg L1) v2 (fun r14 v14 => (Q r14 v14)) X))) X)
theorem kX6_clearName (l : Launch) (hfl : l.stackTraces = false) (L : gL) (hL : gDist L) (L1 : Int32) (v : gMem) (Q : Int32 → gMem → Prop) (X : String → gMem → Prop) (h : TX6_clearName L1 v Q X) (sz : Nat) : vx_Met l yX6_clearName [.code yX6_clearName cX6_clearName 2 (some .int)] ({ frames := 7, cells := 1, slots := 6, locals := 103 } : Room) (gPc L sz [.ref (L.2.1 6 0), .int L1] v) (gQi L sz Q) (gXC L sz X) 1 6 (gA L sz) := by
  refine g_ofW (by decide +kernel) hfl hL (Nat.le_of_ble_eq_true rfl) ?_
  intro p e s m args below meth c C hr hno
  refine g_sub [(0, .ref (L.2.1 6 0)), (1, .int L1)] [0, 1] rfl ?_
  unfold TX6_clearName at h
  refine g_aload_n C 0 rfl 0 rfl dX6_clearName_0 ?_
  refine g_iload_n C 1 rfl 1 rfl dX6_clearName_1 ?_
  refine g_callVv C hno gok_6 rfl rfl [.int L1] (fun sz9 => kX6_requireCard l C.2.2.2.2.2.2.1 L C.2.2.2.2.2.2.2.1 L1 v _ X h sz9) wml_RX6_96 winst_X6_requireCard wsel_X6_requireCard wini_RX6 wcode_X6_requireCard rfl rfl (n := 1) (by decide +kernel) rfl ⟨(Nat.le_of_ble_eq_true rfl), (Nat.le_of_ble_eq_true rfl)⟩ ⟨(Nat.le_of_ble_eq_true rfl), (Nat.le_of_ble_eq_true rfl)⟩ ⟨(Nat.le_of_ble_eq_true rfl), (Nat.le_of_ble_eq_true rfl)⟩ (Nat.le_of_ble_eq_true rfl) dX6_clearName_2 (fun v2 h => ?_)
  refine g_aload_n C 0 rfl 0 rfl dX6_clearName_5 ?_
  refine fgX6_15 C dX6_clearName_6 ?_
  refine g_iload_n C 1 rfl 1 rfl dX6_clearName_9 ?_
  obtain ⟨hb10, h⟩ := h
  refine g_book C hb10 dX6_clearName_10 ?_
  refine fgX6_103 C (gok_2 (vp_lt hb10)) dX6_clearName_11 ?_
  refine g_callVi C hno (gok_4 (Nat.lt_of_lt_of_le (vp_lt hb10) (by decide))) rfl rfl [] (fun sz9 => kX4_empty l C.2.2.2.2.2.2.1 L C.2.2.2.2.2.2.2.1 (Nat.lt_of_lt_of_le (vp_lt hb10) (by decide)) v2 _ X h sz9) wml_RX6_110 winst_X4_empty wsel_X4_empty wini_RX4 wcode_X4_empty rfl rfl (n := 0) (by decide +kernel) rfl ⟨(Nat.le_of_ble_eq_true rfl), (Nat.le_of_ble_eq_true rfl)⟩ ⟨(Nat.le_of_ble_eq_true rfl), (Nat.le_of_ble_eq_true rfl)⟩ ⟨(Nat.le_of_ble_eq_true rfl), (Nat.le_of_ble_eq_true rfl)⟩ (Nat.le_of_ble_eq_true rfl) dX6_clearName_14 (fun r14 v14 h => ?_)
  exact g_iret C hr rfl (Nat.le_of_ble_eq_true rfl) (Nat.le_of_ble_eq_true rfl) h dX6_clearName_17
end
