section
variable {p : Program} {l : Launch} {e : Env} {s : State} {m : MethodId} {args : Array Value} {below : List Frame} {meth : Method} {c : Code} {L : gL} {sz : Nat}
def TX7_thrown (v : gMem) (Q : Int32 → gMem → Prop) (X : String → gMem → Prop) : Prop := (Q (v 7 0 0) v)
theorem kX7_thrown (l : Launch) (hfl : l.stackTraces = false) (L : gL) (hL : gDist L) (v : gMem) (Q : Int32 → gMem → Prop) (X : String → gMem → Prop) (h : TX7_thrown v Q X) (sz : Nat) : vx_Met l yX7_thrown [.code yX7_thrown cX7_thrown 1 (some .int)] ({ frames := 0, cells := 0, slots := 0, locals := 0 } : Room) (gPc L sz [.ref (L.2.1 7 0)] v) (gQi L sz Q) (gXC L sz X) 0 0 (gA L sz) := by
  refine g_ofW (by decide +kernel) hfl hL (Nat.le_of_ble_eq_true rfl) ?_
  intro p e s m args below meth c C hr hno
  refine g_sub [(0, .ref (L.2.1 7 0))] [0] rfl ?_
  unfold TX7_thrown at h
  refine g_aload_n C 0 rfl 0 rfl dX7_thrown_0 ?_
  refine fgX7_64 C dX7_thrown_1 ?_
  exact g_iret C hr rfl (Nat.le_of_ble_eq_true rfl) (Nat.le_of_ble_eq_true rfl) h dX7_thrown_4
def TX7_fail (L1 : Int32) (v : gMem) (Q : Int32 → gMem → Prop) (X : String → gMem → Prop) : Prop := (Q 0 (gw v 7 0 0 L1))
theorem kX7_fail (l : Launch) (hfl : l.stackTraces = false) (L : gL) (hL : gDist L) (L1 : Int32) (v : gMem) (Q : Int32 → gMem → Prop) (X : String → gMem → Prop) (h : TX7_fail L1 v Q X) (sz : Nat) : vx_Met l yX7_fail [.code yX7_fail cX7_fail 2 (some .int)] ({ frames := 0, cells := 0, slots := 0, locals := 0 } : Room) (gPc L sz [.ref (L.2.1 7 0), .int L1] v) (gQi L sz Q) (gXC L sz X) 0 0 (gA L sz) := by
  refine g_ofW (by decide +kernel) hfl hL (Nat.le_of_ble_eq_true rfl) ?_
  intro p e s m args below meth c C hr hno
  refine g_sub [(0, .ref (L.2.1 7 0)), (1, .int L1)] [0, 1] rfl ?_
  unfold TX7_fail at h
  refine g_aload_n C 0 rfl 0 rfl dX7_fail_0 ?_
  refine g_iload_n C 1 rfl 1 rfl dX7_fail_1 ?_
  refine fpX7_64 C dX7_fail_2 ?_
  refine g_iconst C 0 (by decide) dX7_fail_5 ?_
  exact g_iret C hr rfl (Nat.le_of_ble_eq_true rfl) (Nat.le_of_ble_eq_true rfl) h dX7_fail_6
def BX7_isWithin_15 (t0 : Int32) (v : gMem) (Q : Int32 → gMem → Prop) (X : String → gMem → Prop) : Prop := (narrow .boolean (.int t0) = .int t0 ∧ Q t0 v)
theorem sX7_isWithin_15 (C : gC p l s m args meth c cX7_isWithin 3 RX7 L sz) (hr : meth.sig.returnType = (some .boolean)) (hno : ∀ x ∈ c.exceptionTable.toList, False) {t0 : Int32} {v : gMem} {Q : Int32 → gMem → Prop} {X : String → gMem → Prop} (h : BX7_isWithin_15 t0 v Q X) : gS p l e ({ frames := 0, cells := 0, slots := 0, locals := 0 } : Room) s m args below meth c 3 L sz (vx_MQ below (gQi L sz Q) (gXC L sz X) args s 0 0 (gA L sz)) 0 0 15 [] [.int t0] v := by
  unfold BX7_isWithin_15 at h
  exact g_iret C hr h.1 (Nat.le_of_ble_eq_true rfl) (Nat.le_of_ble_eq_true rfl) h.2 dX7_isWithin_15
def BX7_isWithin_14 (v : gMem) (Q : Int32 → gMem → Prop) (X : String → gMem → Prop) : Prop := (BX7_isWithin_15 0 v Q X)
theorem sX7_isWithin_14 (C : gC p l s m args meth c cX7_isWithin 3 RX7 L sz) (hr : meth.sig.returnType = (some .boolean)) (hno : ∀ x ∈ c.exceptionTable.toList, False) {v : gMem} {Q : Int32 → gMem → Prop} {X : String → gMem → Prop} (h : BX7_isWithin_14 v Q X) : gS p l e ({ frames := 0, cells := 0, slots := 0, locals := 0 } : Room) s m args below meth c 3 L sz (vx_MQ below (gQi L sz Q) (gXC L sz X) args s 0 0 (gA L sz)) 0 0 14 [] [] v := by
  unfold BX7_isWithin_14 at h
  refine g_iconst C 0 (by decide) dX7_isWithin_14 ?_
  exact sX7_isWithin_15 C hr hno h
def TX7_isWithin (L0 : Int32) (L1 : Int32) (L2 : Int32) (v : gMem) (Q : Int32 → gMem → Prop) (X : String → gMem → Prop) : Prop := ((L0 < L1 → (BX7_isWithin_14 v Q X)) ∧ (¬ L0 < L1 → ((L2 < L0 → (BX7_isWithin_14 v Q X)) ∧ (¬ L2 < L0 → (BX7_isWithin_15 1 v Q X)))))
theorem kX7_isWithin (l : Launch) (hfl : l.stackTraces = false) (L : gL) (hL : gDist L) (L0 : Int32) (L1 : Int32) (L2 : Int32) (v : gMem) (Q : Int32 → gMem → Prop) (X : String → gMem → Prop) (h : TX7_isWithin L0 L1 L2 v Q X) (sz : Nat) : vx_Met l yX7_isWithin [.code yX7_isWithin cX7_isWithin 3 (some .boolean)] ({ frames := 0, cells := 0, slots := 0, locals := 0 } : Room) (gPc L sz [.int L0, .int L1, .int L2] v) (gQi L sz Q) (gXC L sz X) 0 0 (gA L sz) := by
  refine g_ofW (by decide +kernel) hfl hL (Nat.le_of_ble_eq_true rfl) ?_
  intro p e s m args below meth c C hr hno
  refine g_sub [(0, .int L0), (1, .int L1), (2, .int L2)] [0, 1, 2] rfl ?_
  unfold TX7_isWithin at h
  refine g_iload_n C 0 rfl 0 rfl dX7_isWithin_0 ?_
  refine g_iload_n C 1 rfl 1 rfl dX7_isWithin_1 ?_
  refine g_icmp_lt C 14 (by decide) dX7_isWithin_2 (fun hc => ?_) (fun hc => ?_)
  · replace h := h.1 hc
    refine g_sub [] [] rfl ?_
    exact sX7_isWithin_14 C hr hno h
  · replace h := h.2 hc
    refine g_iload_n C 0 rfl 0 rfl dX7_isWithin_5 ?_
    refine g_iload_n C 2 rfl 2 rfl dX7_isWithin_6 ?_
    refine g_icmp_gt C 14 (by decide) dX7_isWithin_7 (fun hc => ?_) (fun hc => ?_)
    · replace h := h.1 hc
      refine g_sub [] [] rfl ?_
      exact sX7_isWithin_14 C hr hno h
    · replace h := h.2 hc
      refine g_iconst C 1 (by decide) dX7_isWithin_10 ?_
      refine g_goto C 15 (by decide) dX7_isWithin_11 ?_
      refine g_sub [] [] rfl ?_
      exact sX7_isWithin_15 C hr hno h
def BX7_noCard_35 (t0 : Int32) (v : gMem) (Q : Int32 → gMem → Prop) (X : String → gMem → Prop) : Prop := (narrow .boolean (.int t0) = .int t0 ∧ Q t0 v)
theorem sX7_noCard_35 (C : gC p l s m args meth c cX7_noCard 2 RX7 L sz) (hr : meth.sig.returnType = (some .boolean)) (hno : ∀ x ∈ c.exceptionTable.toList, False) {t0 : Int32} {v : gMem} {Q : Int32 → gMem → Prop} {X : String → gMem → Prop} (h : BX7_noCard_35 t0 v Q X) : gS p l e ({ frames := 1, cells := 0, slots := 0, locals := 22 } : Room) s m args below meth c 2 L sz (vx_MQ below (gQi L sz Q) (gXC L sz X) args s 0 0 (gA L sz)) 0 0 35 [] [.int t0] v := by
  unfold BX7_noCard_35 at h
  exact g_iret C hr h.1 (Nat.le_of_ble_eq_true rfl) (Nat.le_of_ble_eq_true rfl) h.2 dX7_noCard_35
def BX7_noCard_20 (t1 : Int32) (v : gMem) (Q : Int32 → gMem → Prop) (X : String → gMem → Prop) : Prop := ((((gw v 7 0 0 t1) 7 0 0) = 0 → (BX7_noCard_35 0 (gw v 7 0 0 t1) Q X)) ∧ (¬ ((gw v 7 0 0 t1) 7 0 0) = 0 → (BX7_noCard_35 1 (gw v 7 0 0 t1) Q X)))
theorem sX7_noCard_20 (C : gC p l s m args meth c cX7_noCard 2 RX7 L sz) (hr : meth.sig.returnType = (some .boolean)) (hno : ∀ x ∈ c.exceptionTable.toList, False) {t1 : Int32} {v : gMem} {Q : Int32 → gMem → Prop} {X : String → gMem → Prop} (h : BX7_noCard_20 t1 v Q X) : gS p l e ({ frames := 1, cells := 0, slots := 0, locals := 22 } : Room) s m args below meth c 2 L sz (vx_MQ below (gQi L sz Q) (gXC L sz X) args s 0 0 (gA L sz)) 0 0 20 [(0, .ref (L.2.1 7 0))] [.int t1, .ref (L.2.1 7 0)] v := by
  unfold BX7_noCard_20 at h
  refine fpX7_64 C dX7_noCard_20 ?_
  refine g_aload_n C 0 rfl 0 rfl dX7_noCard_23 ?_
  refine fgX7_64 C dX7_noCard_24 ?_
  refine g_if_eq C 34 (by decide) dX7_noCard_27 (fun hc => ?_) (fun hc => ?_)
  · replace h := h.1 hc
    refine g_iconst C 0 (by decide) dX7_noCard_34 ?_
    refine g_sub [] [] rfl ?_
    exact sX7_noCard_35 C hr hno h
  · replace h := h.2 hc
    refine g_iconst C 1 (by decide) dX7_noCard_30 ?_
    refine g_goto C 35 (by decide) dX7_noCard_31 ?_
    refine g_sub [] [] rfl ?_
    exact sX7_noCard_35 C hr hno h
def TX7_noCard (L1 : Int32) (v : gMem) (Q : Int32 → gMem → Prop) (X : String → gMem → Prop) : Prop := (TX7_isWithin L1 0 ((v 7 0 2) - 1) v (fun r9 v9 => ((r9 = 0 → (BX7_noCard_20 1 v9 Q X)) ∧ (¬ r9 = 0 → (BX7_noCard_20 0 v9 Q X)))) X)
theorem kX7_noCard (l : Launch) (hfl : l.stackTraces = false) (L : gL) (hL : gDist L) (L1 : Int32) (v : gMem) (Q : Int32 → gMem → Prop) (X : String → gMem → Prop) (h : TX7_noCard L1 v Q X) (sz : Nat) : vx_Met l yX7_noCard [.code yX7_noCard cX7_noCard 2 (some .boolean)] ({ frames := 1, cells := 0, slots := 0, locals := 22 } : Room) (gPc L sz [.ref (L.2.1 7 0), .int L1] v) (gQi L sz Q) (gXC L sz X) 0 0 (gA L sz) := by
  refine g_ofW (by decide +kernel) hfl hL (Nat.le_of_ble_eq_true rfl) ?_
  intro p e s m args below meth c C hr hno
  refine g_sub [(0, .ref (L.2.1 7 0)), (1, .int L1)] [0, 1] rfl ?_
  unfold TX7_noCard at h
  refine g_aload_n C 0 rfl 0 rfl dX7_noCard_0 ?_
  refine g_iload_n C 1 rfl 1 rfl dX7_noCard_1 ?_
  refine g_iconst C 0 (by decide) dX7_noCard_2 ?_
  refine g_aload_n C 0 rfl 0 rfl dX7_noCard_3 ?_
  refine fgX7_67 C dX7_noCard_4 ?_
  refine g_iconst C 1 (by decide) dX7_noCard_7 ?_
  refine g_isub C dX7_noCard_8 ?_
  refine g_callSi C hno [.int L1, .int 0, .int ((v 7 0 2) - 1)] (fun sz9 => kX7_isWithin l C.2.2.2.2.2.2.1 L C.2.2.2.2.2.2.2.1 L1 0 ((v 7 0 2) - 1) v _ X h sz9) wml_RX7_70 wstat_X7_isWithin wini_RX7 wcode_X7_isWithin rfl rfl (n := 3) (by decide +kernel) rfl ⟨(Nat.le_of_ble_eq_true rfl), (Nat.le_of_ble_eq_true rfl)⟩ ⟨(Nat.le_of_ble_eq_true rfl), (Nat.le_of_ble_eq_true rfl)⟩ ⟨(Nat.le_of_ble_eq_true rfl), (Nat.le_of_ble_eq_true rfl)⟩ (Nat.le_of_ble_eq_true rfl) dX7_noCard_9 (fun r9 v9 h => ?_)
  refine g_if_eq C 19 (by decide) dX7_noCard_12 (fun hc => ?_) (fun hc => ?_)
  · replace h := h.1 hc
    refine g_iconst C 1 (by decide) dX7_noCard_19 ?_
    refine g_sub [(0, .ref (L.2.1 7 0))] [0] rfl ?_
    exact sX7_noCard_20 C hr hno h
  · replace h := h.2 hc
    refine g_iconst C 0 (by decide) dX7_noCard_15 ?_
    refine g_goto C 20 (by decide) dX7_noCard_16 ?_
    refine g_sub [(0, .ref (L.2.1 7 0))] [0] rfl ?_
    exact sX7_noCard_20 C hr hno h
def BX7_noCards_21 (t0 : Int32) (v : gMem) (Q : Int32 → gMem → Prop) (X : String → gMem → Prop) : Prop := (narrow .boolean (.int t0) = .int t0 ∧ Q t0 v)
theorem sX7_noCards_21 (C : gC p l s m args meth c cX7_noCards 3 RX7 L sz) (hr : meth.sig.returnType = (some .boolean)) (hno : ∀ x ∈ c.exceptionTable.toList, False) {t0 : Int32} {v : gMem} {Q : Int32 → gMem → Prop} {X : String → gMem → Prop} (h : BX7_noCards_21 t0 v Q X) : gS p l e ({ frames := 2, cells := 0, slots := 0, locals := 43 } : Room) s m args below meth c 3 L sz (vx_MQ below (gQi L sz Q) (gXC L sz X) args s 0 0 (gA L sz)) 0 0 21 [] [.int t0] v := by
  unfold BX7_noCards_21 at h
  exact g_iret C hr h.1 (Nat.le_of_ble_eq_true rfl) (Nat.le_of_ble_eq_true rfl) h.2 dX7_noCards_21
def BX7_noCards_16 (v : gMem) (Q : Int32 → gMem → Prop) (X : String → gMem → Prop) : Prop := (BX7_noCards_21 1 v Q X)
theorem sX7_noCards_16 (C : gC p l s m args meth c cX7_noCards 3 RX7 L sz) (hr : meth.sig.returnType = (some .boolean)) (hno : ∀ x ∈ c.exceptionTable.toList, False) {v : gMem} {Q : Int32 → gMem → Prop} {X : String → gMem → Prop} (h : BX7_noCards_16 v Q X) : gS p l e ({ frames := 2, cells := 0, slots := 0, locals := 43 } : Room) s m args below meth c 3 L sz (vx_MQ below (gQi L sz Q) (gXC L sz X) args s 0 0 (gA L sz)) 0 0 16 [] [] v := by
  unfold BX7_noCards_16 at h
  refine g_iconst C 1 (by decide) dX7_noCards_16 ?_
  refine g_goto C 21 (by decide) dX7_noCards_17 ?_
  exact sX7_noCards_21 C hr hno h
def TX7_noCards (L1 : Int32) (L2 : Int32) (v : gMem) (Q : Int32 → gMem → Prop) (X : String → gMem → Prop) : Prop := (TX7_noCard L1 v (fun r2 v2 => ((¬ r2 = 0 → (BX7_noCards_16 v2 Q X)) ∧ (r2 = 0 → (TX7_noCard L2 v2 (fun r10 v10 => ((r10 = 0 → (BX7_noCards_21 0 v10 Q X)) ∧ (¬ r10 = 0 → (BX7_noCards_16 v10 Q X)))) X)))) X)
theorem kX7_noCards (l : Launch) (hfl : l.stackTraces = false) (L : gL) (hL : gDist L) (L1 : Int32) (L2 : Int32) (v : gMem) (Q : Int32 → gMem → Prop) (X : String → gMem → Prop) (h : TX7_noCards L1 L2 v Q X) (sz : Nat) : vx_Met l yX7_noCards [.code yX7_noCards cX7_noCards 3 (some .boolean)] ({ frames := 2, cells := 0, slots := 0, locals := 43 } : Room) (gPc L sz [.ref (L.2.1 7 0), .int L1, .int L2] v) (gQi L sz Q) (gXC L sz X) 0 0 (gA L sz) := by
  refine g_ofW (by decide +kernel) hfl hL (Nat.le_of_ble_eq_true rfl) ?_
  intro p e s m args below meth c C hr hno
  refine g_sub [(0, .ref (L.2.1 7 0)), (1, .int L1), (2, .int L2)] [0, 1, 2] rfl ?_
  unfold TX7_noCards at h
  refine g_aload_n C 0 rfl 0 rfl dX7_noCards_0 ?_
  refine g_iload_n C 1 rfl 1 rfl dX7_noCards_1 ?_
  refine g_callVi C hno gok_7 rfl rfl [.int L1] (fun sz9 => kX7_noCard l C.2.2.2.2.2.2.1 L C.2.2.2.2.2.2.2.1 L1 v _ X h sz9) wml_RX7_74 winst_X7_noCard wsel_X7_noCard wini_RX7 wcode_X7_noCard rfl rfl (n := 1) (by decide +kernel) rfl ⟨(Nat.le_of_ble_eq_true rfl), (Nat.le_of_ble_eq_true rfl)⟩ ⟨(Nat.le_of_ble_eq_true rfl), (Nat.le_of_ble_eq_true rfl)⟩ ⟨(Nat.le_of_ble_eq_true rfl), (Nat.le_of_ble_eq_true rfl)⟩ (Nat.le_of_ble_eq_true rfl) dX7_noCards_2 (fun r2 v2 h => ?_)
  refine g_if_ne C 16 (by decide) dX7_noCards_5 (fun hc => ?_) (fun hc => ?_)
  · replace h := h.1 hc
    refine g_sub [] [] rfl ?_
    exact sX7_noCards_16 C hr hno h
  · replace h := h.2 hc
    refine g_aload_n C 0 rfl 0 rfl dX7_noCards_8 ?_
    refine g_iload_n C 2 rfl 2 rfl dX7_noCards_9 ?_
    refine g_callVi C hno gok_7 rfl rfl [.int L2] (fun sz9 => kX7_noCard l C.2.2.2.2.2.2.1 L C.2.2.2.2.2.2.2.1 L2 v2 _ X h sz9) wml_RX7_74 winst_X7_noCard wsel_X7_noCard wini_RX7 wcode_X7_noCard rfl rfl (n := 1) (by decide +kernel) rfl ⟨(Nat.le_of_ble_eq_true rfl), (Nat.le_of_ble_eq_true rfl)⟩ ⟨(Nat.le_of_ble_eq_true rfl), (Nat.le_of_ble_eq_true rfl)⟩ ⟨(Nat.le_of_ble_eq_true rfl), (Nat.le_of_ble_eq_true rfl)⟩ (Nat.le_of_ble_eq_true rfl) dX7_noCards_10 (fun r10 v10 h => ?_)
    refine g_if_eq C 20 (by decide) dX7_noCards_13 (fun hc => ?_) (fun hc => ?_)
    · replace h := h.1 hc
      refine g_iconst C 0 (by decide) dX7_noCards_20 ?_
      refine g_sub [] [] rfl ?_
      exact sX7_noCards_21 C hr hno h
    · replace h := h.2 hc
      refine g_sub [] [] rfl ?_
      exact sX7_noCards_16 C hr hno h
def TX7_addSource (L1 : Int32) (v : gMem) (Q : Int32 → gMem → Prop) (X : String → gMem → Prop) : Prop := (TX7_isWithin L1 1 9 v (fun r4 v4 => ((¬ r4 = 0 → ((¬ (v4 7 0 1) = 4 → (vp_in ((gw v4 7 0 0 0) 7 0 1) 4 ∧ (Q ((gw (gw v4 7 0 0 0) 30 0 (Int32.toNatClampNeg ((gw v4 7 0 0 0) 7 0 1)) L1) 7 0 1) (gw (gw (gw v4 7 0 0 0) 30 0 (Int32.toNatClampNeg ((gw v4 7 0 0 0) 7 0 1)) L1) 7 0 1 (((gw (gw v4 7 0 0 0) 30 0 (Int32.toNatClampNeg ((gw v4 7 0 0 0) 7 0 1)) L1) 7 0 1) + 1))))) ∧ ((v4 7 0 1) = 4 → (TX7_fail 2 v4 (fun r26 v26 => (Q r26 v26)) X)))) ∧ (r4 = 0 → (TX7_fail 1 v4 (fun r12 v12 => (Q r12 v12)) X)))) X)
theorem kX7_addSource (l : Launch) (hfl : l.stackTraces = false) (L : gL) (hL : gDist L) (L1 : Int32) (v : gMem) (Q : Int32 → gMem → Prop) (X : String → gMem → Prop) (h : TX7_addSource L1 v Q X) (sz : Nat) : vx_Met l yX7_addSource [.code yX7_addSource cX7_addSource 2 (some .int)] ({ frames := 1, cells := 0, slots := 0, locals := 22 } : Room) (gPc L sz [.ref (L.2.1 7 0), .int L1] v) (gQi L sz Q) (gXC L sz X) 0 0 (gA L sz) := by
  refine g_ofW (by decide +kernel) hfl hL (Nat.le_of_ble_eq_true rfl) ?_
  intro p e s m args below meth c C hr hno
  refine g_sub [(0, .ref (L.2.1 7 0)), (1, .int L1)] [0, 1] rfl ?_
  unfold TX7_addSource at h
  refine g_iload_n C 1 rfl 1 rfl dX7_addSource_0 ?_
  refine g_iconst C 1 (by decide) dX7_addSource_1 ?_
  refine g_bipush C 9 (by decide) dX7_addSource_2 ?_
  refine g_callSi C hno [.int L1, .int 1, .int 9] (fun sz9 => kX7_isWithin l C.2.2.2.2.2.2.1 L C.2.2.2.2.2.2.2.1 L1 1 9 v _ X h sz9) wml_RX7_70 wstat_X7_isWithin wini_RX7 wcode_X7_isWithin rfl rfl (n := 3) (by decide +kernel) rfl ⟨(Nat.le_of_ble_eq_true rfl), (Nat.le_of_ble_eq_true rfl)⟩ ⟨(Nat.le_of_ble_eq_true rfl), (Nat.le_of_ble_eq_true rfl)⟩ ⟨(Nat.le_of_ble_eq_true rfl), (Nat.le_of_ble_eq_true rfl)⟩ (Nat.le_of_ble_eq_true rfl) dX7_addSource_4 (fun r4 v4 h => ?_)
  refine g_if_ne C 16 (by decide) dX7_addSource_7 (fun hc => ?_) (fun hc => ?_)
  · replace h := h.1 hc
    refine g_aload_n C 0 rfl 0 rfl dX7_addSource_16 ?_
    refine fgX7_82 C dX7_addSource_17 ?_
    refine g_iconst C 4 (by decide) dX7_addSource_20 ?_
    refine g_icmp_ne C 30 (by decide) dX7_addSource_21 (fun hc => ?_) (fun hc => ?_)
    · replace h := h.1 hc
      refine g_aload_n C 0 rfl 0 rfl dX7_addSource_30 ?_
      refine g_iconst C 0 (by decide) dX7_addSource_31 ?_
      refine fpX7_64 C dX7_addSource_32 ?_
      refine g_aload_n C 0 rfl 0 rfl dX7_addSource_35 ?_
      refine fgX7_13 C dX7_addSource_36 ?_
      refine g_aload_n C 0 rfl 0 rfl dX7_addSource_39 ?_
      refine fgX7_82 C dX7_addSource_40 ?_
      refine g_iload_n C 1 rfl 1 rfl dX7_addSource_43 ?_
      obtain ⟨hb44, h⟩ := h
      refine g_iast C gok_30 (fun _ => rfl) hb44 dX7_addSource_44 ?_
      refine g_aload_n C 0 rfl 0 rfl dX7_addSource_45 ?_
      refine g_dup C rfl dX7_addSource_46 ?_
      refine fgX7_82 C dX7_addSource_47 ?_
      refine g_dup_x1 C rfl rfl dX7_addSource_50 ?_
      refine g_iconst C 1 (by decide) dX7_addSource_51 ?_
      refine g_iadd C dX7_addSource_52 ?_
      refine fpX7_82 C dX7_addSource_53 ?_
      exact g_iret C hr rfl (Nat.le_of_ble_eq_true rfl) (Nat.le_of_ble_eq_true rfl) h dX7_addSource_56
    · replace h := h.2 hc
      refine g_aload_n C 0 rfl 0 rfl dX7_addSource_24 ?_
      refine g_iconst C 2 (by decide) dX7_addSource_25 ?_
      refine g_callVi C hno gok_7 rfl rfl [.int 2] (fun sz9 => kX7_fail l C.2.2.2.2.2.2.1 L C.2.2.2.2.2.2.2.1 2 v4 _ X h sz9) wml_RX7_78 winst_X7_fail wsel_X7_fail wini_RX7 wcode_X7_fail rfl rfl (n := 1) (by decide +kernel) rfl ⟨(Nat.le_of_ble_eq_true rfl), (Nat.le_of_ble_eq_true rfl)⟩ ⟨(Nat.le_of_ble_eq_true rfl), (Nat.le_of_ble_eq_true rfl)⟩ ⟨(Nat.le_of_ble_eq_true rfl), (Nat.le_of_ble_eq_true rfl)⟩ (Nat.le_of_ble_eq_true rfl) dX7_addSource_26 (fun r26 v26 h => ?_)
      exact g_iret C hr rfl (Nat.le_of_ble_eq_true rfl) (Nat.le_of_ble_eq_true rfl) h dX7_addSource_29
  · replace h := h.2 hc
    refine g_aload_n C 0 rfl 0 rfl dX7_addSource_10 ?_
    refine g_iconst C 1 (by decide) dX7_addSource_11 ?_
    refine g_callVi C hno gok_7 rfl rfl [.int 1] (fun sz9 => kX7_fail l C.2.2.2.2.2.2.1 L C.2.2.2.2.2.2.2.1 1 v4 _ X h sz9) wml_RX7_78 winst_X7_fail wsel_X7_fail wini_RX7 wcode_X7_fail rfl rfl (n := 1) (by decide +kernel) rfl ⟨(Nat.le_of_ble_eq_true rfl), (Nat.le_of_ble_eq_true rfl)⟩ ⟨(Nat.le_of_ble_eq_true rfl), (Nat.le_of_ble_eq_true rfl)⟩ ⟨(Nat.le_of_ble_eq_true rfl), (Nat.le_of_ble_eq_true rfl)⟩ (Nat.le_of_ble_eq_true rfl) dX7_addSource_12 (fun r12 v12 h => ?_)
    exact g_iret C hr rfl (Nat.le_of_ble_eq_true rfl) (Nat.le_of_ble_eq_true rfl) h dX7_addSource_15
def TX7_setRank (L1 : Int32) (L2 : Int32) (v : gMem) (Q : Int32 → gMem → Prop) (X : String → gMem → Prop) : Prop := (TX7_isWithin L1 0 ((v 7 0 1) - 1) v (fun r8 v8 => ((¬ r8 = 0 → (TX7_isWithin L2 1 9 v8 (fun r24 v24 => ((¬ r24 = 0 → (vp_in L1 4 ∧ (vp_in L1 4 ∧ (Q ((gw v24 7 0 0 0) 30 0 (Int32.toNatClampNeg L1)) (gw (gw v24 7 0 0 0) 30 0 (Int32.toNatClampNeg L1) L2))))) ∧ (r24 = 0 → (TX7_fail 2 v24 (fun r32 v32 => (Q r32 v32)) X)))) X)) ∧ (r8 = 0 → (TX7_fail 1 v8 (fun r16 v16 => (Q r16 v16)) X)))) X)
theorem kX7_setRank (l : Launch) (hfl : l.stackTraces = false) (L : gL) (hL : gDist L) (L1 : Int32) (L2 : Int32) (v : gMem) (Q : Int32 → gMem → Prop) (X : String → gMem → Prop) (h : TX7_setRank L1 L2 v Q X) (sz : Nat) : vx_Met l yX7_setRank [.code yX7_setRank cX7_setRank 4 (some .int)] ({ frames := 1, cells := 0, slots := 0, locals := 22 } : Room) (gPc L sz [.ref (L.2.1 7 0), .int L1, .int L2] v) (gQi L sz Q) (gXC L sz X) 0 0 (gA L sz) := by
  refine g_ofW (by decide +kernel) hfl hL (Nat.le_of_ble_eq_true rfl) ?_
  intro p e s m args below meth c C hr hno
  refine g_sub [(0, .ref (L.2.1 7 0)), (1, .int L1), (2, .int L2)] [0, 1, 2] rfl ?_
  unfold TX7_setRank at h
  refine g_iload_n C 1 rfl 1 rfl dX7_setRank_0 ?_
  refine g_iconst C 0 (by decide) dX7_setRank_1 ?_
  refine g_aload_n C 0 rfl 0 rfl dX7_setRank_2 ?_
  refine fgX7_82 C dX7_setRank_3 ?_
  refine g_iconst C 1 (by decide) dX7_setRank_6 ?_
  refine g_isub C dX7_setRank_7 ?_
  refine g_callSi C hno [.int L1, .int 0, .int ((v 7 0 1) - 1)] (fun sz9 => kX7_isWithin l C.2.2.2.2.2.2.1 L C.2.2.2.2.2.2.2.1 L1 0 ((v 7 0 1) - 1) v _ X h sz9) wml_RX7_70 wstat_X7_isWithin wini_RX7 wcode_X7_isWithin rfl rfl (n := 3) (by decide +kernel) rfl ⟨(Nat.le_of_ble_eq_true rfl), (Nat.le_of_ble_eq_true rfl)⟩ ⟨(Nat.le_of_ble_eq_true rfl), (Nat.le_of_ble_eq_true rfl)⟩ ⟨(Nat.le_of_ble_eq_true rfl), (Nat.le_of_ble_eq_true rfl)⟩ (Nat.le_of_ble_eq_true rfl) dX7_setRank_8 (fun r8 v8 h => ?_)
  refine g_if_ne C 20 (by decide) dX7_setRank_11 (fun hc => ?_) (fun hc => ?_)
  · replace h := h.1 hc
    refine g_iload_n C 2 rfl 2 rfl dX7_setRank_20 ?_
    refine g_iconst C 1 (by decide) dX7_setRank_21 ?_
    refine g_bipush C 9 (by decide) dX7_setRank_22 ?_
    refine g_callSi C hno [.int L2, .int 1, .int 9] (fun sz9 => kX7_isWithin l C.2.2.2.2.2.2.1 L C.2.2.2.2.2.2.2.1 L2 1 9 v8 _ X h sz9) wml_RX7_70 wstat_X7_isWithin wini_RX7 wcode_X7_isWithin rfl rfl (n := 3) (by decide +kernel) rfl ⟨(Nat.le_of_ble_eq_true rfl), (Nat.le_of_ble_eq_true rfl)⟩ ⟨(Nat.le_of_ble_eq_true rfl), (Nat.le_of_ble_eq_true rfl)⟩ ⟨(Nat.le_of_ble_eq_true rfl), (Nat.le_of_ble_eq_true rfl)⟩ (Nat.le_of_ble_eq_true rfl) dX7_setRank_24 (fun r24 v24 h => ?_)
    refine g_if_ne C 36 (by decide) dX7_setRank_27 (fun hc => ?_) (fun hc => ?_)
    · replace h := h.1 hc
      refine g_aload_n C 0 rfl 0 rfl dX7_setRank_36 ?_
      refine g_iconst C 0 (by decide) dX7_setRank_37 ?_
      refine fpX7_64 C dX7_setRank_38 ?_
      refine g_aload_n C 0 rfl 0 rfl dX7_setRank_41 ?_
      refine fgX7_13 C dX7_setRank_42 ?_
      refine g_iload_n C 1 rfl 1 rfl dX7_setRank_45 ?_
      obtain ⟨hb46, h⟩ := h
      refine g_iald C gok_30 rfl hb46 dX7_setRank_46 ?_
      refine g_istore_n C 3 rfl [(3, .int ((gw v24 7 0 0 0) 30 0 (Int32.toNatClampNeg L1))), (0, .ref (L.2.1 7 0)), (1, .int L1), (2, .int L2)] (Nat.le_of_ble_eq_true rfl) rfl dX7_setRank_47 ?_
      refine g_aload_n C 0 rfl 1 rfl dX7_setRank_48 ?_
      refine fgX7_13 C dX7_setRank_49 ?_
      refine g_iload_n C 1 rfl 2 rfl dX7_setRank_52 ?_
      refine g_iload_n C 2 rfl 3 rfl dX7_setRank_53 ?_
      obtain ⟨hb54, h⟩ := h
      refine g_iast C gok_30 (fun _ => rfl) hb54 dX7_setRank_54 ?_
      refine g_iload_n C 3 rfl 0 rfl dX7_setRank_55 ?_
      exact g_iret C hr rfl (Nat.le_of_ble_eq_true rfl) (Nat.le_of_ble_eq_true rfl) h dX7_setRank_56
    · replace h := h.2 hc
      refine g_aload_n C 0 rfl 0 rfl dX7_setRank_30 ?_
      refine g_iconst C 2 (by decide) dX7_setRank_31 ?_
      refine g_callVi C hno gok_7 rfl rfl [.int 2] (fun sz9 => kX7_fail l C.2.2.2.2.2.2.1 L C.2.2.2.2.2.2.2.1 2 v24 _ X h sz9) wml_RX7_78 winst_X7_fail wsel_X7_fail wini_RX7 wcode_X7_fail rfl rfl (n := 1) (by decide +kernel) rfl ⟨(Nat.le_of_ble_eq_true rfl), (Nat.le_of_ble_eq_true rfl)⟩ ⟨(Nat.le_of_ble_eq_true rfl), (Nat.le_of_ble_eq_true rfl)⟩ ⟨(Nat.le_of_ble_eq_true rfl), (Nat.le_of_ble_eq_true rfl)⟩ (Nat.le_of_ble_eq_true rfl) dX7_setRank_32 (fun r32 v32 h => ?_)
      exact g_iret C hr rfl (Nat.le_of_ble_eq_true rfl) (Nat.le_of_ble_eq_true rfl) h dX7_setRank_35
  · replace h := h.2 hc
    refine g_aload_n C 0 rfl 0 rfl dX7_setRank_14 ?_
    refine g_iconst C 1 (by decide) dX7_setRank_15 ?_
    refine g_callVi C hno gok_7 rfl rfl [.int 1] (fun sz9 => kX7_fail l C.2.2.2.2.2.2.1 L C.2.2.2.2.2.2.2.1 1 v8 _ X h sz9) wml_RX7_78 winst_X7_fail wsel_X7_fail wini_RX7 wcode_X7_fail rfl rfl (n := 1) (by decide +kernel) rfl ⟨(Nat.le_of_ble_eq_true rfl), (Nat.le_of_ble_eq_true rfl)⟩ ⟨(Nat.le_of_ble_eq_true rfl), (Nat.le_of_ble_eq_true rfl)⟩ ⟨(Nat.le_of_ble_eq_true rfl), (Nat.le_of_ble_eq_true rfl)⟩ (Nat.le_of_ble_eq_true rfl) dX7_setRank_16 (fun r16 v16 h => ?_)
    exact g_iret C hr rfl (Nat.le_of_ble_eq_true rfl) (Nat.le_of_ble_eq_true rfl) h dX7_setRank_19
def BX7_addCard_52 (I52 : Int32 → gMem → Prop) (L2 : Int32) (v : gMem) (Q : Int32 → gMem → Prop) (X : String → gMem → Prop) : Prop := ((4 ≤ L2 → (Q (v 7 0 2) (gw v 7 0 2 ((v 7 0 2) + 1)))) ∧ (¬ 4 ≤ L2 → (vp_in ((4 * (v 7 0 2)) + L2) 64 ∧ (I52 (L2 + 1) (gw v 33 0 (Int32.toNatClampNeg ((4 * (v 7 0 2)) + L2)) (-1))))))
theorem sX7_addCard_52 (C : gC p l s m args meth c cX7_addCard 3 RX7 L sz) (hr : meth.sig.returnType = (some .int)) (hno : ∀ x ∈ c.exceptionTable.toList, False) {L2 : Int32} {v : gMem} {Q : Int32 → gMem → Prop} {X : String → gMem → Prop} {I52 : Int32 → gMem → Prop} (hI52 : ∀ (L2 : Int32) (v : gMem), I52 L2 v → gS p l e ({ frames := 1, cells := 0, slots := 0, locals := 22 } : Room) s m args below meth c 3 L sz (vx_MQ below (gQi L sz Q) (gXC L sz X) args s 0 0 (gA L sz)) 0 0 52 [(0, .ref (L.2.1 7 0)), (2, .int L2)] [] v) (h : BX7_addCard_52 I52 L2 v Q X) : gS p l e ({ frames := 1, cells := 0, slots := 0, locals := 22 } : Room) s m args below meth c 3 L sz (vx_MQ below (gQi L sz Q) (gXC L sz X) args s 0 0 (gA L sz)) 0 0 52 [(0, .ref (L.2.1 7 0)), (2, .int L2)] [] v := by
  unfold BX7_addCard_52 at h
  refine g_iload_n C 2 rfl 1 rfl dX7_addCard_52 ?_
  refine g_iconst C 4 (by decide) dX7_addCard_53 ?_
  refine g_icmp_ge C 77 (by decide) dX7_addCard_54 (fun hc => ?_) (fun hc => ?_)
  · replace h := h.1 hc
    refine g_aload_n C 0 rfl 0 rfl dX7_addCard_77 ?_
    refine g_dup C rfl dX7_addCard_78 ?_
    refine fgX7_67 C dX7_addCard_79 ?_
    refine g_dup_x1 C rfl rfl dX7_addCard_82 ?_
    refine g_iconst C 1 (by decide) dX7_addCard_83 ?_
    refine g_iadd C dX7_addCard_84 ?_
    refine fpX7_67 C dX7_addCard_85 ?_
    exact g_iret C hr rfl (Nat.le_of_ble_eq_true rfl) (Nat.le_of_ble_eq_true rfl) h dX7_addCard_88
  · replace h := h.2 hc
    refine g_aload_n C 0 rfl 0 rfl dX7_addCard_57 ?_
    refine fgX7_23 C dX7_addCard_58 ?_
    refine g_iconst C 4 (by decide) dX7_addCard_61 ?_
    refine g_aload_n C 0 rfl 0 rfl dX7_addCard_62 ?_
    refine fgX7_67 C dX7_addCard_63 ?_
    refine g_imul C dX7_addCard_66 ?_
    refine g_iload_n C 2 rfl 1 rfl dX7_addCard_67 ?_
    refine g_iadd C dX7_addCard_68 ?_
    refine g_iconst C (-1) (by decide) dX7_addCard_69 ?_
    obtain ⟨hb70, h⟩ := h
    refine g_iast C gok_33 (fun _ => rfl) hb70 dX7_addCard_70 ?_
    refine g_iinc C (k := 1) (L2 + 1) [(2, .int (L2 + 1)), (0, .ref (L.2.1 7 0))] rfl rfl (Nat.le_of_ble_eq_true rfl) rfl dX7_addCard_71 ?_
    refine g_goto C 52 (by decide) dX7_addCard_74 ?_
    refine g_sub [(0, .ref (L.2.1 7 0)), (2, .int (L2 + 1))] [1, 0] rfl ?_
    exact hI52 _ _ h
def LX7_addCard_52 (L2 : Int32) (v : gMem) (Q : Int32 → gMem → Prop) (X : String → gMem → Prop) : Prop := ∀ I52 : Int32 → gMem → Prop, (∀ (L2 : Int32) (v : gMem), BX7_addCard_52 I52 L2 v Q X → I52 L2 v) → I52 L2 v
theorem slX7_addCard_52 (C : gC p l s m args meth c cX7_addCard 3 RX7 L sz) (hr : meth.sig.returnType = (some .int)) (hno : ∀ x ∈ c.exceptionTable.toList, False) {L2 : Int32} {v : gMem} {Q : Int32 → gMem → Prop} {X : String → gMem → Prop} (h : LX7_addCard_52 L2 v Q X) : gS p l e ({ frames := 1, cells := 0, slots := 0, locals := 22 } : Room) s m args below meth c 3 L sz (vx_MQ below (gQi L sz Q) (gXC L sz X) args s 0 0 (gA L sz)) 0 0 52 [(0, .ref (L.2.1 7 0)), (2, .int L2)] [] v := by
  refine h (fun L2 v => gS p l e ({ frames := 1, cells := 0, slots := 0, locals := 22 } : Room) s m args below meth c 3 L sz (vx_MQ below (gQi L sz Q) (gXC L sz X) args s 0 0 (gA L sz)) 0 0 52 [(0, .ref (L.2.1 7 0)), (2, .int L2)] [] v) (fun L2 v hb => ?_)
  exact sX7_addCard_52 C hr hno (fun _ _ hs => hs) hb
def TX7_addCard (L1 : Int32) (v : gMem) (Q : Int32 → gMem → Prop) (X : String → gMem → Prop) : Prop := (TX7_isWithin L1 0 ((v 7 0 1) - 1) v (fun r8 v8 => ((¬ r8 = 0 → ((¬ (v8 7 0 2) = 16 → (vp_in ((gw v8 7 0 0 0) 7 0 2) 16 ∧ (LX7_addCard_52 1 (gw (gw v8 7 0 0 0) 31 0 (Int32.toNatClampNeg ((gw v8 7 0 0 0) 7 0 2)) L1) Q X))) ∧ ((v8 7 0 2) = 16 → (TX7_fail 2 v8 (fun r31 v31 => (Q r31 v31)) X)))) ∧ (r8 = 0 → (TX7_fail 1 v8 (fun r16 v16 => (Q r16 v16)) X)))) X)
theorem kX7_addCard (l : Launch) (hfl : l.stackTraces = false) (L : gL) (hL : gDist L) (L1 : Int32) (v : gMem) (Q : Int32 → gMem → Prop) (X : String → gMem → Prop) (h : TX7_addCard L1 v Q X) (sz : Nat) : vx_Met l yX7_addCard [.code yX7_addCard cX7_addCard 3 (some .int)] ({ frames := 1, cells := 0, slots := 0, locals := 22 } : Room) (gPc L sz [.ref (L.2.1 7 0), .int L1] v) (gQi L sz Q) (gXC L sz X) 0 0 (gA L sz) := by
  refine g_ofW (by decide +kernel) hfl hL (Nat.le_of_ble_eq_true rfl) ?_
  intro p e s m args below meth c C hr hno
  refine g_sub [(0, .ref (L.2.1 7 0)), (1, .int L1)] [0, 1] rfl ?_
  unfold TX7_addCard at h
  refine g_iload_n C 1 rfl 1 rfl dX7_addCard_0 ?_
  refine g_iconst C 0 (by decide) dX7_addCard_1 ?_
  refine g_aload_n C 0 rfl 0 rfl dX7_addCard_2 ?_
  refine fgX7_82 C dX7_addCard_3 ?_
  refine g_iconst C 1 (by decide) dX7_addCard_6 ?_
  refine g_isub C dX7_addCard_7 ?_
  refine g_callSi C hno [.int L1, .int 0, .int ((v 7 0 1) - 1)] (fun sz9 => kX7_isWithin l C.2.2.2.2.2.2.1 L C.2.2.2.2.2.2.2.1 L1 0 ((v 7 0 1) - 1) v _ X h sz9) wml_RX7_70 wstat_X7_isWithin wini_RX7 wcode_X7_isWithin rfl rfl (n := 3) (by decide +kernel) rfl ⟨(Nat.le_of_ble_eq_true rfl), (Nat.le_of_ble_eq_true rfl)⟩ ⟨(Nat.le_of_ble_eq_true rfl), (Nat.le_of_ble_eq_true rfl)⟩ ⟨(Nat.le_of_ble_eq_true rfl), (Nat.le_of_ble_eq_true rfl)⟩ (Nat.le_of_ble_eq_true rfl) dX7_addCard_8 (fun r8 v8 h => ?_)
  refine g_if_ne C 20 (by decide) dX7_addCard_11 (fun hc => ?_) (fun hc => ?_)
  · replace h := h.1 hc
    refine g_aload_n C 0 rfl 0 rfl dX7_addCard_20 ?_
    refine fgX7_67 C dX7_addCard_21 ?_
    refine g_bipush C 16 (by decide) dX7_addCard_24 ?_
    refine g_icmp_ne C 35 (by decide) dX7_addCard_26 (fun hc => ?_) (fun hc => ?_)
    · replace h := h.1 hc
      refine g_aload_n C 0 rfl 0 rfl dX7_addCard_35 ?_
      refine g_iconst C 0 (by decide) dX7_addCard_36 ?_
      refine fpX7_64 C dX7_addCard_37 ?_
      refine g_aload_n C 0 rfl 0 rfl dX7_addCard_40 ?_
      refine fgX7_17 C dX7_addCard_41 ?_
      refine g_aload_n C 0 rfl 0 rfl dX7_addCard_44 ?_
      refine fgX7_67 C dX7_addCard_45 ?_
      refine g_iload_n C 1 rfl 1 rfl dX7_addCard_48 ?_
      obtain ⟨hb49, h⟩ := h
      refine g_iast C gok_31 (fun _ => rfl) hb49 dX7_addCard_49 ?_
      refine g_iconst C 1 (by decide) dX7_addCard_50 ?_
      refine g_istore_n C 2 rfl [(2, .int 1), (0, .ref (L.2.1 7 0)), (1, .int L1)] (Nat.le_of_ble_eq_true rfl) rfl dX7_addCard_51 ?_
      refine g_sub [(0, .ref (L.2.1 7 0)), (2, .int 1)] [1, 0] rfl ?_
      exact slX7_addCard_52 C hr hno h
    · replace h := h.2 hc
      refine g_aload_n C 0 rfl 0 rfl dX7_addCard_29 ?_
      refine g_iconst C 2 (by decide) dX7_addCard_30 ?_
      refine g_callVi C hno gok_7 rfl rfl [.int 2] (fun sz9 => kX7_fail l C.2.2.2.2.2.2.1 L C.2.2.2.2.2.2.2.1 2 v8 _ X h sz9) wml_RX7_78 winst_X7_fail wsel_X7_fail wini_RX7 wcode_X7_fail rfl rfl (n := 1) (by decide +kernel) rfl ⟨(Nat.le_of_ble_eq_true rfl), (Nat.le_of_ble_eq_true rfl)⟩ ⟨(Nat.le_of_ble_eq_true rfl), (Nat.le_of_ble_eq_true rfl)⟩ ⟨(Nat.le_of_ble_eq_true rfl), (Nat.le_of_ble_eq_true rfl)⟩ (Nat.le_of_ble_eq_true rfl) dX7_addCard_31 (fun r31 v31 h => ?_)
      exact g_iret C hr rfl (Nat.le_of_ble_eq_true rfl) (Nat.le_of_ble_eq_true rfl) h dX7_addCard_34
  · replace h := h.2 hc
    refine g_aload_n C 0 rfl 0 rfl dX7_addCard_14 ?_
    refine g_iconst C 1 (by decide) dX7_addCard_15 ?_
    refine g_callVi C hno gok_7 rfl rfl [.int 1] (fun sz9 => kX7_fail l C.2.2.2.2.2.2.1 L C.2.2.2.2.2.2.2.1 1 v8 _ X h sz9) wml_RX7_78 winst_X7_fail wsel_X7_fail wini_RX7 wcode_X7_fail rfl rfl (n := 1) (by decide +kernel) rfl ⟨(Nat.le_of_ble_eq_true rfl), (Nat.le_of_ble_eq_true rfl)⟩ ⟨(Nat.le_of_ble_eq_true rfl), (Nat.le_of_ble_eq_true rfl)⟩ ⟨(Nat.le_of_ble_eq_true rfl), (Nat.le_of_ble_eq_true rfl)⟩ (Nat.le_of_ble_eq_true rfl) dX7_addCard_16 (fun r16 v16 h => ?_)
    exact g_iret C hr rfl (Nat.le_of_ble_eq_true rfl) (Nat.le_of_ble_eq_true rfl) h dX7_addCard_19
def TX7_cards (v : gMem) (Q : Int32 → gMem → Prop) (X : String → gMem → Prop) : Prop := (Q (v 7 0 2) v)
theorem kX7_cards (l : Launch) (hfl : l.stackTraces = false) (L : gL) (hL : gDist L) (v : gMem) (Q : Int32 → gMem → Prop) (X : String → gMem → Prop) (h : TX7_cards v Q X) (sz : Nat) : vx_Met l yX7_cards [.code yX7_cards cX7_cards 1 (some .int)] ({ frames := 0, cells := 0, slots := 0, locals := 0 } : Room) (gPc L sz [.ref (L.2.1 7 0)] v) (gQi L sz Q) (gXC L sz X) 0 0 (gA L sz) := by
  refine g_ofW (by decide +kernel) hfl hL (Nat.le_of_ble_eq_true rfl) ?_
  intro p e s m args below meth c C hr hno
  refine g_sub [(0, .ref (L.2.1 7 0))] [0] rfl ?_
  unfold TX7_cards at h
  refine g_aload_n C 0 rfl 0 rfl dX7_cards_0 ?_
  refine fgX7_67 C dX7_cards_1 ?_
  exact g_iret C hr rfl (Nat.le_of_ble_eq_true rfl) (Nat.le_of_ble_eq_true rfl) h dX7_cards_4
def BX7_isLetter_17 (t0 : Int32) (v : gMem) (Q : Int32 → gMem → Prop) (X : String → gMem → Prop) : Prop := (narrow .boolean (.int t0) = .int t0 ∧ Q t0 v)
theorem sX7_isLetter_17 (C : gC p l s m args meth c cX7_isLetter 1 RX7 L sz) (hr : meth.sig.returnType = (some .boolean)) (hno : ∀ x ∈ c.exceptionTable.toList, False) {t0 : Int32} {v : gMem} {Q : Int32 → gMem → Prop} {X : String → gMem → Prop} (h : BX7_isLetter_17 t0 v Q X) : gS p l e ({ frames := 0, cells := 0, slots := 0, locals := 0 } : Room) s m args below meth c 1 L sz (vx_MQ below (gQi L sz Q) (gXC L sz X) args s 0 0 (gA L sz)) 0 0 17 [] [.int t0] v := by
  unfold BX7_isLetter_17 at h
  exact g_iret C hr h.1 (Nat.le_of_ble_eq_true rfl) (Nat.le_of_ble_eq_true rfl) h.2 dX7_isLetter_17
def BX7_isLetter_16 (v : gMem) (Q : Int32 → gMem → Prop) (X : String → gMem → Prop) : Prop := (BX7_isLetter_17 0 v Q X)
theorem sX7_isLetter_16 (C : gC p l s m args meth c cX7_isLetter 1 RX7 L sz) (hr : meth.sig.returnType = (some .boolean)) (hno : ∀ x ∈ c.exceptionTable.toList, False) {v : gMem} {Q : Int32 → gMem → Prop} {X : String → gMem → Prop} (h : BX7_isLetter_16 v Q X) : gS p l e ({ frames := 0, cells := 0, slots := 0, locals := 0 } : Room) s m args below meth c 1 L sz (vx_MQ below (gQi L sz Q) (gXC L sz X) args s 0 0 (gA L sz)) 0 0 16 [] [] v := by
  unfold BX7_isLetter_16 at h
  refine g_iconst C 0 (by decide) dX7_isLetter_16 ?_
  exact sX7_isLetter_17 C hr hno h
def TX7_isLetter (L0 : Int32) (v : gMem) (Q : Int32 → gMem → Prop) (X : String → gMem → Prop) : Prop := ((L0 < 97 → (BX7_isLetter_16 v Q X)) ∧ (¬ L0 < 97 → ((122 < L0 → (BX7_isLetter_16 v Q X)) ∧ (¬ 122 < L0 → (BX7_isLetter_17 1 v Q X)))))
theorem kX7_isLetter (l : Launch) (hfl : l.stackTraces = false) (L : gL) (hL : gDist L) (L0 : Int32) (v : gMem) (Q : Int32 → gMem → Prop) (X : String → gMem → Prop) (h : TX7_isLetter L0 v Q X) (sz : Nat) : vx_Met l yX7_isLetter [.code yX7_isLetter cX7_isLetter 1 (some .boolean)] ({ frames := 0, cells := 0, slots := 0, locals := 0 } : Room) (gPc L sz [.int L0] v) (gQi L sz Q) (gXC L sz X) 0 0 (gA L sz) := by
  refine g_ofW (by decide +kernel) hfl hL (Nat.le_of_ble_eq_true rfl) ?_
  intro p e s m args below meth c C hr hno
  refine g_sub [(0, .int L0)] [0] rfl ?_
  unfold TX7_isLetter at h
  refine g_iload_n C 0 rfl 0 rfl dX7_isLetter_0 ?_
  refine g_bipush C 97 (by decide) dX7_isLetter_1 ?_
  refine g_icmp_lt C 16 (by decide) dX7_isLetter_3 (fun hc => ?_) (fun hc => ?_)
  · replace h := h.1 hc
    refine g_sub [] [] rfl ?_
    exact sX7_isLetter_16 C hr hno h
  · replace h := h.2 hc
    refine g_iload_n C 0 rfl 0 rfl dX7_isLetter_6 ?_
    refine g_bipush C 122 (by decide) dX7_isLetter_7 ?_
    refine g_icmp_gt C 16 (by decide) dX7_isLetter_9 (fun hc => ?_) (fun hc => ?_)
    · replace h := h.1 hc
      refine g_sub [] [] rfl ?_
      exact sX7_isLetter_16 C hr hno h
    · replace h := h.2 hc
      refine g_iconst C 1 (by decide) dX7_isLetter_12 ?_
      refine g_goto C 17 (by decide) dX7_isLetter_13 ?_
      refine g_sub [] [] rfl ?_
      exact sX7_isLetter_17 C hr hno h
def TX7_letter (L1 : Int32) (L2 : Int32) (v : gMem) (Q : Int32 → gMem → Prop) (X : String → gMem → Prop) : Prop := (TX7_noCard L1 v (fun r2 v2 => ((r2 = 0 → (TX7_isLetter L2 v2 (fun r11 v11 => ((¬ r11 = 0 → (vp_in L1 16 ∧ ((¬ (v11 32 0 (Int32.toNatClampNeg L1)) = 10 → (vp_in L1 16 ∧ (vp_in ((10 * L1) + (v11 32 0 (Int32.toNatClampNeg L1))) 176 ∧ (vp_in L1 16 ∧ (vp_in L1 16 ∧ (Q (((gw v11 42 0 (Int32.toNatClampNeg ((10 * L1) + (v11 32 0 (Int32.toNatClampNeg L1)))) (vp_nar .char L2)) 32 0 (Int32.toNatClampNeg L1)) + 1) (gw (gw v11 42 0 (Int32.toNatClampNeg ((10 * L1) + (v11 32 0 (Int32.toNatClampNeg L1)))) (vp_nar .char L2)) 32 0 (Int32.toNatClampNeg L1) (((gw v11 42 0 (Int32.toNatClampNeg ((10 * L1) + (v11 32 0 (Int32.toNatClampNeg L1)))) (vp_nar .char L2)) 32 0 (Int32.toNatClampNeg L1)) + 1)))))))) ∧ ((v11 32 0 (Int32.toNatClampNeg L1)) = 10 → (TX7_fail 3 v11 (fun r36 v36 => (Q r36 v36)) X))))) ∧ (r11 = 0 → (TX7_fail 2 v11 (fun r19 v19 => (Q r19 v19)) X)))) X)) ∧ (¬ r2 = 0 → (Q 0 v2)))) X)
theorem kX7_letter (l : Launch) (hfl : l.stackTraces = false) (L : gL) (hL : gDist L) (L1 : Int32) (L2 : Int32) (v : gMem) (Q : Int32 → gMem → Prop) (X : String → gMem → Prop) (h : TX7_letter L1 L2 v Q X) (sz : Nat) : vx_Met l yX7_letter [.code yX7_letter cX7_letter 3 (some .int)] ({ frames := 2, cells := 0, slots := 0, locals := 43 } : Room) (gPc L sz [.ref (L.2.1 7 0), .int L1, .int L2] v) (gQi L sz Q) (gXC L sz X) 0 0 (gA L sz) := by
  refine g_ofW (by decide +kernel) hfl hL (Nat.le_of_ble_eq_true rfl) ?_
  intro p e s m args below meth c C hr hno
  refine g_sub [(0, .ref (L.2.1 7 0)), (1, .int L1), (2, .int L2)] [0, 1, 2] rfl ?_
  unfold TX7_letter at h
  refine g_aload_n C 0 rfl 0 rfl dX7_letter_0 ?_
  refine g_iload_n C 1 rfl 1 rfl dX7_letter_1 ?_
  refine g_callVi C hno gok_7 rfl rfl [.int L1] (fun sz9 => kX7_noCard l C.2.2.2.2.2.2.1 L C.2.2.2.2.2.2.2.1 L1 v _ X h sz9) wml_RX7_74 winst_X7_noCard wsel_X7_noCard wini_RX7 wcode_X7_noCard rfl rfl (n := 1) (by decide +kernel) rfl ⟨(Nat.le_of_ble_eq_true rfl), (Nat.le_of_ble_eq_true rfl)⟩ ⟨(Nat.le_of_ble_eq_true rfl), (Nat.le_of_ble_eq_true rfl)⟩ ⟨(Nat.le_of_ble_eq_true rfl), (Nat.le_of_ble_eq_true rfl)⟩ (Nat.le_of_ble_eq_true rfl) dX7_letter_2 (fun r2 v2 h => ?_)
  refine g_if_eq C 10 (by decide) dX7_letter_5 (fun hc => ?_) (fun hc => ?_)
  · replace h := h.1 hc
    refine g_iload_n C 2 rfl 2 rfl dX7_letter_10 ?_
    refine g_callSi C hno [.int L2] (fun sz9 => kX7_isLetter l C.2.2.2.2.2.2.1 L C.2.2.2.2.2.2.2.1 L2 v2 _ X h sz9) wml_RX7_85 wstat_X7_isLetter wini_RX7 wcode_X7_isLetter rfl rfl (n := 1) (by decide +kernel) rfl ⟨(Nat.le_of_ble_eq_true rfl), (Nat.le_of_ble_eq_true rfl)⟩ ⟨(Nat.le_of_ble_eq_true rfl), (Nat.le_of_ble_eq_true rfl)⟩ ⟨(Nat.le_of_ble_eq_true rfl), (Nat.le_of_ble_eq_true rfl)⟩ (Nat.le_of_ble_eq_true rfl) dX7_letter_11 (fun r11 v11 h => ?_)
    refine g_if_ne C 23 (by decide) dX7_letter_14 (fun hc => ?_) (fun hc => ?_)
    · replace h := h.1 hc
      refine g_aload_n C 0 rfl 0 rfl dX7_letter_23 ?_
      refine fgX7_20 C dX7_letter_24 ?_
      refine g_iload_n C 1 rfl 1 rfl dX7_letter_27 ?_
      obtain ⟨hb28, h⟩ := h
      refine g_iald C gok_32 rfl hb28 dX7_letter_28 ?_
      refine g_bipush C 10 (by decide) dX7_letter_29 ?_
      refine g_icmp_ne C 40 (by decide) dX7_letter_31 (fun hc => ?_) (fun hc => ?_)
      · replace h := h.1 hc
        refine g_aload_n C 0 rfl 0 rfl dX7_letter_40 ?_
        refine fgX7_50 C dX7_letter_41 ?_
        refine g_bipush C 10 (by decide) dX7_letter_44 ?_
        refine g_iload_n C 1 rfl 1 rfl dX7_letter_46 ?_
        refine g_imul C dX7_letter_47 ?_
        refine g_aload_n C 0 rfl 0 rfl dX7_letter_48 ?_
        refine fgX7_20 C dX7_letter_49 ?_
        refine g_iload_n C 1 rfl 1 rfl dX7_letter_52 ?_
        obtain ⟨hb53, h⟩ := h
        refine g_iald C gok_32 rfl hb53 dX7_letter_53 ?_
        refine g_iadd C dX7_letter_54 ?_
        refine g_iload_n C 2 rfl 2 rfl dX7_letter_55 ?_
        obtain ⟨hb56, h⟩ := h
        refine g_cast C gok_42 (fun _ => rfl) hb56 dX7_letter_56 ?_
        refine g_aload_n C 0 rfl 0 rfl dX7_letter_57 ?_
        refine fgX7_20 C dX7_letter_58 ?_
        refine g_iload_n C 1 rfl 1 rfl dX7_letter_61 ?_
        refine g_dup2 C rfl rfl dX7_letter_62 ?_
        obtain ⟨hb63, h⟩ := h
        refine g_iald C gok_32 rfl hb63 dX7_letter_63 ?_
        refine g_iconst C 1 (by decide) dX7_letter_64 ?_
        refine g_iadd C dX7_letter_65 ?_
        refine g_dup_x2 C rfl rfl rfl dX7_letter_66 ?_
        obtain ⟨hb67, h⟩ := h
        refine g_iast C gok_32 (fun _ => rfl) hb67 dX7_letter_67 ?_
        exact g_iret C hr rfl (Nat.le_of_ble_eq_true rfl) (Nat.le_of_ble_eq_true rfl) h dX7_letter_68
      · replace h := h.2 hc
        refine g_aload_n C 0 rfl 0 rfl dX7_letter_34 ?_
        refine g_iconst C 3 (by decide) dX7_letter_35 ?_
        refine g_callVi C hno gok_7 rfl rfl [.int 3] (fun sz9 => kX7_fail l C.2.2.2.2.2.2.1 L C.2.2.2.2.2.2.2.1 3 v11 _ X h sz9) wml_RX7_78 winst_X7_fail wsel_X7_fail wini_RX7 wcode_X7_fail rfl rfl (n := 1) (by decide +kernel) rfl ⟨(Nat.le_of_ble_eq_true rfl), (Nat.le_of_ble_eq_true rfl)⟩ ⟨(Nat.le_of_ble_eq_true rfl), (Nat.le_of_ble_eq_true rfl)⟩ ⟨(Nat.le_of_ble_eq_true rfl), (Nat.le_of_ble_eq_true rfl)⟩ (Nat.le_of_ble_eq_true rfl) dX7_letter_36 (fun r36 v36 h => ?_)
        exact g_iret C hr rfl (Nat.le_of_ble_eq_true rfl) (Nat.le_of_ble_eq_true rfl) h dX7_letter_39
    · replace h := h.2 hc
      refine g_aload_n C 0 rfl 0 rfl dX7_letter_17 ?_
      refine g_iconst C 2 (by decide) dX7_letter_18 ?_
      refine g_callVi C hno gok_7 rfl rfl [.int 2] (fun sz9 => kX7_fail l C.2.2.2.2.2.2.1 L C.2.2.2.2.2.2.2.1 2 v11 _ X h sz9) wml_RX7_78 winst_X7_fail wsel_X7_fail wini_RX7 wcode_X7_fail rfl rfl (n := 1) (by decide +kernel) rfl ⟨(Nat.le_of_ble_eq_true rfl), (Nat.le_of_ble_eq_true rfl)⟩ ⟨(Nat.le_of_ble_eq_true rfl), (Nat.le_of_ble_eq_true rfl)⟩ ⟨(Nat.le_of_ble_eq_true rfl), (Nat.le_of_ble_eq_true rfl)⟩ (Nat.le_of_ble_eq_true rfl) dX7_letter_19 (fun r19 v19 h => ?_)
      exact g_iret C hr rfl (Nat.le_of_ble_eq_true rfl) (Nat.le_of_ble_eq_true rfl) h dX7_letter_22
  · replace h := h.2 hc
    refine g_iconst C 0 (by decide) dX7_letter_8 ?_
    exact g_iret C hr rfl (Nat.le_of_ble_eq_true rfl) (Nat.le_of_ble_eq_true rfl) h dX7_letter_9
def TX7_clearName (L1 : Int32) (v : gMem) (Q : Int32 → gMem → Prop) (X : String → gMem → Prop) : Prop := (TX7_noCard L1 v (fun r2 v2 => ((r2 = 0 → (vp_in L1 16 ∧ (vp_in L1 16 ∧ (Q (v2 32 0 (Int32.toNatClampNeg L1)) (gw v2 32 0 (Int32.toNatClampNeg L1) 0))))) ∧ (¬ r2 = 0 → (Q 0 v2)))) X)
theorem kX7_clearName (l : Launch) (hfl : l.stackTraces = false) (L : gL) (hL : gDist L) (L1 : Int32) (v : gMem) (Q : Int32 → gMem → Prop) (X : String → gMem → Prop) (h : TX7_clearName L1 v Q X) (sz : Nat) : vx_Met l yX7_clearName [.code yX7_clearName cX7_clearName 3 (some .int)] ({ frames := 2, cells := 0, slots := 0, locals := 43 } : Room) (gPc L sz [.ref (L.2.1 7 0), .int L1] v) (gQi L sz Q) (gXC L sz X) 0 0 (gA L sz) := by
  refine g_ofW (by decide +kernel) hfl hL (Nat.le_of_ble_eq_true rfl) ?_
  intro p e s m args below meth c C hr hno
  refine g_sub [(0, .ref (L.2.1 7 0)), (1, .int L1)] [0, 1] rfl ?_
  unfold TX7_clearName at h
  refine g_aload_n C 0 rfl 0 rfl dX7_clearName_0 ?_
  refine g_iload_n C 1 rfl 1 rfl dX7_clearName_1 ?_
  refine g_callVi C hno gok_7 rfl rfl [.int L1] (fun sz9 => kX7_noCard l C.2.2.2.2.2.2.1 L C.2.2.2.2.2.2.2.1 L1 v _ X h sz9) wml_RX7_74 winst_X7_noCard wsel_X7_noCard wini_RX7 wcode_X7_noCard rfl rfl (n := 1) (by decide +kernel) rfl ⟨(Nat.le_of_ble_eq_true rfl), (Nat.le_of_ble_eq_true rfl)⟩ ⟨(Nat.le_of_ble_eq_true rfl), (Nat.le_of_ble_eq_true rfl)⟩ ⟨(Nat.le_of_ble_eq_true rfl), (Nat.le_of_ble_eq_true rfl)⟩ (Nat.le_of_ble_eq_true rfl) dX7_clearName_2 (fun r2 v2 h => ?_)
  refine g_if_eq C 10 (by decide) dX7_clearName_5 (fun hc => ?_) (fun hc => ?_)
  · replace h := h.1 hc
    refine g_aload_n C 0 rfl 0 rfl dX7_clearName_10 ?_
    refine fgX7_20 C dX7_clearName_11 ?_
    refine g_iload_n C 1 rfl 1 rfl dX7_clearName_14 ?_
    obtain ⟨hb15, h⟩ := h
    refine g_iald C gok_32 rfl hb15 dX7_clearName_15 ?_
    refine g_istore_n C 2 rfl [(2, .int (v2 32 0 (Int32.toNatClampNeg L1))), (0, .ref (L.2.1 7 0)), (1, .int L1)] (Nat.le_of_ble_eq_true rfl) rfl dX7_clearName_16 ?_
    refine g_aload_n C 0 rfl 1 rfl dX7_clearName_17 ?_
    refine fgX7_20 C dX7_clearName_18 ?_
    refine g_iload_n C 1 rfl 2 rfl dX7_clearName_21 ?_
    refine g_iconst C 0 (by decide) dX7_clearName_22 ?_
    obtain ⟨hb23, h⟩ := h
    refine g_iast C gok_32 (fun _ => rfl) hb23 dX7_clearName_23 ?_
    refine g_iload_n C 2 rfl 0 rfl dX7_clearName_24 ?_
    exact g_iret C hr rfl (Nat.le_of_ble_eq_true rfl) (Nat.le_of_ble_eq_true rfl) h dX7_clearName_25
  · replace h := h.2 hc
    refine g_iconst C 0 (by decide) dX7_clearName_8 ?_
    exact g_iret C hr rfl (Nat.le_of_ble_eq_true rfl) (Nat.le_of_ble_eq_true rfl) h dX7_clearName_9
def BX7_setNumber_30 (v : gMem) (Q : Int32 → gMem → Prop) (X : String → gMem → Prop) : Prop := (TX7_fail 2 v (fun r32 v32 => (Q r32 v32)) X)
theorem sX7_setNumber_30 (C : gC p l s m args meth c cX7_setNumber 5 RX7 L sz) (hr : meth.sig.returnType = (some .int)) (hno : ∀ x ∈ c.exceptionTable.toList, False) {v : gMem} {Q : Int32 → gMem → Prop} {X : String → gMem → Prop} (h : BX7_setNumber_30 v Q X) : gS p l e ({ frames := 2, cells := 0, slots := 0, locals := 43 } : Room) s m args below meth c 5 L sz (vx_MQ below (gQi L sz Q) (gXC L sz X) args s 0 0 (gA L sz)) 0 0 30 [(0, .ref (L.2.1 7 0))] [] v := by
  unfold BX7_setNumber_30 at h
  refine g_aload_n C 0 rfl 0 rfl dX7_setNumber_30 ?_
  refine g_iconst C 2 (by decide) dX7_setNumber_31 ?_
  refine g_callVi C hno gok_7 rfl rfl [.int 2] (fun sz9 => kX7_fail l C.2.2.2.2.2.2.1 L C.2.2.2.2.2.2.2.1 2 v _ X h sz9) wml_RX7_78 winst_X7_fail wsel_X7_fail wini_RX7 wcode_X7_fail rfl rfl (n := 1) (by decide +kernel) rfl ⟨(Nat.le_of_ble_eq_true rfl), (Nat.le_of_ble_eq_true rfl)⟩ ⟨(Nat.le_of_ble_eq_true rfl), (Nat.le_of_ble_eq_true rfl)⟩ ⟨(Nat.le_of_ble_eq_true rfl), (Nat.le_of_ble_eq_true rfl)⟩ (Nat.le_of_ble_eq_true rfl) dX7_setNumber_32 (fun r32 v32 h => ?_)
  exact g_iret C hr rfl (Nat.le_of_ble_eq_true rfl) (Nat.le_of_ble_eq_true rfl) h dX7_setNumber_35
def TX7_setNumber (L1 : Int32) (L2 : Int32) (L3 : Int32) (v : gMem) (Q : Int32 → gMem → Prop) (X : String → gMem → Prop) : Prop := (TX7_noCard L1 v (fun r2 v2 => ((r2 = 0 → (TX7_isWithin L2 1 3 v2 (fun r13 v13 => ((r13 = 0 → (BX7_setNumber_30 v13 Q X)) ∧ (¬ r13 = 0 → (TX7_isWithin L3 (-1) 999 v13 (fun r24 v24 => ((¬ r24 = 0 → (vp_in ((4 * L1) + L2) 64 ∧ (vp_in ((4 * L1) + L2) 64 ∧ (Q (v24 33 0 (Int32.toNatClampNeg ((4 * L1) + L2))) (gw v24 33 0 (Int32.toNatClampNeg ((4 * L1) + L2)) L3))))) ∧ (r24 = 0 → (BX7_setNumber_30 v24 Q X)))) X)))) X)) ∧ (¬ r2 = 0 → (Q 0 v2)))) X)
theorem kX7_setNumber (l : Launch) (hfl : l.stackTraces = false) (L : gL) (hL : gDist L) (L1 : Int32) (L2 : Int32) (L3 : Int32) (v : gMem) (Q : Int32 → gMem → Prop) (X : String → gMem → Prop) (h : TX7_setNumber L1 L2 L3 v Q X) (sz : Nat) : vx_Met l yX7_setNumber [.code yX7_setNumber cX7_setNumber 5 (some .int)] ({ frames := 2, cells := 0, slots := 0, locals := 43 } : Room) (gPc L sz [.ref (L.2.1 7 0), .int L1, .int L2, .int L3] v) (gQi L sz Q) (gXC L sz X) 0 0 (gA L sz) := by
  refine g_ofW (by decide +kernel) hfl hL (Nat.le_of_ble_eq_true rfl) ?_
  intro p e s m args below meth c C hr hno
  refine g_sub [(0, .ref (L.2.1 7 0)), (1, .int L1), (2, .int L2), (3, .int L3)] [0, 1, 2, 3] rfl ?_
  unfold TX7_setNumber at h
  refine g_aload_n C 0 rfl 0 rfl dX7_setNumber_0 ?_
  refine g_iload_n C 1 rfl 1 rfl dX7_setNumber_1 ?_
  refine g_callVi C hno gok_7 rfl rfl [.int L1] (fun sz9 => kX7_noCard l C.2.2.2.2.2.2.1 L C.2.2.2.2.2.2.2.1 L1 v _ X h sz9) wml_RX7_74 winst_X7_noCard wsel_X7_noCard wini_RX7 wcode_X7_noCard rfl rfl (n := 1) (by decide +kernel) rfl ⟨(Nat.le_of_ble_eq_true rfl), (Nat.le_of_ble_eq_true rfl)⟩ ⟨(Nat.le_of_ble_eq_true rfl), (Nat.le_of_ble_eq_true rfl)⟩ ⟨(Nat.le_of_ble_eq_true rfl), (Nat.le_of_ble_eq_true rfl)⟩ (Nat.le_of_ble_eq_true rfl) dX7_setNumber_2 (fun r2 v2 h => ?_)
  refine g_if_eq C 10 (by decide) dX7_setNumber_5 (fun hc => ?_) (fun hc => ?_)
  · replace h := h.1 hc
    refine g_iload_n C 2 rfl 2 rfl dX7_setNumber_10 ?_
    refine g_iconst C 1 (by decide) dX7_setNumber_11 ?_
    refine g_iconst C 3 (by decide) dX7_setNumber_12 ?_
    refine g_callSi C hno [.int L2, .int 1, .int 3] (fun sz9 => kX7_isWithin l C.2.2.2.2.2.2.1 L C.2.2.2.2.2.2.2.1 L2 1 3 v2 _ X h sz9) wml_RX7_70 wstat_X7_isWithin wini_RX7 wcode_X7_isWithin rfl rfl (n := 3) (by decide +kernel) rfl ⟨(Nat.le_of_ble_eq_true rfl), (Nat.le_of_ble_eq_true rfl)⟩ ⟨(Nat.le_of_ble_eq_true rfl), (Nat.le_of_ble_eq_true rfl)⟩ ⟨(Nat.le_of_ble_eq_true rfl), (Nat.le_of_ble_eq_true rfl)⟩ (Nat.le_of_ble_eq_true rfl) dX7_setNumber_13 (fun r13 v13 h => ?_)
    refine g_if_eq C 30 (by decide) dX7_setNumber_16 (fun hc => ?_) (fun hc => ?_)
    · replace h := h.1 hc
      refine g_sub [(0, .ref (L.2.1 7 0))] [0] rfl ?_
      exact sX7_setNumber_30 C hr hno h
    · replace h := h.2 hc
      refine g_iload_n C 3 rfl 3 rfl dX7_setNumber_19 ?_
      refine g_iconst C (-1) (by decide) dX7_setNumber_20 ?_
      refine g_sipush C 999 (by decide) dX7_setNumber_21 ?_
      refine g_callSi C hno [.int L3, .int (-1), .int 999] (fun sz9 => kX7_isWithin l C.2.2.2.2.2.2.1 L C.2.2.2.2.2.2.2.1 L3 (-1) 999 v13 _ X h sz9) wml_RX7_70 wstat_X7_isWithin wini_RX7 wcode_X7_isWithin rfl rfl (n := 3) (by decide +kernel) rfl ⟨(Nat.le_of_ble_eq_true rfl), (Nat.le_of_ble_eq_true rfl)⟩ ⟨(Nat.le_of_ble_eq_true rfl), (Nat.le_of_ble_eq_true rfl)⟩ ⟨(Nat.le_of_ble_eq_true rfl), (Nat.le_of_ble_eq_true rfl)⟩ (Nat.le_of_ble_eq_true rfl) dX7_setNumber_24 (fun r24 v24 h => ?_)
      refine g_if_ne C 36 (by decide) dX7_setNumber_27 (fun hc => ?_) (fun hc => ?_)
      · replace h := h.1 hc
        refine g_aload_n C 0 rfl 0 rfl dX7_setNumber_36 ?_
        refine fgX7_23 C dX7_setNumber_37 ?_
        refine g_iconst C 4 (by decide) dX7_setNumber_40 ?_
        refine g_iload_n C 1 rfl 1 rfl dX7_setNumber_41 ?_
        refine g_imul C dX7_setNumber_42 ?_
        refine g_iload_n C 2 rfl 2 rfl dX7_setNumber_43 ?_
        refine g_iadd C dX7_setNumber_44 ?_
        obtain ⟨hb45, h⟩ := h
        refine g_iald C gok_33 rfl hb45 dX7_setNumber_45 ?_
        refine g_istore C [(4, .int (v24 33 0 (Int32.toNatClampNeg ((4 * L1) + L2)))), (0, .ref (L.2.1 7 0)), (1, .int L1), (2, .int L2), (3, .int L3)] (Nat.le_of_ble_eq_true rfl) rfl dX7_setNumber_46 ?_
        refine g_aload_n C 0 rfl 1 rfl dX7_setNumber_48 ?_
        refine fgX7_23 C dX7_setNumber_49 ?_
        refine g_iconst C 4 (by decide) dX7_setNumber_52 ?_
        refine g_iload_n C 1 rfl 2 rfl dX7_setNumber_53 ?_
        refine g_imul C dX7_setNumber_54 ?_
        refine g_iload_n C 2 rfl 3 rfl dX7_setNumber_55 ?_
        refine g_iadd C dX7_setNumber_56 ?_
        refine g_iload_n C 3 rfl 4 rfl dX7_setNumber_57 ?_
        obtain ⟨hb58, h⟩ := h
        refine g_iast C gok_33 (fun _ => rfl) hb58 dX7_setNumber_58 ?_
        refine g_iload C 0 rfl dX7_setNumber_59 ?_
        exact g_iret C hr rfl (Nat.le_of_ble_eq_true rfl) (Nat.le_of_ble_eq_true rfl) h dX7_setNumber_61
      · replace h := h.2 hc
        refine g_sub [(0, .ref (L.2.1 7 0))] [0] rfl ?_
        exact sX7_setNumber_30 C hr hno h
  · replace h := h.2 hc
    refine g_iconst C 0 (by decide) dX7_setNumber_8 ?_
    exact g_iret C hr rfl (Nat.le_of_ble_eq_true rfl) (Nat.le_of_ble_eq_true rfl) h dX7_setNumber_9
def BX7_nameLength_18 (t0 : Int32) (v : gMem) (Q : Int32 → gMem → Prop) (X : String → gMem → Prop) : Prop := (Q t0 v)
theorem sX7_nameLength_18 (C : gC p l s m args meth c cX7_nameLength 2 RX7 L sz) (hr : meth.sig.returnType = (some .int)) (hno : ∀ x ∈ c.exceptionTable.toList, False) {t0 : Int32} {v : gMem} {Q : Int32 → gMem → Prop} {X : String → gMem → Prop} (h : BX7_nameLength_18 t0 v Q X) : gS p l e ({ frames := 2, cells := 0, slots := 0, locals := 43 } : Room) s m args below meth c 2 L sz (vx_MQ below (gQi L sz Q) (gXC L sz X) args s 0 0 (gA L sz)) 0 0 18 [] [.int t0] v := by
  unfold BX7_nameLength_18 at h
  exact g_iret C hr rfl (Nat.le_of_ble_eq_true rfl) (Nat.le_of_ble_eq_true rfl) h dX7_nameLength_18
def TX7_nameLength (L1 : Int32) (v : gMem) (Q : Int32 → gMem → Prop) (X : String → gMem → Prop) : Prop := (TX7_noCard L1 v (fun r2 v2 => ((r2 = 0 → (vp_in L1 16 ∧ (BX7_nameLength_18 (v2 32 0 (Int32.toNatClampNeg L1)) v2 Q X))) ∧ (¬ r2 = 0 → (BX7_nameLength_18 0 v2 Q X)))) X)
theorem kX7_nameLength (l : Launch) (hfl : l.stackTraces = false) (L : gL) (hL : gDist L) (L1 : Int32) (v : gMem) (Q : Int32 → gMem → Prop) (X : String → gMem → Prop) (h : TX7_nameLength L1 v Q X) (sz : Nat) : vx_Met l yX7_nameLength [.code yX7_nameLength cX7_nameLength 2 (some .int)] ({ frames := 2, cells := 0, slots := 0, locals := 43 } : Room) (gPc L sz [.ref (L.2.1 7 0), .int L1] v) (gQi L sz Q) (gXC L sz X) 0 0 (gA L sz) := by
  refine g_ofW (by decide +kernel) hfl hL (Nat.le_of_ble_eq_true rfl) ?_
  intro p e s m args below meth c C hr hno
  refine g_sub [(0, .ref (L.2.1 7 0)), (1, .int L1)] [0, 1] rfl ?_
  unfold TX7_nameLength at h
  refine g_aload_n C 0 rfl 0 rfl dX7_nameLength_0 ?_
  refine g_iload_n C 1 rfl 1 rfl dX7_nameLength_1 ?_
  refine g_callVi C hno gok_7 rfl rfl [.int L1] (fun sz9 => kX7_noCard l C.2.2.2.2.2.2.1 L C.2.2.2.2.2.2.2.1 L1 v _ X h sz9) wml_RX7_74 winst_X7_noCard wsel_X7_noCard wini_RX7 wcode_X7_noCard rfl rfl (n := 1) (by decide +kernel) rfl ⟨(Nat.le_of_ble_eq_true rfl), (Nat.le_of_ble_eq_true rfl)⟩ ⟨(Nat.le_of_ble_eq_true rfl), (Nat.le_of_ble_eq_true rfl)⟩ ⟨(Nat.le_of_ble_eq_true rfl), (Nat.le_of_ble_eq_true rfl)⟩ (Nat.le_of_ble_eq_true rfl) dX7_nameLength_2 (fun r2 v2 h => ?_)
  refine g_if_eq C 12 (by decide) dX7_nameLength_5 (fun hc => ?_) (fun hc => ?_)
  · replace h := h.1 hc
    refine g_aload_n C 0 rfl 0 rfl dX7_nameLength_12 ?_
    refine fgX7_20 C dX7_nameLength_13 ?_
    refine g_iload_n C 1 rfl 1 rfl dX7_nameLength_16 ?_
    obtain ⟨hb17, h⟩ := h
    refine g_iald C gok_32 rfl hb17 dX7_nameLength_17 ?_
    refine g_sub [] [] rfl ?_
    exact sX7_nameLength_18 C hr hno h
  · replace h := h.2 hc
    refine g_iconst C 0 (by decide) dX7_nameLength_8 ?_
    refine g_goto C 18 (by decide) dX7_nameLength_9 ?_
    refine g_sub [] [] rfl ?_
    exact sX7_nameLength_18 C hr hno h
def BX7_nameAt_56 (t0 : Int32) (v : gMem) (Q : Int32 → gMem → Prop) (X : String → gMem → Prop) : Prop := (narrow .char (.int t0) = .int t0 ∧ Q t0 v)
theorem sX7_nameAt_56 (C : gC p l s m args meth c cX7_nameAt 3 RX7 L sz) (hr : meth.sig.returnType = (some .char)) (hno : ∀ x ∈ c.exceptionTable.toList, False) {t0 : Int32} {v : gMem} {Q : Int32 → gMem → Prop} {X : String → gMem → Prop} (h : BX7_nameAt_56 t0 v Q X) : gS p l e ({ frames := 2, cells := 0, slots := 0, locals := 43 } : Room) s m args below meth c 3 L sz (vx_MQ below (gQi L sz Q) (gXC L sz X) args s 0 0 (gA L sz)) 0 0 56 [] [.int t0] v := by
  unfold BX7_nameAt_56 at h
  exact g_iret C hr h.1 (Nat.le_of_ble_eq_true rfl) (Nat.le_of_ble_eq_true rfl) h.2 dX7_nameAt_56
def BX7_nameAt_33 (L1 : Int32) (L2 : Int32) (v : gMem) (Q : Int32 → gMem → Prop) (X : String → gMem → Prop) : Prop := ((¬ (v 7 0 0) = 0 → (BX7_nameAt_56 97 v Q X)) ∧ ((v 7 0 0) = 0 → (vp_in ((10 * L1) + L2) 176 ∧ (BX7_nameAt_56 (v 42 0 (Int32.toNatClampNeg ((10 * L1) + L2))) v Q X))))
theorem sX7_nameAt_33 (C : gC p l s m args meth c cX7_nameAt 3 RX7 L sz) (hr : meth.sig.returnType = (some .char)) (hno : ∀ x ∈ c.exceptionTable.toList, False) {L1 : Int32} {L2 : Int32} {v : gMem} {Q : Int32 → gMem → Prop} {X : String → gMem → Prop} (h : BX7_nameAt_33 L1 L2 v Q X) : gS p l e ({ frames := 2, cells := 0, slots := 0, locals := 43 } : Room) s m args below meth c 3 L sz (vx_MQ below (gQi L sz Q) (gXC L sz X) args s 0 0 (gA L sz)) 0 0 33 [(0, .ref (L.2.1 7 0)), (1, .int L1), (2, .int L2)] [] v := by
  unfold BX7_nameAt_33 at h
  refine g_aload_n C 0 rfl 0 rfl dX7_nameAt_33 ?_
  refine fgX7_64 C dX7_nameAt_34 ?_
  refine g_if_ne C 54 (by decide) dX7_nameAt_37 (fun hc => ?_) (fun hc => ?_)
  · replace h := h.1 hc
    refine g_bipush C 97 (by decide) dX7_nameAt_54 ?_
    refine g_sub [] [] rfl ?_
    exact sX7_nameAt_56 C hr hno h
  · replace h := h.2 hc
    refine g_aload_n C 0 rfl 0 rfl dX7_nameAt_40 ?_
    refine fgX7_50 C dX7_nameAt_41 ?_
    refine g_bipush C 10 (by decide) dX7_nameAt_44 ?_
    refine g_iload_n C 1 rfl 1 rfl dX7_nameAt_46 ?_
    refine g_imul C dX7_nameAt_47 ?_
    refine g_iload_n C 2 rfl 2 rfl dX7_nameAt_48 ?_
    refine g_iadd C dX7_nameAt_49 ?_
    obtain ⟨hb50, h⟩ := h
    refine g_cald C gok_42 rfl hb50 dX7_nameAt_50 ?_
    refine g_goto C 56 (by decide) dX7_nameAt_51 ?_
    refine g_sub [] [] rfl ?_
    exact sX7_nameAt_56 C hr hno h
def BX7_nameAt_30 (L1 : Int32) (L2 : Int32) (t1 : Int32) (v : gMem) (Q : Int32 → gMem → Prop) (X : String → gMem → Prop) : Prop := (BX7_nameAt_33 L1 L2 (gw v 7 0 0 t1) Q X)
theorem sX7_nameAt_30 (C : gC p l s m args meth c cX7_nameAt 3 RX7 L sz) (hr : meth.sig.returnType = (some .char)) (hno : ∀ x ∈ c.exceptionTable.toList, False) {L1 : Int32} {L2 : Int32} {t1 : Int32} {v : gMem} {Q : Int32 → gMem → Prop} {X : String → gMem → Prop} (h : BX7_nameAt_30 L1 L2 t1 v Q X) : gS p l e ({ frames := 2, cells := 0, slots := 0, locals := 43 } : Room) s m args below meth c 3 L sz (vx_MQ below (gQi L sz Q) (gXC L sz X) args s 0 0 (gA L sz)) 0 0 30 [(0, .ref (L.2.1 7 0)), (1, .int L1), (2, .int L2)] [.int t1, .ref (L.2.1 7 0)] v := by
  unfold BX7_nameAt_30 at h
  refine fpX7_64 C dX7_nameAt_30 ?_
  exact sX7_nameAt_33 C hr hno h
def TX7_nameAt (L1 : Int32) (L2 : Int32) (v : gMem) (Q : Int32 → gMem → Prop) (X : String → gMem → Prop) : Prop := (TX7_noCard L1 v (fun r2 v2 => ((¬ r2 = 0 → (BX7_nameAt_33 L1 L2 v2 Q X)) ∧ (r2 = 0 → (vp_in L1 16 ∧ (TX7_isWithin L2 0 ((v2 32 0 (Int32.toNatClampNeg L1)) - 1) v2 (fun r19 v19 => ((r19 = 0 → (BX7_nameAt_30 L1 L2 2 v19 Q X)) ∧ (¬ r19 = 0 → (BX7_nameAt_30 L1 L2 0 v19 Q X)))) X))))) X)
theorem kX7_nameAt (l : Launch) (hfl : l.stackTraces = false) (L : gL) (hL : gDist L) (L1 : Int32) (L2 : Int32) (v : gMem) (Q : Int32 → gMem → Prop) (X : String → gMem → Prop) (h : TX7_nameAt L1 L2 v Q X) (sz : Nat) : vx_Met l yX7_nameAt [.code yX7_nameAt cX7_nameAt 3 (some .char)] ({ frames := 2, cells := 0, slots := 0, locals := 43 } : Room) (gPc L sz [.ref (L.2.1 7 0), .int L1, .int L2] v) (gQi L sz Q) (gXC L sz X) 0 0 (gA L sz) := by
  refine g_ofW (by decide +kernel) hfl hL (Nat.le_of_ble_eq_true rfl) ?_
  intro p e s m args below meth c C hr hno
  refine g_sub [(0, .ref (L.2.1 7 0)), (1, .int L1), (2, .int L2)] [0, 1, 2] rfl ?_
  unfold TX7_nameAt at h
  refine g_aload_n C 0 rfl 0 rfl dX7_nameAt_0 ?_
  refine g_iload_n C 1 rfl 1 rfl dX7_nameAt_1 ?_
  refine g_callVi C hno gok_7 rfl rfl [.int L1] (fun sz9 => kX7_noCard l C.2.2.2.2.2.2.1 L C.2.2.2.2.2.2.2.1 L1 v _ X h sz9) wml_RX7_74 winst_X7_noCard wsel_X7_noCard wini_RX7 wcode_X7_noCard rfl rfl (n := 1) (by decide +kernel) rfl ⟨(Nat.le_of_ble_eq_true rfl), (Nat.le_of_ble_eq_true rfl)⟩ ⟨(Nat.le_of_ble_eq_true rfl), (Nat.le_of_ble_eq_true rfl)⟩ ⟨(Nat.le_of_ble_eq_true rfl), (Nat.le_of_ble_eq_true rfl)⟩ (Nat.le_of_ble_eq_true rfl) dX7_nameAt_2 (fun r2 v2 h => ?_)
  refine g_if_ne C 33 (by decide) dX7_nameAt_5 (fun hc => ?_) (fun hc => ?_)
  · replace h := h.1 hc
    exact sX7_nameAt_33 C hr hno h
  · replace h := h.2 hc
    refine g_aload_n C 0 rfl 0 rfl dX7_nameAt_8 ?_
    refine g_iload_n C 2 rfl 2 rfl dX7_nameAt_9 ?_
    refine g_iconst C 0 (by decide) dX7_nameAt_10 ?_
    refine g_aload_n C 0 rfl 0 rfl dX7_nameAt_11 ?_
    refine fgX7_20 C dX7_nameAt_12 ?_
    refine g_iload_n C 1 rfl 1 rfl dX7_nameAt_15 ?_
    obtain ⟨hb16, h⟩ := h
    refine g_iald C gok_32 rfl hb16 dX7_nameAt_16 ?_
    refine g_iconst C 1 (by decide) dX7_nameAt_17 ?_
    refine g_isub C dX7_nameAt_18 ?_
    refine g_callSi C hno [.int L2, .int 0, .int ((v2 32 0 (Int32.toNatClampNeg L1)) - 1)] (fun sz9 => kX7_isWithin l C.2.2.2.2.2.2.1 L C.2.2.2.2.2.2.2.1 L2 0 ((v2 32 0 (Int32.toNatClampNeg L1)) - 1) v2 _ X h sz9) wml_RX7_70 wstat_X7_isWithin wini_RX7 wcode_X7_isWithin rfl rfl (n := 3) (by decide +kernel) rfl ⟨(Nat.le_of_ble_eq_true rfl), (Nat.le_of_ble_eq_true rfl)⟩ ⟨(Nat.le_of_ble_eq_true rfl), (Nat.le_of_ble_eq_true rfl)⟩ ⟨(Nat.le_of_ble_eq_true rfl), (Nat.le_of_ble_eq_true rfl)⟩ (Nat.le_of_ble_eq_true rfl) dX7_nameAt_19 (fun r19 v19 h => ?_)
    refine g_if_eq C 29 (by decide) dX7_nameAt_22 (fun hc => ?_) (fun hc => ?_)
    · replace h := h.1 hc
      refine g_iconst C 2 (by decide) dX7_nameAt_29 ?_
      exact sX7_nameAt_30 C hr hno h
    · replace h := h.2 hc
      refine g_iconst C 0 (by decide) dX7_nameAt_25 ?_
      refine g_goto C 30 (by decide) dX7_nameAt_26 ?_
      exact sX7_nameAt_30 C hr hno h
def BX7_digit_24 (v : gMem) (Q : Int32 → gMem → Prop) (X : String → gMem → Prop) : Prop := (Q 1 v)
theorem sX7_digit_24 (C : gC p l s m args meth c cX7_digit 1 RX7 L sz) (hr : meth.sig.returnType = (some .int)) (hno : ∀ x ∈ c.exceptionTable.toList, False) {v : gMem} {Q : Int32 → gMem → Prop} {X : String → gMem → Prop} (h : BX7_digit_24 v Q X) : gS p l e ({ frames := 0, cells := 0, slots := 0, locals := 0 } : Room) s m args below meth c 1 L sz (vx_MQ below (gQi L sz Q) (gXC L sz X) args s 0 0 (gA L sz)) 0 0 24 [] [] v := by
  unfold BX7_digit_24 at h
  refine g_iconst C 1 (by decide) dX7_digit_24 ?_
  exact g_iret C hr rfl (Nat.le_of_ble_eq_true rfl) (Nat.le_of_ble_eq_true rfl) h dX7_digit_25
def BX7_digit_74 (v : gMem) (Q : Int32 → gMem → Prop) (X : String → gMem → Prop) : Prop := (Q 2 v)
theorem sX7_digit_74 (C : gC p l s m args meth c cX7_digit 1 RX7 L sz) (hr : meth.sig.returnType = (some .int)) (hno : ∀ x ∈ c.exceptionTable.toList, False) {v : gMem} {Q : Int32 → gMem → Prop} {X : String → gMem → Prop} (h : BX7_digit_74 v Q X) : gS p l e ({ frames := 0, cells := 0, slots := 0, locals := 0 } : Room) s m args below meth c 1 L sz (vx_MQ below (gQi L sz Q) (gXC L sz X) args s 0 0 (gA L sz)) 0 0 74 [] [] v := by
  unfold BX7_digit_74 at h
  refine g_iconst C 2 (by decide) dX7_digit_74 ?_
  exact g_iret C hr rfl (Nat.le_of_ble_eq_true rfl) (Nat.le_of_ble_eq_true rfl) h dX7_digit_75
def BX7_digit_88 (v : gMem) (Q : Int32 → gMem → Prop) (X : String → gMem → Prop) : Prop := (Q 3 v)
theorem sX7_digit_88 (C : gC p l s m args meth c cX7_digit 1 RX7 L sz) (hr : meth.sig.returnType = (some .int)) (hno : ∀ x ∈ c.exceptionTable.toList, False) {v : gMem} {Q : Int32 → gMem → Prop} {X : String → gMem → Prop} (h : BX7_digit_88 v Q X) : gS p l e ({ frames := 0, cells := 0, slots := 0, locals := 0 } : Room) s m args below meth c 1 L sz (vx_MQ below (gQi L sz Q) (gXC L sz X) args s 0 0 (gA L sz)) 0 0 88 [] [] v := by
  unfold BX7_digit_88 at h
  refine g_iconst C 3 (by decide) dX7_digit_88 ?_
  exact g_iret C hr rfl (Nat.le_of_ble_eq_true rfl) (Nat.le_of_ble_eq_true rfl) h dX7_digit_89
def BX7_digit_110 (v : gMem) (Q : Int32 → gMem → Prop) (X : String → gMem → Prop) : Prop := (Q 5 v)
theorem sX7_digit_110 (C : gC p l s m args meth c cX7_digit 1 RX7 L sz) (hr : meth.sig.returnType = (some .int)) (hno : ∀ x ∈ c.exceptionTable.toList, False) {v : gMem} {Q : Int32 → gMem → Prop} {X : String → gMem → Prop} (h : BX7_digit_110 v Q X) : gS p l e ({ frames := 0, cells := 0, slots := 0, locals := 0 } : Room) s m args below meth c 1 L sz (vx_MQ below (gQi L sz Q) (gXC L sz X) args s 0 0 (gA L sz)) 0 0 110 [] [] v := by
  unfold BX7_digit_110 at h
  refine g_iconst C 5 (by decide) dX7_digit_110 ?_
  exact g_iret C hr rfl (Nat.le_of_ble_eq_true rfl) (Nat.le_of_ble_eq_true rfl) h dX7_digit_111
def BX7_digit_124 (t0 : Int32) (v : gMem) (Q : Int32 → gMem → Prop) (X : String → gMem → Prop) : Prop := (Q t0 v)
theorem sX7_digit_124 (C : gC p l s m args meth c cX7_digit 1 RX7 L sz) (hr : meth.sig.returnType = (some .int)) (hno : ∀ x ∈ c.exceptionTable.toList, False) {t0 : Int32} {v : gMem} {Q : Int32 → gMem → Prop} {X : String → gMem → Prop} (h : BX7_digit_124 t0 v Q X) : gS p l e ({ frames := 0, cells := 0, slots := 0, locals := 0 } : Room) s m args below meth c 1 L sz (vx_MQ below (gQi L sz Q) (gXC L sz X) args s 0 0 (gA L sz)) 0 0 124 [] [.int t0] v := by
  unfold BX7_digit_124 at h
  exact g_iret C hr rfl (Nat.le_of_ble_eq_true rfl) (Nat.le_of_ble_eq_true rfl) h dX7_digit_124
def TX7_digit (L0 : Int32) (v : gMem) (Q : Int32 → gMem → Prop) (X : String → gMem → Prop) : Prop := ((L0 = 98 → (BX7_digit_24 v Q X)) ∧ (¬ L0 = 98 → ((L0 = 102 → (BX7_digit_24 v Q X)) ∧ (¬ L0 = 102 → ((L0 = 112 → (BX7_digit_24 v Q X)) ∧ (¬ L0 = 112 → ((¬ L0 = 118 → ((L0 = 99 → (BX7_digit_74 v Q X)) ∧ (¬ L0 = 99 → ((L0 = 103 → (BX7_digit_74 v Q X)) ∧ (¬ L0 = 103 → ((L0 = 106 → (BX7_digit_74 v Q X)) ∧ (¬ L0 = 106 → ((L0 = 107 → (BX7_digit_74 v Q X)) ∧ (¬ L0 = 107 → ((L0 = 113 → (BX7_digit_74 v Q X)) ∧ (¬ L0 = 113 → ((L0 = 115 → (BX7_digit_74 v Q X)) ∧ (¬ L0 = 115 → ((L0 = 120 → (BX7_digit_74 v Q X)) ∧ (¬ L0 = 120 → ((¬ L0 = 122 → ((L0 = 100 → (BX7_digit_88 v Q X)) ∧ (¬ L0 = 100 → ((¬ L0 = 116 → ((¬ L0 = 108 → ((L0 = 109 → (BX7_digit_110 v Q X)) ∧ (¬ L0 = 109 → ((¬ L0 = 110 → ((¬ L0 = 114 → (BX7_digit_124 0 v Q X)) ∧ (L0 = 114 → (BX7_digit_124 6 v Q X)))) ∧ (L0 = 110 → (BX7_digit_110 v Q X)))))) ∧ (L0 = 108 → (Q 4 v)))) ∧ (L0 = 116 → (BX7_digit_88 v Q X)))))) ∧ (L0 = 122 → (BX7_digit_74 v Q X)))))))))))))))))) ∧ (L0 = 118 → (BX7_digit_24 v Q X)))))))))
theorem kX7_digit (l : Launch) (hfl : l.stackTraces = false) (L : gL) (hL : gDist L) (L0 : Int32) (v : gMem) (Q : Int32 → gMem → Prop) (X : String → gMem → Prop) (h : TX7_digit L0 v Q X) (sz : Nat) : vx_Met l yX7_digit [.code yX7_digit cX7_digit 1 (some .int)] ({ frames := 0, cells := 0, slots := 0, locals := 0 } : Room) (gPc L sz [.int L0] v) (gQi L sz Q) (gXC L sz X) 0 0 (gA L sz) := by
  refine g_ofW (by decide +kernel) hfl hL (Nat.le_of_ble_eq_true rfl) ?_
  intro p e s m args below meth c C hr hno
  refine g_sub [(0, .int L0)] [0] rfl ?_
  unfold TX7_digit at h
  refine g_iload_n C 0 rfl 0 rfl dX7_digit_0 ?_
  refine g_bipush C 98 (by decide) dX7_digit_1 ?_
  refine g_icmp_eq C 24 (by decide) dX7_digit_3 (fun hc => ?_) (fun hc => ?_)
  · replace h := h.1 hc
    refine g_sub [] [] rfl ?_
    exact sX7_digit_24 C hr hno h
  · replace h := h.2 hc
    refine g_iload_n C 0 rfl 0 rfl dX7_digit_6 ?_
    refine g_bipush C 102 (by decide) dX7_digit_7 ?_
    refine g_icmp_eq C 24 (by decide) dX7_digit_9 (fun hc => ?_) (fun hc => ?_)
    · replace h := h.1 hc
      refine g_sub [] [] rfl ?_
      exact sX7_digit_24 C hr hno h
    · replace h := h.2 hc
      refine g_iload_n C 0 rfl 0 rfl dX7_digit_12 ?_
      refine g_bipush C 112 (by decide) dX7_digit_13 ?_
      refine g_icmp_eq C 24 (by decide) dX7_digit_15 (fun hc => ?_) (fun hc => ?_)
      · replace h := h.1 hc
        refine g_sub [] [] rfl ?_
        exact sX7_digit_24 C hr hno h
      · replace h := h.2 hc
        refine g_iload_n C 0 rfl 0 rfl dX7_digit_18 ?_
        refine g_bipush C 118 (by decide) dX7_digit_19 ?_
        refine g_icmp_ne C 26 (by decide) dX7_digit_21 (fun hc => ?_) (fun hc => ?_)
        · replace h := h.1 hc
          refine g_iload_n C 0 rfl 0 rfl dX7_digit_26 ?_
          refine g_bipush C 99 (by decide) dX7_digit_27 ?_
          refine g_icmp_eq C 74 (by decide) dX7_digit_29 (fun hc => ?_) (fun hc => ?_)
          · replace h := h.1 hc
            refine g_sub [] [] rfl ?_
            exact sX7_digit_74 C hr hno h
          · replace h := h.2 hc
            refine g_iload_n C 0 rfl 0 rfl dX7_digit_32 ?_
            refine g_bipush C 103 (by decide) dX7_digit_33 ?_
            refine g_icmp_eq C 74 (by decide) dX7_digit_35 (fun hc => ?_) (fun hc => ?_)
            · replace h := h.1 hc
              refine g_sub [] [] rfl ?_
              exact sX7_digit_74 C hr hno h
            · replace h := h.2 hc
              refine g_iload_n C 0 rfl 0 rfl dX7_digit_38 ?_
              refine g_bipush C 106 (by decide) dX7_digit_39 ?_
              refine g_icmp_eq C 74 (by decide) dX7_digit_41 (fun hc => ?_) (fun hc => ?_)
              · replace h := h.1 hc
                refine g_sub [] [] rfl ?_
                exact sX7_digit_74 C hr hno h
              · replace h := h.2 hc
                refine g_iload_n C 0 rfl 0 rfl dX7_digit_44 ?_
                refine g_bipush C 107 (by decide) dX7_digit_45 ?_
                refine g_icmp_eq C 74 (by decide) dX7_digit_47 (fun hc => ?_) (fun hc => ?_)
                · replace h := h.1 hc
                  refine g_sub [] [] rfl ?_
                  exact sX7_digit_74 C hr hno h
                · replace h := h.2 hc
                  refine g_iload_n C 0 rfl 0 rfl dX7_digit_50 ?_
                  refine g_bipush C 113 (by decide) dX7_digit_51 ?_
                  refine g_icmp_eq C 74 (by decide) dX7_digit_53 (fun hc => ?_) (fun hc => ?_)
                  · replace h := h.1 hc
                    refine g_sub [] [] rfl ?_
                    exact sX7_digit_74 C hr hno h
                  · replace h := h.2 hc
                    refine g_iload_n C 0 rfl 0 rfl dX7_digit_56 ?_
                    refine g_bipush C 115 (by decide) dX7_digit_57 ?_
                    refine g_icmp_eq C 74 (by decide) dX7_digit_59 (fun hc => ?_) (fun hc => ?_)
                    · replace h := h.1 hc
                      refine g_sub [] [] rfl ?_
                      exact sX7_digit_74 C hr hno h
                    · replace h := h.2 hc
                      refine g_iload_n C 0 rfl 0 rfl dX7_digit_62 ?_
                      refine g_bipush C 120 (by decide) dX7_digit_63 ?_
                      refine g_icmp_eq C 74 (by decide) dX7_digit_65 (fun hc => ?_) (fun hc => ?_)
                      · replace h := h.1 hc
                        refine g_sub [] [] rfl ?_
                        exact sX7_digit_74 C hr hno h
                      · replace h := h.2 hc
                        refine g_iload_n C 0 rfl 0 rfl dX7_digit_68 ?_
                        refine g_bipush C 122 (by decide) dX7_digit_69 ?_
                        refine g_icmp_ne C 76 (by decide) dX7_digit_71 (fun hc => ?_) (fun hc => ?_)
                        · replace h := h.1 hc
                          refine g_iload_n C 0 rfl 0 rfl dX7_digit_76 ?_
                          refine g_bipush C 100 (by decide) dX7_digit_77 ?_
                          refine g_icmp_eq C 88 (by decide) dX7_digit_79 (fun hc => ?_) (fun hc => ?_)
                          · replace h := h.1 hc
                            refine g_sub [] [] rfl ?_
                            exact sX7_digit_88 C hr hno h
                          · replace h := h.2 hc
                            refine g_iload_n C 0 rfl 0 rfl dX7_digit_82 ?_
                            refine g_bipush C 116 (by decide) dX7_digit_83 ?_
                            refine g_icmp_ne C 90 (by decide) dX7_digit_85 (fun hc => ?_) (fun hc => ?_)
                            · replace h := h.1 hc
                              refine g_iload_n C 0 rfl 0 rfl dX7_digit_90 ?_
                              refine g_bipush C 108 (by decide) dX7_digit_91 ?_
                              refine g_icmp_ne C 98 (by decide) dX7_digit_93 (fun hc => ?_) (fun hc => ?_)
                              · replace h := h.1 hc
                                refine g_iload_n C 0 rfl 0 rfl dX7_digit_98 ?_
                                refine g_bipush C 109 (by decide) dX7_digit_99 ?_
                                refine g_icmp_eq C 110 (by decide) dX7_digit_101 (fun hc => ?_) (fun hc => ?_)
                                · replace h := h.1 hc
                                  refine g_sub [] [] rfl ?_
                                  exact sX7_digit_110 C hr hno h
                                · replace h := h.2 hc
                                  refine g_iload_n C 0 rfl 0 rfl dX7_digit_104 ?_
                                  refine g_bipush C 110 (by decide) dX7_digit_105 ?_
                                  refine g_icmp_ne C 112 (by decide) dX7_digit_107 (fun hc => ?_) (fun hc => ?_)
                                  · replace h := h.1 hc
                                    refine g_iload_n C 0 rfl 0 rfl dX7_digit_112 ?_
                                    refine g_bipush C 114 (by decide) dX7_digit_113 ?_
                                    refine g_icmp_ne C 123 (by decide) dX7_digit_115 (fun hc => ?_) (fun hc => ?_)
                                    · replace h := h.1 hc
                                      refine g_iconst C 0 (by decide) dX7_digit_123 ?_
                                      refine g_sub [] [] rfl ?_
                                      exact sX7_digit_124 C hr hno h
                                    · replace h := h.2 hc
                                      refine g_bipush C 6 (by decide) dX7_digit_118 ?_
                                      refine g_goto C 124 (by decide) dX7_digit_120 ?_
                                      refine g_sub [] [] rfl ?_
                                      exact sX7_digit_124 C hr hno h
                                  · replace h := h.2 hc
                                    refine g_sub [] [] rfl ?_
                                    exact sX7_digit_110 C hr hno h
                              · replace h := h.2 hc
                                refine g_iconst C 4 (by decide) dX7_digit_96 ?_
                                exact g_iret C hr rfl (Nat.le_of_ble_eq_true rfl) (Nat.le_of_ble_eq_true rfl) h dX7_digit_97
                            · replace h := h.2 hc
                              refine g_sub [] [] rfl ?_
                              exact sX7_digit_88 C hr hno h
                        · replace h := h.2 hc
                          refine g_sub [] [] rfl ?_
                          exact sX7_digit_74 C hr hno h
        · replace h := h.2 hc
          refine g_sub [] [] rfl ?_
          exact sX7_digit_24 C hr hno h
def BX7_sounds_118 (i3 : Nat) (L4 : Int32) (v : gMem) (Q : Int32 → gMem → Prop) (X : String → gMem → Prop) : Prop := (Q L4 v)
theorem sX7_sounds_118 (C : gC p l s m args meth c cX7_sounds 7 RX7 L sz) (hr : meth.sig.returnType = (some .int)) (hno : ∀ x ∈ c.exceptionTable.toList, False) {i3 : Nat} (hi3 : i3 < 2) {L4 : Int32} {v : gMem} {Q : Int32 → gMem → Prop} {X : String → gMem → Prop} (h : BX7_sounds_118 i3 L4 v Q X) : gS p l e ({ frames := 1, cells := 0, slots := 0, locals := 20 } : Room) s m args below meth c 7 L sz (vx_MQ below (gQi L sz Q) (gXC L sz X) args s 0 0 (gA L sz)) 0 0 118 [(4, .int L4)] [] v := by
  unfold BX7_sounds_118 at h
  refine g_iload C 0 rfl dX7_sounds_118 ?_
  exact g_iret C hr rfl (Nat.le_of_ble_eq_true rfl) (Nat.le_of_ble_eq_true rfl) h dX7_sounds_120
def BX7_sounds_112 (I44 : Int32 → Int32 → gMem → Prop) (i3 : Nat) (L1 : Int32) (L2 : Int32) (L4 : Int32) (L5 : Int32) (v : gMem) (Q : Int32 → gMem → Prop) (X : String → gMem → Prop) : Prop := (I44 L4 (L5 + 1) v)
theorem sX7_sounds_112 (C : gC p l s m args meth c cX7_sounds 7 RX7 L sz) (hr : meth.sig.returnType = (some .int)) (hno : ∀ x ∈ c.exceptionTable.toList, False) {i3 : Nat} (hi3 : i3 < 2) {L1 : Int32} {L2 : Int32} {L4 : Int32} {L5 : Int32} {v : gMem} {Q : Int32 → gMem → Prop} {X : String → gMem → Prop} {I44 : Int32 → Int32 → gMem → Prop} (hI44 : ∀ (L4 : Int32) (L5 : Int32) (v : gMem), I44 L4 L5 v → gS p l e ({ frames := 1, cells := 0, slots := 0, locals := 20 } : Room) s m args below meth c 7 L sz (vx_MQ below (gQi L sz Q) (gXC L sz X) args s 0 0 (gA L sz)) 0 0 44 [(0, .ref (L.2.1 7 0)), (1, .int L1), (2, .int L2), (3, .ref (L.2.1 40 i3)), (4, .int L4), (5, .int L5)] [] v) (h : BX7_sounds_112 I44 i3 L1 L2 L4 L5 v Q X) : gS p l e ({ frames := 1, cells := 0, slots := 0, locals := 20 } : Room) s m args below meth c 7 L sz (vx_MQ below (gQi L sz Q) (gXC L sz X) args s 0 0 (gA L sz)) 0 0 112 [(0, .ref (L.2.1 7 0)), (1, .int L1), (2, .int L2), (3, .ref (L.2.1 40 i3)), (4, .int L4), (5, .int L5)] [] v := by
  unfold BX7_sounds_112 at h
  refine g_iinc C (k := 5) (L5 + 1) [(5, .int (L5 + 1)), (0, .ref (L.2.1 7 0)), (1, .int L1), (2, .int L2), (3, .ref (L.2.1 40 i3)), (4, .int L4)] rfl rfl (Nat.le_of_ble_eq_true rfl) rfl dX7_sounds_112 ?_
  refine g_goto C 44 (by decide) dX7_sounds_115 ?_
  refine g_sub [(0, .ref (L.2.1 7 0)), (1, .int L1), (2, .int L2), (3, .ref (L.2.1 40 i3)), (4, .int L4), (5, .int (L5 + 1))] [1, 2, 3, 4, 5, 0] rfl ?_
  exact hI44 _ _ _ h
def BX7_sounds_44 (I44 : Int32 → Int32 → gMem → Prop) (i3 : Nat) (L1 : Int32) (L2 : Int32) (L4 : Int32) (L5 : Int32) (v : gMem) (Q : Int32 → gMem → Prop) (X : String → gMem → Prop) : Prop := ((L2 ≤ L5 → (BX7_sounds_118 i3 L4 v Q X)) ∧ (¬ L2 ≤ L5 → ((4 ≤ L4 → (BX7_sounds_118 i3 L4 v Q X)) ∧ (¬ 4 ≤ L4 → (vp_in ((10 * L1) + L5) 176 ∧ (TX7_digit (v 42 0 (Int32.toNatClampNeg ((10 * L1) + L5))) v (fun r68 v68 => ((r68 = 0 → (BX7_sounds_112 I44 i3 L1 L2 L4 L5 v68 Q X)) ∧ (¬ r68 = 0 → (vp_in (((10 * L1) + L5) - 1) 176 ∧ (TX7_digit (v68 42 0 (Int32.toNatClampNeg (((10 * L1) + L5) - 1))) v68 (fun r94 v94 => ((¬ r68 = r94 → (vp_in L4 4 ∧ (BX7_sounds_112 I44 i3 L1 L2 (L4 + 1) L5 (gw v94 40 i3 (Int32.toNatClampNeg L4) r68) Q X))) ∧ (r68 = r94 → (BX7_sounds_112 I44 i3 L1 L2 L4 L5 v94 Q X)))) X))))) X))))))
theorem sX7_sounds_44 (C : gC p l s m args meth c cX7_sounds 7 RX7 L sz) (hr : meth.sig.returnType = (some .int)) (hno : ∀ x ∈ c.exceptionTable.toList, False) {i3 : Nat} (hi3 : i3 < 2) {L1 : Int32} {L2 : Int32} {L4 : Int32} {L5 : Int32} {v : gMem} {Q : Int32 → gMem → Prop} {X : String → gMem → Prop} {I44 : Int32 → Int32 → gMem → Prop} (hI44 : ∀ (L4 : Int32) (L5 : Int32) (v : gMem), I44 L4 L5 v → gS p l e ({ frames := 1, cells := 0, slots := 0, locals := 20 } : Room) s m args below meth c 7 L sz (vx_MQ below (gQi L sz Q) (gXC L sz X) args s 0 0 (gA L sz)) 0 0 44 [(0, .ref (L.2.1 7 0)), (1, .int L1), (2, .int L2), (3, .ref (L.2.1 40 i3)), (4, .int L4), (5, .int L5)] [] v) (h : BX7_sounds_44 I44 i3 L1 L2 L4 L5 v Q X) : gS p l e ({ frames := 1, cells := 0, slots := 0, locals := 20 } : Room) s m args below meth c 7 L sz (vx_MQ below (gQi L sz Q) (gXC L sz X) args s 0 0 (gA L sz)) 0 0 44 [(0, .ref (L.2.1 7 0)), (1, .int L1), (2, .int L2), (3, .ref (L.2.1 40 i3)), (4, .int L4), (5, .int L5)] [] v := by
  unfold BX7_sounds_44 at h
  refine g_iload C 5 rfl dX7_sounds_44 ?_
  refine g_iload_n C 2 rfl 2 rfl dX7_sounds_46 ?_
  refine g_icmp_ge C 118 (by decide) dX7_sounds_47 (fun hc => ?_) (fun hc => ?_)
  · replace h := h.1 hc
    refine g_sub [(4, .int L4)] [4] rfl ?_
    exact sX7_sounds_118 C hr hno hi3 h
  · replace h := h.2 hc
    refine g_iload C 4 rfl dX7_sounds_50 ?_
    refine g_iconst C 4 (by decide) dX7_sounds_52 ?_
    refine g_icmp_ge C 118 (by decide) dX7_sounds_53 (fun hc => ?_) (fun hc => ?_)
    · replace h := h.1 hc
      refine g_sub [(4, .int L4)] [4] rfl ?_
      exact sX7_sounds_118 C hr hno hi3 h
    · replace h := h.2 hc
      refine g_aload_n C 0 rfl 0 rfl dX7_sounds_56 ?_
      refine fgX7_50 C dX7_sounds_57 ?_
      refine g_bipush C 10 (by decide) dX7_sounds_60 ?_
      refine g_iload_n C 1 rfl 1 rfl dX7_sounds_62 ?_
      refine g_imul C dX7_sounds_63 ?_
      refine g_iload C 5 rfl dX7_sounds_64 ?_
      refine g_iadd C dX7_sounds_66 ?_
      obtain ⟨hb67, h⟩ := h
      refine g_cald C gok_42 rfl hb67 dX7_sounds_67 ?_
      refine g_callSi C hno [.int (v 42 0 (Int32.toNatClampNeg ((10 * L1) + L5)))] (fun sz9 => kX7_digit l C.2.2.2.2.2.2.1 L C.2.2.2.2.2.2.2.1 (v 42 0 (Int32.toNatClampNeg ((10 * L1) + L5))) v _ X h sz9) wml_RX7_89 wstat_X7_digit wini_RX7 wcode_X7_digit rfl rfl (n := 1) (by decide +kernel) rfl ⟨(Nat.le_of_ble_eq_true rfl), (Nat.le_of_ble_eq_true rfl)⟩ ⟨(Nat.le_of_ble_eq_true rfl), (Nat.le_of_ble_eq_true rfl)⟩ ⟨(Nat.le_of_ble_eq_true rfl), (Nat.le_of_ble_eq_true rfl)⟩ (Nat.le_of_ble_eq_true rfl) dX7_sounds_68 (fun r68 v68 h => ?_)
      refine g_istore C [(6, .int r68), (0, .ref (L.2.1 7 0)), (1, .int L1), (2, .int L2), (3, .ref (L.2.1 40 i3)), (4, .int L4), (5, .int L5)] (Nat.le_of_ble_eq_true rfl) rfl dX7_sounds_71 ?_
      refine g_iload C 0 rfl dX7_sounds_73 ?_
      refine g_if_eq C 112 (by decide) dX7_sounds_75 (fun hc => ?_) (fun hc => ?_)
      · replace h := h.1 hc
        refine g_sub [(0, .ref (L.2.1 7 0)), (1, .int L1), (2, .int L2), (3, .ref (L.2.1 40 i3)), (4, .int L4), (5, .int L5)] [1, 2, 3, 4, 5, 6] rfl ?_
        exact sX7_sounds_112 C hr hno hi3 hI44 h
      · replace h := h.2 hc
        refine g_iload C 0 rfl dX7_sounds_78 ?_
        refine g_aload_n C 0 rfl 1 rfl dX7_sounds_80 ?_
        refine fgX7_50 C dX7_sounds_81 ?_
        refine g_bipush C 10 (by decide) dX7_sounds_84 ?_
        refine g_iload_n C 1 rfl 2 rfl dX7_sounds_86 ?_
        refine g_imul C dX7_sounds_87 ?_
        refine g_iload C 6 rfl dX7_sounds_88 ?_
        refine g_iadd C dX7_sounds_90 ?_
        refine g_iconst C 1 (by decide) dX7_sounds_91 ?_
        refine g_isub C dX7_sounds_92 ?_
        obtain ⟨hb93, h⟩ := h
        refine g_cald C gok_42 rfl hb93 dX7_sounds_93 ?_
        refine g_callSi C hno [.int (v68 42 0 (Int32.toNatClampNeg (((10 * L1) + L5) - 1)))] (fun sz9 => kX7_digit l C.2.2.2.2.2.2.1 L C.2.2.2.2.2.2.2.1 (v68 42 0 (Int32.toNatClampNeg (((10 * L1) + L5) - 1))) v68 _ X h sz9) wml_RX7_89 wstat_X7_digit wini_RX7 wcode_X7_digit rfl rfl (n := 1) (by decide +kernel) rfl ⟨(Nat.le_of_ble_eq_true rfl), (Nat.le_of_ble_eq_true rfl)⟩ ⟨(Nat.le_of_ble_eq_true rfl), (Nat.le_of_ble_eq_true rfl)⟩ ⟨(Nat.le_of_ble_eq_true rfl), (Nat.le_of_ble_eq_true rfl)⟩ (Nat.le_of_ble_eq_true rfl) dX7_sounds_94 (fun r94 v94 h => ?_)
        refine g_icmp_ne C 103 (by decide) dX7_sounds_97 (fun hc => ?_) (fun hc => ?_)
        · replace h := h.1 hc
          refine g_aload_n C 3 rfl 4 rfl dX7_sounds_103 ?_
          refine g_iload C 5 rfl dX7_sounds_104 ?_
          refine g_iload C 0 rfl dX7_sounds_106 ?_
          obtain ⟨hb108, h⟩ := h
          refine g_iast C (gok_40 hi3) (fun _ => rfl) hb108 dX7_sounds_108 ?_
          refine g_iinc C (k := 5) (L4 + 1) [(4, .int (L4 + 1)), (6, .int r68), (0, .ref (L.2.1 7 0)), (1, .int L1), (2, .int L2), (3, .ref (L.2.1 40 i3)), (5, .int L5)] rfl rfl (Nat.le_of_ble_eq_true rfl) rfl dX7_sounds_109 ?_
          refine g_sub [(0, .ref (L.2.1 7 0)), (1, .int L1), (2, .int L2), (3, .ref (L.2.1 40 i3)), (4, .int (L4 + 1)), (5, .int L5)] [2, 3, 4, 5, 0, 6] rfl ?_
          exact sX7_sounds_112 C hr hno hi3 hI44 h
        · replace h := h.2 hc
          refine g_goto C 112 (by decide) dX7_sounds_100 ?_
          refine g_sub [(0, .ref (L.2.1 7 0)), (1, .int L1), (2, .int L2), (3, .ref (L.2.1 40 i3)), (4, .int L4), (5, .int L5)] [1, 2, 3, 4, 5, 6] rfl ?_
          exact sX7_sounds_112 C hr hno hi3 hI44 h
def LX7_sounds_44 (i3 : Nat) (L1 : Int32) (L2 : Int32) (L4 : Int32) (L5 : Int32) (v : gMem) (Q : Int32 → gMem → Prop) (X : String → gMem → Prop) : Prop := ∀ I44 : Int32 → Int32 → gMem → Prop, (∀ (L4 : Int32) (L5 : Int32) (v : gMem), BX7_sounds_44 I44 i3 L1 L2 L4 L5 v Q X → I44 L4 L5 v) → I44 L4 L5 v
theorem slX7_sounds_44 (C : gC p l s m args meth c cX7_sounds 7 RX7 L sz) (hr : meth.sig.returnType = (some .int)) (hno : ∀ x ∈ c.exceptionTable.toList, False) {i3 : Nat} (hi3 : i3 < 2) {L1 : Int32} {L2 : Int32} {L4 : Int32} {L5 : Int32} {v : gMem} {Q : Int32 → gMem → Prop} {X : String → gMem → Prop} (h : LX7_sounds_44 i3 L1 L2 L4 L5 v Q X) : gS p l e ({ frames := 1, cells := 0, slots := 0, locals := 20 } : Room) s m args below meth c 7 L sz (vx_MQ below (gQi L sz Q) (gXC L sz X) args s 0 0 (gA L sz)) 0 0 44 [(0, .ref (L.2.1 7 0)), (1, .int L1), (2, .int L2), (3, .ref (L.2.1 40 i3)), (4, .int L4), (5, .int L5)] [] v := by
  refine h (fun L4 L5 v => gS p l e ({ frames := 1, cells := 0, slots := 0, locals := 20 } : Room) s m args below meth c 7 L sz (vx_MQ below (gQi L sz Q) (gXC L sz X) args s 0 0 (gA L sz)) 0 0 44 [(0, .ref (L.2.1 7 0)), (1, .int L1), (2, .int L2), (3, .ref (L.2.1 40 i3)), (4, .int L4), (5, .int L5)] [] v) (fun L4 L5 v hb => ?_)
  exact sX7_sounds_44 C hr hno hi3 (fun _ _ _ hs => hs) hb
def BX7_sounds_3 (I3 : Int32 → gMem → Prop) (i3 : Nat) (L1 : Int32) (L2 : Int32) (L4 : Int32) (v : gMem) (Q : Int32 → gMem → Prop) (X : String → gMem → Prop) : Prop := ((4 ≤ L4 → ((¬ L2 = 0 → (vp_in (10 * L1) 176 ∧ (vp_in 0 4 ∧ (LX7_sounds_44 i3 L1 L2 1 1 (gw v 40 i3 (Int32.toNatClampNeg 0) (v 42 0 (Int32.toNatClampNeg (10 * L1)))) Q X)))) ∧ (L2 = 0 → (Q 0 v)))) ∧ (¬ 4 ≤ L4 → (vp_in L4 4 ∧ (I3 (L4 + 1) (gw v 40 i3 (Int32.toNatClampNeg L4) 0)))))
theorem sX7_sounds_3 (C : gC p l s m args meth c cX7_sounds 7 RX7 L sz) (hr : meth.sig.returnType = (some .int)) (hno : ∀ x ∈ c.exceptionTable.toList, False) {i3 : Nat} (hi3 : i3 < 2) {L1 : Int32} {L2 : Int32} {L4 : Int32} {v : gMem} {Q : Int32 → gMem → Prop} {X : String → gMem → Prop} {I3 : Int32 → gMem → Prop} (hI3 : ∀ (L4 : Int32) (v : gMem), I3 L4 v → gS p l e ({ frames := 1, cells := 0, slots := 0, locals := 20 } : Room) s m args below meth c 7 L sz (vx_MQ below (gQi L sz Q) (gXC L sz X) args s 0 0 (gA L sz)) 0 0 3 [(0, .ref (L.2.1 7 0)), (1, .int L1), (2, .int L2), (3, .ref (L.2.1 40 i3)), (4, .int L4)] [] v) (h : BX7_sounds_3 I3 i3 L1 L2 L4 v Q X) : gS p l e ({ frames := 1, cells := 0, slots := 0, locals := 20 } : Room) s m args below meth c 7 L sz (vx_MQ below (gQi L sz Q) (gXC L sz X) args s 0 0 (gA L sz)) 0 0 3 [(0, .ref (L.2.1 7 0)), (1, .int L1), (2, .int L2), (3, .ref (L.2.1 40 i3)), (4, .int L4)] [] v := by
  unfold BX7_sounds_3 at h
  refine g_iload C 4 rfl dX7_sounds_3 ?_
  refine g_iconst C 4 (by decide) dX7_sounds_5 ?_
  refine g_icmp_ge C 20 (by decide) dX7_sounds_6 (fun hc => ?_) (fun hc => ?_)
  · replace h := h.1 hc
    refine g_iload_n C 2 rfl 2 rfl dX7_sounds_20 ?_
    refine g_if_ne C 26 (by decide) dX7_sounds_21 (fun hc => ?_) (fun hc => ?_)
    · replace h := h.1 hc
      refine g_aload_n C 3 rfl 3 rfl dX7_sounds_26 ?_
      refine g_iconst C 0 (by decide) dX7_sounds_27 ?_
      refine g_aload_n C 0 rfl 0 rfl dX7_sounds_28 ?_
      refine fgX7_50 C dX7_sounds_29 ?_
      refine g_bipush C 10 (by decide) dX7_sounds_32 ?_
      refine g_iload_n C 1 rfl 1 rfl dX7_sounds_34 ?_
      refine g_imul C dX7_sounds_35 ?_
      obtain ⟨hb36, h⟩ := h
      refine g_cald C gok_42 rfl hb36 dX7_sounds_36 ?_
      obtain ⟨hb37, h⟩ := h
      refine g_iast C (gok_40 hi3) (fun _ => rfl) hb37 dX7_sounds_37 ?_
      refine g_iconst C 1 (by decide) dX7_sounds_38 ?_
      refine g_istore C [(4, .int 1), (0, .ref (L.2.1 7 0)), (1, .int L1), (2, .int L2), (3, .ref (L.2.1 40 i3))] (Nat.le_of_ble_eq_true rfl) rfl dX7_sounds_39 ?_
      refine g_iconst C 1 (by decide) dX7_sounds_41 ?_
      refine g_istore C [(5, .int 1), (4, .int 1), (0, .ref (L.2.1 7 0)), (1, .int L1), (2, .int L2), (3, .ref (L.2.1 40 i3))] (Nat.le_of_ble_eq_true rfl) rfl dX7_sounds_42 ?_
      refine g_sub [(0, .ref (L.2.1 7 0)), (1, .int L1), (2, .int L2), (3, .ref (L.2.1 40 i3)), (4, .int 1), (5, .int 1)] [2, 3, 4, 5, 1, 0] rfl ?_
      exact slX7_sounds_44 C hr hno hi3 h
    · replace h := h.2 hc
      refine g_iconst C 0 (by decide) dX7_sounds_24 ?_
      exact g_iret C hr rfl (Nat.le_of_ble_eq_true rfl) (Nat.le_of_ble_eq_true rfl) h dX7_sounds_25
  · replace h := h.2 hc
    refine g_aload_n C 3 rfl 3 rfl dX7_sounds_9 ?_
    refine g_iload C 4 rfl dX7_sounds_10 ?_
    refine g_iconst C 0 (by decide) dX7_sounds_12 ?_
    obtain ⟨hb13, h⟩ := h
    refine g_iast C (gok_40 hi3) (fun _ => rfl) hb13 dX7_sounds_13 ?_
    refine g_iinc C (k := 4) (L4 + 1) [(4, .int (L4 + 1)), (0, .ref (L.2.1 7 0)), (1, .int L1), (2, .int L2), (3, .ref (L.2.1 40 i3))] rfl rfl (Nat.le_of_ble_eq_true rfl) rfl dX7_sounds_14 ?_
    refine g_goto C 3 (by decide) dX7_sounds_17 ?_
    refine g_sub [(0, .ref (L.2.1 7 0)), (1, .int L1), (2, .int L2), (3, .ref (L.2.1 40 i3)), (4, .int (L4 + 1))] [1, 2, 3, 4, 0] rfl ?_
    exact hI3 _ _ h
def LX7_sounds_3 (i3 : Nat) (L1 : Int32) (L2 : Int32) (L4 : Int32) (v : gMem) (Q : Int32 → gMem → Prop) (X : String → gMem → Prop) : Prop := ∀ I3 : Int32 → gMem → Prop, (∀ (L4 : Int32) (v : gMem), BX7_sounds_3 I3 i3 L1 L2 L4 v Q X → I3 L4 v) → I3 L4 v
theorem slX7_sounds_3 (C : gC p l s m args meth c cX7_sounds 7 RX7 L sz) (hr : meth.sig.returnType = (some .int)) (hno : ∀ x ∈ c.exceptionTable.toList, False) {i3 : Nat} (hi3 : i3 < 2) {L1 : Int32} {L2 : Int32} {L4 : Int32} {v : gMem} {Q : Int32 → gMem → Prop} {X : String → gMem → Prop} (h : LX7_sounds_3 i3 L1 L2 L4 v Q X) : gS p l e ({ frames := 1, cells := 0, slots := 0, locals := 20 } : Room) s m args below meth c 7 L sz (vx_MQ below (gQi L sz Q) (gXC L sz X) args s 0 0 (gA L sz)) 0 0 3 [(0, .ref (L.2.1 7 0)), (1, .int L1), (2, .int L2), (3, .ref (L.2.1 40 i3)), (4, .int L4)] [] v := by
  refine h (fun L4 v => gS p l e ({ frames := 1, cells := 0, slots := 0, locals := 20 } : Room) s m args below meth c 7 L sz (vx_MQ below (gQi L sz Q) (gXC L sz X) args s 0 0 (gA L sz)) 0 0 3 [(0, .ref (L.2.1 7 0)), (1, .int L1), (2, .int L2), (3, .ref (L.2.1 40 i3)), (4, .int L4)] [] v) (fun L4 v hb => ?_)
  exact sX7_sounds_3 C hr hno hi3 (fun _ _ hs => hs) hb
def TX7_sounds (i3 : Nat) (L1 : Int32) (L2 : Int32) (v : gMem) (Q : Int32 → gMem → Prop) (X : String → gMem → Prop) : Prop := (LX7_sounds_3 i3 L1 L2 0 v Q X)
theorem kX7_sounds (l : Launch) (hfl : l.stackTraces = false) (L : gL) (hL : gDist L) {i3 : Nat} (hi3 : i3 < 2) (L1 : Int32) (L2 : Int32) (v : gMem) (Q : Int32 → gMem → Prop) (X : String → gMem → Prop) (h : TX7_sounds i3 L1 L2 v Q X) (sz : Nat) : vx_Met l yX7_sounds [.code yX7_sounds cX7_sounds 7 (some .int)] ({ frames := 1, cells := 0, slots := 0, locals := 20 } : Room) (gPc L sz [.ref (L.2.1 7 0), .int L1, .int L2, .ref (L.2.1 40 i3)] v) (gQi L sz Q) (gXC L sz X) 0 0 (gA L sz) := by
  refine g_ofW (by decide +kernel) hfl hL (Nat.le_of_ble_eq_true rfl) ?_
  intro p e s m args below meth c C hr hno
  refine g_sub [(0, .ref (L.2.1 7 0)), (1, .int L1), (2, .int L2), (3, .ref (L.2.1 40 i3))] [0, 1, 2, 3] rfl ?_
  unfold TX7_sounds at h
  refine g_iconst C 0 (by decide) dX7_sounds_0 ?_
  refine g_istore C [(4, .int 0), (0, .ref (L.2.1 7 0)), (1, .int L1), (2, .int L2), (3, .ref (L.2.1 40 i3))] (Nat.le_of_ble_eq_true rfl) rfl dX7_sounds_1 ?_
  refine g_sub [(0, .ref (L.2.1 7 0)), (1, .int L1), (2, .int L2), (3, .ref (L.2.1 40 i3)), (4, .int 0)] [1, 2, 3, 4, 0] rfl ?_
  exact slX7_sounds_3 C hr hno hi3 h
def BX7_isSameSound_33 (v : gMem) (Q : Int32 → gMem → Prop) (X : String → gMem → Prop) : Prop := (Q 0 v)
theorem sX7_isSameSound_33 (C : gC p l s m args meth c cX7_isSameSound 7 RX7 L sz) (hr : meth.sig.returnType = (some .boolean)) (hno : ∀ x ∈ c.exceptionTable.toList, False) {v : gMem} {Q : Int32 → gMem → Prop} {X : String → gMem → Prop} (h : BX7_isSameSound_33 v Q X) : gS p l e ({ frames := 2, cells := 0, slots := 0, locals := 46 } : Room) s m args below meth c 7 L sz (vx_MQ below (gQi L sz Q) (gXC L sz X) args s 0 0 (gA L sz)) 0 0 33 [] [] v := by
  unfold BX7_isSameSound_33 at h
  refine g_iconst C 0 (by decide) dX7_isSameSound_33 ?_
  exact g_iret C hr rfl (Nat.le_of_ble_eq_true rfl) (Nat.le_of_ble_eq_true rfl) h dX7_isSameSound_34
def BX7_isSameSound_38 (I38 : Int32 → gMem → Prop) (L5 : Int32) (L6 : Int32) (v : gMem) (Q : Int32 → gMem → Prop) (X : String → gMem → Prop) : Prop := ((L5 ≤ L6 → (Q 1 v)) ∧ (¬ L5 ≤ L6 → (vp_in L6 4 ∧ (vp_in L6 4 ∧ (((v 40 0 (Int32.toNatClampNeg L6)) = (v 40 1 (Int32.toNatClampNeg L6)) → (I38 (L6 + 1) v)) ∧ (¬ (v 40 0 (Int32.toNatClampNeg L6)) = (v 40 1 (Int32.toNatClampNeg L6)) → (Q 0 v)))))))
theorem sX7_isSameSound_38 (C : gC p l s m args meth c cX7_isSameSound 7 RX7 L sz) (hr : meth.sig.returnType = (some .boolean)) (hno : ∀ x ∈ c.exceptionTable.toList, False) {L5 : Int32} {L6 : Int32} {v : gMem} {Q : Int32 → gMem → Prop} {X : String → gMem → Prop} {I38 : Int32 → gMem → Prop} (hI38 : ∀ (L6 : Int32) (v : gMem), I38 L6 v → gS p l e ({ frames := 2, cells := 0, slots := 0, locals := 46 } : Room) s m args below meth c 7 L sz (vx_MQ below (gQi L sz Q) (gXC L sz X) args s 0 0 (gA L sz)) 0 0 38 [(0, .ref (L.2.1 7 0)), (5, .int L5), (6, .int L6)] [] v) (h : BX7_isSameSound_38 I38 L5 L6 v Q X) : gS p l e ({ frames := 2, cells := 0, slots := 0, locals := 46 } : Room) s m args below meth c 7 L sz (vx_MQ below (gQi L sz Q) (gXC L sz X) args s 0 0 (gA L sz)) 0 0 38 [(0, .ref (L.2.1 7 0)), (5, .int L5), (6, .int L6)] [] v := by
  unfold BX7_isSameSound_38 at h
  refine g_iload C 2 rfl dX7_isSameSound_38 ?_
  refine g_iload C 1 rfl dX7_isSameSound_40 ?_
  refine g_icmp_ge C 70 (by decide) dX7_isSameSound_42 (fun hc => ?_) (fun hc => ?_)
  · replace h := h.1 hc
    refine g_iconst C 1 (by decide) dX7_isSameSound_70 ?_
    exact g_iret C hr rfl (Nat.le_of_ble_eq_true rfl) (Nat.le_of_ble_eq_true rfl) h dX7_isSameSound_71
  · replace h := h.2 hc
    refine g_aload_n C 0 rfl 0 rfl dX7_isSameSound_45 ?_
    refine fgX7_44 C dX7_isSameSound_46 ?_
    refine g_iload C 2 rfl dX7_isSameSound_49 ?_
    obtain ⟨hb51, h⟩ := h
    refine g_iald C (gok_40 (by decide : 0 < 2)) rfl hb51 dX7_isSameSound_51 ?_
    refine g_aload_n C 0 rfl 0 rfl dX7_isSameSound_52 ?_
    refine fgX7_47 C dX7_isSameSound_53 ?_
    refine g_iload C 2 rfl dX7_isSameSound_56 ?_
    obtain ⟨hb58, h⟩ := h
    refine g_iald C (gok_40 (by decide : 1 < 2)) rfl hb58 dX7_isSameSound_58 ?_
    refine g_icmp_eq C 64 (by decide) dX7_isSameSound_59 (fun hc => ?_) (fun hc => ?_)
    · replace h := h.1 hc
      refine g_iinc C (k := 2) (L6 + 1) [(6, .int (L6 + 1)), (0, .ref (L.2.1 7 0)), (5, .int L5)] rfl rfl (Nat.le_of_ble_eq_true rfl) rfl dX7_isSameSound_64 ?_
      refine g_goto C 38 (by decide) dX7_isSameSound_67 ?_
      refine g_sub [(0, .ref (L.2.1 7 0)), (5, .int L5), (6, .int (L6 + 1))] [1, 2, 0] rfl ?_
      exact hI38 _ _ h
    · replace h := h.2 hc
      refine g_iconst C 0 (by decide) dX7_isSameSound_62 ?_
      exact g_iret C hr rfl (Nat.le_of_ble_eq_true rfl) (Nat.le_of_ble_eq_true rfl) h dX7_isSameSound_63
def LX7_isSameSound_38 (L5 : Int32) (L6 : Int32) (v : gMem) (Q : Int32 → gMem → Prop) (X : String → gMem → Prop) : Prop := ∀ I38 : Int32 → gMem → Prop, (∀ (L6 : Int32) (v : gMem), BX7_isSameSound_38 I38 L5 L6 v Q X → I38 L6 v) → I38 L6 v
theorem slX7_isSameSound_38 (C : gC p l s m args meth c cX7_isSameSound 7 RX7 L sz) (hr : meth.sig.returnType = (some .boolean)) (hno : ∀ x ∈ c.exceptionTable.toList, False) {L5 : Int32} {L6 : Int32} {v : gMem} {Q : Int32 → gMem → Prop} {X : String → gMem → Prop} (h : LX7_isSameSound_38 L5 L6 v Q X) : gS p l e ({ frames := 2, cells := 0, slots := 0, locals := 46 } : Room) s m args below meth c 7 L sz (vx_MQ below (gQi L sz Q) (gXC L sz X) args s 0 0 (gA L sz)) 0 0 38 [(0, .ref (L.2.1 7 0)), (5, .int L5), (6, .int L6)] [] v := by
  refine h (fun L6 v => gS p l e ({ frames := 2, cells := 0, slots := 0, locals := 46 } : Room) s m args below meth c 7 L sz (vx_MQ below (gQi L sz Q) (gXC L sz X) args s 0 0 (gA L sz)) 0 0 38 [(0, .ref (L.2.1 7 0)), (5, .int L5), (6, .int L6)] [] v) (fun L6 v hb => ?_)
  exact sX7_isSameSound_38 C hr hno (fun _ _ hs => hs) hb
def TX7_isSameSound (L1 : Int32) (L2 : Int32) (L3 : Int32) (L4 : Int32) (v : gMem) (Q : Int32 → gMem → Prop) (X : String → gMem → Prop) : Prop := (TX7_sounds 0 L1 L2 v (fun r7 v7 => ((r7 = 0 → (BX7_isSameSound_33 v7 Q X)) ∧ (¬ r7 = 0 → (TX7_sounds 1 L3 L4 v7 (fun r25 v25 => ((r25 = r7 → (LX7_isSameSound_38 r7 0 v25 Q X)) ∧ (¬ r25 = r7 → (BX7_isSameSound_33 v25 Q X)))) X)))) X)
theorem kX7_isSameSound (l : Launch) (hfl : l.stackTraces = false) (L : gL) (hL : gDist L) (L1 : Int32) (L2 : Int32) (L3 : Int32) (L4 : Int32) (v : gMem) (Q : Int32 → gMem → Prop) (X : String → gMem → Prop) (h : TX7_isSameSound L1 L2 L3 L4 v Q X) (sz : Nat) : vx_Met l yX7_isSameSound [.code yX7_isSameSound cX7_isSameSound 7 (some .boolean)] ({ frames := 2, cells := 0, slots := 0, locals := 46 } : Room) (gPc L sz [.ref (L.2.1 7 0), .int L1, .int L2, .int L3, .int L4] v) (gQi L sz Q) (gXC L sz X) 0 0 (gA L sz) := by
  refine g_ofW (by decide +kernel) hfl hL (Nat.le_of_ble_eq_true rfl) ?_
  intro p e s m args below meth c C hr hno
  refine g_sub [(0, .ref (L.2.1 7 0)), (1, .int L1), (2, .int L2), (3, .int L3), (4, .int L4)] [0, 1, 2, 3, 4] rfl ?_
  unfold TX7_isSameSound at h
  refine g_aload_n C 0 rfl 0 rfl dX7_isSameSound_0 ?_
  refine g_iload_n C 1 rfl 1 rfl dX7_isSameSound_1 ?_
  refine g_iload_n C 2 rfl 2 rfl dX7_isSameSound_2 ?_
  refine g_aload_n C 0 rfl 0 rfl dX7_isSameSound_3 ?_
  refine fgX7_44 C dX7_isSameSound_4 ?_
  refine g_callVi C hno gok_7 rfl rfl [.int L1, .int L2, .ref (L.2.1 40 0)] (fun sz9 => kX7_sounds l C.2.2.2.2.2.2.1 L C.2.2.2.2.2.2.2.1 (by decide : 0 < 2) L1 L2 v _ X h sz9) wml_RX7_93 winst_X7_sounds wsel_X7_sounds wini_RX7 wcode_X7_sounds rfl rfl (n := 3) (by decide +kernel) rfl ⟨(Nat.le_of_ble_eq_true rfl), (Nat.le_of_ble_eq_true rfl)⟩ ⟨(Nat.le_of_ble_eq_true rfl), (Nat.le_of_ble_eq_true rfl)⟩ ⟨(Nat.le_of_ble_eq_true rfl), (Nat.le_of_ble_eq_true rfl)⟩ (Nat.le_of_ble_eq_true rfl) dX7_isSameSound_7 (fun r7 v7 h => ?_)
  refine g_istore C [(5, .int r7), (0, .ref (L.2.1 7 0)), (1, .int L1), (2, .int L2), (3, .int L3), (4, .int L4)] (Nat.le_of_ble_eq_true rfl) rfl dX7_isSameSound_10 ?_
  refine g_iload C 0 rfl dX7_isSameSound_12 ?_
  refine g_if_eq C 33 (by decide) dX7_isSameSound_14 (fun hc => ?_) (fun hc => ?_)
  · replace h := h.1 hc
    refine g_sub [] [] rfl ?_
    exact sX7_isSameSound_33 C hr hno h
  · replace h := h.2 hc
    refine g_aload_n C 0 rfl 1 rfl dX7_isSameSound_17 ?_
    refine g_iload_n C 3 rfl 4 rfl dX7_isSameSound_18 ?_
    refine g_iload C 5 rfl dX7_isSameSound_19 ?_
    refine g_aload_n C 0 rfl 1 rfl dX7_isSameSound_21 ?_
    refine fgX7_47 C dX7_isSameSound_22 ?_
    refine g_callVi C hno gok_7 rfl rfl [.int L3, .int L4, .ref (L.2.1 40 1)] (fun sz9 => kX7_sounds l C.2.2.2.2.2.2.1 L C.2.2.2.2.2.2.2.1 (by decide : 1 < 2) L3 L4 v7 _ X h sz9) wml_RX7_93 winst_X7_sounds wsel_X7_sounds wini_RX7 wcode_X7_sounds rfl rfl (n := 3) (by decide +kernel) rfl ⟨(Nat.le_of_ble_eq_true rfl), (Nat.le_of_ble_eq_true rfl)⟩ ⟨(Nat.le_of_ble_eq_true rfl), (Nat.le_of_ble_eq_true rfl)⟩ ⟨(Nat.le_of_ble_eq_true rfl), (Nat.le_of_ble_eq_true rfl)⟩ (Nat.le_of_ble_eq_true rfl) dX7_isSameSound_25 (fun r25 v25 h => ?_)
    refine g_iload C 0 rfl dX7_isSameSound_28 ?_
    refine g_icmp_eq C 35 (by decide) dX7_isSameSound_30 (fun hc => ?_) (fun hc => ?_)
    · replace h := h.1 hc
      refine g_iconst C 0 (by decide) dX7_isSameSound_35 ?_
      refine g_istore C [(6, .int 0), (5, .int r7), (0, .ref (L.2.1 7 0)), (1, .int L1), (2, .int L2), (3, .int L3), (4, .int L4)] (Nat.le_of_ble_eq_true rfl) rfl dX7_isSameSound_36 ?_
      refine g_sub [(0, .ref (L.2.1 7 0)), (5, .int r7), (6, .int 0)] [2, 1, 0] rfl ?_
      exact slX7_isSameSound_38 C hr hno h
    · replace h := h.2 hc
      refine g_sub [] [] rfl ?_
      exact sX7_isSameSound_33 C hr hno h
def BX7_soundAt_81 (t0 : Int32) (v : gMem) (Q : Int32 → gMem → Prop) (X : String → gMem → Prop) : Prop := (narrow .char (.int t0) = .int t0 ∧ Q t0 v)
theorem sX7_soundAt_81 (C : gC p l s m args meth c cX7_soundAt 4 RX7 L sz) (hr : meth.sig.returnType = (some .char)) (hno : ∀ x ∈ c.exceptionTable.toList, False) {t0 : Int32} {v : gMem} {Q : Int32 → gMem → Prop} {X : String → gMem → Prop} (h : BX7_soundAt_81 t0 v Q X) : gS p l e ({ frames := 2, cells := 0, slots := 0, locals := 46 } : Room) s m args below meth c 4 L sz (vx_MQ below (gQi L sz Q) (gXC L sz X) args s 0 0 (gA L sz)) 0 0 81 [] [.int t0] v := by
  unfold BX7_soundAt_81 at h
  exact g_iret C hr h.1 (Nat.le_of_ble_eq_true rfl) (Nat.le_of_ble_eq_true rfl) h.2 dX7_soundAt_81
def BX7_soundAt_44 (L2 : Int32) (t1 : Int32) (v : gMem) (Q : Int32 → gMem → Prop) (X : String → gMem → Prop) : Prop := ((((gw v 7 0 0 t1) 7 0 0) = 0 → ((¬ L2 = 0 → (vp_in L2 4 ∧ (BX7_soundAt_81 (UInt32.toInt32 ((Int32.toUInt32 (48 + ((gw v 7 0 0 t1) 40 0 (Int32.toNatClampNeg L2)))) % 65536)) (gw v 7 0 0 t1) Q X))) ∧ (L2 = 0 → (vp_in 0 4 ∧ (BX7_soundAt_81 (UInt32.toInt32 ((Int32.toUInt32 ((gw v 7 0 0 t1) 40 0 (Int32.toNatClampNeg 0))) % 65536)) (gw v 7 0 0 t1) Q X))))) ∧ (¬ ((gw v 7 0 0 t1) 7 0 0) = 0 → (Q 97 (gw v 7 0 0 t1))))
theorem sX7_soundAt_44 (C : gC p l s m args meth c cX7_soundAt 4 RX7 L sz) (hr : meth.sig.returnType = (some .char)) (hno : ∀ x ∈ c.exceptionTable.toList, False) {L2 : Int32} {t1 : Int32} {v : gMem} {Q : Int32 → gMem → Prop} {X : String → gMem → Prop} (h : BX7_soundAt_44 L2 t1 v Q X) : gS p l e ({ frames := 2, cells := 0, slots := 0, locals := 46 } : Room) s m args below meth c 4 L sz (vx_MQ below (gQi L sz Q) (gXC L sz X) args s 0 0 (gA L sz)) 0 0 44 [(0, .ref (L.2.1 7 0)), (2, .int L2)] [.int t1, .ref (L.2.1 7 0)] v := by
  unfold BX7_soundAt_44 at h
  refine fpX7_64 C dX7_soundAt_44 ?_
  refine g_aload_n C 0 rfl 0 rfl dX7_soundAt_47 ?_
  refine fgX7_64 C dX7_soundAt_48 ?_
  refine g_if_eq C 57 (by decide) dX7_soundAt_51 (fun hc => ?_) (fun hc => ?_)
  · replace h := h.1 hc
    refine g_iload_n C 2 rfl 1 rfl dX7_soundAt_57 ?_
    refine g_if_ne C 71 (by decide) dX7_soundAt_58 (fun hc => ?_) (fun hc => ?_)
    · replace h := h.1 hc
      refine g_bipush C 48 (by decide) dX7_soundAt_71 ?_
      refine g_aload_n C 0 rfl 0 rfl dX7_soundAt_73 ?_
      refine fgX7_44 C dX7_soundAt_74 ?_
      refine g_iload_n C 2 rfl 1 rfl dX7_soundAt_77 ?_
      obtain ⟨hb78, h⟩ := h
      refine g_iald C (gok_40 (by decide : 0 < 2)) rfl hb78 dX7_soundAt_78 ?_
      refine g_iadd C dX7_soundAt_79 ?_
      refine g_i2c C dX7_soundAt_80 ?_
      refine g_sub [] [] rfl ?_
      exact sX7_soundAt_81 C hr hno h
    · replace h := h.2 hc
      refine g_aload_n C 0 rfl 0 rfl dX7_soundAt_61 ?_
      refine fgX7_44 C dX7_soundAt_62 ?_
      refine g_iconst C 0 (by decide) dX7_soundAt_65 ?_
      obtain ⟨hb66, h⟩ := h
      refine g_iald C (gok_40 (by decide : 0 < 2)) rfl hb66 dX7_soundAt_66 ?_
      refine g_i2c C dX7_soundAt_67 ?_
      refine g_goto C 81 (by decide) dX7_soundAt_68 ?_
      refine g_sub [] [] rfl ?_
      exact sX7_soundAt_81 C hr hno h
  · replace h := h.2 hc
    refine g_bipush C 97 (by decide) dX7_soundAt_54 ?_
    exact g_iret C hr rfl (Nat.le_of_ble_eq_true rfl) (Nat.le_of_ble_eq_true rfl) h dX7_soundAt_56
def TX7_soundAt (L1 : Int32) (L2 : Int32) (v : gMem) (Q : Int32 → gMem → Prop) (X : String → gMem → Prop) : Prop := (TX7_noCard L1 v (fun r2 v2 => ((r2 = 0 → (vp_in L1 16 ∧ (TX7_sounds 0 L1 (v2 32 0 (Int32.toNatClampNeg L1)) v2 (fun r23 v23 => (TX7_isWithin L2 0 (r23 - 1) v23 (fun r33 v33 => ((r33 = 0 → (BX7_soundAt_44 L2 2 v33 Q X)) ∧ (¬ r33 = 0 → (BX7_soundAt_44 L2 0 v33 Q X)))) X)) X))) ∧ (¬ r2 = 0 → (Q 97 v2)))) X)
theorem kX7_soundAt (l : Launch) (hfl : l.stackTraces = false) (L : gL) (hL : gDist L) (L1 : Int32) (L2 : Int32) (v : gMem) (Q : Int32 → gMem → Prop) (X : String → gMem → Prop) (h : TX7_soundAt L1 L2 v Q X) (sz : Nat) : vx_Met l yX7_soundAt [.code yX7_soundAt cX7_soundAt 4 (some .char)] ({ frames := 2, cells := 0, slots := 0, locals := 46 } : Room) (gPc L sz [.ref (L.2.1 7 0), .int L1, .int L2] v) (gQi L sz Q) (gXC L sz X) 0 0 (gA L sz) := by
  refine g_ofW (by decide +kernel) hfl hL (Nat.le_of_ble_eq_true rfl) ?_
  intro p e s m args below meth c C hr hno
  refine g_sub [(0, .ref (L.2.1 7 0)), (1, .int L1), (2, .int L2)] [0, 1, 2] rfl ?_
  unfold TX7_soundAt at h
  refine g_aload_n C 0 rfl 0 rfl dX7_soundAt_0 ?_
  refine g_iload_n C 1 rfl 1 rfl dX7_soundAt_1 ?_
  refine g_callVi C hno gok_7 rfl rfl [.int L1] (fun sz9 => kX7_noCard l C.2.2.2.2.2.2.1 L C.2.2.2.2.2.2.2.1 L1 v _ X h sz9) wml_RX7_74 winst_X7_noCard wsel_X7_noCard wini_RX7 wcode_X7_noCard rfl rfl (n := 1) (by decide +kernel) rfl ⟨(Nat.le_of_ble_eq_true rfl), (Nat.le_of_ble_eq_true rfl)⟩ ⟨(Nat.le_of_ble_eq_true rfl), (Nat.le_of_ble_eq_true rfl)⟩ ⟨(Nat.le_of_ble_eq_true rfl), (Nat.le_of_ble_eq_true rfl)⟩ (Nat.le_of_ble_eq_true rfl) dX7_soundAt_2 (fun r2 v2 h => ?_)
  refine g_if_eq C 11 (by decide) dX7_soundAt_5 (fun hc => ?_) (fun hc => ?_)
  · replace h := h.1 hc
    refine g_aload_n C 0 rfl 0 rfl dX7_soundAt_11 ?_
    refine g_iload_n C 1 rfl 1 rfl dX7_soundAt_12 ?_
    refine g_aload_n C 0 rfl 0 rfl dX7_soundAt_13 ?_
    refine fgX7_20 C dX7_soundAt_14 ?_
    refine g_iload_n C 1 rfl 1 rfl dX7_soundAt_17 ?_
    obtain ⟨hb18, h⟩ := h
    refine g_iald C gok_32 rfl hb18 dX7_soundAt_18 ?_
    refine g_aload_n C 0 rfl 0 rfl dX7_soundAt_19 ?_
    refine fgX7_44 C dX7_soundAt_20 ?_
    refine g_callVi C hno gok_7 rfl rfl [.int L1, .int (v2 32 0 (Int32.toNatClampNeg L1)), .ref (L.2.1 40 0)] (fun sz9 => kX7_sounds l C.2.2.2.2.2.2.1 L C.2.2.2.2.2.2.2.1 (by decide : 0 < 2) L1 (v2 32 0 (Int32.toNatClampNeg L1)) v2 _ X h sz9) wml_RX7_93 winst_X7_sounds wsel_X7_sounds wini_RX7 wcode_X7_sounds rfl rfl (n := 3) (by decide +kernel) rfl ⟨(Nat.le_of_ble_eq_true rfl), (Nat.le_of_ble_eq_true rfl)⟩ ⟨(Nat.le_of_ble_eq_true rfl), (Nat.le_of_ble_eq_true rfl)⟩ ⟨(Nat.le_of_ble_eq_true rfl), (Nat.le_of_ble_eq_true rfl)⟩ (Nat.le_of_ble_eq_true rfl) dX7_soundAt_23 (fun r23 v23 h => ?_)
    refine g_istore_n C 3 rfl [(3, .int r23), (0, .ref (L.2.1 7 0)), (1, .int L1), (2, .int L2)] (Nat.le_of_ble_eq_true rfl) rfl dX7_soundAt_26 ?_
    refine g_aload_n C 0 rfl 1 rfl dX7_soundAt_27 ?_
    refine g_iload_n C 2 rfl 3 rfl dX7_soundAt_28 ?_
    refine g_iconst C 0 (by decide) dX7_soundAt_29 ?_
    refine g_iload_n C 3 rfl 0 rfl dX7_soundAt_30 ?_
    refine g_iconst C 1 (by decide) dX7_soundAt_31 ?_
    refine g_isub C dX7_soundAt_32 ?_
    refine g_callSi C hno [.int L2, .int 0, .int (r23 - 1)] (fun sz9 => kX7_isWithin l C.2.2.2.2.2.2.1 L C.2.2.2.2.2.2.2.1 L2 0 (r23 - 1) v23 _ X h sz9) wml_RX7_70 wstat_X7_isWithin wini_RX7 wcode_X7_isWithin rfl rfl (n := 3) (by decide +kernel) rfl ⟨(Nat.le_of_ble_eq_true rfl), (Nat.le_of_ble_eq_true rfl)⟩ ⟨(Nat.le_of_ble_eq_true rfl), (Nat.le_of_ble_eq_true rfl)⟩ ⟨(Nat.le_of_ble_eq_true rfl), (Nat.le_of_ble_eq_true rfl)⟩ (Nat.le_of_ble_eq_true rfl) dX7_soundAt_33 (fun r33 v33 h => ?_)
    refine g_if_eq C 43 (by decide) dX7_soundAt_36 (fun hc => ?_) (fun hc => ?_)
    · replace h := h.1 hc
      refine g_iconst C 2 (by decide) dX7_soundAt_43 ?_
      refine g_sub [(0, .ref (L.2.1 7 0)), (2, .int L2)] [1, 3] rfl ?_
      exact sX7_soundAt_44 C hr hno h
    · replace h := h.2 hc
      refine g_iconst C 0 (by decide) dX7_soundAt_39 ?_
      refine g_goto C 44 (by decide) dX7_soundAt_40 ?_
      refine g_sub [(0, .ref (L.2.1 7 0)), (2, .int L2)] [1, 3] rfl ?_
      exact sX7_soundAt_44 C hr hno h
  · replace h := h.2 hc
    refine g_bipush C 97 (by decide) dX7_soundAt_8 ?_
    exact g_iret C hr rfl (Nat.le_of_ble_eq_true rfl) (Nat.le_of_ble_eq_true rfl) h dX7_soundAt_10
def TX7_number (L1 : Int32) (L2 : Int32) (v : gMem) (Q : Int32 → gMem → Prop) (X : String → gMem → Prop) : Prop := (TX7_noCard L1 v (fun r2 v2 => ((r2 = 0 → (TX7_isWithin L2 1 3 v2 (fun r13 v13 => ((¬ r13 = 0 → (vp_in ((4 * L1) + L2) 64 ∧ (Q (v13 33 0 (Int32.toNatClampNeg ((4 * L1) + L2))) v13))) ∧ (r13 = 0 → (TX7_fail 2 v13 (fun r21 v21 => (Q r21 v21)) X)))) X)) ∧ (¬ r2 = 0 → (Q 0 v2)))) X)
theorem kX7_number (l : Launch) (hfl : l.stackTraces = false) (L : gL) (hL : gDist L) (L1 : Int32) (L2 : Int32) (v : gMem) (Q : Int32 → gMem → Prop) (X : String → gMem → Prop) (h : TX7_number L1 L2 v Q X) (sz : Nat) : vx_Met l yX7_number [.code yX7_number cX7_number 3 (some .int)] ({ frames := 2, cells := 0, slots := 0, locals := 43 } : Room) (gPc L sz [.ref (L.2.1 7 0), .int L1, .int L2] v) (gQi L sz Q) (gXC L sz X) 0 0 (gA L sz) := by
  refine g_ofW (by decide +kernel) hfl hL (Nat.le_of_ble_eq_true rfl) ?_
  intro p e s m args below meth c C hr hno
  refine g_sub [(0, .ref (L.2.1 7 0)), (1, .int L1), (2, .int L2)] [0, 1, 2] rfl ?_
  unfold TX7_number at h
  refine g_aload_n C 0 rfl 0 rfl dX7_number_0 ?_
  refine g_iload_n C 1 rfl 1 rfl dX7_number_1 ?_
  refine g_callVi C hno gok_7 rfl rfl [.int L1] (fun sz9 => kX7_noCard l C.2.2.2.2.2.2.1 L C.2.2.2.2.2.2.2.1 L1 v _ X h sz9) wml_RX7_74 winst_X7_noCard wsel_X7_noCard wini_RX7 wcode_X7_noCard rfl rfl (n := 1) (by decide +kernel) rfl ⟨(Nat.le_of_ble_eq_true rfl), (Nat.le_of_ble_eq_true rfl)⟩ ⟨(Nat.le_of_ble_eq_true rfl), (Nat.le_of_ble_eq_true rfl)⟩ ⟨(Nat.le_of_ble_eq_true rfl), (Nat.le_of_ble_eq_true rfl)⟩ (Nat.le_of_ble_eq_true rfl) dX7_number_2 (fun r2 v2 h => ?_)
  refine g_if_eq C 10 (by decide) dX7_number_5 (fun hc => ?_) (fun hc => ?_)
  · replace h := h.1 hc
    refine g_iload_n C 2 rfl 2 rfl dX7_number_10 ?_
    refine g_iconst C 1 (by decide) dX7_number_11 ?_
    refine g_iconst C 3 (by decide) dX7_number_12 ?_
    refine g_callSi C hno [.int L2, .int 1, .int 3] (fun sz9 => kX7_isWithin l C.2.2.2.2.2.2.1 L C.2.2.2.2.2.2.2.1 L2 1 3 v2 _ X h sz9) wml_RX7_70 wstat_X7_isWithin wini_RX7 wcode_X7_isWithin rfl rfl (n := 3) (by decide +kernel) rfl ⟨(Nat.le_of_ble_eq_true rfl), (Nat.le_of_ble_eq_true rfl)⟩ ⟨(Nat.le_of_ble_eq_true rfl), (Nat.le_of_ble_eq_true rfl)⟩ ⟨(Nat.le_of_ble_eq_true rfl), (Nat.le_of_ble_eq_true rfl)⟩ (Nat.le_of_ble_eq_true rfl) dX7_number_13 (fun r13 v13 h => ?_)
    refine g_if_ne C 25 (by decide) dX7_number_16 (fun hc => ?_) (fun hc => ?_)
    · replace h := h.1 hc
      refine g_aload_n C 0 rfl 0 rfl dX7_number_25 ?_
      refine fgX7_23 C dX7_number_26 ?_
      refine g_iconst C 4 (by decide) dX7_number_29 ?_
      refine g_iload_n C 1 rfl 1 rfl dX7_number_30 ?_
      refine g_imul C dX7_number_31 ?_
      refine g_iload_n C 2 rfl 2 rfl dX7_number_32 ?_
      refine g_iadd C dX7_number_33 ?_
      obtain ⟨hb34, h⟩ := h
      refine g_iald C gok_33 rfl hb34 dX7_number_34 ?_
      exact g_iret C hr rfl (Nat.le_of_ble_eq_true rfl) (Nat.le_of_ble_eq_true rfl) h dX7_number_35
    · replace h := h.2 hc
      refine g_aload_n C 0 rfl 0 rfl dX7_number_19 ?_
      refine g_iconst C 2 (by decide) dX7_number_20 ?_
      refine g_callVi C hno gok_7 rfl rfl [.int 2] (fun sz9 => kX7_fail l C.2.2.2.2.2.2.1 L C.2.2.2.2.2.2.2.1 2 v13 _ X h sz9) wml_RX7_78 winst_X7_fail wsel_X7_fail wini_RX7 wcode_X7_fail rfl rfl (n := 1) (by decide +kernel) rfl ⟨(Nat.le_of_ble_eq_true rfl), (Nat.le_of_ble_eq_true rfl)⟩ ⟨(Nat.le_of_ble_eq_true rfl), (Nat.le_of_ble_eq_true rfl)⟩ ⟨(Nat.le_of_ble_eq_true rfl), (Nat.le_of_ble_eq_true rfl)⟩ (Nat.le_of_ble_eq_true rfl) dX7_number_21 (fun r21 v21 h => ?_)
      exact g_iret C hr rfl (Nat.le_of_ble_eq_true rfl) (Nat.le_of_ble_eq_true rfl) h dX7_number_24
  · replace h := h.2 hc
    refine g_iconst C 0 (by decide) dX7_number_8 ?_
    exact g_iret C hr rfl (Nat.le_of_ble_eq_true rfl) (Nat.le_of_ble_eq_true rfl) h dX7_number_9
def BX7_setWeights_31 (v : gMem) (Q : Int32 → gMem → Prop) (X : String → gMem → Prop) : Prop := (TX7_fail 1 v (fun r33 v33 => (Q r33 v33)) X)
theorem sX7_setWeights_31 (C : gC p l s m args meth c cX7_setWeights 5 RX7 L sz) (hr : meth.sig.returnType = (some .int)) (hno : ∀ x ∈ c.exceptionTable.toList, False) {v : gMem} {Q : Int32 → gMem → Prop} {X : String → gMem → Prop} (h : BX7_setWeights_31 v Q X) : gS p l e ({ frames := 1, cells := 0, slots := 0, locals := 22 } : Room) s m args below meth c 5 L sz (vx_MQ below (gQi L sz Q) (gXC L sz X) args s 0 0 (gA L sz)) 0 0 31 [(0, .ref (L.2.1 7 0))] [] v := by
  unfold BX7_setWeights_31 at h
  refine g_aload_n C 0 rfl 0 rfl dX7_setWeights_31 ?_
  refine g_iconst C 1 (by decide) dX7_setWeights_32 ?_
  refine g_callVi C hno gok_7 rfl rfl [.int 1] (fun sz9 => kX7_fail l C.2.2.2.2.2.2.1 L C.2.2.2.2.2.2.2.1 1 v _ X h sz9) wml_RX7_78 winst_X7_fail wsel_X7_fail wini_RX7 wcode_X7_fail rfl rfl (n := 1) (by decide +kernel) rfl ⟨(Nat.le_of_ble_eq_true rfl), (Nat.le_of_ble_eq_true rfl)⟩ ⟨(Nat.le_of_ble_eq_true rfl), (Nat.le_of_ble_eq_true rfl)⟩ ⟨(Nat.le_of_ble_eq_true rfl), (Nat.le_of_ble_eq_true rfl)⟩ (Nat.le_of_ble_eq_true rfl) dX7_setWeights_33 (fun r33 v33 h => ?_)
  exact g_iret C hr rfl (Nat.le_of_ble_eq_true rfl) (Nat.le_of_ble_eq_true rfl) h dX7_setWeights_36
def TX7_setWeights (L1 : Int32) (L2 : Int32) (L3 : Int32) (v : gMem) (Q : Int32 → gMem → Prop) (X : String → gMem → Prop) : Prop := (TX7_isWithin L1 0 3 v (fun r3 v3 => ((r3 = 0 → (BX7_setWeights_31 v3 Q X)) ∧ (¬ r3 = 0 → (TX7_isWithin L2 (-9) 9 v3 (fun r14 v14 => ((r14 = 0 → (BX7_setWeights_31 v14 Q X)) ∧ (¬ r14 = 0 → (TX7_isWithin L3 (-9) 9 v14 (fun r25 v25 => ((¬ r25 = 0 → (vp_in L1 4 ∧ (vp_in L1 4 ∧ (vp_in L1 4 ∧ (Q ((gw v25 7 0 0 0) 34 0 (Int32.toNatClampNeg L1)) (gw (gw (gw v25 7 0 0 0) 34 0 (Int32.toNatClampNeg L1) L2) 35 0 (Int32.toNatClampNeg L1) L3)))))) ∧ (r25 = 0 → (BX7_setWeights_31 v25 Q X)))) X)))) X)))) X)
theorem kX7_setWeights (l : Launch) (hfl : l.stackTraces = false) (L : gL) (hL : gDist L) (L1 : Int32) (L2 : Int32) (L3 : Int32) (v : gMem) (Q : Int32 → gMem → Prop) (X : String → gMem → Prop) (h : TX7_setWeights L1 L2 L3 v Q X) (sz : Nat) : vx_Met l yX7_setWeights [.code yX7_setWeights cX7_setWeights 5 (some .int)] ({ frames := 1, cells := 0, slots := 0, locals := 22 } : Room) (gPc L sz [.ref (L.2.1 7 0), .int L1, .int L2, .int L3] v) (gQi L sz Q) (gXC L sz X) 0 0 (gA L sz) := by
  refine g_ofW (by decide +kernel) hfl hL (Nat.le_of_ble_eq_true rfl) ?_
  intro p e s m args below meth c C hr hno
  refine g_sub [(0, .ref (L.2.1 7 0)), (1, .int L1), (2, .int L2), (3, .int L3)] [0, 1, 2, 3] rfl ?_
  unfold TX7_setWeights at h
  refine g_iload_n C 1 rfl 1 rfl dX7_setWeights_0 ?_
  refine g_iconst C 0 (by decide) dX7_setWeights_1 ?_
  refine g_iconst C 3 (by decide) dX7_setWeights_2 ?_
  refine g_callSi C hno [.int L1, .int 0, .int 3] (fun sz9 => kX7_isWithin l C.2.2.2.2.2.2.1 L C.2.2.2.2.2.2.2.1 L1 0 3 v _ X h sz9) wml_RX7_70 wstat_X7_isWithin wini_RX7 wcode_X7_isWithin rfl rfl (n := 3) (by decide +kernel) rfl ⟨(Nat.le_of_ble_eq_true rfl), (Nat.le_of_ble_eq_true rfl)⟩ ⟨(Nat.le_of_ble_eq_true rfl), (Nat.le_of_ble_eq_true rfl)⟩ ⟨(Nat.le_of_ble_eq_true rfl), (Nat.le_of_ble_eq_true rfl)⟩ (Nat.le_of_ble_eq_true rfl) dX7_setWeights_3 (fun r3 v3 h => ?_)
  refine g_if_eq C 31 (by decide) dX7_setWeights_6 (fun hc => ?_) (fun hc => ?_)
  · replace h := h.1 hc
    refine g_sub [(0, .ref (L.2.1 7 0))] [0] rfl ?_
    exact sX7_setWeights_31 C hr hno h
  · replace h := h.2 hc
    refine g_iload_n C 2 rfl 2 rfl dX7_setWeights_9 ?_
    refine g_bipush C (-9) (by decide) dX7_setWeights_10 ?_
    refine g_bipush C 9 (by decide) dX7_setWeights_12 ?_
    refine g_callSi C hno [.int L2, .int (-9), .int 9] (fun sz9 => kX7_isWithin l C.2.2.2.2.2.2.1 L C.2.2.2.2.2.2.2.1 L2 (-9) 9 v3 _ X h sz9) wml_RX7_70 wstat_X7_isWithin wini_RX7 wcode_X7_isWithin rfl rfl (n := 3) (by decide +kernel) rfl ⟨(Nat.le_of_ble_eq_true rfl), (Nat.le_of_ble_eq_true rfl)⟩ ⟨(Nat.le_of_ble_eq_true rfl), (Nat.le_of_ble_eq_true rfl)⟩ ⟨(Nat.le_of_ble_eq_true rfl), (Nat.le_of_ble_eq_true rfl)⟩ (Nat.le_of_ble_eq_true rfl) dX7_setWeights_14 (fun r14 v14 h => ?_)
    refine g_if_eq C 31 (by decide) dX7_setWeights_17 (fun hc => ?_) (fun hc => ?_)
    · replace h := h.1 hc
      refine g_sub [(0, .ref (L.2.1 7 0))] [0] rfl ?_
      exact sX7_setWeights_31 C hr hno h
    · replace h := h.2 hc
      refine g_iload_n C 3 rfl 3 rfl dX7_setWeights_20 ?_
      refine g_bipush C (-9) (by decide) dX7_setWeights_21 ?_
      refine g_bipush C 9 (by decide) dX7_setWeights_23 ?_
      refine g_callSi C hno [.int L3, .int (-9), .int 9] (fun sz9 => kX7_isWithin l C.2.2.2.2.2.2.1 L C.2.2.2.2.2.2.2.1 L3 (-9) 9 v14 _ X h sz9) wml_RX7_70 wstat_X7_isWithin wini_RX7 wcode_X7_isWithin rfl rfl (n := 3) (by decide +kernel) rfl ⟨(Nat.le_of_ble_eq_true rfl), (Nat.le_of_ble_eq_true rfl)⟩ ⟨(Nat.le_of_ble_eq_true rfl), (Nat.le_of_ble_eq_true rfl)⟩ ⟨(Nat.le_of_ble_eq_true rfl), (Nat.le_of_ble_eq_true rfl)⟩ (Nat.le_of_ble_eq_true rfl) dX7_setWeights_25 (fun r25 v25 h => ?_)
      refine g_if_ne C 37 (by decide) dX7_setWeights_28 (fun hc => ?_) (fun hc => ?_)
      · replace h := h.1 hc
        refine g_aload_n C 0 rfl 0 rfl dX7_setWeights_37 ?_
        refine g_iconst C 0 (by decide) dX7_setWeights_38 ?_
        refine fpX7_64 C dX7_setWeights_39 ?_
        refine g_aload_n C 0 rfl 0 rfl dX7_setWeights_42 ?_
        refine fgX7_26 C dX7_setWeights_43 ?_
        refine g_iload_n C 1 rfl 1 rfl dX7_setWeights_46 ?_
        obtain ⟨hb47, h⟩ := h
        refine g_iald C gok_34 rfl hb47 dX7_setWeights_47 ?_
        refine g_istore C [(4, .int ((gw v25 7 0 0 0) 34 0 (Int32.toNatClampNeg L1))), (0, .ref (L.2.1 7 0)), (1, .int L1), (2, .int L2), (3, .int L3)] (Nat.le_of_ble_eq_true rfl) rfl dX7_setWeights_48 ?_
        refine g_aload_n C 0 rfl 1 rfl dX7_setWeights_50 ?_
        refine fgX7_26 C dX7_setWeights_51 ?_
        refine g_iload_n C 1 rfl 2 rfl dX7_setWeights_54 ?_
        refine g_iload_n C 2 rfl 3 rfl dX7_setWeights_55 ?_
        obtain ⟨hb56, h⟩ := h
        refine g_iast C gok_34 (fun _ => rfl) hb56 dX7_setWeights_56 ?_
        refine g_aload_n C 0 rfl 1 rfl dX7_setWeights_57 ?_
        refine fgX7_29 C dX7_setWeights_58 ?_
        refine g_iload_n C 1 rfl 2 rfl dX7_setWeights_61 ?_
        refine g_iload_n C 3 rfl 4 rfl dX7_setWeights_62 ?_
        obtain ⟨hb63, h⟩ := h
        refine g_iast C gok_35 (fun _ => rfl) hb63 dX7_setWeights_63 ?_
        refine g_iload C 0 rfl dX7_setWeights_64 ?_
        exact g_iret C hr rfl (Nat.le_of_ble_eq_true rfl) (Nat.le_of_ble_eq_true rfl) h dX7_setWeights_66
      · replace h := h.2 hc
        refine g_sub [(0, .ref (L.2.1 7 0))] [0] rfl ?_
        exact sX7_setWeights_31 C hr hno h
def TX7_setThreshold (L1 : Int32) (v : gMem) (Q : Int32 → gMem → Prop) (X : String → gMem → Prop) : Prop := (TX7_isWithin L1 (-40) 40 v (fun r5 v5 => ((¬ r5 = 0 → (Q ((gw v5 7 0 0 0) 7 0 5) (gw (gw v5 7 0 0 0) 7 0 5 L1))) ∧ (r5 = 0 → (TX7_fail 1 v5 (fun r13 v13 => (Q r13 v13)) X)))) X)
theorem kX7_setThreshold (l : Launch) (hfl : l.stackTraces = false) (L : gL) (hL : gDist L) (L1 : Int32) (v : gMem) (Q : Int32 → gMem → Prop) (X : String → gMem → Prop) (h : TX7_setThreshold L1 v Q X) (sz : Nat) : vx_Met l yX7_setThreshold [.code yX7_setThreshold cX7_setThreshold 3 (some .int)] ({ frames := 1, cells := 0, slots := 0, locals := 22 } : Room) (gPc L sz [.ref (L.2.1 7 0), .int L1] v) (gQi L sz Q) (gXC L sz X) 0 0 (gA L sz) := by
  refine g_ofW (by decide +kernel) hfl hL (Nat.le_of_ble_eq_true rfl) ?_
  intro p e s m args below meth c C hr hno
  refine g_sub [(0, .ref (L.2.1 7 0)), (1, .int L1)] [0, 1] rfl ?_
  unfold TX7_setThreshold at h
  refine g_iload_n C 1 rfl 1 rfl dX7_setThreshold_0 ?_
  refine g_bipush C (-40) (by decide) dX7_setThreshold_1 ?_
  refine g_bipush C 40 (by decide) dX7_setThreshold_3 ?_
  refine g_callSi C hno [.int L1, .int (-40), .int 40] (fun sz9 => kX7_isWithin l C.2.2.2.2.2.2.1 L C.2.2.2.2.2.2.2.1 L1 (-40) 40 v _ X h sz9) wml_RX7_70 wstat_X7_isWithin wini_RX7 wcode_X7_isWithin rfl rfl (n := 3) (by decide +kernel) rfl ⟨(Nat.le_of_ble_eq_true rfl), (Nat.le_of_ble_eq_true rfl)⟩ ⟨(Nat.le_of_ble_eq_true rfl), (Nat.le_of_ble_eq_true rfl)⟩ ⟨(Nat.le_of_ble_eq_true rfl), (Nat.le_of_ble_eq_true rfl)⟩ (Nat.le_of_ble_eq_true rfl) dX7_setThreshold_5 (fun r5 v5 h => ?_)
  refine g_if_ne C 17 (by decide) dX7_setThreshold_8 (fun hc => ?_) (fun hc => ?_)
  · replace h := h.1 hc
    refine g_aload_n C 0 rfl 0 rfl dX7_setThreshold_17 ?_
    refine g_iconst C 0 (by decide) dX7_setThreshold_18 ?_
    refine fpX7_64 C dX7_setThreshold_19 ?_
    refine g_aload_n C 0 rfl 0 rfl dX7_setThreshold_22 ?_
    refine fgX7_7 C dX7_setThreshold_23 ?_
    refine g_istore_n C 2 rfl [(2, .int ((gw v5 7 0 0 0) 7 0 5)), (0, .ref (L.2.1 7 0)), (1, .int L1)] (Nat.le_of_ble_eq_true rfl) rfl dX7_setThreshold_26 ?_
    refine g_aload_n C 0 rfl 1 rfl dX7_setThreshold_27 ?_
    refine g_iload_n C 1 rfl 2 rfl dX7_setThreshold_28 ?_
    refine fpX7_7 C dX7_setThreshold_29 ?_
    refine g_iload_n C 2 rfl 0 rfl dX7_setThreshold_32 ?_
    exact g_iret C hr rfl (Nat.le_of_ble_eq_true rfl) (Nat.le_of_ble_eq_true rfl) h dX7_setThreshold_33
  · replace h := h.2 hc
    refine g_aload_n C 0 rfl 0 rfl dX7_setThreshold_11 ?_
    refine g_iconst C 1 (by decide) dX7_setThreshold_12 ?_
    refine g_callVi C hno gok_7 rfl rfl [.int 1] (fun sz9 => kX7_fail l C.2.2.2.2.2.2.1 L C.2.2.2.2.2.2.2.1 1 v5 _ X h sz9) wml_RX7_78 winst_X7_fail wsel_X7_fail wini_RX7 wcode_X7_fail rfl rfl (n := 1) (by decide +kernel) rfl ⟨(Nat.le_of_ble_eq_true rfl), (Nat.le_of_ble_eq_true rfl)⟩ ⟨(Nat.le_of_ble_eq_true rfl), (Nat.le_of_ble_eq_true rfl)⟩ ⟨(Nat.le_of_ble_eq_true rfl), (Nat.le_of_ble_eq_true rfl)⟩ (Nat.le_of_ble_eq_true rfl) dX7_setThreshold_13 (fun r13 v13 h => ?_)
    exact g_iret C hr rfl (Nat.le_of_ble_eq_true rfl) (Nat.le_of_ble_eq_true rfl) h dX7_setThreshold_16
def BX7_has_39 (t0 : Int32) (v : gMem) (Q : Int32 → gMem → Prop) (X : String → gMem → Prop) : Prop := (narrow .boolean (.int t0) = .int t0 ∧ Q t0 v)
theorem sX7_has_39 (C : gC p l s m args meth c cX7_has 3 RX7 L sz) (hr : meth.sig.returnType = (some .boolean)) (hno : ∀ x ∈ c.exceptionTable.toList, False) {t0 : Int32} {v : gMem} {Q : Int32 → gMem → Prop} {X : String → gMem → Prop} (h : BX7_has_39 t0 v Q X) : gS p l e ({ frames := 0, cells := 0, slots := 0, locals := 0 } : Room) s m args below meth c 3 L sz (vx_MQ below (gQi L sz Q) (gXC L sz X) args s 0 0 (gA L sz)) 0 0 39 [] [.int t0] v := by
  unfold BX7_has_39 at h
  exact g_iret C hr h.1 (Nat.le_of_ble_eq_true rfl) (Nat.le_of_ble_eq_true rfl) h.2 dX7_has_39
def TX7_has (L1 : Int32) (L2 : Int32) (v : gMem) (Q : Int32 → gMem → Prop) (X : String → gMem → Prop) : Prop := ((¬ L2 = 0 → (vp_in ((4 * L1) + L2) 64 ∧ (((v 33 0 (Int32.toNatClampNeg ((4 * L1) + L2))) < 0 → (BX7_has_39 0 v Q X)) ∧ (¬ (v 33 0 (Int32.toNatClampNeg ((4 * L1) + L2))) < 0 → (BX7_has_39 1 v Q X))))) ∧ (L2 = 0 → (vp_in L1 16 ∧ (((v 32 0 (Int32.toNatClampNeg L1)) ≤ 0 → (BX7_has_39 0 v Q X)) ∧ (¬ (v 32 0 (Int32.toNatClampNeg L1)) ≤ 0 → (BX7_has_39 1 v Q X))))))
theorem kX7_has (l : Launch) (hfl : l.stackTraces = false) (L : gL) (hL : gDist L) (L1 : Int32) (L2 : Int32) (v : gMem) (Q : Int32 → gMem → Prop) (X : String → gMem → Prop) (h : TX7_has L1 L2 v Q X) (sz : Nat) : vx_Met l yX7_has [.code yX7_has cX7_has 3 (some .boolean)] ({ frames := 0, cells := 0, slots := 0, locals := 0 } : Room) (gPc L sz [.ref (L.2.1 7 0), .int L1, .int L2] v) (gQi L sz Q) (gXC L sz X) 0 0 (gA L sz) := by
  refine g_ofW (by decide +kernel) hfl hL (Nat.le_of_ble_eq_true rfl) ?_
  intro p e s m args below meth c C hr hno
  refine g_sub [(0, .ref (L.2.1 7 0)), (1, .int L1), (2, .int L2)] [0, 1, 2] rfl ?_
  unfold TX7_has at h
  refine g_iload_n C 2 rfl 2 rfl dX7_has_0 ?_
  refine g_if_ne C 21 (by decide) dX7_has_1 (fun hc => ?_) (fun hc => ?_)
  · replace h := h.1 hc
    refine g_aload_n C 0 rfl 0 rfl dX7_has_21 ?_
    refine fgX7_23 C dX7_has_22 ?_
    refine g_iconst C 4 (by decide) dX7_has_25 ?_
    refine g_iload_n C 1 rfl 1 rfl dX7_has_26 ?_
    refine g_imul C dX7_has_27 ?_
    refine g_iload_n C 2 rfl 2 rfl dX7_has_28 ?_
    refine g_iadd C dX7_has_29 ?_
    obtain ⟨hb30, h⟩ := h
    refine g_iald C gok_33 rfl hb30 dX7_has_30 ?_
    refine g_if_lt C 38 (by decide) dX7_has_31 (fun hc => ?_) (fun hc => ?_)
    · replace h := h.1 hc
      refine g_iconst C 0 (by decide) dX7_has_38 ?_
      refine g_sub [] [] rfl ?_
      exact sX7_has_39 C hr hno h
    · replace h := h.2 hc
      refine g_iconst C 1 (by decide) dX7_has_34 ?_
      refine g_goto C 39 (by decide) dX7_has_35 ?_
      refine g_sub [] [] rfl ?_
      exact sX7_has_39 C hr hno h
  · replace h := h.2 hc
    refine g_aload_n C 0 rfl 0 rfl dX7_has_4 ?_
    refine fgX7_20 C dX7_has_5 ?_
    refine g_iload_n C 1 rfl 1 rfl dX7_has_8 ?_
    obtain ⟨hb9, h⟩ := h
    refine g_iald C gok_32 rfl hb9 dX7_has_9 ?_
    refine g_if_le C 17 (by decide) dX7_has_10 (fun hc => ?_) (fun hc => ?_)
    · replace h := h.1 hc
      refine g_iconst C 0 (by decide) dX7_has_17 ?_
      refine g_goto C 39 (by decide) dX7_has_18 ?_
      refine g_sub [] [] rfl ?_
      exact sX7_has_39 C hr hno h
    · replace h := h.2 hc
      refine g_iconst C 1 (by decide) dX7_has_13 ?_
      refine g_goto C 39 (by decide) dX7_has_14 ?_
      refine g_sub [] [] rfl ?_
      exact sX7_has_39 C hr hno h
def BX7_isSame_53 (I53 : Int32 → gMem → Prop) (L1 : Int32) (L2 : Int32) (L4 : Int32) (v : gMem) (Q : Int32 → gMem → Prop) (X : String → gMem → Prop) : Prop := (vp_in L1 16 ∧ (((v 32 0 (Int32.toNatClampNeg L1)) ≤ L4 → (Q 1 v)) ∧ (¬ (v 32 0 (Int32.toNatClampNeg L1)) ≤ L4 → (vp_in ((10 * L1) + L4) 176 ∧ (vp_in ((10 * L2) + L4) 176 ∧ (((v 42 0 (Int32.toNatClampNeg ((10 * L1) + L4))) = (v 42 0 (Int32.toNatClampNeg ((10 * L2) + L4))) → (I53 (L4 + 1) v)) ∧ (¬ (v 42 0 (Int32.toNatClampNeg ((10 * L1) + L4))) = (v 42 0 (Int32.toNatClampNeg ((10 * L2) + L4))) → (Q 0 v))))))))
theorem sX7_isSame_53 (C : gC p l s m args meth c cX7_isSame 5 RX7 L sz) (hr : meth.sig.returnType = (some .boolean)) (hno : ∀ x ∈ c.exceptionTable.toList, False) {L1 : Int32} {L2 : Int32} {L4 : Int32} {v : gMem} {Q : Int32 → gMem → Prop} {X : String → gMem → Prop} {I53 : Int32 → gMem → Prop} (hI53 : ∀ (L4 : Int32) (v : gMem), I53 L4 v → gS p l e ({ frames := 0, cells := 0, slots := 0, locals := 0 } : Room) s m args below meth c 5 L sz (vx_MQ below (gQi L sz Q) (gXC L sz X) args s 0 0 (gA L sz)) 0 0 53 [(0, .ref (L.2.1 7 0)), (1, .int L1), (2, .int L2), (4, .int L4)] [] v) (h : BX7_isSame_53 I53 L1 L2 L4 v Q X) : gS p l e ({ frames := 0, cells := 0, slots := 0, locals := 0 } : Room) s m args below meth c 5 L sz (vx_MQ below (gQi L sz Q) (gXC L sz X) args s 0 0 (gA L sz)) 0 0 53 [(0, .ref (L.2.1 7 0)), (1, .int L1), (2, .int L2), (4, .int L4)] [] v := by
  unfold BX7_isSame_53 at h
  refine g_iload C 3 rfl dX7_isSame_53 ?_
  refine g_aload_n C 0 rfl 0 rfl dX7_isSame_55 ?_
  refine fgX7_20 C dX7_isSame_56 ?_
  refine g_iload_n C 1 rfl 1 rfl dX7_isSame_59 ?_
  obtain ⟨hb60, h⟩ := h
  refine g_iald C gok_32 rfl hb60 dX7_isSame_60 ?_
  refine g_icmp_ge C 99 (by decide) dX7_isSame_61 (fun hc => ?_) (fun hc => ?_)
  · replace h := h.1 hc
    refine g_iconst C 1 (by decide) dX7_isSame_99 ?_
    exact g_iret C hr rfl (Nat.le_of_ble_eq_true rfl) (Nat.le_of_ble_eq_true rfl) h dX7_isSame_100
  · replace h := h.2 hc
    refine g_aload_n C 0 rfl 0 rfl dX7_isSame_64 ?_
    refine fgX7_50 C dX7_isSame_65 ?_
    refine g_bipush C 10 (by decide) dX7_isSame_68 ?_
    refine g_iload_n C 1 rfl 1 rfl dX7_isSame_70 ?_
    refine g_imul C dX7_isSame_71 ?_
    refine g_iload C 3 rfl dX7_isSame_72 ?_
    refine g_iadd C dX7_isSame_74 ?_
    obtain ⟨hb75, h⟩ := h
    refine g_cald C gok_42 rfl hb75 dX7_isSame_75 ?_
    refine g_aload_n C 0 rfl 0 rfl dX7_isSame_76 ?_
    refine fgX7_50 C dX7_isSame_77 ?_
    refine g_bipush C 10 (by decide) dX7_isSame_80 ?_
    refine g_iload_n C 2 rfl 2 rfl dX7_isSame_82 ?_
    refine g_imul C dX7_isSame_83 ?_
    refine g_iload C 3 rfl dX7_isSame_84 ?_
    refine g_iadd C dX7_isSame_86 ?_
    obtain ⟨hb87, h⟩ := h
    refine g_cald C gok_42 rfl hb87 dX7_isSame_87 ?_
    refine g_icmp_eq C 93 (by decide) dX7_isSame_88 (fun hc => ?_) (fun hc => ?_)
    · replace h := h.1 hc
      refine g_iinc C (k := 3) (L4 + 1) [(4, .int (L4 + 1)), (0, .ref (L.2.1 7 0)), (1, .int L1), (2, .int L2)] rfl rfl (Nat.le_of_ble_eq_true rfl) rfl dX7_isSame_93 ?_
      refine g_goto C 53 (by decide) dX7_isSame_96 ?_
      refine g_sub [(0, .ref (L.2.1 7 0)), (1, .int L1), (2, .int L2), (4, .int (L4 + 1))] [1, 2, 3, 0] rfl ?_
      exact hI53 _ _ h
    · replace h := h.2 hc
      refine g_iconst C 0 (by decide) dX7_isSame_91 ?_
      exact g_iret C hr rfl (Nat.le_of_ble_eq_true rfl) (Nat.le_of_ble_eq_true rfl) h dX7_isSame_92
def LX7_isSame_53 (L1 : Int32) (L2 : Int32) (L4 : Int32) (v : gMem) (Q : Int32 → gMem → Prop) (X : String → gMem → Prop) : Prop := ∀ I53 : Int32 → gMem → Prop, (∀ (L4 : Int32) (v : gMem), BX7_isSame_53 I53 L1 L2 L4 v Q X → I53 L4 v) → I53 L4 v
theorem slX7_isSame_53 (C : gC p l s m args meth c cX7_isSame 5 RX7 L sz) (hr : meth.sig.returnType = (some .boolean)) (hno : ∀ x ∈ c.exceptionTable.toList, False) {L1 : Int32} {L2 : Int32} {L4 : Int32} {v : gMem} {Q : Int32 → gMem → Prop} {X : String → gMem → Prop} (h : LX7_isSame_53 L1 L2 L4 v Q X) : gS p l e ({ frames := 0, cells := 0, slots := 0, locals := 0 } : Room) s m args below meth c 5 L sz (vx_MQ below (gQi L sz Q) (gXC L sz X) args s 0 0 (gA L sz)) 0 0 53 [(0, .ref (L.2.1 7 0)), (1, .int L1), (2, .int L2), (4, .int L4)] [] v := by
  refine h (fun L4 v => gS p l e ({ frames := 0, cells := 0, slots := 0, locals := 0 } : Room) s m args below meth c 5 L sz (vx_MQ below (gQi L sz Q) (gXC L sz X) args s 0 0 (gA L sz)) 0 0 53 [(0, .ref (L.2.1 7 0)), (1, .int L1), (2, .int L2), (4, .int L4)] [] v) (fun L4 v hb => ?_)
  exact sX7_isSame_53 C hr hno (fun _ _ hs => hs) hb
def BX7_isSame_32 (t0 : Int32) (v : gMem) (Q : Int32 → gMem → Prop) (X : String → gMem → Prop) : Prop := (narrow .boolean (.int t0) = .int t0 ∧ Q t0 v)
theorem sX7_isSame_32 (C : gC p l s m args meth c cX7_isSame 5 RX7 L sz) (hr : meth.sig.returnType = (some .boolean)) (hno : ∀ x ∈ c.exceptionTable.toList, False) {t0 : Int32} {v : gMem} {Q : Int32 → gMem → Prop} {X : String → gMem → Prop} (h : BX7_isSame_32 t0 v Q X) : gS p l e ({ frames := 0, cells := 0, slots := 0, locals := 0 } : Room) s m args below meth c 5 L sz (vx_MQ below (gQi L sz Q) (gXC L sz X) args s 0 0 (gA L sz)) 0 0 32 [] [.int t0] v := by
  unfold BX7_isSame_32 at h
  exact g_iret C hr h.1 (Nat.le_of_ble_eq_true rfl) (Nat.le_of_ble_eq_true rfl) h.2 dX7_isSame_32
def TX7_isSame (L1 : Int32) (L2 : Int32) (L3 : Int32) (v : gMem) (Q : Int32 → gMem → Prop) (X : String → gMem → Prop) : Prop := ((L3 ≤ 0 → (vp_in L1 16 ∧ (vp_in L2 16 ∧ (((v 32 0 (Int32.toNatClampNeg L1)) = (v 32 0 (Int32.toNatClampNeg L2)) → (LX7_isSame_53 L1 L2 0 v Q X)) ∧ (¬ (v 32 0 (Int32.toNatClampNeg L1)) = (v 32 0 (Int32.toNatClampNeg L2)) → (Q 0 v)))))) ∧ (¬ L3 ≤ 0 → (vp_in ((4 * L1) + L3) 64 ∧ (vp_in ((4 * L2) + L3) 64 ∧ ((¬ (v 33 0 (Int32.toNatClampNeg ((4 * L1) + L3))) = (v 33 0 (Int32.toNatClampNeg ((4 * L2) + L3))) → (BX7_isSame_32 0 v Q X)) ∧ ((v 33 0 (Int32.toNatClampNeg ((4 * L1) + L3))) = (v 33 0 (Int32.toNatClampNeg ((4 * L2) + L3))) → (BX7_isSame_32 1 v Q X)))))))
theorem kX7_isSame (l : Launch) (hfl : l.stackTraces = false) (L : gL) (hL : gDist L) (L1 : Int32) (L2 : Int32) (L3 : Int32) (v : gMem) (Q : Int32 → gMem → Prop) (X : String → gMem → Prop) (h : TX7_isSame L1 L2 L3 v Q X) (sz : Nat) : vx_Met l yX7_isSame [.code yX7_isSame cX7_isSame 5 (some .boolean)] ({ frames := 0, cells := 0, slots := 0, locals := 0 } : Room) (gPc L sz [.ref (L.2.1 7 0), .int L1, .int L2, .int L3] v) (gQi L sz Q) (gXC L sz X) 0 0 (gA L sz) := by
  refine g_ofW (by decide +kernel) hfl hL (Nat.le_of_ble_eq_true rfl) ?_
  intro p e s m args below meth c C hr hno
  refine g_sub [(0, .ref (L.2.1 7 0)), (1, .int L1), (2, .int L2), (3, .int L3)] [0, 1, 2, 3] rfl ?_
  unfold TX7_isSame at h
  refine g_iload_n C 3 rfl 3 rfl dX7_isSame_0 ?_
  refine g_if_le C 33 (by decide) dX7_isSame_1 (fun hc => ?_) (fun hc => ?_)
  · replace h := h.1 hc
    refine g_aload_n C 0 rfl 0 rfl dX7_isSame_33 ?_
    refine fgX7_20 C dX7_isSame_34 ?_
    refine g_iload_n C 1 rfl 1 rfl dX7_isSame_37 ?_
    obtain ⟨hb38, h⟩ := h
    refine g_iald C gok_32 rfl hb38 dX7_isSame_38 ?_
    refine g_aload_n C 0 rfl 0 rfl dX7_isSame_39 ?_
    refine fgX7_20 C dX7_isSame_40 ?_
    refine g_iload_n C 2 rfl 2 rfl dX7_isSame_43 ?_
    obtain ⟨hb44, h⟩ := h
    refine g_iald C gok_32 rfl hb44 dX7_isSame_44 ?_
    refine g_icmp_eq C 50 (by decide) dX7_isSame_45 (fun hc => ?_) (fun hc => ?_)
    · replace h := h.1 hc
      refine g_iconst C 0 (by decide) dX7_isSame_50 ?_
      refine g_istore C [(4, .int 0), (0, .ref (L.2.1 7 0)), (1, .int L1), (2, .int L2), (3, .int L3)] (Nat.le_of_ble_eq_true rfl) rfl dX7_isSame_51 ?_
      refine g_sub [(0, .ref (L.2.1 7 0)), (1, .int L1), (2, .int L2), (4, .int 0)] [1, 2, 3, 0] rfl ?_
      exact slX7_isSame_53 C hr hno h
    · replace h := h.2 hc
      refine g_iconst C 0 (by decide) dX7_isSame_48 ?_
      exact g_iret C hr rfl (Nat.le_of_ble_eq_true rfl) (Nat.le_of_ble_eq_true rfl) h dX7_isSame_49
  · replace h := h.2 hc
    refine g_aload_n C 0 rfl 0 rfl dX7_isSame_4 ?_
    refine fgX7_23 C dX7_isSame_5 ?_
    refine g_iconst C 4 (by decide) dX7_isSame_8 ?_
    refine g_iload_n C 1 rfl 1 rfl dX7_isSame_9 ?_
    refine g_imul C dX7_isSame_10 ?_
    refine g_iload_n C 3 rfl 3 rfl dX7_isSame_11 ?_
    refine g_iadd C dX7_isSame_12 ?_
    obtain ⟨hb13, h⟩ := h
    refine g_iald C gok_33 rfl hb13 dX7_isSame_13 ?_
    refine g_aload_n C 0 rfl 0 rfl dX7_isSame_14 ?_
    refine fgX7_23 C dX7_isSame_15 ?_
    refine g_iconst C 4 (by decide) dX7_isSame_18 ?_
    refine g_iload_n C 2 rfl 2 rfl dX7_isSame_19 ?_
    refine g_imul C dX7_isSame_20 ?_
    refine g_iload_n C 3 rfl 3 rfl dX7_isSame_21 ?_
    refine g_iadd C dX7_isSame_22 ?_
    obtain ⟨hb23, h⟩ := h
    refine g_iald C gok_33 rfl hb23 dX7_isSame_23 ?_
    refine g_icmp_ne C 31 (by decide) dX7_isSame_24 (fun hc => ?_) (fun hc => ?_)
    · replace h := h.1 hc
      refine g_iconst C 0 (by decide) dX7_isSame_31 ?_
      refine g_sub [] [] rfl ?_
      exact sX7_isSame_32 C hr hno h
    · replace h := h.2 hc
      refine g_iconst C 1 (by decide) dX7_isSame_27 ?_
      refine g_goto C 32 (by decide) dX7_isSame_28 ?_
      refine g_sub [] [] rfl ?_
      exact sX7_isSame_32 C hr hno h
def BX7_scoreOf_131 (I5 : Int32 → Int32 → gMem → Prop) (L1 : Int32) (L2 : Int32) (L3 : Int32) (L4 : Int32) (v : gMem) (Q : Int32 → gMem → Prop) (X : String → gMem → Prop) : Prop := (I5 L3 (L4 + 1) v)
theorem sX7_scoreOf_131 (C : gC p l s m args meth c cX7_scoreOf 5 RX7 L sz) (hr : meth.sig.returnType = (some .int)) (hno : ∀ x ∈ c.exceptionTable.toList, False) {L1 : Int32} {L2 : Int32} {L3 : Int32} {L4 : Int32} {v : gMem} {Q : Int32 → gMem → Prop} {X : String → gMem → Prop} {I5 : Int32 → Int32 → gMem → Prop} (hI5 : ∀ (L3 : Int32) (L4 : Int32) (v : gMem), I5 L3 L4 v → gS p l e ({ frames := 3, cells := 0, slots := 0, locals := 72 } : Room) s m args below meth c 5 L sz (vx_MQ below (gQi L sz Q) (gXC L sz X) args s 0 0 (gA L sz)) 0 0 5 [(0, .ref (L.2.1 7 0)), (1, .int L1), (2, .int L2), (3, .int L3), (4, .int L4)] [] v) (h : BX7_scoreOf_131 I5 L1 L2 L3 L4 v Q X) : gS p l e ({ frames := 3, cells := 0, slots := 0, locals := 72 } : Room) s m args below meth c 5 L sz (vx_MQ below (gQi L sz Q) (gXC L sz X) args s 0 0 (gA L sz)) 0 0 131 [(0, .ref (L.2.1 7 0)), (1, .int L1), (2, .int L2), (3, .int L3), (4, .int L4)] [] v := by
  unfold BX7_scoreOf_131 at h
  refine g_iinc C (k := 4) (L4 + 1) [(4, .int (L4 + 1)), (0, .ref (L.2.1 7 0)), (1, .int L1), (2, .int L2), (3, .int L3)] rfl rfl (Nat.le_of_ble_eq_true rfl) rfl dX7_scoreOf_131 ?_
  refine g_goto C 5 (by decide) dX7_scoreOf_134 ?_
  refine g_sub [(0, .ref (L.2.1 7 0)), (1, .int L1), (2, .int L2), (3, .int L3), (4, .int (L4 + 1))] [1, 2, 3, 4, 0] rfl ?_
  exact hI5 _ _ _ h
def BX7_scoreOf_121 (I5 : Int32 → Int32 → gMem → Prop) (L1 : Int32) (L2 : Int32) (L3 : Int32) (L4 : Int32) (v : gMem) (Q : Int32 → gMem → Prop) (X : String → gMem → Prop) : Prop := (vp_in L4 4 ∧ (BX7_scoreOf_131 I5 L1 L2 (L3 + (v 35 0 (Int32.toNatClampNeg L4))) L4 v Q X))
theorem sX7_scoreOf_121 (C : gC p l s m args meth c cX7_scoreOf 5 RX7 L sz) (hr : meth.sig.returnType = (some .int)) (hno : ∀ x ∈ c.exceptionTable.toList, False) {L1 : Int32} {L2 : Int32} {L3 : Int32} {L4 : Int32} {v : gMem} {Q : Int32 → gMem → Prop} {X : String → gMem → Prop} {I5 : Int32 → Int32 → gMem → Prop} (hI5 : ∀ (L3 : Int32) (L4 : Int32) (v : gMem), I5 L3 L4 v → gS p l e ({ frames := 3, cells := 0, slots := 0, locals := 72 } : Room) s m args below meth c 5 L sz (vx_MQ below (gQi L sz Q) (gXC L sz X) args s 0 0 (gA L sz)) 0 0 5 [(0, .ref (L.2.1 7 0)), (1, .int L1), (2, .int L2), (3, .int L3), (4, .int L4)] [] v) (h : BX7_scoreOf_121 I5 L1 L2 L3 L4 v Q X) : gS p l e ({ frames := 3, cells := 0, slots := 0, locals := 72 } : Room) s m args below meth c 5 L sz (vx_MQ below (gQi L sz Q) (gXC L sz X) args s 0 0 (gA L sz)) 0 0 121 [(0, .ref (L.2.1 7 0)), (1, .int L1), (2, .int L2), (3, .int L3), (4, .int L4)] [] v := by
  unfold BX7_scoreOf_121 at h
  refine g_iload_n C 3 rfl 3 rfl dX7_scoreOf_121 ?_
  refine g_aload_n C 0 rfl 0 rfl dX7_scoreOf_122 ?_
  refine fgX7_29 C dX7_scoreOf_123 ?_
  refine g_iload C 4 rfl dX7_scoreOf_126 ?_
  obtain ⟨hb128, h⟩ := h
  refine g_iald C gok_35 rfl hb128 dX7_scoreOf_128 ?_
  refine g_iadd C dX7_scoreOf_129 ?_
  refine g_istore_n C 3 rfl [(3, .int (L3 + (v 35 0 (Int32.toNatClampNeg L4)))), (0, .ref (L.2.1 7 0)), (1, .int L1), (2, .int L2), (4, .int L4)] (Nat.le_of_ble_eq_true rfl) rfl dX7_scoreOf_130 ?_
  refine g_sub [(0, .ref (L.2.1 7 0)), (1, .int L1), (2, .int L2), (3, .int (L3 + (v 35 0 (Int32.toNatClampNeg L4)))), (4, .int L4)] [1, 2, 3, 0, 4] rfl ?_
  exact sX7_scoreOf_131 C hr hno hI5 h
def BX7_scoreOf_116 (I5 : Int32 → Int32 → gMem → Prop) (L1 : Int32) (L2 : Int32) (L4 : Int32) (t0 : Int32) (t1 : Int32) (v : gMem) (Q : Int32 → gMem → Prop) (X : String → gMem → Prop) : Prop := (BX7_scoreOf_131 I5 L1 L2 (t0 + t1) L4 v Q X)
theorem sX7_scoreOf_116 (C : gC p l s m args meth c cX7_scoreOf 5 RX7 L sz) (hr : meth.sig.returnType = (some .int)) (hno : ∀ x ∈ c.exceptionTable.toList, False) {L1 : Int32} {L2 : Int32} {L4 : Int32} {t0 : Int32} {t1 : Int32} {v : gMem} {Q : Int32 → gMem → Prop} {X : String → gMem → Prop} {I5 : Int32 → Int32 → gMem → Prop} (hI5 : ∀ (L3 : Int32) (L4 : Int32) (v : gMem), I5 L3 L4 v → gS p l e ({ frames := 3, cells := 0, slots := 0, locals := 72 } : Room) s m args below meth c 5 L sz (vx_MQ below (gQi L sz Q) (gXC L sz X) args s 0 0 (gA L sz)) 0 0 5 [(0, .ref (L.2.1 7 0)), (1, .int L1), (2, .int L2), (3, .int L3), (4, .int L4)] [] v) (h : BX7_scoreOf_116 I5 L1 L2 L4 t0 t1 v Q X) : gS p l e ({ frames := 3, cells := 0, slots := 0, locals := 72 } : Room) s m args below meth c 5 L sz (vx_MQ below (gQi L sz Q) (gXC L sz X) args s 0 0 (gA L sz)) 0 0 116 [(0, .ref (L.2.1 7 0)), (1, .int L1), (2, .int L2), (4, .int L4)] [.int t1, .int t0] v := by
  unfold BX7_scoreOf_116 at h
  refine g_iadd C dX7_scoreOf_116 ?_
  refine g_istore_n C 3 rfl [(3, .int (t0 + t1)), (0, .ref (L.2.1 7 0)), (1, .int L1), (2, .int L2), (4, .int L4)] (Nat.le_of_ble_eq_true rfl) rfl dX7_scoreOf_117 ?_
  refine g_goto C 131 (by decide) dX7_scoreOf_118 ?_
  refine g_sub [(0, .ref (L.2.1 7 0)), (1, .int L1), (2, .int L2), (3, .int (t0 + t1)), (4, .int L4)] [1, 2, 3, 0, 4] rfl ?_
  exact sX7_scoreOf_131 C hr hno hI5 h
def BX7_scoreOf_5 (I5 : Int32 → Int32 → gMem → Prop) (L1 : Int32) (L2 : Int32) (L3 : Int32) (L4 : Int32) (v : gMem) (Q : Int32 → gMem → Prop) (X : String → gMem → Prop) : Prop := ((4 ≤ L4 → (Q L3 v)) ∧ (¬ 4 ≤ L4 → (TX7_has L1 L4 v (fun r15 v15 => ((r15 = 0 → (BX7_scoreOf_131 I5 L1 L2 L3 L4 v15 Q X)) ∧ (¬ r15 = 0 → (TX7_has L2 L4 v15 (fun r25 v25 => ((¬ r25 = 0 → (TX7_isSame L1 L2 L4 v25 (fun r39 v39 => ((r39 = 0 → ((¬ L4 = 0 → (BX7_scoreOf_121 I5 L1 L2 L3 L4 v39 Q X)) ∧ (L4 = 0 → (vp_in L1 16 ∧ (vp_in L2 16 ∧ (TX7_isSameSound L1 (v39 32 0 (Int32.toNatClampNeg L1)) L2 (v39 32 0 (Int32.toNatClampNeg L2)) v39 (fun r78 v78 => ((r78 = 0 → (BX7_scoreOf_121 I5 L1 L2 L3 L4 v78 Q X)) ∧ (¬ r78 = 0 → (vp_in 0 4 ∧ ((0 ≤ (v78 34 0 (Int32.toNatClampNeg 0)) → (vp_in 0 4 ∧ (¬ (2 : Int32) = 0 ∧ (BX7_scoreOf_116 I5 L1 L2 L4 L3 ((v78 34 0 (Int32.toNatClampNeg 0)) / 2) v78 Q X)))) ∧ (¬ 0 ≤ (v78 34 0 (Int32.toNatClampNeg 0)) → (vp_in 0 4 ∧ (¬ (2 : Int32) = 0 ∧ (BX7_scoreOf_116 I5 L1 L2 L4 L3 (-((1 - (v78 34 0 (Int32.toNatClampNeg 0))) / 2)) v78 Q X))))))))) X)))))) ∧ (¬ r39 = 0 → (vp_in L4 4 ∧ (BX7_scoreOf_131 I5 L1 L2 (L3 + (v39 34 0 (Int32.toNatClampNeg L4))) L4 v39 Q X))))) X)) ∧ (r25 = 0 → (BX7_scoreOf_131 I5 L1 L2 L3 L4 v25 Q X)))) X)))) X)))
theorem sX7_scoreOf_5 (C : gC p l s m args meth c cX7_scoreOf 5 RX7 L sz) (hr : meth.sig.returnType = (some .int)) (hno : ∀ x ∈ c.exceptionTable.toList, False) {L1 : Int32} {L2 : Int32} {L3 : Int32} {L4 : Int32} {v : gMem} {Q : Int32 → gMem → Prop} {X : String → gMem → Prop} {I5 : Int32 → Int32 → gMem → Prop} (hI5 : ∀ (L3 : Int32) (L4 : Int32) (v : gMem), I5 L3 L4 v → gS p l e ({ frames := 3, cells := 0, slots := 0, locals := 72 } : Room) s m args below meth c 5 L sz (vx_MQ below (gQi L sz Q) (gXC L sz X) args s 0 0 (gA L sz)) 0 0 5 [(0, .ref (L.2.1 7 0)), (1, .int L1), (2, .int L2), (3, .int L3), (4, .int L4)] [] v) (h : BX7_scoreOf_5 I5 L1 L2 L3 L4 v Q X) : gS p l e ({ frames := 3, cells := 0, slots := 0, locals := 72 } : Room) s m args below meth c 5 L sz (vx_MQ below (gQi L sz Q) (gXC L sz X) args s 0 0 (gA L sz)) 0 0 5 [(0, .ref (L.2.1 7 0)), (1, .int L1), (2, .int L2), (3, .int L3), (4, .int L4)] [] v := by
  unfold BX7_scoreOf_5 at h
  refine g_iload C 4 rfl dX7_scoreOf_5 ?_
  refine g_iconst C 4 (by decide) dX7_scoreOf_7 ?_
  refine g_icmp_ge C 137 (by decide) dX7_scoreOf_8 (fun hc => ?_) (fun hc => ?_)
  · replace h := h.1 hc
    refine g_iload_n C 3 rfl 3 rfl dX7_scoreOf_137 ?_
    exact g_iret C hr rfl (Nat.le_of_ble_eq_true rfl) (Nat.le_of_ble_eq_true rfl) h dX7_scoreOf_138
  · replace h := h.2 hc
    refine g_aload_n C 0 rfl 0 rfl dX7_scoreOf_11 ?_
    refine g_iload_n C 1 rfl 1 rfl dX7_scoreOf_12 ?_
    refine g_iload C 4 rfl dX7_scoreOf_13 ?_
    refine g_callVi C hno gok_7 rfl rfl [.int L1, .int L4] (fun sz9 => kX7_has l C.2.2.2.2.2.2.1 L C.2.2.2.2.2.2.2.1 L1 L4 v _ X h sz9) wml_RX7_97 winst_X7_has wsel_X7_has wini_RX7 wcode_X7_has rfl rfl (n := 2) (by decide +kernel) rfl ⟨(Nat.le_of_ble_eq_true rfl), (Nat.le_of_ble_eq_true rfl)⟩ ⟨(Nat.le_of_ble_eq_true rfl), (Nat.le_of_ble_eq_true rfl)⟩ ⟨(Nat.le_of_ble_eq_true rfl), (Nat.le_of_ble_eq_true rfl)⟩ (Nat.le_of_ble_eq_true rfl) dX7_scoreOf_15 (fun r15 v15 h => ?_)
    refine g_if_eq C 131 (by decide) dX7_scoreOf_18 (fun hc => ?_) (fun hc => ?_)
    · replace h := h.1 hc
      exact sX7_scoreOf_131 C hr hno hI5 h
    · replace h := h.2 hc
      refine g_aload_n C 0 rfl 0 rfl dX7_scoreOf_21 ?_
      refine g_iload_n C 2 rfl 2 rfl dX7_scoreOf_22 ?_
      refine g_iload C 4 rfl dX7_scoreOf_23 ?_
      refine g_callVi C hno gok_7 rfl rfl [.int L2, .int L4] (fun sz9 => kX7_has l C.2.2.2.2.2.2.1 L C.2.2.2.2.2.2.2.1 L2 L4 v15 _ X h sz9) wml_RX7_97 winst_X7_has wsel_X7_has wini_RX7 wcode_X7_has rfl rfl (n := 2) (by decide +kernel) rfl ⟨(Nat.le_of_ble_eq_true rfl), (Nat.le_of_ble_eq_true rfl)⟩ ⟨(Nat.le_of_ble_eq_true rfl), (Nat.le_of_ble_eq_true rfl)⟩ ⟨(Nat.le_of_ble_eq_true rfl), (Nat.le_of_ble_eq_true rfl)⟩ (Nat.le_of_ble_eq_true rfl) dX7_scoreOf_25 (fun r25 v25 h => ?_)
      refine g_if_ne C 34 (by decide) dX7_scoreOf_28 (fun hc => ?_) (fun hc => ?_)
      · replace h := h.1 hc
        refine g_aload_n C 0 rfl 0 rfl dX7_scoreOf_34 ?_
        refine g_iload_n C 1 rfl 1 rfl dX7_scoreOf_35 ?_
        refine g_iload_n C 2 rfl 2 rfl dX7_scoreOf_36 ?_
        refine g_iload C 4 rfl dX7_scoreOf_37 ?_
        refine g_callVi C hno gok_7 rfl rfl [.int L1, .int L2, .int L4] (fun sz9 => kX7_isSame l C.2.2.2.2.2.2.1 L C.2.2.2.2.2.2.2.1 L1 L2 L4 v25 _ X h sz9) wml_RX7_101 winst_X7_isSame wsel_X7_isSame wini_RX7 wcode_X7_isSame rfl rfl (n := 3) (by decide +kernel) rfl ⟨(Nat.le_of_ble_eq_true rfl), (Nat.le_of_ble_eq_true rfl)⟩ ⟨(Nat.le_of_ble_eq_true rfl), (Nat.le_of_ble_eq_true rfl)⟩ ⟨(Nat.le_of_ble_eq_true rfl), (Nat.le_of_ble_eq_true rfl)⟩ (Nat.le_of_ble_eq_true rfl) dX7_scoreOf_39 (fun r39 v39 h => ?_)
        refine g_if_eq C 58 (by decide) dX7_scoreOf_42 (fun hc => ?_) (fun hc => ?_)
        · replace h := h.1 hc
          refine g_iload C 4 rfl dX7_scoreOf_58 ?_
          refine g_if_ne C 121 (by decide) dX7_scoreOf_60 (fun hc => ?_) (fun hc => ?_)
          · replace h := h.1 hc
            exact sX7_scoreOf_121 C hr hno hI5 h
          · replace h := h.2 hc
            refine g_aload_n C 0 rfl 0 rfl dX7_scoreOf_63 ?_
            refine g_iload_n C 1 rfl 1 rfl dX7_scoreOf_64 ?_
            refine g_aload_n C 0 rfl 0 rfl dX7_scoreOf_65 ?_
            refine fgX7_20 C dX7_scoreOf_66 ?_
            refine g_iload_n C 1 rfl 1 rfl dX7_scoreOf_69 ?_
            obtain ⟨hb70, h⟩ := h
            refine g_iald C gok_32 rfl hb70 dX7_scoreOf_70 ?_
            refine g_iload_n C 2 rfl 2 rfl dX7_scoreOf_71 ?_
            refine g_aload_n C 0 rfl 0 rfl dX7_scoreOf_72 ?_
            refine fgX7_20 C dX7_scoreOf_73 ?_
            refine g_iload_n C 2 rfl 2 rfl dX7_scoreOf_76 ?_
            obtain ⟨hb77, h⟩ := h
            refine g_iald C gok_32 rfl hb77 dX7_scoreOf_77 ?_
            refine g_callVi C hno gok_7 rfl rfl [.int L1, .int (v39 32 0 (Int32.toNatClampNeg L1)), .int L2, .int (v39 32 0 (Int32.toNatClampNeg L2))] (fun sz9 => kX7_isSameSound l C.2.2.2.2.2.2.1 L C.2.2.2.2.2.2.2.1 L1 (v39 32 0 (Int32.toNatClampNeg L1)) L2 (v39 32 0 (Int32.toNatClampNeg L2)) v39 _ X h sz9) wml_RX7_104 winst_X7_isSameSound wsel_X7_isSameSound wini_RX7 wcode_X7_isSameSound rfl rfl (n := 4) (by decide +kernel) rfl ⟨(Nat.le_of_ble_eq_true rfl), (Nat.le_of_ble_eq_true rfl)⟩ ⟨(Nat.le_of_ble_eq_true rfl), (Nat.le_of_ble_eq_true rfl)⟩ ⟨(Nat.le_of_ble_eq_true rfl), (Nat.le_of_ble_eq_true rfl)⟩ (Nat.le_of_ble_eq_true rfl) dX7_scoreOf_78 (fun r78 v78 h => ?_)
            refine g_if_eq C 121 (by decide) dX7_scoreOf_81 (fun hc => ?_) (fun hc => ?_)
            · replace h := h.1 hc
              exact sX7_scoreOf_121 C hr hno hI5 h
            · replace h := h.2 hc
              refine g_iload_n C 3 rfl 3 rfl dX7_scoreOf_84 ?_
              refine g_aload_n C 0 rfl 0 rfl dX7_scoreOf_85 ?_
              refine fgX7_26 C dX7_scoreOf_86 ?_
              refine g_iconst C 0 (by decide) dX7_scoreOf_89 ?_
              obtain ⟨hb90, h⟩ := h
              refine g_iald C gok_34 rfl hb90 dX7_scoreOf_90 ?_
              refine g_if_ge C 108 (by decide) dX7_scoreOf_91 (fun hc => ?_) (fun hc => ?_)
              · replace h := h.1 hc
                refine g_aload_n C 0 rfl 0 rfl dX7_scoreOf_108 ?_
                refine fgX7_26 C dX7_scoreOf_109 ?_
                refine g_iconst C 0 (by decide) dX7_scoreOf_112 ?_
                obtain ⟨hb113, h⟩ := h
                refine g_iald C gok_34 rfl hb113 dX7_scoreOf_113 ?_
                refine g_iconst C 2 (by decide) dX7_scoreOf_114 ?_
                obtain ⟨hb115, h⟩ := h
                refine g_idiv C hb115 dX7_scoreOf_115 ?_
                refine g_sub [(0, .ref (L.2.1 7 0)), (1, .int L1), (2, .int L2), (4, .int L4)] [0, 1, 2, 4] rfl ?_
                exact sX7_scoreOf_116 C hr hno hI5 h
              · replace h := h.2 hc
                refine g_iconst C 1 (by decide) dX7_scoreOf_94 ?_
                refine g_aload_n C 0 rfl 0 rfl dX7_scoreOf_95 ?_
                refine fgX7_26 C dX7_scoreOf_96 ?_
                refine g_iconst C 0 (by decide) dX7_scoreOf_99 ?_
                obtain ⟨hb100, h⟩ := h
                refine g_iald C gok_34 rfl hb100 dX7_scoreOf_100 ?_
                refine g_isub C dX7_scoreOf_101 ?_
                refine g_iconst C 2 (by decide) dX7_scoreOf_102 ?_
                obtain ⟨hb103, h⟩ := h
                refine g_idiv C hb103 dX7_scoreOf_103 ?_
                refine g_ineg C dX7_scoreOf_104 ?_
                refine g_goto C 116 (by decide) dX7_scoreOf_105 ?_
                refine g_sub [(0, .ref (L.2.1 7 0)), (1, .int L1), (2, .int L2), (4, .int L4)] [0, 1, 2, 4] rfl ?_
                exact sX7_scoreOf_116 C hr hno hI5 h
        · replace h := h.2 hc
          refine g_iload_n C 3 rfl 3 rfl dX7_scoreOf_45 ?_
          refine g_aload_n C 0 rfl 0 rfl dX7_scoreOf_46 ?_
          refine fgX7_26 C dX7_scoreOf_47 ?_
          refine g_iload C 4 rfl dX7_scoreOf_50 ?_
          obtain ⟨hb52, h⟩ := h
          refine g_iald C gok_34 rfl hb52 dX7_scoreOf_52 ?_
          refine g_iadd C dX7_scoreOf_53 ?_
          refine g_istore_n C 3 rfl [(3, .int (L3 + (v39 34 0 (Int32.toNatClampNeg L4)))), (0, .ref (L.2.1 7 0)), (1, .int L1), (2, .int L2), (4, .int L4)] (Nat.le_of_ble_eq_true rfl) rfl dX7_scoreOf_54 ?_
          refine g_goto C 131 (by decide) dX7_scoreOf_55 ?_
          refine g_sub [(0, .ref (L.2.1 7 0)), (1, .int L1), (2, .int L2), (3, .int (L3 + (v39 34 0 (Int32.toNatClampNeg L4)))), (4, .int L4)] [1, 2, 3, 0, 4] rfl ?_
          exact sX7_scoreOf_131 C hr hno hI5 h
      · replace h := h.2 hc
        refine g_goto C 131 (by decide) dX7_scoreOf_31 ?_
        exact sX7_scoreOf_131 C hr hno hI5 h
def LX7_scoreOf_5 (L1 : Int32) (L2 : Int32) (L3 : Int32) (L4 : Int32) (v : gMem) (Q : Int32 → gMem → Prop) (X : String → gMem → Prop) : Prop := ∀ I5 : Int32 → Int32 → gMem → Prop, (∀ (L3 : Int32) (L4 : Int32) (v : gMem), BX7_scoreOf_5 I5 L1 L2 L3 L4 v Q X → I5 L3 L4 v) → I5 L3 L4 v
theorem slX7_scoreOf_5 (C : gC p l s m args meth c cX7_scoreOf 5 RX7 L sz) (hr : meth.sig.returnType = (some .int)) (hno : ∀ x ∈ c.exceptionTable.toList, False) {L1 : Int32} {L2 : Int32} {L3 : Int32} {L4 : Int32} {v : gMem} {Q : Int32 → gMem → Prop} {X : String → gMem → Prop} (h : LX7_scoreOf_5 L1 L2 L3 L4 v Q X) : gS p l e ({ frames := 3, cells := 0, slots := 0, locals := 72 } : Room) s m args below meth c 5 L sz (vx_MQ below (gQi L sz Q) (gXC L sz X) args s 0 0 (gA L sz)) 0 0 5 [(0, .ref (L.2.1 7 0)), (1, .int L1), (2, .int L2), (3, .int L3), (4, .int L4)] [] v := by
  refine h (fun L3 L4 v => gS p l e ({ frames := 3, cells := 0, slots := 0, locals := 72 } : Room) s m args below meth c 5 L sz (vx_MQ below (gQi L sz Q) (gXC L sz X) args s 0 0 (gA L sz)) 0 0 5 [(0, .ref (L.2.1 7 0)), (1, .int L1), (2, .int L2), (3, .int L3), (4, .int L4)] [] v) (fun L3 L4 v hb => ?_)
  exact sX7_scoreOf_5 C hr hno (fun _ _ _ hs => hs) hb
def TX7_scoreOf (L1 : Int32) (L2 : Int32) (v : gMem) (Q : Int32 → gMem → Prop) (X : String → gMem → Prop) : Prop := (LX7_scoreOf_5 L1 L2 0 0 v Q X)
theorem kX7_scoreOf (l : Launch) (hfl : l.stackTraces = false) (L : gL) (hL : gDist L) (L1 : Int32) (L2 : Int32) (v : gMem) (Q : Int32 → gMem → Prop) (X : String → gMem → Prop) (h : TX7_scoreOf L1 L2 v Q X) (sz : Nat) : vx_Met l yX7_scoreOf [.code yX7_scoreOf cX7_scoreOf 5 (some .int)] ({ frames := 3, cells := 0, slots := 0, locals := 72 } : Room) (gPc L sz [.ref (L.2.1 7 0), .int L1, .int L2] v) (gQi L sz Q) (gXC L sz X) 0 0 (gA L sz) := by
  refine g_ofW (by decide +kernel) hfl hL (Nat.le_of_ble_eq_true rfl) ?_
  intro p e s m args below meth c C hr hno
  refine g_sub [(0, .ref (L.2.1 7 0)), (1, .int L1), (2, .int L2)] [0, 1, 2] rfl ?_
  unfold TX7_scoreOf at h
  refine g_iconst C 0 (by decide) dX7_scoreOf_0 ?_
  refine g_istore_n C 3 rfl [(3, .int 0), (0, .ref (L.2.1 7 0)), (1, .int L1), (2, .int L2)] (Nat.le_of_ble_eq_true rfl) rfl dX7_scoreOf_1 ?_
  refine g_iconst C 0 (by decide) dX7_scoreOf_2 ?_
  refine g_istore C [(4, .int 0), (3, .int 0), (0, .ref (L.2.1 7 0)), (1, .int L1), (2, .int L2)] (Nat.le_of_ble_eq_true rfl) rfl dX7_scoreOf_3 ?_
  refine g_sub [(0, .ref (L.2.1 7 0)), (1, .int L1), (2, .int L2), (3, .int 0), (4, .int 0)] [2, 3, 4, 1, 0] rfl ?_
  exact slX7_scoreOf_5 C hr hno h
def TX7_score (L1 : Int32) (L2 : Int32) (v : gMem) (Q : Int32 → gMem → Prop) (X : String → gMem → Prop) : Prop := (TX7_noCards L1 L2 v (fun r3 v3 => ((r3 = 0 → ((¬ L1 = L2 → (TX7_scoreOf L1 L2 v3 (fun r25 v25 => (Q r25 v25)) X)) ∧ (L1 = L2 → (TX7_fail 2 v3 (fun r18 v18 => (Q r18 v18)) X)))) ∧ (¬ r3 = 0 → (Q 0 v3)))) X)
theorem kX7_score (l : Launch) (hfl : l.stackTraces = false) (L : gL) (hL : gDist L) (L1 : Int32) (L2 : Int32) (v : gMem) (Q : Int32 → gMem → Prop) (X : String → gMem → Prop) (h : TX7_score L1 L2 v Q X) (sz : Nat) : vx_Met l yX7_score [.code yX7_score cX7_score 3 (some .int)] ({ frames := 4, cells := 0, slots := 0, locals := 96 } : Room) (gPc L sz [.ref (L.2.1 7 0), .int L1, .int L2] v) (gQi L sz Q) (gXC L sz X) 0 0 (gA L sz) := by
  refine g_ofW (by decide +kernel) hfl hL (Nat.le_of_ble_eq_true rfl) ?_
  intro p e s m args below meth c C hr hno
  refine g_sub [(0, .ref (L.2.1 7 0)), (1, .int L1), (2, .int L2)] [0, 1, 2] rfl ?_
  unfold TX7_score at h
  refine g_aload_n C 0 rfl 0 rfl dX7_score_0 ?_
  refine g_iload_n C 1 rfl 1 rfl dX7_score_1 ?_
  refine g_iload_n C 2 rfl 2 rfl dX7_score_2 ?_
  refine g_callVi C hno gok_7 rfl rfl [.int L1, .int L2] (fun sz9 => kX7_noCards l C.2.2.2.2.2.2.1 L C.2.2.2.2.2.2.2.1 L1 L2 v _ X h sz9) wml_RX7_108 winst_X7_noCards wsel_X7_noCards wini_RX7 wcode_X7_noCards rfl rfl (n := 2) (by decide +kernel) rfl ⟨(Nat.le_of_ble_eq_true rfl), (Nat.le_of_ble_eq_true rfl)⟩ ⟨(Nat.le_of_ble_eq_true rfl), (Nat.le_of_ble_eq_true rfl)⟩ ⟨(Nat.le_of_ble_eq_true rfl), (Nat.le_of_ble_eq_true rfl)⟩ (Nat.le_of_ble_eq_true rfl) dX7_score_3 (fun r3 v3 h => ?_)
  refine g_if_eq C 11 (by decide) dX7_score_6 (fun hc => ?_) (fun hc => ?_)
  · replace h := h.1 hc
    refine g_iload_n C 1 rfl 1 rfl dX7_score_11 ?_
    refine g_iload_n C 2 rfl 2 rfl dX7_score_12 ?_
    refine g_icmp_ne C 22 (by decide) dX7_score_13 (fun hc => ?_) (fun hc => ?_)
    · replace h := h.1 hc
      refine g_aload_n C 0 rfl 0 rfl dX7_score_22 ?_
      refine g_iload_n C 1 rfl 1 rfl dX7_score_23 ?_
      refine g_iload_n C 2 rfl 2 rfl dX7_score_24 ?_
      refine g_callVi C hno gok_7 rfl rfl [.int L1, .int L2] (fun sz9 => kX7_scoreOf l C.2.2.2.2.2.2.1 L C.2.2.2.2.2.2.2.1 L1 L2 v3 _ X h sz9) wml_RX7_111 winst_X7_scoreOf wsel_X7_scoreOf wini_RX7 wcode_X7_scoreOf rfl rfl (n := 2) (by decide +kernel) rfl ⟨(Nat.le_of_ble_eq_true rfl), (Nat.le_of_ble_eq_true rfl)⟩ ⟨(Nat.le_of_ble_eq_true rfl), (Nat.le_of_ble_eq_true rfl)⟩ ⟨(Nat.le_of_ble_eq_true rfl), (Nat.le_of_ble_eq_true rfl)⟩ (Nat.le_of_ble_eq_true rfl) dX7_score_25 (fun r25 v25 h => ?_)
      exact g_iret C hr rfl (Nat.le_of_ble_eq_true rfl) (Nat.le_of_ble_eq_true rfl) h dX7_score_28
    · replace h := h.2 hc
      refine g_aload_n C 0 rfl 0 rfl dX7_score_16 ?_
      refine g_iconst C 2 (by decide) dX7_score_17 ?_
      refine g_callVi C hno gok_7 rfl rfl [.int 2] (fun sz9 => kX7_fail l C.2.2.2.2.2.2.1 L C.2.2.2.2.2.2.2.1 2 v3 _ X h sz9) wml_RX7_78 winst_X7_fail wsel_X7_fail wini_RX7 wcode_X7_fail rfl rfl (n := 1) (by decide +kernel) rfl ⟨(Nat.le_of_ble_eq_true rfl), (Nat.le_of_ble_eq_true rfl)⟩ ⟨(Nat.le_of_ble_eq_true rfl), (Nat.le_of_ble_eq_true rfl)⟩ ⟨(Nat.le_of_ble_eq_true rfl), (Nat.le_of_ble_eq_true rfl)⟩ (Nat.le_of_ble_eq_true rfl) dX7_score_18 (fun r18 v18 h => ?_)
      exact g_iret C hr rfl (Nat.le_of_ble_eq_true rfl) (Nat.le_of_ble_eq_true rfl) h dX7_score_21
  · replace h := h.2 hc
    refine g_iconst C 0 (by decide) dX7_score_9 ?_
    exact g_iret C hr rfl (Nat.le_of_ble_eq_true rfl) (Nat.le_of_ble_eq_true rfl) h dX7_score_10
def BX7_gather_155 (I25 : Int32 → gMem → Prop) (I33 : Int32 → Int32 → gMem → Prop) (L1 : Int32) (L2 : Int32) (v : gMem) (Q : gMem → Prop) (X : String → gMem → Prop) : Prop := (I33 L1 (L2 + 1) v)
theorem sX7_gather_155 (C : gC p l s m args meth c cX7_gather 4 RX7 L sz) (hr : meth.sig.returnType = none) (hno : ∀ x ∈ c.exceptionTable.toList, False) {L1 : Int32} {L2 : Int32} {v : gMem} {Q : gMem → Prop} {X : String → gMem → Prop} {I25 : Int32 → gMem → Prop} (hI25 : ∀ (L1 : Int32) (v : gMem), I25 L1 v → gS p l e ({ frames := 0, cells := 0, slots := 0, locals := 0 } : Room) s m args below meth c 4 L sz (vx_MQ below (gQv L sz Q) (gXC L sz X) args s 0 0 (gA L sz)) 0 0 25 [(0, .ref (L.2.1 7 0)), (1, .int L1)] [] v) {I33 : Int32 → Int32 → gMem → Prop} (hI33 : ∀ (L1 : Int32) (L2 : Int32) (v : gMem), I33 L1 L2 v → gS p l e ({ frames := 0, cells := 0, slots := 0, locals := 0 } : Room) s m args below meth c 4 L sz (vx_MQ below (gQv L sz Q) (gXC L sz X) args s 0 0 (gA L sz)) 0 0 33 [(0, .ref (L.2.1 7 0)), (1, .int L1), (2, .int L2)] [] v) (h : BX7_gather_155 I25 I33 L1 L2 v Q X) : gS p l e ({ frames := 0, cells := 0, slots := 0, locals := 0 } : Room) s m args below meth c 4 L sz (vx_MQ below (gQv L sz Q) (gXC L sz X) args s 0 0 (gA L sz)) 0 0 155 [(0, .ref (L.2.1 7 0)), (1, .int L1), (2, .int L2)] [] v := by
  unfold BX7_gather_155 at h
  refine g_iinc C (k := 2) (L2 + 1) [(2, .int (L2 + 1)), (0, .ref (L.2.1 7 0)), (1, .int L1)] rfl rfl (Nat.le_of_ble_eq_true rfl) rfl dX7_gather_155 ?_
  refine g_goto C 33 (by decide) dX7_gather_158 ?_
  refine g_sub [(0, .ref (L.2.1 7 0)), (1, .int L1), (2, .int (L2 + 1))] [1, 2, 0] rfl ?_
  exact hI33 _ _ _ h
def BX7_gather_128 (I25 : Int32 → gMem → Prop) (I33 : Int32 → Int32 → gMem → Prop) (L2 : Int32) (t0 : Int32) (v : gMem) (Q : gMem → Prop) (X : String → gMem → Prop) : Prop := (vp_in L2 30 ∧ (vp_in (v 36 0 (Int32.toNatClampNeg L2)) 16 ∧ (vp_in L2 30 ∧ (vp_in ((gw v 38 0 (Int32.toNatClampNeg (v 36 0 (Int32.toNatClampNeg L2))) t0) 37 0 (Int32.toNatClampNeg L2)) 16 ∧ (BX7_gather_155 I25 I33 1 L2 (gw (gw v 38 0 (Int32.toNatClampNeg (v 36 0 (Int32.toNatClampNeg L2))) t0) 38 0 (Int32.toNatClampNeg ((gw v 38 0 (Int32.toNatClampNeg (v 36 0 (Int32.toNatClampNeg L2))) t0) 37 0 (Int32.toNatClampNeg L2))) t0) Q X)))))
theorem sX7_gather_128 (C : gC p l s m args meth c cX7_gather 4 RX7 L sz) (hr : meth.sig.returnType = none) (hno : ∀ x ∈ c.exceptionTable.toList, False) {L2 : Int32} {t0 : Int32} {v : gMem} {Q : gMem → Prop} {X : String → gMem → Prop} {I25 : Int32 → gMem → Prop} (hI25 : ∀ (L1 : Int32) (v : gMem), I25 L1 v → gS p l e ({ frames := 0, cells := 0, slots := 0, locals := 0 } : Room) s m args below meth c 4 L sz (vx_MQ below (gQv L sz Q) (gXC L sz X) args s 0 0 (gA L sz)) 0 0 25 [(0, .ref (L.2.1 7 0)), (1, .int L1)] [] v) {I33 : Int32 → Int32 → gMem → Prop} (hI33 : ∀ (L1 : Int32) (L2 : Int32) (v : gMem), I33 L1 L2 v → gS p l e ({ frames := 0, cells := 0, slots := 0, locals := 0 } : Room) s m args below meth c 4 L sz (vx_MQ below (gQv L sz Q) (gXC L sz X) args s 0 0 (gA L sz)) 0 0 33 [(0, .ref (L.2.1 7 0)), (1, .int L1), (2, .int L2)] [] v) (h : BX7_gather_128 I25 I33 L2 t0 v Q X) : gS p l e ({ frames := 0, cells := 0, slots := 0, locals := 0 } : Room) s m args below meth c 4 L sz (vx_MQ below (gQv L sz Q) (gXC L sz X) args s 0 0 (gA L sz)) 0 0 128 [(0, .ref (L.2.1 7 0)), (2, .int L2)] [.int t0] v := by
  unfold BX7_gather_128 at h
  refine g_istore_n C 3 rfl [(3, .int t0), (0, .ref (L.2.1 7 0)), (2, .int L2)] (Nat.le_of_ble_eq_true rfl) rfl dX7_gather_128 ?_
  refine g_aload_n C 0 rfl 1 rfl dX7_gather_129 ?_
  refine fgX7_38 C dX7_gather_130 ?_
  refine g_aload_n C 0 rfl 1 rfl dX7_gather_133 ?_
  refine fgX7_32 C dX7_gather_134 ?_
  refine g_iload_n C 2 rfl 2 rfl dX7_gather_137 ?_
  obtain ⟨hb138, h⟩ := h
  refine g_iald C gok_36 rfl hb138 dX7_gather_138 ?_
  refine g_iload_n C 3 rfl 0 rfl dX7_gather_139 ?_
  obtain ⟨hb140, h⟩ := h
  refine g_iast C gok_38 (fun _ => rfl) hb140 dX7_gather_140 ?_
  refine g_aload_n C 0 rfl 1 rfl dX7_gather_141 ?_
  refine fgX7_38 C dX7_gather_142 ?_
  refine g_aload_n C 0 rfl 1 rfl dX7_gather_145 ?_
  refine fgX7_35 C dX7_gather_146 ?_
  refine g_iload_n C 2 rfl 2 rfl dX7_gather_149 ?_
  obtain ⟨hb150, h⟩ := h
  refine g_iald C gok_37 rfl hb150 dX7_gather_150 ?_
  refine g_iload_n C 3 rfl 0 rfl dX7_gather_151 ?_
  obtain ⟨hb152, h⟩ := h
  refine g_iast C gok_38 (fun _ => rfl) hb152 dX7_gather_152 ?_
  refine g_iconst C 1 (by decide) dX7_gather_153 ?_
  refine g_istore_n C 1 rfl [(1, .int 1), (3, .int t0), (0, .ref (L.2.1 7 0)), (2, .int L2)] (Nat.le_of_ble_eq_true rfl) rfl dX7_gather_154 ?_
  refine g_sub [(0, .ref (L.2.1 7 0)), (1, .int 1), (2, .int L2)] [2, 0, 3] rfl ?_
  exact sX7_gather_155 C hr hno hI25 hI33 h
def BX7_gather_33 (I25 : Int32 → gMem → Prop) (I33 : Int32 → Int32 → gMem → Prop) (L1 : Int32) (L2 : Int32) (v : gMem) (Q : gMem → Prop) (X : String → gMem → Prop) : Prop := (((v 7 0 3) ≤ L2 → (I25 L1 v)) ∧ (¬ (v 7 0 3) ≤ L2 → (vp_in L2 30 ∧ (((v 43 0 (Int32.toNatClampNeg L2)) = 0 → (BX7_gather_155 I25 I33 L1 L2 v Q X)) ∧ (¬ (v 43 0 (Int32.toNatClampNeg L2)) = 0 → (vp_in L2 30 ∧ (vp_in (v 36 0 (Int32.toNatClampNeg L2)) 16 ∧ (vp_in L2 30 ∧ (vp_in (v 37 0 (Int32.toNatClampNeg L2)) 16 ∧ ((¬ (v 38 0 (Int32.toNatClampNeg (v 36 0 (Int32.toNatClampNeg L2)))) = (v 38 0 (Int32.toNatClampNeg (v 37 0 (Int32.toNatClampNeg L2)))) → (vp_in L2 30 ∧ (vp_in (v 36 0 (Int32.toNatClampNeg L2)) 16 ∧ (vp_in L2 30 ∧ (vp_in (v 37 0 (Int32.toNatClampNeg L2)) 16 ∧ (((v 38 0 (Int32.toNatClampNeg (v 37 0 (Int32.toNatClampNeg L2)))) ≤ (v 38 0 (Int32.toNatClampNeg (v 36 0 (Int32.toNatClampNeg L2)))) → (vp_in L2 30 ∧ (vp_in (v 37 0 (Int32.toNatClampNeg L2)) 16 ∧ (BX7_gather_128 I25 I33 L2 (v 38 0 (Int32.toNatClampNeg (v 37 0 (Int32.toNatClampNeg L2)))) v Q X)))) ∧ (¬ (v 38 0 (Int32.toNatClampNeg (v 37 0 (Int32.toNatClampNeg L2)))) ≤ (v 38 0 (Int32.toNatClampNeg (v 36 0 (Int32.toNatClampNeg L2)))) → (vp_in L2 30 ∧ (vp_in (v 36 0 (Int32.toNatClampNeg L2)) 16 ∧ (BX7_gather_128 I25 I33 L2 (v 38 0 (Int32.toNatClampNeg (v 36 0 (Int32.toNatClampNeg L2)))) v Q X)))))))))) ∧ ((v 38 0 (Int32.toNatClampNeg (v 36 0 (Int32.toNatClampNeg L2)))) = (v 38 0 (Int32.toNatClampNeg (v 37 0 (Int32.toNatClampNeg L2)))) → (BX7_gather_155 I25 I33 L1 L2 v Q X))))))))))))
theorem sX7_gather_33 (C : gC p l s m args meth c cX7_gather 4 RX7 L sz) (hr : meth.sig.returnType = none) (hno : ∀ x ∈ c.exceptionTable.toList, False) {L1 : Int32} {L2 : Int32} {v : gMem} {Q : gMem → Prop} {X : String → gMem → Prop} {I25 : Int32 → gMem → Prop} (hI25 : ∀ (L1 : Int32) (v : gMem), I25 L1 v → gS p l e ({ frames := 0, cells := 0, slots := 0, locals := 0 } : Room) s m args below meth c 4 L sz (vx_MQ below (gQv L sz Q) (gXC L sz X) args s 0 0 (gA L sz)) 0 0 25 [(0, .ref (L.2.1 7 0)), (1, .int L1)] [] v) {I33 : Int32 → Int32 → gMem → Prop} (hI33 : ∀ (L1 : Int32) (L2 : Int32) (v : gMem), I33 L1 L2 v → gS p l e ({ frames := 0, cells := 0, slots := 0, locals := 0 } : Room) s m args below meth c 4 L sz (vx_MQ below (gQv L sz Q) (gXC L sz X) args s 0 0 (gA L sz)) 0 0 33 [(0, .ref (L.2.1 7 0)), (1, .int L1), (2, .int L2)] [] v) (h : BX7_gather_33 I25 I33 L1 L2 v Q X) : gS p l e ({ frames := 0, cells := 0, slots := 0, locals := 0 } : Room) s m args below meth c 4 L sz (vx_MQ below (gQv L sz Q) (gXC L sz X) args s 0 0 (gA L sz)) 0 0 33 [(0, .ref (L.2.1 7 0)), (1, .int L1), (2, .int L2)] [] v := by
  unfold BX7_gather_33 at h
  refine g_iload_n C 2 rfl 2 rfl dX7_gather_33 ?_
  refine g_aload_n C 0 rfl 0 rfl dX7_gather_34 ?_
  refine fgX7_115 C dX7_gather_35 ?_
  refine g_icmp_ge C 161 (by decide) dX7_gather_38 (fun hc => ?_) (fun hc => ?_)
  · replace h := h.1 hc
    refine g_goto C 25 (by decide) dX7_gather_161 ?_
    refine g_sub [(0, .ref (L.2.1 7 0)), (1, .int L1)] [0, 1] rfl ?_
    exact hI25 _ _ h
  · replace h := h.2 hc
    refine g_aload_n C 0 rfl 0 rfl dX7_gather_41 ?_
    refine fgX7_54 C dX7_gather_42 ?_
    refine g_iload_n C 2 rfl 2 rfl dX7_gather_45 ?_
    obtain ⟨hb46, h⟩ := h
    refine g_zald C gok_43 rfl hb46 dX7_gather_46 ?_
    refine g_if_eq C 155 (by decide) dX7_gather_47 (fun hc => ?_) (fun hc => ?_)
    · replace h := h.1 hc
      exact sX7_gather_155 C hr hno hI25 hI33 h
    · replace h := h.2 hc
      refine g_aload_n C 0 rfl 0 rfl dX7_gather_50 ?_
      refine fgX7_38 C dX7_gather_51 ?_
      refine g_aload_n C 0 rfl 0 rfl dX7_gather_54 ?_
      refine fgX7_32 C dX7_gather_55 ?_
      refine g_iload_n C 2 rfl 2 rfl dX7_gather_58 ?_
      obtain ⟨hb59, h⟩ := h
      refine g_iald C gok_36 rfl hb59 dX7_gather_59 ?_
      obtain ⟨hb60, h⟩ := h
      refine g_iald C gok_38 rfl hb60 dX7_gather_60 ?_
      refine g_aload_n C 0 rfl 0 rfl dX7_gather_61 ?_
      refine fgX7_38 C dX7_gather_62 ?_
      refine g_aload_n C 0 rfl 0 rfl dX7_gather_65 ?_
      refine fgX7_35 C dX7_gather_66 ?_
      refine g_iload_n C 2 rfl 2 rfl dX7_gather_69 ?_
      obtain ⟨hb70, h⟩ := h
      refine g_iald C gok_37 rfl hb70 dX7_gather_70 ?_
      obtain ⟨hb71, h⟩ := h
      refine g_iald C gok_38 rfl hb71 dX7_gather_71 ?_
      refine g_icmp_ne C 78 (by decide) dX7_gather_72 (fun hc => ?_) (fun hc => ?_)
      · replace h := h.1 hc
        refine g_aload_n C 0 rfl 0 rfl dX7_gather_78 ?_
        refine fgX7_38 C dX7_gather_79 ?_
        refine g_aload_n C 0 rfl 0 rfl dX7_gather_82 ?_
        refine fgX7_32 C dX7_gather_83 ?_
        refine g_iload_n C 2 rfl 2 rfl dX7_gather_86 ?_
        obtain ⟨hb87, h⟩ := h
        refine g_iald C gok_36 rfl hb87 dX7_gather_87 ?_
        obtain ⟨hb88, h⟩ := h
        refine g_iald C gok_38 rfl hb88 dX7_gather_88 ?_
        refine g_aload_n C 0 rfl 0 rfl dX7_gather_89 ?_
        refine fgX7_38 C dX7_gather_90 ?_
        refine g_aload_n C 0 rfl 0 rfl dX7_gather_93 ?_
        refine fgX7_35 C dX7_gather_94 ?_
        refine g_iload_n C 2 rfl 2 rfl dX7_gather_97 ?_
        obtain ⟨hb98, h⟩ := h
        refine g_iald C gok_37 rfl hb98 dX7_gather_98 ?_
        obtain ⟨hb99, h⟩ := h
        refine g_iald C gok_38 rfl hb99 dX7_gather_99 ?_
        refine g_icmp_ge C 117 (by decide) dX7_gather_100 (fun hc => ?_) (fun hc => ?_)
        · replace h := h.1 hc
          refine g_aload_n C 0 rfl 0 rfl dX7_gather_117 ?_
          refine fgX7_38 C dX7_gather_118 ?_
          refine g_aload_n C 0 rfl 0 rfl dX7_gather_121 ?_
          refine fgX7_35 C dX7_gather_122 ?_
          refine g_iload_n C 2 rfl 2 rfl dX7_gather_125 ?_
          obtain ⟨hb126, h⟩ := h
          refine g_iald C gok_37 rfl hb126 dX7_gather_126 ?_
          obtain ⟨hb127, h⟩ := h
          refine g_iald C gok_38 rfl hb127 dX7_gather_127 ?_
          refine g_sub [(0, .ref (L.2.1 7 0)), (2, .int L2)] [0, 2] rfl ?_
          exact sX7_gather_128 C hr hno hI25 hI33 h
        · replace h := h.2 hc
          refine g_aload_n C 0 rfl 0 rfl dX7_gather_103 ?_
          refine fgX7_38 C dX7_gather_104 ?_
          refine g_aload_n C 0 rfl 0 rfl dX7_gather_107 ?_
          refine fgX7_32 C dX7_gather_108 ?_
          refine g_iload_n C 2 rfl 2 rfl dX7_gather_111 ?_
          obtain ⟨hb112, h⟩ := h
          refine g_iald C gok_36 rfl hb112 dX7_gather_112 ?_
          obtain ⟨hb113, h⟩ := h
          refine g_iald C gok_38 rfl hb113 dX7_gather_113 ?_
          refine g_goto C 128 (by decide) dX7_gather_114 ?_
          refine g_sub [(0, .ref (L.2.1 7 0)), (2, .int L2)] [0, 2] rfl ?_
          exact sX7_gather_128 C hr hno hI25 hI33 h
      · replace h := h.2 hc
        refine g_goto C 155 (by decide) dX7_gather_75 ?_
        exact sX7_gather_155 C hr hno hI25 hI33 h
def LX7_gather_33 (I25 : Int32 → gMem → Prop) (L1 : Int32) (L2 : Int32) (v : gMem) (Q : gMem → Prop) (X : String → gMem → Prop) : Prop := ∀ I33 : Int32 → Int32 → gMem → Prop, (∀ (L1 : Int32) (L2 : Int32) (v : gMem), BX7_gather_33 I25 I33 L1 L2 v Q X → I33 L1 L2 v) → I33 L1 L2 v
theorem slX7_gather_33 (C : gC p l s m args meth c cX7_gather 4 RX7 L sz) (hr : meth.sig.returnType = none) (hno : ∀ x ∈ c.exceptionTable.toList, False) {L1 : Int32} {L2 : Int32} {v : gMem} {Q : gMem → Prop} {X : String → gMem → Prop} {I25 : Int32 → gMem → Prop} (hI25 : ∀ (L1 : Int32) (v : gMem), I25 L1 v → gS p l e ({ frames := 0, cells := 0, slots := 0, locals := 0 } : Room) s m args below meth c 4 L sz (vx_MQ below (gQv L sz Q) (gXC L sz X) args s 0 0 (gA L sz)) 0 0 25 [(0, .ref (L.2.1 7 0)), (1, .int L1)] [] v) (h : LX7_gather_33 I25 L1 L2 v Q X) : gS p l e ({ frames := 0, cells := 0, slots := 0, locals := 0 } : Room) s m args below meth c 4 L sz (vx_MQ below (gQv L sz Q) (gXC L sz X) args s 0 0 (gA L sz)) 0 0 33 [(0, .ref (L.2.1 7 0)), (1, .int L1), (2, .int L2)] [] v := by
  refine h (fun L1 L2 v => gS p l e ({ frames := 0, cells := 0, slots := 0, locals := 0 } : Room) s m args below meth c 4 L sz (vx_MQ below (gQv L sz Q) (gXC L sz X) args s 0 0 (gA L sz)) 0 0 33 [(0, .ref (L.2.1 7 0)), (1, .int L1), (2, .int L2)] [] v) (fun L1 L2 v hb => ?_)
  exact sX7_gather_33 C hr hno hI25 (fun _ _ _ hs => hs) hb
def BX7_gather_25 (I25 : Int32 → gMem → Prop) (L1 : Int32) (v : gMem) (Q : gMem → Prop) (X : String → gMem → Prop) : Prop := ((L1 = 0 → (Q v)) ∧ (¬ L1 = 0 → (LX7_gather_33 I25 0 0 v Q X)))
theorem sX7_gather_25 (C : gC p l s m args meth c cX7_gather 4 RX7 L sz) (hr : meth.sig.returnType = none) (hno : ∀ x ∈ c.exceptionTable.toList, False) {L1 : Int32} {v : gMem} {Q : gMem → Prop} {X : String → gMem → Prop} {I25 : Int32 → gMem → Prop} (hI25 : ∀ (L1 : Int32) (v : gMem), I25 L1 v → gS p l e ({ frames := 0, cells := 0, slots := 0, locals := 0 } : Room) s m args below meth c 4 L sz (vx_MQ below (gQv L sz Q) (gXC L sz X) args s 0 0 (gA L sz)) 0 0 25 [(0, .ref (L.2.1 7 0)), (1, .int L1)] [] v) (h : BX7_gather_25 I25 L1 v Q X) : gS p l e ({ frames := 0, cells := 0, slots := 0, locals := 0 } : Room) s m args below meth c 4 L sz (vx_MQ below (gQv L sz Q) (gXC L sz X) args s 0 0 (gA L sz)) 0 0 25 [(0, .ref (L.2.1 7 0)), (1, .int L1)] [] v := by
  unfold BX7_gather_25 at h
  refine g_iload_n C 1 rfl 1 rfl dX7_gather_25 ?_
  refine g_if_eq C 164 (by decide) dX7_gather_26 (fun hc => ?_) (fun hc => ?_)
  · replace h := h.1 hc
    exact g_vret C hr (Nat.le_of_ble_eq_true rfl) (Nat.le_of_ble_eq_true rfl) h dX7_gather_164
  · replace h := h.2 hc
    refine g_iconst C 0 (by decide) dX7_gather_29 ?_
    refine g_istore_n C 1 rfl [(1, .int 0), (0, .ref (L.2.1 7 0))] (Nat.le_of_ble_eq_true rfl) rfl dX7_gather_30 ?_
    refine g_iconst C 0 (by decide) dX7_gather_31 ?_
    refine g_istore_n C 2 rfl [(2, .int 0), (1, .int 0), (0, .ref (L.2.1 7 0))] (Nat.le_of_ble_eq_true rfl) rfl dX7_gather_32 ?_
    refine g_sub [(0, .ref (L.2.1 7 0)), (1, .int 0), (2, .int 0)] [2, 1, 0] rfl ?_
    exact slX7_gather_33 C hr hno hI25 h
def LX7_gather_25 (L1 : Int32) (v : gMem) (Q : gMem → Prop) (X : String → gMem → Prop) : Prop := ∀ I25 : Int32 → gMem → Prop, (∀ (L1 : Int32) (v : gMem), BX7_gather_25 I25 L1 v Q X → I25 L1 v) → I25 L1 v
theorem slX7_gather_25 (C : gC p l s m args meth c cX7_gather 4 RX7 L sz) (hr : meth.sig.returnType = none) (hno : ∀ x ∈ c.exceptionTable.toList, False) {L1 : Int32} {v : gMem} {Q : gMem → Prop} {X : String → gMem → Prop} (h : LX7_gather_25 L1 v Q X) : gS p l e ({ frames := 0, cells := 0, slots := 0, locals := 0 } : Room) s m args below meth c 4 L sz (vx_MQ below (gQv L sz Q) (gXC L sz X) args s 0 0 (gA L sz)) 0 0 25 [(0, .ref (L.2.1 7 0)), (1, .int L1)] [] v := by
  refine h (fun L1 v => gS p l e ({ frames := 0, cells := 0, slots := 0, locals := 0 } : Room) s m args below meth c 4 L sz (vx_MQ below (gQv L sz Q) (gXC L sz X) args s 0 0 (gA L sz)) 0 0 25 [(0, .ref (L.2.1 7 0)), (1, .int L1)] [] v) (fun L1 v hb => ?_)
  exact sX7_gather_25 C hr hno (fun _ _ hs => hs) hb
def BX7_gather_2 (I2 : Int32 → gMem → Prop) (L1 : Int32) (v : gMem) (Q : gMem → Prop) (X : String → gMem → Prop) : Prop := (((v 7 0 2) ≤ L1 → (LX7_gather_25 1 v Q X)) ∧ (¬ (v 7 0 2) ≤ L1 → (vp_in L1 16 ∧ (I2 (L1 + 1) (gw v 38 0 (Int32.toNatClampNeg L1) L1)))))
theorem sX7_gather_2 (C : gC p l s m args meth c cX7_gather 4 RX7 L sz) (hr : meth.sig.returnType = none) (hno : ∀ x ∈ c.exceptionTable.toList, False) {L1 : Int32} {v : gMem} {Q : gMem → Prop} {X : String → gMem → Prop} {I2 : Int32 → gMem → Prop} (hI2 : ∀ (L1 : Int32) (v : gMem), I2 L1 v → gS p l e ({ frames := 0, cells := 0, slots := 0, locals := 0 } : Room) s m args below meth c 4 L sz (vx_MQ below (gQv L sz Q) (gXC L sz X) args s 0 0 (gA L sz)) 0 0 2 [(0, .ref (L.2.1 7 0)), (1, .int L1)] [] v) (h : BX7_gather_2 I2 L1 v Q X) : gS p l e ({ frames := 0, cells := 0, slots := 0, locals := 0 } : Room) s m args below meth c 4 L sz (vx_MQ below (gQv L sz Q) (gXC L sz X) args s 0 0 (gA L sz)) 0 0 2 [(0, .ref (L.2.1 7 0)), (1, .int L1)] [] v := by
  unfold BX7_gather_2 at h
  refine g_iload_n C 1 rfl 1 rfl dX7_gather_2 ?_
  refine g_aload_n C 0 rfl 0 rfl dX7_gather_3 ?_
  refine fgX7_67 C dX7_gather_4 ?_
  refine g_icmp_ge C 23 (by decide) dX7_gather_7 (fun hc => ?_) (fun hc => ?_)
  · replace h := h.1 hc
    refine g_iconst C 1 (by decide) dX7_gather_23 ?_
    refine g_istore_n C 1 rfl [(1, .int 1), (0, .ref (L.2.1 7 0))] (Nat.le_of_ble_eq_true rfl) rfl dX7_gather_24 ?_
    refine g_sub [(0, .ref (L.2.1 7 0)), (1, .int 1)] [1, 0] rfl ?_
    exact slX7_gather_25 C hr hno h
  · replace h := h.2 hc
    refine g_aload_n C 0 rfl 0 rfl dX7_gather_10 ?_
    refine fgX7_38 C dX7_gather_11 ?_
    refine g_iload_n C 1 rfl 1 rfl dX7_gather_14 ?_
    refine g_iload_n C 1 rfl 1 rfl dX7_gather_15 ?_
    obtain ⟨hb16, h⟩ := h
    refine g_iast C gok_38 (fun _ => rfl) hb16 dX7_gather_16 ?_
    refine g_iinc C (k := 1) (L1 + 1) [(1, .int (L1 + 1)), (0, .ref (L.2.1 7 0))] rfl rfl (Nat.le_of_ble_eq_true rfl) rfl dX7_gather_17 ?_
    refine g_goto C 2 (by decide) dX7_gather_20 ?_
    refine g_sub [(0, .ref (L.2.1 7 0)), (1, .int (L1 + 1))] [1, 0] rfl ?_
    exact hI2 _ _ h
def LX7_gather_2 (L1 : Int32) (v : gMem) (Q : gMem → Prop) (X : String → gMem → Prop) : Prop := ∀ I2 : Int32 → gMem → Prop, (∀ (L1 : Int32) (v : gMem), BX7_gather_2 I2 L1 v Q X → I2 L1 v) → I2 L1 v
theorem slX7_gather_2 (C : gC p l s m args meth c cX7_gather 4 RX7 L sz) (hr : meth.sig.returnType = none) (hno : ∀ x ∈ c.exceptionTable.toList, False) {L1 : Int32} {v : gMem} {Q : gMem → Prop} {X : String → gMem → Prop} (h : LX7_gather_2 L1 v Q X) : gS p l e ({ frames := 0, cells := 0, slots := 0, locals := 0 } : Room) s m args below meth c 4 L sz (vx_MQ below (gQv L sz Q) (gXC L sz X) args s 0 0 (gA L sz)) 0 0 2 [(0, .ref (L.2.1 7 0)), (1, .int L1)] [] v := by
  refine h (fun L1 v => gS p l e ({ frames := 0, cells := 0, slots := 0, locals := 0 } : Room) s m args below meth c 4 L sz (vx_MQ below (gQv L sz Q) (gXC L sz X) args s 0 0 (gA L sz)) 0 0 2 [(0, .ref (L.2.1 7 0)), (1, .int L1)] [] v) (fun L1 v hb => ?_)
  exact sX7_gather_2 C hr hno (fun _ _ hs => hs) hb
def TX7_gather (v : gMem) (Q : gMem → Prop) (X : String → gMem → Prop) : Prop := (LX7_gather_2 0 v Q X)
theorem kX7_gather (l : Launch) (hfl : l.stackTraces = false) (L : gL) (hL : gDist L) (v : gMem) (Q : gMem → Prop) (X : String → gMem → Prop) (h : TX7_gather v Q X) (sz : Nat) : vx_Met l yX7_gather [.code yX7_gather cX7_gather 4 none] ({ frames := 0, cells := 0, slots := 0, locals := 0 } : Room) (gPc L sz [.ref (L.2.1 7 0)] v) (gQv L sz Q) (gXC L sz X) 0 0 (gA L sz) := by
  refine g_ofW (by decide +kernel) hfl hL (Nat.le_of_ble_eq_true rfl) ?_
  intro p e s m args below meth c C hr hno
  refine g_sub [(0, .ref (L.2.1 7 0))] [0] rfl ?_
  unfold TX7_gather at h
  refine g_iconst C 0 (by decide) dX7_gather_0 ?_
  refine g_istore_n C 1 rfl [(1, .int 0), (0, .ref (L.2.1 7 0))] (Nat.le_of_ble_eq_true rfl) rfl dX7_gather_1 ?_
  refine g_sub [(0, .ref (L.2.1 7 0)), (1, .int 0)] [1, 0] rfl ?_
  exact slX7_gather_2 C hr hno h
def TX7_isPair (L1 : Int32) (L2 : Int32) (v : gMem) (Q : Int32 → gMem → Prop) (X : String → gMem → Prop) : Prop := (vp_in ((16 * L1) + L2) 256 ∧ (narrow .boolean (.int (v 44 0 (Int32.toNatClampNeg ((16 * L1) + L2)))) = .int (v 44 0 (Int32.toNatClampNeg ((16 * L1) + L2))) ∧ Q (v 44 0 (Int32.toNatClampNeg ((16 * L1) + L2))) v))
theorem kX7_isPair (l : Launch) (hfl : l.stackTraces = false) (L : gL) (hL : gDist L) (L1 : Int32) (L2 : Int32) (v : gMem) (Q : Int32 → gMem → Prop) (X : String → gMem → Prop) (h : TX7_isPair L1 L2 v Q X) (sz : Nat) : vx_Met l yX7_isPair [.code yX7_isPair cX7_isPair 3 (some .boolean)] ({ frames := 0, cells := 0, slots := 0, locals := 0 } : Room) (gPc L sz [.ref (L.2.1 7 0), .int L1, .int L2] v) (gQi L sz Q) (gXC L sz X) 0 0 (gA L sz) := by
  refine g_ofW (by decide +kernel) hfl hL (Nat.le_of_ble_eq_true rfl) ?_
  intro p e s m args below meth c C hr hno
  refine g_sub [(0, .ref (L.2.1 7 0)), (1, .int L1), (2, .int L2)] [0, 1, 2] rfl ?_
  unfold TX7_isPair at h
  refine g_aload_n C 0 rfl 0 rfl dX7_isPair_0 ?_
  refine fgX7_58 C dX7_isPair_1 ?_
  refine g_bipush C 16 (by decide) dX7_isPair_4 ?_
  refine g_iload_n C 1 rfl 1 rfl dX7_isPair_6 ?_
  refine g_imul C dX7_isPair_7 ?_
  refine g_iload_n C 2 rfl 2 rfl dX7_isPair_8 ?_
  refine g_iadd C dX7_isPair_9 ?_
  obtain ⟨hb10, h⟩ := h
  refine g_zald C gok_44 rfl hb10 dX7_isPair_10 ?_
  exact g_iret C hr h.1 (Nat.le_of_ble_eq_true rfl) (Nat.le_of_ble_eq_true rfl) h.2 dX7_isPair_11
def BX7_isBarred_69 (I2 : Int32 → gMem → Prop) (I13 : Int32 → gMem → Prop) (L1 : Int32) (L2 : Int32) (L3 : Int32) (L4 : Int32) (v : gMem) (Q : Int32 → gMem → Prop) (X : String → gMem → Prop) : Prop := (I13 (L4 + 1) v)
theorem sX7_isBarred_69 (C : gC p l s m args meth c cX7_isBarred 5 RX7 L sz) (hr : meth.sig.returnType = (some .boolean)) (hno : ∀ x ∈ c.exceptionTable.toList, False) {L1 : Int32} {L2 : Int32} {L3 : Int32} {L4 : Int32} {v : gMem} {Q : Int32 → gMem → Prop} {X : String → gMem → Prop} {I2 : Int32 → gMem → Prop} (hI2 : ∀ (L3 : Int32) (v : gMem), I2 L3 v → gS p l e ({ frames := 1, cells := 0, slots := 0, locals := 22 } : Room) s m args below meth c 5 L sz (vx_MQ below (gQi L sz Q) (gXC L sz X) args s 0 0 (gA L sz)) 0 0 2 [(0, .ref (L.2.1 7 0)), (1, .int L1), (2, .int L2), (3, .int L3)] [] v) {I13 : Int32 → gMem → Prop} (hI13 : ∀ (L4 : Int32) (v : gMem), I13 L4 v → gS p l e ({ frames := 1, cells := 0, slots := 0, locals := 22 } : Room) s m args below meth c 5 L sz (vx_MQ below (gQi L sz Q) (gXC L sz X) args s 0 0 (gA L sz)) 0 0 13 [(0, .ref (L.2.1 7 0)), (1, .int L1), (2, .int L2), (3, .int L3), (4, .int L4)] [] v) (h : BX7_isBarred_69 I2 I13 L1 L2 L3 L4 v Q X) : gS p l e ({ frames := 1, cells := 0, slots := 0, locals := 22 } : Room) s m args below meth c 5 L sz (vx_MQ below (gQi L sz Q) (gXC L sz X) args s 0 0 (gA L sz)) 0 0 69 [(0, .ref (L.2.1 7 0)), (1, .int L1), (2, .int L2), (3, .int L3), (4, .int L4)] [] v := by
  unfold BX7_isBarred_69 at h
  refine g_iinc C (k := 4) (L4 + 1) [(4, .int (L4 + 1)), (0, .ref (L.2.1 7 0)), (1, .int L1), (2, .int L2), (3, .int L3)] rfl rfl (Nat.le_of_ble_eq_true rfl) rfl dX7_isBarred_69 ?_
  refine g_goto C 13 (by decide) dX7_isBarred_72 ?_
  refine g_sub [(0, .ref (L.2.1 7 0)), (1, .int L1), (2, .int L2), (3, .int L3), (4, .int (L4 + 1))] [1, 2, 3, 4, 0] rfl ?_
  exact hI13 _ _ h
def BX7_isBarred_13 (I2 : Int32 → gMem → Prop) (I13 : Int32 → gMem → Prop) (L1 : Int32) (L2 : Int32) (L3 : Int32) (L4 : Int32) (v : gMem) (Q : Int32 → gMem → Prop) (X : String → gMem → Prop) : Prop := (((v 7 0 2) ≤ L4 → (I2 (L3 + 1) v)) ∧ (¬ (v 7 0 2) ≤ L4 → (vp_in L3 16 ∧ ((¬ (v 38 0 (Int32.toNatClampNeg L3)) = L1 → (BX7_isBarred_69 I2 I13 L1 L2 L3 L4 v Q X)) ∧ ((v 38 0 (Int32.toNatClampNeg L3)) = L1 → (vp_in L4 16 ∧ ((¬ (v 38 0 (Int32.toNatClampNeg L4)) = L2 → (BX7_isBarred_69 I2 I13 L1 L2 L3 L4 v Q X)) ∧ ((v 38 0 (Int32.toNatClampNeg L4)) = L2 → (TX7_isPair L3 L4 v (fun r47 v47 => ((¬ r47 = 0 → (Q 1 (gw (gw v47 7 0 7 L3) 7 0 8 L4))) ∧ (r47 = 0 → (BX7_isBarred_69 I2 I13 L1 L2 L3 L4 v47 Q X)))) X)))))))))
theorem sX7_isBarred_13 (C : gC p l s m args meth c cX7_isBarred 5 RX7 L sz) (hr : meth.sig.returnType = (some .boolean)) (hno : ∀ x ∈ c.exceptionTable.toList, False) {L1 : Int32} {L2 : Int32} {L3 : Int32} {L4 : Int32} {v : gMem} {Q : Int32 → gMem → Prop} {X : String → gMem → Prop} {I2 : Int32 → gMem → Prop} (hI2 : ∀ (L3 : Int32) (v : gMem), I2 L3 v → gS p l e ({ frames := 1, cells := 0, slots := 0, locals := 22 } : Room) s m args below meth c 5 L sz (vx_MQ below (gQi L sz Q) (gXC L sz X) args s 0 0 (gA L sz)) 0 0 2 [(0, .ref (L.2.1 7 0)), (1, .int L1), (2, .int L2), (3, .int L3)] [] v) {I13 : Int32 → gMem → Prop} (hI13 : ∀ (L4 : Int32) (v : gMem), I13 L4 v → gS p l e ({ frames := 1, cells := 0, slots := 0, locals := 22 } : Room) s m args below meth c 5 L sz (vx_MQ below (gQi L sz Q) (gXC L sz X) args s 0 0 (gA L sz)) 0 0 13 [(0, .ref (L.2.1 7 0)), (1, .int L1), (2, .int L2), (3, .int L3), (4, .int L4)] [] v) (h : BX7_isBarred_13 I2 I13 L1 L2 L3 L4 v Q X) : gS p l e ({ frames := 1, cells := 0, slots := 0, locals := 22 } : Room) s m args below meth c 5 L sz (vx_MQ below (gQi L sz Q) (gXC L sz X) args s 0 0 (gA L sz)) 0 0 13 [(0, .ref (L.2.1 7 0)), (1, .int L1), (2, .int L2), (3, .int L3), (4, .int L4)] [] v := by
  unfold BX7_isBarred_13 at h
  refine g_iload C 4 rfl dX7_isBarred_13 ?_
  refine g_aload_n C 0 rfl 0 rfl dX7_isBarred_15 ?_
  refine fgX7_67 C dX7_isBarred_16 ?_
  refine g_icmp_ge C 75 (by decide) dX7_isBarred_19 (fun hc => ?_) (fun hc => ?_)
  · replace h := h.1 hc
    refine g_iinc C (k := 3) (L3 + 1) [(3, .int (L3 + 1)), (0, .ref (L.2.1 7 0)), (1, .int L1), (2, .int L2), (4, .int L4)] rfl rfl (Nat.le_of_ble_eq_true rfl) rfl dX7_isBarred_75 ?_
    refine g_goto C 2 (by decide) dX7_isBarred_78 ?_
    refine g_sub [(0, .ref (L.2.1 7 0)), (1, .int L1), (2, .int L2), (3, .int (L3 + 1))] [1, 2, 3, 0] rfl ?_
    exact hI2 _ _ h
  · replace h := h.2 hc
    refine g_aload_n C 0 rfl 0 rfl dX7_isBarred_22 ?_
    refine fgX7_38 C dX7_isBarred_23 ?_
    refine g_iload_n C 3 rfl 3 rfl dX7_isBarred_26 ?_
    obtain ⟨hb27, h⟩ := h
    refine g_iald C gok_38 rfl hb27 dX7_isBarred_27 ?_
    refine g_iload_n C 1 rfl 1 rfl dX7_isBarred_28 ?_
    refine g_icmp_ne C 69 (by decide) dX7_isBarred_29 (fun hc => ?_) (fun hc => ?_)
    · replace h := h.1 hc
      exact sX7_isBarred_69 C hr hno hI2 hI13 h
    · replace h := h.2 hc
      refine g_aload_n C 0 rfl 0 rfl dX7_isBarred_32 ?_
      refine fgX7_38 C dX7_isBarred_33 ?_
      refine g_iload C 4 rfl dX7_isBarred_36 ?_
      obtain ⟨hb38, h⟩ := h
      refine g_iald C gok_38 rfl hb38 dX7_isBarred_38 ?_
      refine g_iload_n C 2 rfl 2 rfl dX7_isBarred_39 ?_
      refine g_icmp_ne C 69 (by decide) dX7_isBarred_40 (fun hc => ?_) (fun hc => ?_)
      · replace h := h.1 hc
        exact sX7_isBarred_69 C hr hno hI2 hI13 h
      · replace h := h.2 hc
        refine g_aload_n C 0 rfl 0 rfl dX7_isBarred_43 ?_
        refine g_iload_n C 3 rfl 3 rfl dX7_isBarred_44 ?_
        refine g_iload C 4 rfl dX7_isBarred_45 ?_
        refine g_callVi C hno gok_7 rfl rfl [.int L3, .int L4] (fun sz9 => kX7_isPair l C.2.2.2.2.2.2.1 L C.2.2.2.2.2.2.2.1 L3 L4 v _ X h sz9) wml_RX7_118 winst_X7_isPair wsel_X7_isPair wini_RX7 wcode_X7_isPair rfl rfl (n := 2) (by decide +kernel) rfl ⟨(Nat.le_of_ble_eq_true rfl), (Nat.le_of_ble_eq_true rfl)⟩ ⟨(Nat.le_of_ble_eq_true rfl), (Nat.le_of_ble_eq_true rfl)⟩ ⟨(Nat.le_of_ble_eq_true rfl), (Nat.le_of_ble_eq_true rfl)⟩ (Nat.le_of_ble_eq_true rfl) dX7_isBarred_47 (fun r47 v47 h => ?_)
        refine g_if_ne C 56 (by decide) dX7_isBarred_50 (fun hc => ?_) (fun hc => ?_)
        · replace h := h.1 hc
          refine g_aload_n C 0 rfl 0 rfl dX7_isBarred_56 ?_
          refine g_iload_n C 3 rfl 3 rfl dX7_isBarred_57 ?_
          refine fpX7_121 C dX7_isBarred_58 ?_
          refine g_aload_n C 0 rfl 0 rfl dX7_isBarred_61 ?_
          refine g_iload C 4 rfl dX7_isBarred_62 ?_
          refine fpX7_124 C dX7_isBarred_64 ?_
          refine g_iconst C 1 (by decide) dX7_isBarred_67 ?_
          exact g_iret C hr rfl (Nat.le_of_ble_eq_true rfl) (Nat.le_of_ble_eq_true rfl) h dX7_isBarred_68
        · replace h := h.2 hc
          refine g_goto C 69 (by decide) dX7_isBarred_53 ?_
          exact sX7_isBarred_69 C hr hno hI2 hI13 h
def LX7_isBarred_13 (I2 : Int32 → gMem → Prop) (L1 : Int32) (L2 : Int32) (L3 : Int32) (L4 : Int32) (v : gMem) (Q : Int32 → gMem → Prop) (X : String → gMem → Prop) : Prop := ∀ I13 : Int32 → gMem → Prop, (∀ (L4 : Int32) (v : gMem), BX7_isBarred_13 I2 I13 L1 L2 L3 L4 v Q X → I13 L4 v) → I13 L4 v
theorem slX7_isBarred_13 (C : gC p l s m args meth c cX7_isBarred 5 RX7 L sz) (hr : meth.sig.returnType = (some .boolean)) (hno : ∀ x ∈ c.exceptionTable.toList, False) {L1 : Int32} {L2 : Int32} {L3 : Int32} {L4 : Int32} {v : gMem} {Q : Int32 → gMem → Prop} {X : String → gMem → Prop} {I2 : Int32 → gMem → Prop} (hI2 : ∀ (L3 : Int32) (v : gMem), I2 L3 v → gS p l e ({ frames := 1, cells := 0, slots := 0, locals := 22 } : Room) s m args below meth c 5 L sz (vx_MQ below (gQi L sz Q) (gXC L sz X) args s 0 0 (gA L sz)) 0 0 2 [(0, .ref (L.2.1 7 0)), (1, .int L1), (2, .int L2), (3, .int L3)] [] v) (h : LX7_isBarred_13 I2 L1 L2 L3 L4 v Q X) : gS p l e ({ frames := 1, cells := 0, slots := 0, locals := 22 } : Room) s m args below meth c 5 L sz (vx_MQ below (gQi L sz Q) (gXC L sz X) args s 0 0 (gA L sz)) 0 0 13 [(0, .ref (L.2.1 7 0)), (1, .int L1), (2, .int L2), (3, .int L3), (4, .int L4)] [] v := by
  refine h (fun L4 v => gS p l e ({ frames := 1, cells := 0, slots := 0, locals := 22 } : Room) s m args below meth c 5 L sz (vx_MQ below (gQi L sz Q) (gXC L sz X) args s 0 0 (gA L sz)) 0 0 13 [(0, .ref (L.2.1 7 0)), (1, .int L1), (2, .int L2), (3, .int L3), (4, .int L4)] [] v) (fun L4 v hb => ?_)
  exact sX7_isBarred_13 C hr hno hI2 (fun _ _ hs => hs) hb
def BX7_isBarred_2 (I2 : Int32 → gMem → Prop) (L1 : Int32) (L2 : Int32) (L3 : Int32) (v : gMem) (Q : Int32 → gMem → Prop) (X : String → gMem → Prop) : Prop := (((v 7 0 2) ≤ L3 → (Q 0 v)) ∧ (¬ (v 7 0 2) ≤ L3 → (LX7_isBarred_13 I2 L1 L2 L3 0 v Q X)))
theorem sX7_isBarred_2 (C : gC p l s m args meth c cX7_isBarred 5 RX7 L sz) (hr : meth.sig.returnType = (some .boolean)) (hno : ∀ x ∈ c.exceptionTable.toList, False) {L1 : Int32} {L2 : Int32} {L3 : Int32} {v : gMem} {Q : Int32 → gMem → Prop} {X : String → gMem → Prop} {I2 : Int32 → gMem → Prop} (hI2 : ∀ (L3 : Int32) (v : gMem), I2 L3 v → gS p l e ({ frames := 1, cells := 0, slots := 0, locals := 22 } : Room) s m args below meth c 5 L sz (vx_MQ below (gQi L sz Q) (gXC L sz X) args s 0 0 (gA L sz)) 0 0 2 [(0, .ref (L.2.1 7 0)), (1, .int L1), (2, .int L2), (3, .int L3)] [] v) (h : BX7_isBarred_2 I2 L1 L2 L3 v Q X) : gS p l e ({ frames := 1, cells := 0, slots := 0, locals := 22 } : Room) s m args below meth c 5 L sz (vx_MQ below (gQi L sz Q) (gXC L sz X) args s 0 0 (gA L sz)) 0 0 2 [(0, .ref (L.2.1 7 0)), (1, .int L1), (2, .int L2), (3, .int L3)] [] v := by
  unfold BX7_isBarred_2 at h
  refine g_iload_n C 3 rfl 3 rfl dX7_isBarred_2 ?_
  refine g_aload_n C 0 rfl 0 rfl dX7_isBarred_3 ?_
  refine fgX7_67 C dX7_isBarred_4 ?_
  refine g_icmp_ge C 81 (by decide) dX7_isBarred_7 (fun hc => ?_) (fun hc => ?_)
  · replace h := h.1 hc
    refine g_iconst C 0 (by decide) dX7_isBarred_81 ?_
    exact g_iret C hr rfl (Nat.le_of_ble_eq_true rfl) (Nat.le_of_ble_eq_true rfl) h dX7_isBarred_82
  · replace h := h.2 hc
    refine g_iconst C 0 (by decide) dX7_isBarred_10 ?_
    refine g_istore C [(4, .int 0), (0, .ref (L.2.1 7 0)), (1, .int L1), (2, .int L2), (3, .int L3)] (Nat.le_of_ble_eq_true rfl) rfl dX7_isBarred_11 ?_
    refine g_sub [(0, .ref (L.2.1 7 0)), (1, .int L1), (2, .int L2), (3, .int L3), (4, .int 0)] [1, 2, 3, 4, 0] rfl ?_
    exact slX7_isBarred_13 C hr hno hI2 h
def LX7_isBarred_2 (L1 : Int32) (L2 : Int32) (L3 : Int32) (v : gMem) (Q : Int32 → gMem → Prop) (X : String → gMem → Prop) : Prop := ∀ I2 : Int32 → gMem → Prop, (∀ (L3 : Int32) (v : gMem), BX7_isBarred_2 I2 L1 L2 L3 v Q X → I2 L3 v) → I2 L3 v
theorem slX7_isBarred_2 (C : gC p l s m args meth c cX7_isBarred 5 RX7 L sz) (hr : meth.sig.returnType = (some .boolean)) (hno : ∀ x ∈ c.exceptionTable.toList, False) {L1 : Int32} {L2 : Int32} {L3 : Int32} {v : gMem} {Q : Int32 → gMem → Prop} {X : String → gMem → Prop} (h : LX7_isBarred_2 L1 L2 L3 v Q X) : gS p l e ({ frames := 1, cells := 0, slots := 0, locals := 22 } : Room) s m args below meth c 5 L sz (vx_MQ below (gQi L sz Q) (gXC L sz X) args s 0 0 (gA L sz)) 0 0 2 [(0, .ref (L.2.1 7 0)), (1, .int L1), (2, .int L2), (3, .int L3)] [] v := by
  refine h (fun L3 v => gS p l e ({ frames := 1, cells := 0, slots := 0, locals := 22 } : Room) s m args below meth c 5 L sz (vx_MQ below (gQi L sz Q) (gXC L sz X) args s 0 0 (gA L sz)) 0 0 2 [(0, .ref (L.2.1 7 0)), (1, .int L1), (2, .int L2), (3, .int L3)] [] v) (fun L3 v hb => ?_)
  exact sX7_isBarred_2 C hr hno (fun _ _ hs => hs) hb
def TX7_isBarred (L1 : Int32) (L2 : Int32) (v : gMem) (Q : Int32 → gMem → Prop) (X : String → gMem → Prop) : Prop := (LX7_isBarred_2 L1 L2 0 v Q X)
theorem kX7_isBarred (l : Launch) (hfl : l.stackTraces = false) (L : gL) (hL : gDist L) (L1 : Int32) (L2 : Int32) (v : gMem) (Q : Int32 → gMem → Prop) (X : String → gMem → Prop) (h : TX7_isBarred L1 L2 v Q X) (sz : Nat) : vx_Met l yX7_isBarred [.code yX7_isBarred cX7_isBarred 5 (some .boolean)] ({ frames := 1, cells := 0, slots := 0, locals := 22 } : Room) (gPc L sz [.ref (L.2.1 7 0), .int L1, .int L2] v) (gQi L sz Q) (gXC L sz X) 0 0 (gA L sz) := by
  refine g_ofW (by decide +kernel) hfl hL (Nat.le_of_ble_eq_true rfl) ?_
  intro p e s m args below meth c C hr hno
  refine g_sub [(0, .ref (L.2.1 7 0)), (1, .int L1), (2, .int L2)] [0, 1, 2] rfl ?_
  unfold TX7_isBarred at h
  refine g_iconst C 0 (by decide) dX7_isBarred_0 ?_
  refine g_istore_n C 3 rfl [(3, .int 0), (0, .ref (L.2.1 7 0)), (1, .int L1), (2, .int L2)] (Nat.le_of_ble_eq_true rfl) rfl dX7_isBarred_1 ?_
  refine g_sub [(0, .ref (L.2.1 7 0)), (1, .int L1), (2, .int L2), (3, .int 0)] [1, 2, 3, 0] rfl ?_
  exact slX7_isBarred_2 C hr hno h
def BX7_areCandidates_131 (t0 : Int32) (v : gMem) (Q : Int32 → gMem → Prop) (X : String → gMem → Prop) : Prop := (narrow .boolean (.int t0) = .int t0 ∧ Q t0 v)
theorem sX7_areCandidates_131 (C : gC p l s m args meth c cX7_areCandidates 5 RX7 L sz) (hr : meth.sig.returnType = (some .boolean)) (hno : ∀ x ∈ c.exceptionTable.toList, False) {t0 : Int32} {v : gMem} {Q : Int32 → gMem → Prop} {X : String → gMem → Prop} (h : BX7_areCandidates_131 t0 v Q X) : gS p l e ({ frames := 4, cells := 0, slots := 0, locals := 96 } : Room) s m args below meth c 5 L sz (vx_MQ below (gQi L sz Q) (gXC L sz X) args s 0 0 (gA L sz)) 0 0 131 [] [.int t0] v := by
  unfold BX7_areCandidates_131 at h
  exact g_iret C hr h.1 (Nat.le_of_ble_eq_true rfl) (Nat.le_of_ble_eq_true rfl) h.2 dX7_areCandidates_131
def BX7_areCandidates_130 (v : gMem) (Q : Int32 → gMem → Prop) (X : String → gMem → Prop) : Prop := (BX7_areCandidates_131 0 v Q X)
theorem sX7_areCandidates_130 (C : gC p l s m args meth c cX7_areCandidates 5 RX7 L sz) (hr : meth.sig.returnType = (some .boolean)) (hno : ∀ x ∈ c.exceptionTable.toList, False) {v : gMem} {Q : Int32 → gMem → Prop} {X : String → gMem → Prop} (h : BX7_areCandidates_130 v Q X) : gS p l e ({ frames := 4, cells := 0, slots := 0, locals := 96 } : Room) s m args below meth c 5 L sz (vx_MQ below (gQi L sz Q) (gXC L sz X) args s 0 0 (gA L sz)) 0 0 130 [] [] v := by
  unfold BX7_areCandidates_130 at h
  refine g_iconst C 0 (by decide) dX7_areCandidates_130 ?_
  exact sX7_areCandidates_131 C hr hno h
def BX7_areCandidates_82 (I39 : Int32 → Int32 → gMem → Prop) (L1 : Int32) (L2 : Int32) (L4 : Int32) (t0 : Int32) (t1 : Int32) (v : gMem) (Q : Int32 → gMem → Prop) (X : String → gMem → Prop) : Prop := (I39 (t0 ||| t1) (L4 + 1) v)
theorem sX7_areCandidates_82 (C : gC p l s m args meth c cX7_areCandidates 5 RX7 L sz) (hr : meth.sig.returnType = (some .boolean)) (hno : ∀ x ∈ c.exceptionTable.toList, False) {L1 : Int32} {L2 : Int32} {L4 : Int32} {t0 : Int32} {t1 : Int32} {v : gMem} {Q : Int32 → gMem → Prop} {X : String → gMem → Prop} {I39 : Int32 → Int32 → gMem → Prop} (hI39 : ∀ (L3 : Int32) (L4 : Int32) (v : gMem), I39 L3 L4 v → gS p l e ({ frames := 4, cells := 0, slots := 0, locals := 96 } : Room) s m args below meth c 5 L sz (vx_MQ below (gQi L sz Q) (gXC L sz X) args s 0 0 (gA L sz)) 0 0 39 [(0, .ref (L.2.1 7 0)), (1, .int L1), (2, .int L2), (3, .int L3), (4, .int L4)] [] v) (h : BX7_areCandidates_82 I39 L1 L2 L4 t0 t1 v Q X) : gS p l e ({ frames := 4, cells := 0, slots := 0, locals := 96 } : Room) s m args below meth c 5 L sz (vx_MQ below (gQi L sz Q) (gXC L sz X) args s 0 0 (gA L sz)) 0 0 82 [(0, .ref (L.2.1 7 0)), (1, .int L1), (2, .int L2), (4, .int L4)] [.int t1, .int t0] v := by
  unfold BX7_areCandidates_82 at h
  refine g_ior C dX7_areCandidates_82 ?_
  refine g_istore_n C 3 rfl [(3, .int (t0 ||| t1)), (0, .ref (L.2.1 7 0)), (1, .int L1), (2, .int L2), (4, .int L4)] (Nat.le_of_ble_eq_true rfl) rfl dX7_areCandidates_83 ?_
  refine g_iinc C (k := 4) (L4 + 1) [(4, .int (L4 + 1)), (3, .int (t0 ||| t1)), (0, .ref (L.2.1 7 0)), (1, .int L1), (2, .int L2)] rfl rfl (Nat.le_of_ble_eq_true rfl) rfl dX7_areCandidates_84 ?_
  refine g_goto C 39 (by decide) dX7_areCandidates_87 ?_
  refine g_sub [(0, .ref (L.2.1 7 0)), (1, .int L1), (2, .int L2), (3, .int (t0 ||| t1)), (4, .int (L4 + 1))] [2, 3, 4, 1, 0] rfl ?_
  exact hI39 _ _ _ h
def BX7_areCandidates_81 (I39 : Int32 → Int32 → gMem → Prop) (L1 : Int32) (L2 : Int32) (L4 : Int32) (t0 : Int32) (v : gMem) (Q : Int32 → gMem → Prop) (X : String → gMem → Prop) : Prop := (BX7_areCandidates_82 I39 L1 L2 L4 t0 0 v Q X)
theorem sX7_areCandidates_81 (C : gC p l s m args meth c cX7_areCandidates 5 RX7 L sz) (hr : meth.sig.returnType = (some .boolean)) (hno : ∀ x ∈ c.exceptionTable.toList, False) {L1 : Int32} {L2 : Int32} {L4 : Int32} {t0 : Int32} {v : gMem} {Q : Int32 → gMem → Prop} {X : String → gMem → Prop} {I39 : Int32 → Int32 → gMem → Prop} (hI39 : ∀ (L3 : Int32) (L4 : Int32) (v : gMem), I39 L3 L4 v → gS p l e ({ frames := 4, cells := 0, slots := 0, locals := 96 } : Room) s m args below meth c 5 L sz (vx_MQ below (gQi L sz Q) (gXC L sz X) args s 0 0 (gA L sz)) 0 0 39 [(0, .ref (L.2.1 7 0)), (1, .int L1), (2, .int L2), (3, .int L3), (4, .int L4)] [] v) (h : BX7_areCandidates_81 I39 L1 L2 L4 t0 v Q X) : gS p l e ({ frames := 4, cells := 0, slots := 0, locals := 96 } : Room) s m args below meth c 5 L sz (vx_MQ below (gQi L sz Q) (gXC L sz X) args s 0 0 (gA L sz)) 0 0 81 [(0, .ref (L.2.1 7 0)), (1, .int L1), (2, .int L2), (4, .int L4)] [.int t0] v := by
  unfold BX7_areCandidates_81 at h
  refine g_iconst C 0 (by decide) dX7_areCandidates_81 ?_
  exact sX7_areCandidates_82 C hr hno hI39 h
def BX7_areCandidates_39 (I39 : Int32 → Int32 → gMem → Prop) (L1 : Int32) (L2 : Int32) (L3 : Int32) (L4 : Int32) (v : gMem) (Q : Int32 → gMem → Prop) (X : String → gMem → Prop) : Prop := ((3 ≤ L4 → ((L3 = 0 → (BX7_areCandidates_130 v Q X)) ∧ (¬ L3 = 0 → (TX7_scoreOf L1 L2 v (fun r97 v97 => ((r97 < (v97 7 0 5) → (BX7_areCandidates_130 v97 Q X)) ∧ (¬ r97 < (v97 7 0 5) → (vp_in L1 16 ∧ (vp_in L2 16 ∧ (TX7_isBarred (v97 38 0 (Int32.toNatClampNeg L1)) (v97 38 0 (Int32.toNatClampNeg L2)) v97 (fun r120 v120 => ((¬ r120 = 0 → (BX7_areCandidates_130 v120 Q X)) ∧ (r120 = 0 → (BX7_areCandidates_131 1 v120 Q X)))) X)))))) X)))) ∧ (¬ 3 ≤ L4 → (TX7_has L1 L4 v (fun r50 v50 => ((r50 = 0 → (BX7_areCandidates_81 I39 L1 L2 L4 L3 v50 Q X)) ∧ (¬ r50 = 0 → (TX7_has L2 L4 v50 (fun r60 v60 => ((r60 = 0 → (BX7_areCandidates_81 I39 L1 L2 L4 L3 v60 Q X)) ∧ (¬ r60 = 0 → (TX7_isSame L1 L2 L4 v60 (fun r71 v71 => ((r71 = 0 → (BX7_areCandidates_81 I39 L1 L2 L4 L3 v71 Q X)) ∧ (¬ r71 = 0 → (BX7_areCandidates_82 I39 L1 L2 L4 L3 1 v71 Q X)))) X)))) X)))) X)))
theorem sX7_areCandidates_39 (C : gC p l s m args meth c cX7_areCandidates 5 RX7 L sz) (hr : meth.sig.returnType = (some .boolean)) (hno : ∀ x ∈ c.exceptionTable.toList, False) {L1 : Int32} {L2 : Int32} {L3 : Int32} {L4 : Int32} {v : gMem} {Q : Int32 → gMem → Prop} {X : String → gMem → Prop} {I39 : Int32 → Int32 → gMem → Prop} (hI39 : ∀ (L3 : Int32) (L4 : Int32) (v : gMem), I39 L3 L4 v → gS p l e ({ frames := 4, cells := 0, slots := 0, locals := 96 } : Room) s m args below meth c 5 L sz (vx_MQ below (gQi L sz Q) (gXC L sz X) args s 0 0 (gA L sz)) 0 0 39 [(0, .ref (L.2.1 7 0)), (1, .int L1), (2, .int L2), (3, .int L3), (4, .int L4)] [] v) (h : BX7_areCandidates_39 I39 L1 L2 L3 L4 v Q X) : gS p l e ({ frames := 4, cells := 0, slots := 0, locals := 96 } : Room) s m args below meth c 5 L sz (vx_MQ below (gQi L sz Q) (gXC L sz X) args s 0 0 (gA L sz)) 0 0 39 [(0, .ref (L.2.1 7 0)), (1, .int L1), (2, .int L2), (3, .int L3), (4, .int L4)] [] v := by
  unfold BX7_areCandidates_39 at h
  refine g_iload C 4 rfl dX7_areCandidates_39 ?_
  refine g_iconst C 3 (by decide) dX7_areCandidates_41 ?_
  refine g_icmp_ge C 90 (by decide) dX7_areCandidates_42 (fun hc => ?_) (fun hc => ?_)
  · replace h := h.1 hc
    refine g_iload_n C 3 rfl 3 rfl dX7_areCandidates_90 ?_
    refine g_if_eq C 130 (by decide) dX7_areCandidates_91 (fun hc => ?_) (fun hc => ?_)
    · replace h := h.1 hc
      refine g_sub [] [] rfl ?_
      exact sX7_areCandidates_130 C hr hno h
    · replace h := h.2 hc
      refine g_aload_n C 0 rfl 0 rfl dX7_areCandidates_94 ?_
      refine g_iload_n C 1 rfl 1 rfl dX7_areCandidates_95 ?_
      refine g_iload_n C 2 rfl 2 rfl dX7_areCandidates_96 ?_
      refine g_callVi C hno gok_7 rfl rfl [.int L1, .int L2] (fun sz9 => kX7_scoreOf l C.2.2.2.2.2.2.1 L C.2.2.2.2.2.2.2.1 L1 L2 v _ X h sz9) wml_RX7_111 winst_X7_scoreOf wsel_X7_scoreOf wini_RX7 wcode_X7_scoreOf rfl rfl (n := 2) (by decide +kernel) rfl ⟨(Nat.le_of_ble_eq_true rfl), (Nat.le_of_ble_eq_true rfl)⟩ ⟨(Nat.le_of_ble_eq_true rfl), (Nat.le_of_ble_eq_true rfl)⟩ ⟨(Nat.le_of_ble_eq_true rfl), (Nat.le_of_ble_eq_true rfl)⟩ (Nat.le_of_ble_eq_true rfl) dX7_areCandidates_97 (fun r97 v97 h => ?_)
      refine g_aload_n C 0 rfl 0 rfl dX7_areCandidates_100 ?_
      refine fgX7_7 C dX7_areCandidates_101 ?_
      refine g_icmp_lt C 130 (by decide) dX7_areCandidates_104 (fun hc => ?_) (fun hc => ?_)
      · replace h := h.1 hc
        refine g_sub [] [] rfl ?_
        exact sX7_areCandidates_130 C hr hno h
      · replace h := h.2 hc
        refine g_aload_n C 0 rfl 0 rfl dX7_areCandidates_107 ?_
        refine g_aload_n C 0 rfl 0 rfl dX7_areCandidates_108 ?_
        refine fgX7_38 C dX7_areCandidates_109 ?_
        refine g_iload_n C 1 rfl 1 rfl dX7_areCandidates_112 ?_
        obtain ⟨hb113, h⟩ := h
        refine g_iald C gok_38 rfl hb113 dX7_areCandidates_113 ?_
        refine g_aload_n C 0 rfl 0 rfl dX7_areCandidates_114 ?_
        refine fgX7_38 C dX7_areCandidates_115 ?_
        refine g_iload_n C 2 rfl 2 rfl dX7_areCandidates_118 ?_
        obtain ⟨hb119, h⟩ := h
        refine g_iald C gok_38 rfl hb119 dX7_areCandidates_119 ?_
        refine g_callVi C hno gok_7 rfl rfl [.int (v97 38 0 (Int32.toNatClampNeg L1)), .int (v97 38 0 (Int32.toNatClampNeg L2))] (fun sz9 => kX7_isBarred l C.2.2.2.2.2.2.1 L C.2.2.2.2.2.2.2.1 (v97 38 0 (Int32.toNatClampNeg L1)) (v97 38 0 (Int32.toNatClampNeg L2)) v97 _ X h sz9) wml_RX7_127 winst_X7_isBarred wsel_X7_isBarred wini_RX7 wcode_X7_isBarred rfl rfl (n := 2) (by decide +kernel) rfl ⟨(Nat.le_of_ble_eq_true rfl), (Nat.le_of_ble_eq_true rfl)⟩ ⟨(Nat.le_of_ble_eq_true rfl), (Nat.le_of_ble_eq_true rfl)⟩ ⟨(Nat.le_of_ble_eq_true rfl), (Nat.le_of_ble_eq_true rfl)⟩ (Nat.le_of_ble_eq_true rfl) dX7_areCandidates_120 (fun r120 v120 h => ?_)
        refine g_if_ne C 130 (by decide) dX7_areCandidates_123 (fun hc => ?_) (fun hc => ?_)
        · replace h := h.1 hc
          refine g_sub [] [] rfl ?_
          exact sX7_areCandidates_130 C hr hno h
        · replace h := h.2 hc
          refine g_iconst C 1 (by decide) dX7_areCandidates_126 ?_
          refine g_goto C 131 (by decide) dX7_areCandidates_127 ?_
          refine g_sub [] [] rfl ?_
          exact sX7_areCandidates_131 C hr hno h
  · replace h := h.2 hc
    refine g_iload_n C 3 rfl 3 rfl dX7_areCandidates_45 ?_
    refine g_aload_n C 0 rfl 0 rfl dX7_areCandidates_46 ?_
    refine g_iload_n C 1 rfl 1 rfl dX7_areCandidates_47 ?_
    refine g_iload C 4 rfl dX7_areCandidates_48 ?_
    refine g_callVi C hno gok_7 rfl rfl [.int L1, .int L4] (fun sz9 => kX7_has l C.2.2.2.2.2.2.1 L C.2.2.2.2.2.2.2.1 L1 L4 v _ X h sz9) wml_RX7_97 winst_X7_has wsel_X7_has wini_RX7 wcode_X7_has rfl rfl (n := 2) (by decide +kernel) rfl ⟨(Nat.le_of_ble_eq_true rfl), (Nat.le_of_ble_eq_true rfl)⟩ ⟨(Nat.le_of_ble_eq_true rfl), (Nat.le_of_ble_eq_true rfl)⟩ ⟨(Nat.le_of_ble_eq_true rfl), (Nat.le_of_ble_eq_true rfl)⟩ (Nat.le_of_ble_eq_true rfl) dX7_areCandidates_50 (fun r50 v50 h => ?_)
    refine g_if_eq C 81 (by decide) dX7_areCandidates_53 (fun hc => ?_) (fun hc => ?_)
    · replace h := h.1 hc
      refine g_sub [(0, .ref (L.2.1 7 0)), (1, .int L1), (2, .int L2), (4, .int L4)] [0, 1, 2, 4] rfl ?_
      exact sX7_areCandidates_81 C hr hno hI39 h
    · replace h := h.2 hc
      refine g_aload_n C 0 rfl 0 rfl dX7_areCandidates_56 ?_
      refine g_iload_n C 2 rfl 2 rfl dX7_areCandidates_57 ?_
      refine g_iload C 4 rfl dX7_areCandidates_58 ?_
      refine g_callVi C hno gok_7 rfl rfl [.int L2, .int L4] (fun sz9 => kX7_has l C.2.2.2.2.2.2.1 L C.2.2.2.2.2.2.2.1 L2 L4 v50 _ X h sz9) wml_RX7_97 winst_X7_has wsel_X7_has wini_RX7 wcode_X7_has rfl rfl (n := 2) (by decide +kernel) rfl ⟨(Nat.le_of_ble_eq_true rfl), (Nat.le_of_ble_eq_true rfl)⟩ ⟨(Nat.le_of_ble_eq_true rfl), (Nat.le_of_ble_eq_true rfl)⟩ ⟨(Nat.le_of_ble_eq_true rfl), (Nat.le_of_ble_eq_true rfl)⟩ (Nat.le_of_ble_eq_true rfl) dX7_areCandidates_60 (fun r60 v60 h => ?_)
      refine g_if_eq C 81 (by decide) dX7_areCandidates_63 (fun hc => ?_) (fun hc => ?_)
      · replace h := h.1 hc
        refine g_sub [(0, .ref (L.2.1 7 0)), (1, .int L1), (2, .int L2), (4, .int L4)] [0, 1, 2, 4] rfl ?_
        exact sX7_areCandidates_81 C hr hno hI39 h
      · replace h := h.2 hc
        refine g_aload_n C 0 rfl 0 rfl dX7_areCandidates_66 ?_
        refine g_iload_n C 1 rfl 1 rfl dX7_areCandidates_67 ?_
        refine g_iload_n C 2 rfl 2 rfl dX7_areCandidates_68 ?_
        refine g_iload C 4 rfl dX7_areCandidates_69 ?_
        refine g_callVi C hno gok_7 rfl rfl [.int L1, .int L2, .int L4] (fun sz9 => kX7_isSame l C.2.2.2.2.2.2.1 L C.2.2.2.2.2.2.2.1 L1 L2 L4 v60 _ X h sz9) wml_RX7_101 winst_X7_isSame wsel_X7_isSame wini_RX7 wcode_X7_isSame rfl rfl (n := 3) (by decide +kernel) rfl ⟨(Nat.le_of_ble_eq_true rfl), (Nat.le_of_ble_eq_true rfl)⟩ ⟨(Nat.le_of_ble_eq_true rfl), (Nat.le_of_ble_eq_true rfl)⟩ ⟨(Nat.le_of_ble_eq_true rfl), (Nat.le_of_ble_eq_true rfl)⟩ (Nat.le_of_ble_eq_true rfl) dX7_areCandidates_71 (fun r71 v71 h => ?_)
        refine g_if_eq C 81 (by decide) dX7_areCandidates_74 (fun hc => ?_) (fun hc => ?_)
        · replace h := h.1 hc
          refine g_sub [(0, .ref (L.2.1 7 0)), (1, .int L1), (2, .int L2), (4, .int L4)] [0, 1, 2, 4] rfl ?_
          exact sX7_areCandidates_81 C hr hno hI39 h
        · replace h := h.2 hc
          refine g_iconst C 1 (by decide) dX7_areCandidates_77 ?_
          refine g_goto C 82 (by decide) dX7_areCandidates_78 ?_
          refine g_sub [(0, .ref (L.2.1 7 0)), (1, .int L1), (2, .int L2), (4, .int L4)] [0, 1, 2, 4] rfl ?_
          exact sX7_areCandidates_82 C hr hno hI39 h
def LX7_areCandidates_39 (L1 : Int32) (L2 : Int32) (L3 : Int32) (L4 : Int32) (v : gMem) (Q : Int32 → gMem → Prop) (X : String → gMem → Prop) : Prop := ∀ I39 : Int32 → Int32 → gMem → Prop, (∀ (L3 : Int32) (L4 : Int32) (v : gMem), BX7_areCandidates_39 I39 L1 L2 L3 L4 v Q X → I39 L3 L4 v) → I39 L3 L4 v
theorem slX7_areCandidates_39 (C : gC p l s m args meth c cX7_areCandidates 5 RX7 L sz) (hr : meth.sig.returnType = (some .boolean)) (hno : ∀ x ∈ c.exceptionTable.toList, False) {L1 : Int32} {L2 : Int32} {L3 : Int32} {L4 : Int32} {v : gMem} {Q : Int32 → gMem → Prop} {X : String → gMem → Prop} (h : LX7_areCandidates_39 L1 L2 L3 L4 v Q X) : gS p l e ({ frames := 4, cells := 0, slots := 0, locals := 96 } : Room) s m args below meth c 5 L sz (vx_MQ below (gQi L sz Q) (gXC L sz X) args s 0 0 (gA L sz)) 0 0 39 [(0, .ref (L.2.1 7 0)), (1, .int L1), (2, .int L2), (3, .int L3), (4, .int L4)] [] v := by
  refine h (fun L3 L4 v => gS p l e ({ frames := 4, cells := 0, slots := 0, locals := 96 } : Room) s m args below meth c 5 L sz (vx_MQ below (gQi L sz Q) (gXC L sz X) args s 0 0 (gA L sz)) 0 0 39 [(0, .ref (L.2.1 7 0)), (1, .int L1), (2, .int L2), (3, .int L3), (4, .int L4)] [] v) (fun L3 L4 v hb => ?_)
  exact sX7_areCandidates_39 C hr hno (fun _ _ _ hs => hs) hb
def TX7_areCandidates (L1 : Int32) (L2 : Int32) (v : gMem) (Q : Int32 → gMem → Prop) (X : String → gMem → Prop) : Prop := (vp_in L1 16 ∧ (vp_in L2 16 ∧ ((¬ (v 38 0 (Int32.toNatClampNeg L1)) = (v 38 0 (Int32.toNatClampNeg L2)) → (vp_in L1 16 ∧ (vp_in L2 16 ∧ (TX7_isSameSound L1 (v 32 0 (Int32.toNatClampNeg L1)) L2 (v 32 0 (Int32.toNatClampNeg L2)) v (fun r32 v32 => (LX7_areCandidates_39 L1 L2 r32 1 v32 Q X)) X)))) ∧ ((v 38 0 (Int32.toNatClampNeg L1)) = (v 38 0 (Int32.toNatClampNeg L2)) → (Q 0 v)))))
theorem kX7_areCandidates (l : Launch) (hfl : l.stackTraces = false) (L : gL) (hL : gDist L) (L1 : Int32) (L2 : Int32) (v : gMem) (Q : Int32 → gMem → Prop) (X : String → gMem → Prop) (h : TX7_areCandidates L1 L2 v Q X) (sz : Nat) : vx_Met l yX7_areCandidates [.code yX7_areCandidates cX7_areCandidates 5 (some .boolean)] ({ frames := 4, cells := 0, slots := 0, locals := 96 } : Room) (gPc L sz [.ref (L.2.1 7 0), .int L1, .int L2] v) (gQi L sz Q) (gXC L sz X) 0 0 (gA L sz) := by
  refine g_ofW (by decide +kernel) hfl hL (Nat.le_of_ble_eq_true rfl) ?_
  intro p e s m args below meth c C hr hno
  refine g_sub [(0, .ref (L.2.1 7 0)), (1, .int L1), (2, .int L2)] [0, 1, 2] rfl ?_
  unfold TX7_areCandidates at h
  refine g_aload_n C 0 rfl 0 rfl dX7_areCandidates_0 ?_
  refine fgX7_38 C dX7_areCandidates_1 ?_
  refine g_iload_n C 1 rfl 1 rfl dX7_areCandidates_4 ?_
  obtain ⟨hb5, h⟩ := h
  refine g_iald C gok_38 rfl hb5 dX7_areCandidates_5 ?_
  refine g_aload_n C 0 rfl 0 rfl dX7_areCandidates_6 ?_
  refine fgX7_38 C dX7_areCandidates_7 ?_
  refine g_iload_n C 2 rfl 2 rfl dX7_areCandidates_10 ?_
  obtain ⟨hb11, h⟩ := h
  refine g_iald C gok_38 rfl hb11 dX7_areCandidates_11 ?_
  refine g_icmp_ne C 17 (by decide) dX7_areCandidates_12 (fun hc => ?_) (fun hc => ?_)
  · replace h := h.1 hc
    refine g_aload_n C 0 rfl 0 rfl dX7_areCandidates_17 ?_
    refine g_iload_n C 1 rfl 1 rfl dX7_areCandidates_18 ?_
    refine g_aload_n C 0 rfl 0 rfl dX7_areCandidates_19 ?_
    refine fgX7_20 C dX7_areCandidates_20 ?_
    refine g_iload_n C 1 rfl 1 rfl dX7_areCandidates_23 ?_
    obtain ⟨hb24, h⟩ := h
    refine g_iald C gok_32 rfl hb24 dX7_areCandidates_24 ?_
    refine g_iload_n C 2 rfl 2 rfl dX7_areCandidates_25 ?_
    refine g_aload_n C 0 rfl 0 rfl dX7_areCandidates_26 ?_
    refine fgX7_20 C dX7_areCandidates_27 ?_
    refine g_iload_n C 2 rfl 2 rfl dX7_areCandidates_30 ?_
    obtain ⟨hb31, h⟩ := h
    refine g_iald C gok_32 rfl hb31 dX7_areCandidates_31 ?_
    refine g_callVi C hno gok_7 rfl rfl [.int L1, .int (v 32 0 (Int32.toNatClampNeg L1)), .int L2, .int (v 32 0 (Int32.toNatClampNeg L2))] (fun sz9 => kX7_isSameSound l C.2.2.2.2.2.2.1 L C.2.2.2.2.2.2.2.1 L1 (v 32 0 (Int32.toNatClampNeg L1)) L2 (v 32 0 (Int32.toNatClampNeg L2)) v _ X h sz9) wml_RX7_104 winst_X7_isSameSound wsel_X7_isSameSound wini_RX7 wcode_X7_isSameSound rfl rfl (n := 4) (by decide +kernel) rfl ⟨(Nat.le_of_ble_eq_true rfl), (Nat.le_of_ble_eq_true rfl)⟩ ⟨(Nat.le_of_ble_eq_true rfl), (Nat.le_of_ble_eq_true rfl)⟩ ⟨(Nat.le_of_ble_eq_true rfl), (Nat.le_of_ble_eq_true rfl)⟩ (Nat.le_of_ble_eq_true rfl) dX7_areCandidates_32 (fun r32 v32 h => ?_)
    refine g_istore_n C 3 rfl [(3, .int r32), (0, .ref (L.2.1 7 0)), (1, .int L1), (2, .int L2)] (Nat.le_of_ble_eq_true rfl) rfl dX7_areCandidates_35 ?_
    refine g_iconst C 1 (by decide) dX7_areCandidates_36 ?_
    refine g_istore C [(4, .int 1), (3, .int r32), (0, .ref (L.2.1 7 0)), (1, .int L1), (2, .int L2)] (Nat.le_of_ble_eq_true rfl) rfl dX7_areCandidates_37 ?_
    refine g_sub [(0, .ref (L.2.1 7 0)), (1, .int L1), (2, .int L2), (3, .int r32), (4, .int 1)] [2, 3, 4, 1, 0] rfl ?_
    exact slX7_areCandidates_39 C hr hno h
  · replace h := h.2 hc
    refine g_iconst C 0 (by decide) dX7_areCandidates_15 ?_
    exact g_iret C hr rfl (Nat.le_of_ble_eq_true rfl) (Nat.le_of_ble_eq_true rfl) h dX7_areCandidates_16
def BX7_candidates_43 (I8 : Int32 → Int32 → gMem → Prop) (I20 : Int32 → Int32 → gMem → Prop) (L2 : Int32) (L3 : Int32) (t0 : Int32) (t1 : Int32) (v : gMem) (Q : Int32 → gMem → Prop) (X : String → gMem → Prop) : Prop := (I20 (t0 + t1) (L3 + 1) v)
theorem sX7_candidates_43 (C : gC p l s m args meth c cX7_candidates 4 RX7 L sz) (hr : meth.sig.returnType = (some .int)) (hno : ∀ x ∈ c.exceptionTable.toList, False) {L2 : Int32} {L3 : Int32} {t0 : Int32} {t1 : Int32} {v : gMem} {Q : Int32 → gMem → Prop} {X : String → gMem → Prop} {I8 : Int32 → Int32 → gMem → Prop} (hI8 : ∀ (L1 : Int32) (L2 : Int32) (v : gMem), I8 L1 L2 v → gS p l e ({ frames := 5, cells := 0, slots := 0, locals := 120 } : Room) s m args below meth c 4 L sz (vx_MQ below (gQi L sz Q) (gXC L sz X) args s 0 0 (gA L sz)) 0 0 8 [(0, .ref (L.2.1 7 0)), (1, .int L1), (2, .int L2)] [] v) {I20 : Int32 → Int32 → gMem → Prop} (hI20 : ∀ (L1 : Int32) (L3 : Int32) (v : gMem), I20 L1 L3 v → gS p l e ({ frames := 5, cells := 0, slots := 0, locals := 120 } : Room) s m args below meth c 4 L sz (vx_MQ below (gQi L sz Q) (gXC L sz X) args s 0 0 (gA L sz)) 0 0 20 [(0, .ref (L.2.1 7 0)), (1, .int L1), (2, .int L2), (3, .int L3)] [] v) (h : BX7_candidates_43 I8 I20 L2 L3 t0 t1 v Q X) : gS p l e ({ frames := 5, cells := 0, slots := 0, locals := 120 } : Room) s m args below meth c 4 L sz (vx_MQ below (gQi L sz Q) (gXC L sz X) args s 0 0 (gA L sz)) 0 0 43 [(0, .ref (L.2.1 7 0)), (2, .int L2), (3, .int L3)] [.int t1, .int t0] v := by
  unfold BX7_candidates_43 at h
  refine g_iadd C dX7_candidates_43 ?_
  refine g_istore_n C 1 rfl [(1, .int (t0 + t1)), (0, .ref (L.2.1 7 0)), (2, .int L2), (3, .int L3)] (Nat.le_of_ble_eq_true rfl) rfl dX7_candidates_44 ?_
  refine g_iinc C (k := 3) (L3 + 1) [(3, .int (L3 + 1)), (1, .int (t0 + t1)), (0, .ref (L.2.1 7 0)), (2, .int L2)] rfl rfl (Nat.le_of_ble_eq_true rfl) rfl dX7_candidates_45 ?_
  refine g_goto C 20 (by decide) dX7_candidates_48 ?_
  refine g_sub [(0, .ref (L.2.1 7 0)), (1, .int (t0 + t1)), (2, .int L2), (3, .int (L3 + 1))] [2, 1, 3, 0] rfl ?_
  exact hI20 _ _ _ h
def BX7_candidates_20 (I8 : Int32 → Int32 → gMem → Prop) (I20 : Int32 → Int32 → gMem → Prop) (L1 : Int32) (L2 : Int32) (L3 : Int32) (v : gMem) (Q : Int32 → gMem → Prop) (X : String → gMem → Prop) : Prop := (((v 7 0 2) ≤ L3 → (I8 L1 (L2 + 1) v)) ∧ (¬ (v 7 0 2) ≤ L3 → (TX7_areCandidates L2 L3 v (fun r32 v32 => ((r32 = 0 → (BX7_candidates_43 I8 I20 L2 L3 L1 0 v32 Q X)) ∧ (¬ r32 = 0 → (BX7_candidates_43 I8 I20 L2 L3 L1 1 v32 Q X)))) X)))
theorem sX7_candidates_20 (C : gC p l s m args meth c cX7_candidates 4 RX7 L sz) (hr : meth.sig.returnType = (some .int)) (hno : ∀ x ∈ c.exceptionTable.toList, False) {L1 : Int32} {L2 : Int32} {L3 : Int32} {v : gMem} {Q : Int32 → gMem → Prop} {X : String → gMem → Prop} {I8 : Int32 → Int32 → gMem → Prop} (hI8 : ∀ (L1 : Int32) (L2 : Int32) (v : gMem), I8 L1 L2 v → gS p l e ({ frames := 5, cells := 0, slots := 0, locals := 120 } : Room) s m args below meth c 4 L sz (vx_MQ below (gQi L sz Q) (gXC L sz X) args s 0 0 (gA L sz)) 0 0 8 [(0, .ref (L.2.1 7 0)), (1, .int L1), (2, .int L2)] [] v) {I20 : Int32 → Int32 → gMem → Prop} (hI20 : ∀ (L1 : Int32) (L3 : Int32) (v : gMem), I20 L1 L3 v → gS p l e ({ frames := 5, cells := 0, slots := 0, locals := 120 } : Room) s m args below meth c 4 L sz (vx_MQ below (gQi L sz Q) (gXC L sz X) args s 0 0 (gA L sz)) 0 0 20 [(0, .ref (L.2.1 7 0)), (1, .int L1), (2, .int L2), (3, .int L3)] [] v) (h : BX7_candidates_20 I8 I20 L1 L2 L3 v Q X) : gS p l e ({ frames := 5, cells := 0, slots := 0, locals := 120 } : Room) s m args below meth c 4 L sz (vx_MQ below (gQi L sz Q) (gXC L sz X) args s 0 0 (gA L sz)) 0 0 20 [(0, .ref (L.2.1 7 0)), (1, .int L1), (2, .int L2), (3, .int L3)] [] v := by
  unfold BX7_candidates_20 at h
  refine g_iload_n C 3 rfl 3 rfl dX7_candidates_20 ?_
  refine g_aload_n C 0 rfl 0 rfl dX7_candidates_21 ?_
  refine fgX7_67 C dX7_candidates_22 ?_
  refine g_icmp_ge C 51 (by decide) dX7_candidates_25 (fun hc => ?_) (fun hc => ?_)
  · replace h := h.1 hc
    refine g_iinc C (k := 2) (L2 + 1) [(2, .int (L2 + 1)), (0, .ref (L.2.1 7 0)), (1, .int L1), (3, .int L3)] rfl rfl (Nat.le_of_ble_eq_true rfl) rfl dX7_candidates_51 ?_
    refine g_goto C 8 (by decide) dX7_candidates_54 ?_
    refine g_sub [(0, .ref (L.2.1 7 0)), (1, .int L1), (2, .int (L2 + 1))] [1, 2, 0] rfl ?_
    exact hI8 _ _ _ h
  · replace h := h.2 hc
    refine g_iload_n C 1 rfl 1 rfl dX7_candidates_28 ?_
    refine g_aload_n C 0 rfl 0 rfl dX7_candidates_29 ?_
    refine g_iload_n C 2 rfl 2 rfl dX7_candidates_30 ?_
    refine g_iload_n C 3 rfl 3 rfl dX7_candidates_31 ?_
    refine g_callVi C hno gok_7 rfl rfl [.int L2, .int L3] (fun sz9 => kX7_areCandidates l C.2.2.2.2.2.2.1 L C.2.2.2.2.2.2.2.1 L2 L3 v _ X h sz9) wml_RX7_133 winst_X7_areCandidates wsel_X7_areCandidates wini_RX7 wcode_X7_areCandidates rfl rfl (n := 2) (by decide +kernel) rfl ⟨(Nat.le_of_ble_eq_true rfl), (Nat.le_of_ble_eq_true rfl)⟩ ⟨(Nat.le_of_ble_eq_true rfl), (Nat.le_of_ble_eq_true rfl)⟩ ⟨(Nat.le_of_ble_eq_true rfl), (Nat.le_of_ble_eq_true rfl)⟩ (Nat.le_of_ble_eq_true rfl) dX7_candidates_32 (fun r32 v32 h => ?_)
    refine g_if_eq C 42 (by decide) dX7_candidates_35 (fun hc => ?_) (fun hc => ?_)
    · replace h := h.1 hc
      refine g_iconst C 0 (by decide) dX7_candidates_42 ?_
      refine g_sub [(0, .ref (L.2.1 7 0)), (2, .int L2), (3, .int L3)] [0, 2, 3] rfl ?_
      exact sX7_candidates_43 C hr hno hI8 hI20 h
    · replace h := h.2 hc
      refine g_iconst C 1 (by decide) dX7_candidates_38 ?_
      refine g_goto C 43 (by decide) dX7_candidates_39 ?_
      refine g_sub [(0, .ref (L.2.1 7 0)), (2, .int L2), (3, .int L3)] [0, 2, 3] rfl ?_
      exact sX7_candidates_43 C hr hno hI8 hI20 h
def LX7_candidates_20 (I8 : Int32 → Int32 → gMem → Prop) (L1 : Int32) (L2 : Int32) (L3 : Int32) (v : gMem) (Q : Int32 → gMem → Prop) (X : String → gMem → Prop) : Prop := ∀ I20 : Int32 → Int32 → gMem → Prop, (∀ (L1 : Int32) (L3 : Int32) (v : gMem), BX7_candidates_20 I8 I20 L1 L2 L3 v Q X → I20 L1 L3 v) → I20 L1 L3 v
theorem slX7_candidates_20 (C : gC p l s m args meth c cX7_candidates 4 RX7 L sz) (hr : meth.sig.returnType = (some .int)) (hno : ∀ x ∈ c.exceptionTable.toList, False) {L1 : Int32} {L2 : Int32} {L3 : Int32} {v : gMem} {Q : Int32 → gMem → Prop} {X : String → gMem → Prop} {I8 : Int32 → Int32 → gMem → Prop} (hI8 : ∀ (L1 : Int32) (L2 : Int32) (v : gMem), I8 L1 L2 v → gS p l e ({ frames := 5, cells := 0, slots := 0, locals := 120 } : Room) s m args below meth c 4 L sz (vx_MQ below (gQi L sz Q) (gXC L sz X) args s 0 0 (gA L sz)) 0 0 8 [(0, .ref (L.2.1 7 0)), (1, .int L1), (2, .int L2)] [] v) (h : LX7_candidates_20 I8 L1 L2 L3 v Q X) : gS p l e ({ frames := 5, cells := 0, slots := 0, locals := 120 } : Room) s m args below meth c 4 L sz (vx_MQ below (gQi L sz Q) (gXC L sz X) args s 0 0 (gA L sz)) 0 0 20 [(0, .ref (L.2.1 7 0)), (1, .int L1), (2, .int L2), (3, .int L3)] [] v := by
  refine h (fun L1 L3 v => gS p l e ({ frames := 5, cells := 0, slots := 0, locals := 120 } : Room) s m args below meth c 4 L sz (vx_MQ below (gQi L sz Q) (gXC L sz X) args s 0 0 (gA L sz)) 0 0 20 [(0, .ref (L.2.1 7 0)), (1, .int L1), (2, .int L2), (3, .int L3)] [] v) (fun L1 L3 v hb => ?_)
  exact sX7_candidates_20 C hr hno hI8 (fun _ _ _ hs => hs) hb
def BX7_candidates_8 (I8 : Int32 → Int32 → gMem → Prop) (L1 : Int32) (L2 : Int32) (v : gMem) (Q : Int32 → gMem → Prop) (X : String → gMem → Prop) : Prop := (((v 7 0 2) ≤ L2 → (Q L1 v)) ∧ (¬ (v 7 0 2) ≤ L2 → (LX7_candidates_20 I8 L1 L2 (L2 + 1) v Q X)))
theorem sX7_candidates_8 (C : gC p l s m args meth c cX7_candidates 4 RX7 L sz) (hr : meth.sig.returnType = (some .int)) (hno : ∀ x ∈ c.exceptionTable.toList, False) {L1 : Int32} {L2 : Int32} {v : gMem} {Q : Int32 → gMem → Prop} {X : String → gMem → Prop} {I8 : Int32 → Int32 → gMem → Prop} (hI8 : ∀ (L1 : Int32) (L2 : Int32) (v : gMem), I8 L1 L2 v → gS p l e ({ frames := 5, cells := 0, slots := 0, locals := 120 } : Room) s m args below meth c 4 L sz (vx_MQ below (gQi L sz Q) (gXC L sz X) args s 0 0 (gA L sz)) 0 0 8 [(0, .ref (L.2.1 7 0)), (1, .int L1), (2, .int L2)] [] v) (h : BX7_candidates_8 I8 L1 L2 v Q X) : gS p l e ({ frames := 5, cells := 0, slots := 0, locals := 120 } : Room) s m args below meth c 4 L sz (vx_MQ below (gQi L sz Q) (gXC L sz X) args s 0 0 (gA L sz)) 0 0 8 [(0, .ref (L.2.1 7 0)), (1, .int L1), (2, .int L2)] [] v := by
  unfold BX7_candidates_8 at h
  refine g_iload_n C 2 rfl 2 rfl dX7_candidates_8 ?_
  refine g_aload_n C 0 rfl 0 rfl dX7_candidates_9 ?_
  refine fgX7_67 C dX7_candidates_10 ?_
  refine g_icmp_ge C 57 (by decide) dX7_candidates_13 (fun hc => ?_) (fun hc => ?_)
  · replace h := h.1 hc
    refine g_iload_n C 1 rfl 1 rfl dX7_candidates_57 ?_
    exact g_iret C hr rfl (Nat.le_of_ble_eq_true rfl) (Nat.le_of_ble_eq_true rfl) h dX7_candidates_58
  · replace h := h.2 hc
    refine g_iload_n C 2 rfl 2 rfl dX7_candidates_16 ?_
    refine g_iconst C 1 (by decide) dX7_candidates_17 ?_
    refine g_iadd C dX7_candidates_18 ?_
    refine g_istore_n C 3 rfl [(3, .int (L2 + 1)), (0, .ref (L.2.1 7 0)), (1, .int L1), (2, .int L2)] (Nat.le_of_ble_eq_true rfl) rfl dX7_candidates_19 ?_
    refine g_sub [(0, .ref (L.2.1 7 0)), (1, .int L1), (2, .int L2), (3, .int (L2 + 1))] [1, 2, 3, 0] rfl ?_
    exact slX7_candidates_20 C hr hno hI8 h
def LX7_candidates_8 (L1 : Int32) (L2 : Int32) (v : gMem) (Q : Int32 → gMem → Prop) (X : String → gMem → Prop) : Prop := ∀ I8 : Int32 → Int32 → gMem → Prop, (∀ (L1 : Int32) (L2 : Int32) (v : gMem), BX7_candidates_8 I8 L1 L2 v Q X → I8 L1 L2 v) → I8 L1 L2 v
theorem slX7_candidates_8 (C : gC p l s m args meth c cX7_candidates 4 RX7 L sz) (hr : meth.sig.returnType = (some .int)) (hno : ∀ x ∈ c.exceptionTable.toList, False) {L1 : Int32} {L2 : Int32} {v : gMem} {Q : Int32 → gMem → Prop} {X : String → gMem → Prop} (h : LX7_candidates_8 L1 L2 v Q X) : gS p l e ({ frames := 5, cells := 0, slots := 0, locals := 120 } : Room) s m args below meth c 4 L sz (vx_MQ below (gQi L sz Q) (gXC L sz X) args s 0 0 (gA L sz)) 0 0 8 [(0, .ref (L.2.1 7 0)), (1, .int L1), (2, .int L2)] [] v := by
  refine h (fun L1 L2 v => gS p l e ({ frames := 5, cells := 0, slots := 0, locals := 120 } : Room) s m args below meth c 4 L sz (vx_MQ below (gQi L sz Q) (gXC L sz X) args s 0 0 (gA L sz)) 0 0 8 [(0, .ref (L.2.1 7 0)), (1, .int L1), (2, .int L2)] [] v) (fun L1 L2 v hb => ?_)
  exact sX7_candidates_8 C hr hno (fun _ _ _ hs => hs) hb
def TX7_candidates (v : gMem) (Q : Int32 → gMem → Prop) (X : String → gMem → Prop) : Prop := (TX7_gather v (fun v1 => (LX7_candidates_8 0 0 v1 Q X)) X)
theorem kX7_candidates (l : Launch) (hfl : l.stackTraces = false) (L : gL) (hL : gDist L) (v : gMem) (Q : Int32 → gMem → Prop) (X : String → gMem → Prop) (h : TX7_candidates v Q X) (sz : Nat) : vx_Met l yX7_candidates [.code yX7_candidates cX7_candidates 4 (some .int)] ({ frames := 5, cells := 0, slots := 0, locals := 120 } : Room) (gPc L sz [.ref (L.2.1 7 0)] v) (gQi L sz Q) (gXC L sz X) 0 0 (gA L sz) := by
  refine g_ofW (by decide +kernel) hfl hL (Nat.le_of_ble_eq_true rfl) ?_
  intro p e s m args below meth c C hr hno
  refine g_sub [(0, .ref (L.2.1 7 0))] [0] rfl ?_
  unfold TX7_candidates at h
  refine g_aload_n C 0 rfl 0 rfl dX7_candidates_0 ?_
  refine g_callVv C hno gok_7 rfl rfl [] (fun sz9 => kX7_gather l C.2.2.2.2.2.2.1 L C.2.2.2.2.2.2.2.1 v _ X h sz9) wml_RX7_130 winst_X7_gather wsel_X7_gather wini_RX7 wcode_X7_gather rfl rfl (n := 0) (by decide +kernel) rfl ⟨(Nat.le_of_ble_eq_true rfl), (Nat.le_of_ble_eq_true rfl)⟩ ⟨(Nat.le_of_ble_eq_true rfl), (Nat.le_of_ble_eq_true rfl)⟩ ⟨(Nat.le_of_ble_eq_true rfl), (Nat.le_of_ble_eq_true rfl)⟩ (Nat.le_of_ble_eq_true rfl) dX7_candidates_1 (fun v1 h => ?_)
  refine g_iconst C 0 (by decide) dX7_candidates_4 ?_
  refine g_istore_n C 1 rfl [(1, .int 0), (0, .ref (L.2.1 7 0))] (Nat.le_of_ble_eq_true rfl) rfl dX7_candidates_5 ?_
  refine g_iconst C 0 (by decide) dX7_candidates_6 ?_
  refine g_istore_n C 2 rfl [(2, .int 0), (1, .int 0), (0, .ref (L.2.1 7 0))] (Nat.le_of_ble_eq_true rfl) rfl dX7_candidates_7 ?_
  refine g_sub [(0, .ref (L.2.1 7 0)), (1, .int 0), (2, .int 0)] [2, 1, 0] rfl ?_
  exact slX7_candidates_8 C hr hno h
def BX7_noBest_114 (t0 : Int32) (v : gMem) (Q : Int32 → gMem → Prop) (X : String → gMem → Prop) : Prop := (narrow .boolean (.int t0) = .int t0 ∧ Q t0 v)
theorem sX7_noBest_114 (C : gC p l s m args meth c cX7_noBest 5 RX7 L sz) (hr : meth.sig.returnType = (some .boolean)) (hno : ∀ x ∈ c.exceptionTable.toList, False) {t0 : Int32} {v : gMem} {Q : Int32 → gMem → Prop} {X : String → gMem → Prop} (h : BX7_noBest_114 t0 v Q X) : gS p l e ({ frames := 5, cells := 0, slots := 0, locals := 120 } : Room) s m args below meth c 5 L sz (vx_MQ below (gQi L sz Q) (gXC L sz X) args s 0 0 (gA L sz)) 0 0 114 [] [.int t0] v := by
  unfold BX7_noBest_114 at h
  exact g_iret C hr h.1 (Nat.le_of_ble_eq_true rfl) (Nat.le_of_ble_eq_true rfl) h.2 dX7_noBest_114
def BX7_noBest_102 (L1 : Int32) (t1 : Int32) (v : gMem) (Q : Int32 → gMem → Prop) (X : String → gMem → Prop) : Prop := ((0 ≤ L1 → (BX7_noBest_114 0 (gw v 7 0 0 t1) Q X)) ∧ (¬ 0 ≤ L1 → (BX7_noBest_114 1 (gw v 7 0 0 t1) Q X)))
theorem sX7_noBest_102 (C : gC p l s m args meth c cX7_noBest 5 RX7 L sz) (hr : meth.sig.returnType = (some .boolean)) (hno : ∀ x ∈ c.exceptionTable.toList, False) {L1 : Int32} {t1 : Int32} {v : gMem} {Q : Int32 → gMem → Prop} {X : String → gMem → Prop} (h : BX7_noBest_102 L1 t1 v Q X) : gS p l e ({ frames := 5, cells := 0, slots := 0, locals := 120 } : Room) s m args below meth c 5 L sz (vx_MQ below (gQi L sz Q) (gXC L sz X) args s 0 0 (gA L sz)) 0 0 102 [(1, .int L1)] [.int t1, .ref (L.2.1 7 0)] v := by
  unfold BX7_noBest_102 at h
  refine fpX7_64 C dX7_noBest_102 ?_
  refine g_iload_n C 1 rfl 0 rfl dX7_noBest_105 ?_
  refine g_if_ge C 113 (by decide) dX7_noBest_106 (fun hc => ?_) (fun hc => ?_)
  · replace h := h.1 hc
    refine g_iconst C 0 (by decide) dX7_noBest_113 ?_
    refine g_sub [] [] rfl ?_
    exact sX7_noBest_114 C hr hno h
  · replace h := h.2 hc
    refine g_iconst C 1 (by decide) dX7_noBest_109 ?_
    refine g_goto C 114 (by decide) dX7_noBest_110 ?_
    refine g_sub [] [] rfl ?_
    exact sX7_noBest_114 C hr hno h
def BX7_noBest_70 (I10 : Int32 → Int32 → Int32 → gMem → Prop) (I23 : Int32 → Int32 → Int32 → gMem → Prop) (L1 : Int32) (L2 : Int32) (L3 : Int32) (L4 : Int32) (v : gMem) (Q : Int32 → gMem → Prop) (X : String → gMem → Prop) : Prop := (I23 L1 L2 (L4 + 1) v)
theorem sX7_noBest_70 (C : gC p l s m args meth c cX7_noBest 5 RX7 L sz) (hr : meth.sig.returnType = (some .boolean)) (hno : ∀ x ∈ c.exceptionTable.toList, False) {L1 : Int32} {L2 : Int32} {L3 : Int32} {L4 : Int32} {v : gMem} {Q : Int32 → gMem → Prop} {X : String → gMem → Prop} {I10 : Int32 → Int32 → Int32 → gMem → Prop} (hI10 : ∀ (L1 : Int32) (L2 : Int32) (L3 : Int32) (v : gMem), I10 L1 L2 L3 v → gS p l e ({ frames := 5, cells := 0, slots := 0, locals := 120 } : Room) s m args below meth c 5 L sz (vx_MQ below (gQi L sz Q) (gXC L sz X) args s 0 0 (gA L sz)) 0 0 10 [(0, .ref (L.2.1 7 0)), (1, .int L1), (2, .int L2), (3, .int L3)] [] v) {I23 : Int32 → Int32 → Int32 → gMem → Prop} (hI23 : ∀ (L1 : Int32) (L2 : Int32) (L4 : Int32) (v : gMem), I23 L1 L2 L4 v → gS p l e ({ frames := 5, cells := 0, slots := 0, locals := 120 } : Room) s m args below meth c 5 L sz (vx_MQ below (gQi L sz Q) (gXC L sz X) args s 0 0 (gA L sz)) 0 0 23 [(0, .ref (L.2.1 7 0)), (1, .int L1), (2, .int L2), (3, .int L3), (4, .int L4)] [] v) (h : BX7_noBest_70 I10 I23 L1 L2 L3 L4 v Q X) : gS p l e ({ frames := 5, cells := 0, slots := 0, locals := 120 } : Room) s m args below meth c 5 L sz (vx_MQ below (gQi L sz Q) (gXC L sz X) args s 0 0 (gA L sz)) 0 0 70 [(0, .ref (L.2.1 7 0)), (1, .int L1), (2, .int L2), (3, .int L3), (4, .int L4)] [] v := by
  unfold BX7_noBest_70 at h
  refine g_iinc C (k := 4) (L4 + 1) [(4, .int (L4 + 1)), (0, .ref (L.2.1 7 0)), (1, .int L1), (2, .int L2), (3, .int L3)] rfl rfl (Nat.le_of_ble_eq_true rfl) rfl dX7_noBest_70 ?_
  refine g_goto C 23 (by decide) dX7_noBest_73 ?_
  refine g_sub [(0, .ref (L.2.1 7 0)), (1, .int L1), (2, .int L2), (3, .int L3), (4, .int (L4 + 1))] [1, 2, 3, 4, 0] rfl ?_
  exact hI23 _ _ _ _ h
def BX7_noBest_65 (I10 : Int32 → Int32 → Int32 → gMem → Prop) (I23 : Int32 → Int32 → Int32 → gMem → Prop) (L3 : Int32) (L4 : Int32) (v : gMem) (Q : Int32 → gMem → Prop) (X : String → gMem → Prop) : Prop := (BX7_noBest_70 I10 I23 L3 L4 L3 L4 v Q X)
theorem sX7_noBest_65 (C : gC p l s m args meth c cX7_noBest 5 RX7 L sz) (hr : meth.sig.returnType = (some .boolean)) (hno : ∀ x ∈ c.exceptionTable.toList, False) {L3 : Int32} {L4 : Int32} {v : gMem} {Q : Int32 → gMem → Prop} {X : String → gMem → Prop} {I10 : Int32 → Int32 → Int32 → gMem → Prop} (hI10 : ∀ (L1 : Int32) (L2 : Int32) (L3 : Int32) (v : gMem), I10 L1 L2 L3 v → gS p l e ({ frames := 5, cells := 0, slots := 0, locals := 120 } : Room) s m args below meth c 5 L sz (vx_MQ below (gQi L sz Q) (gXC L sz X) args s 0 0 (gA L sz)) 0 0 10 [(0, .ref (L.2.1 7 0)), (1, .int L1), (2, .int L2), (3, .int L3)] [] v) {I23 : Int32 → Int32 → Int32 → gMem → Prop} (hI23 : ∀ (L1 : Int32) (L2 : Int32) (L4 : Int32) (v : gMem), I23 L1 L2 L4 v → gS p l e ({ frames := 5, cells := 0, slots := 0, locals := 120 } : Room) s m args below meth c 5 L sz (vx_MQ below (gQi L sz Q) (gXC L sz X) args s 0 0 (gA L sz)) 0 0 23 [(0, .ref (L.2.1 7 0)), (1, .int L1), (2, .int L2), (3, .int L3), (4, .int L4)] [] v) (h : BX7_noBest_65 I10 I23 L3 L4 v Q X) : gS p l e ({ frames := 5, cells := 0, slots := 0, locals := 120 } : Room) s m args below meth c 5 L sz (vx_MQ below (gQi L sz Q) (gXC L sz X) args s 0 0 (gA L sz)) 0 0 65 [(0, .ref (L.2.1 7 0)), (3, .int L3), (4, .int L4)] [] v := by
  unfold BX7_noBest_65 at h
  refine g_iload_n C 3 rfl 1 rfl dX7_noBest_65 ?_
  refine g_istore_n C 1 rfl [(1, .int L3), (0, .ref (L.2.1 7 0)), (3, .int L3), (4, .int L4)] (Nat.le_of_ble_eq_true rfl) rfl dX7_noBest_66 ?_
  refine g_iload C 3 rfl dX7_noBest_67 ?_
  refine g_istore_n C 2 rfl [(2, .int L4), (1, .int L3), (0, .ref (L.2.1 7 0)), (3, .int L3), (4, .int L4)] (Nat.le_of_ble_eq_true rfl) rfl dX7_noBest_69 ?_
  refine g_sub [(0, .ref (L.2.1 7 0)), (1, .int L3), (2, .int L4), (3, .int L3), (4, .int L4)] [2, 1, 0, 3, 4] rfl ?_
  exact sX7_noBest_70 C hr hno hI10 hI23 h
def BX7_noBest_23 (I10 : Int32 → Int32 → Int32 → gMem → Prop) (I23 : Int32 → Int32 → Int32 → gMem → Prop) (L1 : Int32) (L2 : Int32) (L3 : Int32) (L4 : Int32) (v : gMem) (Q : Int32 → gMem → Prop) (X : String → gMem → Prop) : Prop := (((v 7 0 2) ≤ L4 → (I10 L1 L2 (L3 + 1) v)) ∧ (¬ (v 7 0 2) ≤ L4 → (TX7_areCandidates L3 L4 v (fun r36 v36 => ((r36 = 0 → (BX7_noBest_70 I10 I23 L1 L2 L3 L4 v36 Q X)) ∧ (¬ r36 = 0 → ((L1 < 0 → (BX7_noBest_65 I10 I23 L3 L4 v36 Q X)) ∧ (¬ L1 < 0 → (TX7_scoreOf L3 L4 v36 (fun r50 v50 => (TX7_scoreOf L1 L2 v50 (fun r56 v56 => ((r56 < r50 → (BX7_noBest_65 I10 I23 L3 L4 v56 Q X)) ∧ (¬ r56 < r50 → (BX7_noBest_70 I10 I23 L1 L2 L3 L4 v56 Q X)))) X)) X)))))) X)))
theorem sX7_noBest_23 (C : gC p l s m args meth c cX7_noBest 5 RX7 L sz) (hr : meth.sig.returnType = (some .boolean)) (hno : ∀ x ∈ c.exceptionTable.toList, False) {L1 : Int32} {L2 : Int32} {L3 : Int32} {L4 : Int32} {v : gMem} {Q : Int32 → gMem → Prop} {X : String → gMem → Prop} {I10 : Int32 → Int32 → Int32 → gMem → Prop} (hI10 : ∀ (L1 : Int32) (L2 : Int32) (L3 : Int32) (v : gMem), I10 L1 L2 L3 v → gS p l e ({ frames := 5, cells := 0, slots := 0, locals := 120 } : Room) s m args below meth c 5 L sz (vx_MQ below (gQi L sz Q) (gXC L sz X) args s 0 0 (gA L sz)) 0 0 10 [(0, .ref (L.2.1 7 0)), (1, .int L1), (2, .int L2), (3, .int L3)] [] v) {I23 : Int32 → Int32 → Int32 → gMem → Prop} (hI23 : ∀ (L1 : Int32) (L2 : Int32) (L4 : Int32) (v : gMem), I23 L1 L2 L4 v → gS p l e ({ frames := 5, cells := 0, slots := 0, locals := 120 } : Room) s m args below meth c 5 L sz (vx_MQ below (gQi L sz Q) (gXC L sz X) args s 0 0 (gA L sz)) 0 0 23 [(0, .ref (L.2.1 7 0)), (1, .int L1), (2, .int L2), (3, .int L3), (4, .int L4)] [] v) (h : BX7_noBest_23 I10 I23 L1 L2 L3 L4 v Q X) : gS p l e ({ frames := 5, cells := 0, slots := 0, locals := 120 } : Room) s m args below meth c 5 L sz (vx_MQ below (gQi L sz Q) (gXC L sz X) args s 0 0 (gA L sz)) 0 0 23 [(0, .ref (L.2.1 7 0)), (1, .int L1), (2, .int L2), (3, .int L3), (4, .int L4)] [] v := by
  unfold BX7_noBest_23 at h
  refine g_iload C 4 rfl dX7_noBest_23 ?_
  refine g_aload_n C 0 rfl 0 rfl dX7_noBest_25 ?_
  refine fgX7_67 C dX7_noBest_26 ?_
  refine g_icmp_ge C 76 (by decide) dX7_noBest_29 (fun hc => ?_) (fun hc => ?_)
  · replace h := h.1 hc
    refine g_iinc C (k := 3) (L3 + 1) [(3, .int (L3 + 1)), (0, .ref (L.2.1 7 0)), (1, .int L1), (2, .int L2), (4, .int L4)] rfl rfl (Nat.le_of_ble_eq_true rfl) rfl dX7_noBest_76 ?_
    refine g_goto C 10 (by decide) dX7_noBest_79 ?_
    refine g_sub [(0, .ref (L.2.1 7 0)), (1, .int L1), (2, .int L2), (3, .int (L3 + 1))] [1, 2, 3, 0] rfl ?_
    exact hI10 _ _ _ _ h
  · replace h := h.2 hc
    refine g_aload_n C 0 rfl 0 rfl dX7_noBest_32 ?_
    refine g_iload_n C 3 rfl 3 rfl dX7_noBest_33 ?_
    refine g_iload C 4 rfl dX7_noBest_34 ?_
    refine g_callVi C hno gok_7 rfl rfl [.int L3, .int L4] (fun sz9 => kX7_areCandidates l C.2.2.2.2.2.2.1 L C.2.2.2.2.2.2.2.1 L3 L4 v _ X h sz9) wml_RX7_133 winst_X7_areCandidates wsel_X7_areCandidates wini_RX7 wcode_X7_areCandidates rfl rfl (n := 2) (by decide +kernel) rfl ⟨(Nat.le_of_ble_eq_true rfl), (Nat.le_of_ble_eq_true rfl)⟩ ⟨(Nat.le_of_ble_eq_true rfl), (Nat.le_of_ble_eq_true rfl)⟩ ⟨(Nat.le_of_ble_eq_true rfl), (Nat.le_of_ble_eq_true rfl)⟩ (Nat.le_of_ble_eq_true rfl) dX7_noBest_36 (fun r36 v36 h => ?_)
    refine g_if_eq C 70 (by decide) dX7_noBest_39 (fun hc => ?_) (fun hc => ?_)
    · replace h := h.1 hc
      exact sX7_noBest_70 C hr hno hI10 hI23 h
    · replace h := h.2 hc
      refine g_iload_n C 1 rfl 1 rfl dX7_noBest_42 ?_
      refine g_if_lt C 65 (by decide) dX7_noBest_43 (fun hc => ?_) (fun hc => ?_)
      · replace h := h.1 hc
        refine g_sub [(0, .ref (L.2.1 7 0)), (3, .int L3), (4, .int L4)] [0, 3, 4] rfl ?_
        exact sX7_noBest_65 C hr hno hI10 hI23 h
      · replace h := h.2 hc
        refine g_aload_n C 0 rfl 0 rfl dX7_noBest_46 ?_
        refine g_iload_n C 3 rfl 3 rfl dX7_noBest_47 ?_
        refine g_iload C 4 rfl dX7_noBest_48 ?_
        refine g_callVi C hno gok_7 rfl rfl [.int L3, .int L4] (fun sz9 => kX7_scoreOf l C.2.2.2.2.2.2.1 L C.2.2.2.2.2.2.2.1 L3 L4 v36 _ X h sz9) wml_RX7_111 winst_X7_scoreOf wsel_X7_scoreOf wini_RX7 wcode_X7_scoreOf rfl rfl (n := 2) (by decide +kernel) rfl ⟨(Nat.le_of_ble_eq_true rfl), (Nat.le_of_ble_eq_true rfl)⟩ ⟨(Nat.le_of_ble_eq_true rfl), (Nat.le_of_ble_eq_true rfl)⟩ ⟨(Nat.le_of_ble_eq_true rfl), (Nat.le_of_ble_eq_true rfl)⟩ (Nat.le_of_ble_eq_true rfl) dX7_noBest_50 (fun r50 v50 h => ?_)
        refine g_aload_n C 0 rfl 0 rfl dX7_noBest_53 ?_
        refine g_iload_n C 1 rfl 1 rfl dX7_noBest_54 ?_
        refine g_iload_n C 2 rfl 2 rfl dX7_noBest_55 ?_
        refine g_callVi C hno gok_7 rfl rfl [.int L1, .int L2] (fun sz9 => kX7_scoreOf l C.2.2.2.2.2.2.1 L C.2.2.2.2.2.2.2.1 L1 L2 v50 _ X h sz9) wml_RX7_111 winst_X7_scoreOf wsel_X7_scoreOf wini_RX7 wcode_X7_scoreOf rfl rfl (n := 2) (by decide +kernel) rfl ⟨(Nat.le_of_ble_eq_true rfl), (Nat.le_of_ble_eq_true rfl)⟩ ⟨(Nat.le_of_ble_eq_true rfl), (Nat.le_of_ble_eq_true rfl)⟩ ⟨(Nat.le_of_ble_eq_true rfl), (Nat.le_of_ble_eq_true rfl)⟩ (Nat.le_of_ble_eq_true rfl) dX7_noBest_56 (fun r56 v56 h => ?_)
        refine g_icmp_gt C 65 (by decide) dX7_noBest_59 (fun hc => ?_) (fun hc => ?_)
        · replace h := h.1 hc
          refine g_sub [(0, .ref (L.2.1 7 0)), (3, .int L3), (4, .int L4)] [0, 3, 4] rfl ?_
          exact sX7_noBest_65 C hr hno hI10 hI23 h
        · replace h := h.2 hc
          refine g_goto C 70 (by decide) dX7_noBest_62 ?_
          exact sX7_noBest_70 C hr hno hI10 hI23 h
def LX7_noBest_23 (I10 : Int32 → Int32 → Int32 → gMem → Prop) (L1 : Int32) (L2 : Int32) (L3 : Int32) (L4 : Int32) (v : gMem) (Q : Int32 → gMem → Prop) (X : String → gMem → Prop) : Prop := ∀ I23 : Int32 → Int32 → Int32 → gMem → Prop, (∀ (L1 : Int32) (L2 : Int32) (L4 : Int32) (v : gMem), BX7_noBest_23 I10 I23 L1 L2 L3 L4 v Q X → I23 L1 L2 L4 v) → I23 L1 L2 L4 v
theorem slX7_noBest_23 (C : gC p l s m args meth c cX7_noBest 5 RX7 L sz) (hr : meth.sig.returnType = (some .boolean)) (hno : ∀ x ∈ c.exceptionTable.toList, False) {L1 : Int32} {L2 : Int32} {L3 : Int32} {L4 : Int32} {v : gMem} {Q : Int32 → gMem → Prop} {X : String → gMem → Prop} {I10 : Int32 → Int32 → Int32 → gMem → Prop} (hI10 : ∀ (L1 : Int32) (L2 : Int32) (L3 : Int32) (v : gMem), I10 L1 L2 L3 v → gS p l e ({ frames := 5, cells := 0, slots := 0, locals := 120 } : Room) s m args below meth c 5 L sz (vx_MQ below (gQi L sz Q) (gXC L sz X) args s 0 0 (gA L sz)) 0 0 10 [(0, .ref (L.2.1 7 0)), (1, .int L1), (2, .int L2), (3, .int L3)] [] v) (h : LX7_noBest_23 I10 L1 L2 L3 L4 v Q X) : gS p l e ({ frames := 5, cells := 0, slots := 0, locals := 120 } : Room) s m args below meth c 5 L sz (vx_MQ below (gQi L sz Q) (gXC L sz X) args s 0 0 (gA L sz)) 0 0 23 [(0, .ref (L.2.1 7 0)), (1, .int L1), (2, .int L2), (3, .int L3), (4, .int L4)] [] v := by
  refine h (fun L1 L2 L4 v => gS p l e ({ frames := 5, cells := 0, slots := 0, locals := 120 } : Room) s m args below meth c 5 L sz (vx_MQ below (gQi L sz Q) (gXC L sz X) args s 0 0 (gA L sz)) 0 0 23 [(0, .ref (L.2.1 7 0)), (1, .int L1), (2, .int L2), (3, .int L3), (4, .int L4)] [] v) (fun L1 L2 L4 v hb => ?_)
  exact sX7_noBest_23 C hr hno hI10 (fun _ _ _ _ hs => hs) hb
def BX7_noBest_10 (I10 : Int32 → Int32 → Int32 → gMem → Prop) (L1 : Int32) (L2 : Int32) (L3 : Int32) (v : gMem) (Q : Int32 → gMem → Prop) (X : String → gMem → Prop) : Prop := (((v 7 0 2) ≤ L3 → ((0 ≤ L1 → (BX7_noBest_102 L1 0 (gw (gw v 7 0 7 L1) 7 0 8 L2) Q X)) ∧ (¬ 0 ≤ L1 → (BX7_noBest_102 L1 1 (gw (gw v 7 0 7 L1) 7 0 8 L2) Q X)))) ∧ (¬ (v 7 0 2) ≤ L3 → (LX7_noBest_23 I10 L1 L2 L3 (L3 + 1) v Q X)))
theorem sX7_noBest_10 (C : gC p l s m args meth c cX7_noBest 5 RX7 L sz) (hr : meth.sig.returnType = (some .boolean)) (hno : ∀ x ∈ c.exceptionTable.toList, False) {L1 : Int32} {L2 : Int32} {L3 : Int32} {v : gMem} {Q : Int32 → gMem → Prop} {X : String → gMem → Prop} {I10 : Int32 → Int32 → Int32 → gMem → Prop} (hI10 : ∀ (L1 : Int32) (L2 : Int32) (L3 : Int32) (v : gMem), I10 L1 L2 L3 v → gS p l e ({ frames := 5, cells := 0, slots := 0, locals := 120 } : Room) s m args below meth c 5 L sz (vx_MQ below (gQi L sz Q) (gXC L sz X) args s 0 0 (gA L sz)) 0 0 10 [(0, .ref (L.2.1 7 0)), (1, .int L1), (2, .int L2), (3, .int L3)] [] v) (h : BX7_noBest_10 I10 L1 L2 L3 v Q X) : gS p l e ({ frames := 5, cells := 0, slots := 0, locals := 120 } : Room) s m args below meth c 5 L sz (vx_MQ below (gQi L sz Q) (gXC L sz X) args s 0 0 (gA L sz)) 0 0 10 [(0, .ref (L.2.1 7 0)), (1, .int L1), (2, .int L2), (3, .int L3)] [] v := by
  unfold BX7_noBest_10 at h
  refine g_iload_n C 3 rfl 3 rfl dX7_noBest_10 ?_
  refine g_aload_n C 0 rfl 0 rfl dX7_noBest_11 ?_
  refine fgX7_67 C dX7_noBest_12 ?_
  refine g_icmp_ge C 82 (by decide) dX7_noBest_15 (fun hc => ?_) (fun hc => ?_)
  · replace h := h.1 hc
    refine g_aload_n C 0 rfl 0 rfl dX7_noBest_82 ?_
    refine g_iload_n C 1 rfl 1 rfl dX7_noBest_83 ?_
    refine fpX7_121 C dX7_noBest_84 ?_
    refine g_aload_n C 0 rfl 0 rfl dX7_noBest_87 ?_
    refine g_iload_n C 2 rfl 2 rfl dX7_noBest_88 ?_
    refine fpX7_124 C dX7_noBest_89 ?_
    refine g_aload_n C 0 rfl 0 rfl dX7_noBest_92 ?_
    refine g_iload_n C 1 rfl 1 rfl dX7_noBest_93 ?_
    refine g_if_ge C 101 (by decide) dX7_noBest_94 (fun hc => ?_) (fun hc => ?_)
    · replace h := h.1 hc
      refine g_iconst C 0 (by decide) dX7_noBest_101 ?_
      refine g_sub [(1, .int L1)] [1] rfl ?_
      exact sX7_noBest_102 C hr hno h
    · replace h := h.2 hc
      refine g_iconst C 1 (by decide) dX7_noBest_97 ?_
      refine g_goto C 102 (by decide) dX7_noBest_98 ?_
      refine g_sub [(1, .int L1)] [1] rfl ?_
      exact sX7_noBest_102 C hr hno h
  · replace h := h.2 hc
    refine g_iload_n C 3 rfl 3 rfl dX7_noBest_18 ?_
    refine g_iconst C 1 (by decide) dX7_noBest_19 ?_
    refine g_iadd C dX7_noBest_20 ?_
    refine g_istore C [(4, .int (L3 + 1)), (0, .ref (L.2.1 7 0)), (1, .int L1), (2, .int L2), (3, .int L3)] (Nat.le_of_ble_eq_true rfl) rfl dX7_noBest_21 ?_
    refine g_sub [(0, .ref (L.2.1 7 0)), (1, .int L1), (2, .int L2), (3, .int L3), (4, .int (L3 + 1))] [1, 2, 3, 4, 0] rfl ?_
    exact slX7_noBest_23 C hr hno hI10 h
def LX7_noBest_10 (L1 : Int32) (L2 : Int32) (L3 : Int32) (v : gMem) (Q : Int32 → gMem → Prop) (X : String → gMem → Prop) : Prop := ∀ I10 : Int32 → Int32 → Int32 → gMem → Prop, (∀ (L1 : Int32) (L2 : Int32) (L3 : Int32) (v : gMem), BX7_noBest_10 I10 L1 L2 L3 v Q X → I10 L1 L2 L3 v) → I10 L1 L2 L3 v
theorem slX7_noBest_10 (C : gC p l s m args meth c cX7_noBest 5 RX7 L sz) (hr : meth.sig.returnType = (some .boolean)) (hno : ∀ x ∈ c.exceptionTable.toList, False) {L1 : Int32} {L2 : Int32} {L3 : Int32} {v : gMem} {Q : Int32 → gMem → Prop} {X : String → gMem → Prop} (h : LX7_noBest_10 L1 L2 L3 v Q X) : gS p l e ({ frames := 5, cells := 0, slots := 0, locals := 120 } : Room) s m args below meth c 5 L sz (vx_MQ below (gQi L sz Q) (gXC L sz X) args s 0 0 (gA L sz)) 0 0 10 [(0, .ref (L.2.1 7 0)), (1, .int L1), (2, .int L2), (3, .int L3)] [] v := by
  refine h (fun L1 L2 L3 v => gS p l e ({ frames := 5, cells := 0, slots := 0, locals := 120 } : Room) s m args below meth c 5 L sz (vx_MQ below (gQi L sz Q) (gXC L sz X) args s 0 0 (gA L sz)) 0 0 10 [(0, .ref (L.2.1 7 0)), (1, .int L1), (2, .int L2), (3, .int L3)] [] v) (fun L1 L2 L3 v hb => ?_)
  exact sX7_noBest_10 C hr hno (fun _ _ _ _ hs => hs) hb
def TX7_noBest (v : gMem) (Q : Int32 → gMem → Prop) (X : String → gMem → Prop) : Prop := (TX7_gather v (fun v1 => (LX7_noBest_10 (-1) (-1) 0 v1 Q X)) X)
theorem kX7_noBest (l : Launch) (hfl : l.stackTraces = false) (L : gL) (hL : gDist L) (v : gMem) (Q : Int32 → gMem → Prop) (X : String → gMem → Prop) (h : TX7_noBest v Q X) (sz : Nat) : vx_Met l yX7_noBest [.code yX7_noBest cX7_noBest 5 (some .boolean)] ({ frames := 5, cells := 0, slots := 0, locals := 120 } : Room) (gPc L sz [.ref (L.2.1 7 0)] v) (gQi L sz Q) (gXC L sz X) 0 0 (gA L sz) := by
  refine g_ofW (by decide +kernel) hfl hL (Nat.le_of_ble_eq_true rfl) ?_
  intro p e s m args below meth c C hr hno
  refine g_sub [(0, .ref (L.2.1 7 0))] [0] rfl ?_
  unfold TX7_noBest at h
  refine g_aload_n C 0 rfl 0 rfl dX7_noBest_0 ?_
  refine g_callVv C hno gok_7 rfl rfl [] (fun sz9 => kX7_gather l C.2.2.2.2.2.2.1 L C.2.2.2.2.2.2.2.1 v _ X h sz9) wml_RX7_130 winst_X7_gather wsel_X7_gather wini_RX7 wcode_X7_gather rfl rfl (n := 0) (by decide +kernel) rfl ⟨(Nat.le_of_ble_eq_true rfl), (Nat.le_of_ble_eq_true rfl)⟩ ⟨(Nat.le_of_ble_eq_true rfl), (Nat.le_of_ble_eq_true rfl)⟩ ⟨(Nat.le_of_ble_eq_true rfl), (Nat.le_of_ble_eq_true rfl)⟩ (Nat.le_of_ble_eq_true rfl) dX7_noBest_1 (fun v1 h => ?_)
  refine g_iconst C (-1) (by decide) dX7_noBest_4 ?_
  refine g_istore_n C 1 rfl [(1, .int (-1)), (0, .ref (L.2.1 7 0))] (Nat.le_of_ble_eq_true rfl) rfl dX7_noBest_5 ?_
  refine g_iconst C (-1) (by decide) dX7_noBest_6 ?_
  refine g_istore_n C 2 rfl [(2, .int (-1)), (1, .int (-1)), (0, .ref (L.2.1 7 0))] (Nat.le_of_ble_eq_true rfl) rfl dX7_noBest_7 ?_
  refine g_iconst C 0 (by decide) dX7_noBest_8 ?_
  refine g_istore_n C 3 rfl [(3, .int 0), (2, .int (-1)), (1, .int (-1)), (0, .ref (L.2.1 7 0))] (Nat.le_of_ble_eq_true rfl) rfl dX7_noBest_9 ?_
  refine g_sub [(0, .ref (L.2.1 7 0)), (1, .int (-1)), (2, .int (-1)), (3, .int 0)] [3, 2, 1, 0] rfl ?_
  exact slX7_noBest_10 C hr hno h
def BX7_bestScore_23 (t0 : Int32) (v : gMem) (Q : Int32 → gMem → Prop) (X : String → gMem → Prop) : Prop := (Q t0 v)
theorem sX7_bestScore_23 (C : gC p l s m args meth c cX7_bestScore 1 RX7 L sz) (hr : meth.sig.returnType = (some .int)) (hno : ∀ x ∈ c.exceptionTable.toList, False) {t0 : Int32} {v : gMem} {Q : Int32 → gMem → Prop} {X : String → gMem → Prop} (h : BX7_bestScore_23 t0 v Q X) : gS p l e ({ frames := 6, cells := 0, slots := 0, locals := 144 } : Room) s m args below meth c 1 L sz (vx_MQ below (gQi L sz Q) (gXC L sz X) args s 0 0 (gA L sz)) 0 0 23 [] [.int t0] v := by
  unfold BX7_bestScore_23 at h
  exact g_iret C hr rfl (Nat.le_of_ble_eq_true rfl) (Nat.le_of_ble_eq_true rfl) h dX7_bestScore_23
def TX7_bestScore (v : gMem) (Q : Int32 → gMem → Prop) (X : String → gMem → Prop) : Prop := (TX7_noBest v (fun r1 v1 => ((r1 = 0 → (TX7_scoreOf (v1 7 0 7) (v1 7 0 8) v1 (fun r20 v20 => (BX7_bestScore_23 r20 v20 Q X)) X)) ∧ (¬ r1 = 0 → (BX7_bestScore_23 0 v1 Q X)))) X)
theorem kX7_bestScore (l : Launch) (hfl : l.stackTraces = false) (L : gL) (hL : gDist L) (v : gMem) (Q : Int32 → gMem → Prop) (X : String → gMem → Prop) (h : TX7_bestScore v Q X) (sz : Nat) : vx_Met l yX7_bestScore [.code yX7_bestScore cX7_bestScore 1 (some .int)] ({ frames := 6, cells := 0, slots := 0, locals := 144 } : Room) (gPc L sz [.ref (L.2.1 7 0)] v) (gQi L sz Q) (gXC L sz X) 0 0 (gA L sz) := by
  refine g_ofW (by decide +kernel) hfl hL (Nat.le_of_ble_eq_true rfl) ?_
  intro p e s m args below meth c C hr hno
  refine g_sub [(0, .ref (L.2.1 7 0))] [0] rfl ?_
  unfold TX7_bestScore at h
  refine g_aload_n C 0 rfl 0 rfl dX7_bestScore_0 ?_
  refine g_callVi C hno gok_7 rfl rfl [] (fun sz9 => kX7_noBest l C.2.2.2.2.2.2.1 L C.2.2.2.2.2.2.2.1 v _ X h sz9) wml_RX7_136 winst_X7_noBest wsel_X7_noBest wini_RX7 wcode_X7_noBest rfl rfl (n := 0) (by decide +kernel) rfl ⟨(Nat.le_of_ble_eq_true rfl), (Nat.le_of_ble_eq_true rfl)⟩ ⟨(Nat.le_of_ble_eq_true rfl), (Nat.le_of_ble_eq_true rfl)⟩ ⟨(Nat.le_of_ble_eq_true rfl), (Nat.le_of_ble_eq_true rfl)⟩ (Nat.le_of_ble_eq_true rfl) dX7_bestScore_1 (fun r1 v1 h => ?_)
  refine g_if_eq C 11 (by decide) dX7_bestScore_4 (fun hc => ?_) (fun hc => ?_)
  · replace h := h.1 hc
    refine g_aload_n C 0 rfl 0 rfl dX7_bestScore_11 ?_
    refine g_aload_n C 0 rfl 0 rfl dX7_bestScore_12 ?_
    refine fgX7_121 C dX7_bestScore_13 ?_
    refine g_aload_n C 0 rfl 0 rfl dX7_bestScore_16 ?_
    refine fgX7_124 C dX7_bestScore_17 ?_
    refine g_callVi C hno gok_7 rfl rfl [.int (v1 7 0 7), .int (v1 7 0 8)] (fun sz9 => kX7_scoreOf l C.2.2.2.2.2.2.1 L C.2.2.2.2.2.2.2.1 (v1 7 0 7) (v1 7 0 8) v1 _ X h sz9) wml_RX7_111 winst_X7_scoreOf wsel_X7_scoreOf wini_RX7 wcode_X7_scoreOf rfl rfl (n := 2) (by decide +kernel) rfl ⟨(Nat.le_of_ble_eq_true rfl), (Nat.le_of_ble_eq_true rfl)⟩ ⟨(Nat.le_of_ble_eq_true rfl), (Nat.le_of_ble_eq_true rfl)⟩ ⟨(Nat.le_of_ble_eq_true rfl), (Nat.le_of_ble_eq_true rfl)⟩ (Nat.le_of_ble_eq_true rfl) dX7_bestScore_20 (fun r20 v20 h => ?_)
    refine g_sub [] [] rfl ?_
    exact sX7_bestScore_23 C hr hno h
  · replace h := h.2 hc
    refine g_iconst C 0 (by decide) dX7_bestScore_7 ?_
    refine g_goto C 23 (by decide) dX7_bestScore_8 ?_
    refine g_sub [] [] rfl ?_
    exact sX7_bestScore_23 C hr hno h
def TX7_bestScoreByPairs (v : gMem) (Q : Int32 → gMem → Prop) (X : String → gMem → Prop) : Prop := (TX7_bestScore v (fun r1 v1 => (Q r1 v1)) X)
theorem kX7_bestScoreByPairs (l : Launch) (hfl : l.stackTraces = false) (L : gL) (hL : gDist L) (v : gMem) (Q : Int32 → gMem → Prop) (X : String → gMem → Prop) (h : TX7_bestScoreByPairs v Q X) (sz : Nat) : vx_Met l yX7_bestScoreByPairs [.code yX7_bestScoreByPairs cX7_bestScoreByPairs 1 (some .int)] ({ frames := 7, cells := 0, slots := 0, locals := 164 } : Room) (gPc L sz [.ref (L.2.1 7 0)] v) (gQi L sz Q) (gXC L sz X) 0 0 (gA L sz) := by
  refine g_ofW (by decide +kernel) hfl hL (Nat.le_of_ble_eq_true rfl) ?_
  intro p e s m args below meth c C hr hno
  refine g_sub [(0, .ref (L.2.1 7 0))] [0] rfl ?_
  unfold TX7_bestScoreByPairs at h
  refine g_aload_n C 0 rfl 0 rfl dX7_bestScoreByPairs_0 ?_
  refine g_callVi C hno gok_7 rfl rfl [] (fun sz9 => kX7_bestScore l C.2.2.2.2.2.2.1 L C.2.2.2.2.2.2.2.1 v _ X h sz9) wml_RX7_140 winst_X7_bestScore wsel_X7_bestScore wini_RX7 wcode_X7_bestScore rfl rfl (n := 0) (by decide +kernel) rfl ⟨(Nat.le_of_ble_eq_true rfl), (Nat.le_of_ble_eq_true rfl)⟩ ⟨(Nat.le_of_ble_eq_true rfl), (Nat.le_of_ble_eq_true rfl)⟩ ⟨(Nat.le_of_ble_eq_true rfl), (Nat.le_of_ble_eq_true rfl)⟩ (Nat.le_of_ble_eq_true rfl) dX7_bestScoreByPairs_1 (fun r1 v1 h => ?_)
  exact g_iret C hr rfl (Nat.le_of_ble_eq_true rfl) (Nat.le_of_ble_eq_true rfl) h dX7_bestScoreByPairs_4
def BX7_bestOne_15 (t0 : Int32) (v : gMem) (Q : Int32 → gMem → Prop) (X : String → gMem → Prop) : Prop := (Q t0 v)
theorem sX7_bestOne_15 (C : gC p l s m args meth c cX7_bestOne 1 RX7 L sz) (hr : meth.sig.returnType = (some .int)) (hno : ∀ x ∈ c.exceptionTable.toList, False) {t0 : Int32} {v : gMem} {Q : Int32 → gMem → Prop} {X : String → gMem → Prop} (h : BX7_bestOne_15 t0 v Q X) : gS p l e ({ frames := 6, cells := 0, slots := 0, locals := 144 } : Room) s m args below meth c 1 L sz (vx_MQ below (gQi L sz Q) (gXC L sz X) args s 0 0 (gA L sz)) 0 0 15 [] [.int t0] v := by
  unfold BX7_bestOne_15 at h
  exact g_iret C hr rfl (Nat.le_of_ble_eq_true rfl) (Nat.le_of_ble_eq_true rfl) h dX7_bestOne_15
def TX7_bestOne (v : gMem) (Q : Int32 → gMem → Prop) (X : String → gMem → Prop) : Prop := (TX7_noBest v (fun r1 v1 => ((r1 = 0 → (BX7_bestOne_15 (v1 7 0 7) v1 Q X)) ∧ (¬ r1 = 0 → (BX7_bestOne_15 0 v1 Q X)))) X)
theorem kX7_bestOne (l : Launch) (hfl : l.stackTraces = false) (L : gL) (hL : gDist L) (v : gMem) (Q : Int32 → gMem → Prop) (X : String → gMem → Prop) (h : TX7_bestOne v Q X) (sz : Nat) : vx_Met l yX7_bestOne [.code yX7_bestOne cX7_bestOne 1 (some .int)] ({ frames := 6, cells := 0, slots := 0, locals := 144 } : Room) (gPc L sz [.ref (L.2.1 7 0)] v) (gQi L sz Q) (gXC L sz X) 0 0 (gA L sz) := by
  refine g_ofW (by decide +kernel) hfl hL (Nat.le_of_ble_eq_true rfl) ?_
  intro p e s m args below meth c C hr hno
  refine g_sub [(0, .ref (L.2.1 7 0))] [0] rfl ?_
  unfold TX7_bestOne at h
  refine g_aload_n C 0 rfl 0 rfl dX7_bestOne_0 ?_
  refine g_callVi C hno gok_7 rfl rfl [] (fun sz9 => kX7_noBest l C.2.2.2.2.2.2.1 L C.2.2.2.2.2.2.2.1 v _ X h sz9) wml_RX7_136 winst_X7_noBest wsel_X7_noBest wini_RX7 wcode_X7_noBest rfl rfl (n := 0) (by decide +kernel) rfl ⟨(Nat.le_of_ble_eq_true rfl), (Nat.le_of_ble_eq_true rfl)⟩ ⟨(Nat.le_of_ble_eq_true rfl), (Nat.le_of_ble_eq_true rfl)⟩ ⟨(Nat.le_of_ble_eq_true rfl), (Nat.le_of_ble_eq_true rfl)⟩ (Nat.le_of_ble_eq_true rfl) dX7_bestOne_1 (fun r1 v1 h => ?_)
  refine g_if_eq C 11 (by decide) dX7_bestOne_4 (fun hc => ?_) (fun hc => ?_)
  · replace h := h.1 hc
    refine g_aload_n C 0 rfl 0 rfl dX7_bestOne_11 ?_
    refine fgX7_121 C dX7_bestOne_12 ?_
    refine g_sub [] [] rfl ?_
    exact sX7_bestOne_15 C hr hno h
  · replace h := h.2 hc
    refine g_iconst C 0 (by decide) dX7_bestOne_7 ?_
    refine g_goto C 15 (by decide) dX7_bestOne_8 ?_
    refine g_sub [] [] rfl ?_
    exact sX7_bestOne_15 C hr hno h
def BX7_bestOther_15 (t0 : Int32) (v : gMem) (Q : Int32 → gMem → Prop) (X : String → gMem → Prop) : Prop := (Q t0 v)
theorem sX7_bestOther_15 (C : gC p l s m args meth c cX7_bestOther 1 RX7 L sz) (hr : meth.sig.returnType = (some .int)) (hno : ∀ x ∈ c.exceptionTable.toList, False) {t0 : Int32} {v : gMem} {Q : Int32 → gMem → Prop} {X : String → gMem → Prop} (h : BX7_bestOther_15 t0 v Q X) : gS p l e ({ frames := 6, cells := 0, slots := 0, locals := 144 } : Room) s m args below meth c 1 L sz (vx_MQ below (gQi L sz Q) (gXC L sz X) args s 0 0 (gA L sz)) 0 0 15 [] [.int t0] v := by
  unfold BX7_bestOther_15 at h
  exact g_iret C hr rfl (Nat.le_of_ble_eq_true rfl) (Nat.le_of_ble_eq_true rfl) h dX7_bestOther_15
def TX7_bestOther (v : gMem) (Q : Int32 → gMem → Prop) (X : String → gMem → Prop) : Prop := (TX7_noBest v (fun r1 v1 => ((r1 = 0 → (BX7_bestOther_15 (v1 7 0 8) v1 Q X)) ∧ (¬ r1 = 0 → (BX7_bestOther_15 0 v1 Q X)))) X)
theorem kX7_bestOther (l : Launch) (hfl : l.stackTraces = false) (L : gL) (hL : gDist L) (v : gMem) (Q : Int32 → gMem → Prop) (X : String → gMem → Prop) (h : TX7_bestOther v Q X) (sz : Nat) : vx_Met l yX7_bestOther [.code yX7_bestOther cX7_bestOther 1 (some .int)] ({ frames := 6, cells := 0, slots := 0, locals := 144 } : Room) (gPc L sz [.ref (L.2.1 7 0)] v) (gQi L sz Q) (gXC L sz X) 0 0 (gA L sz) := by
  refine g_ofW (by decide +kernel) hfl hL (Nat.le_of_ble_eq_true rfl) ?_
  intro p e s m args below meth c C hr hno
  refine g_sub [(0, .ref (L.2.1 7 0))] [0] rfl ?_
  unfold TX7_bestOther at h
  refine g_aload_n C 0 rfl 0 rfl dX7_bestOther_0 ?_
  refine g_callVi C hno gok_7 rfl rfl [] (fun sz9 => kX7_noBest l C.2.2.2.2.2.2.1 L C.2.2.2.2.2.2.2.1 v _ X h sz9) wml_RX7_136 winst_X7_noBest wsel_X7_noBest wini_RX7 wcode_X7_noBest rfl rfl (n := 0) (by decide +kernel) rfl ⟨(Nat.le_of_ble_eq_true rfl), (Nat.le_of_ble_eq_true rfl)⟩ ⟨(Nat.le_of_ble_eq_true rfl), (Nat.le_of_ble_eq_true rfl)⟩ ⟨(Nat.le_of_ble_eq_true rfl), (Nat.le_of_ble_eq_true rfl)⟩ (Nat.le_of_ble_eq_true rfl) dX7_bestOther_1 (fun r1 v1 h => ?_)
  refine g_if_eq C 11 (by decide) dX7_bestOther_4 (fun hc => ?_) (fun hc => ?_)
  · replace h := h.1 hc
    refine g_aload_n C 0 rfl 0 rfl dX7_bestOther_11 ?_
    refine fgX7_124 C dX7_bestOther_12 ?_
    refine g_sub [] [] rfl ?_
    exact sX7_bestOther_15 C hr hno h
  · replace h := h.2 hc
    refine g_iconst C 0 (by decide) dX7_bestOther_7 ?_
    refine g_goto C 15 (by decide) dX7_bestOther_8 ?_
    refine g_sub [] [] rfl ?_
    exact sX7_bestOther_15 C hr hno h
end
