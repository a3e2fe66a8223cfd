/-- thrown: an object of class E over the frame -/
def gX (p : Program) (l : Launch) (e : Env) (R : Room) (s : State) (m : MethodId) (args : Array Value) (below : List Frame) (meth : Method) (c : Code) (nL : Nat) (L : gL) (sz : Nat) (Q : State → Prop) (ce sl : Nat) (E : String) (pc : Nat) (lv : List (Nat × Value)) (st : List Value) (v : gMem) : Prop :=
  ∀ (H : Heap) (locs : List Loc) (ls : Array Slot) (q : Addr) (ce9 : Cell), va_P L.1 vwCl (gW L v) H → va_S (gA L sz) s.heap H locs → lv_has ls nL lv → H[q]? = some ce9 → ce9.vm = .none → s.vm.findClass E = some ce9.cls → vx_W p l e R s m args below meth c H locs ce sl Q (F0 m pc ls st) q
section GLW
variable {p : Program} {l : Launch} {e : Env} {R : Room} {s : State} {m : MethodId} {args : Array Value} {below : List Frame} {meth : Method} {c : Code} {cc : ByteArray} {nL : Nat} {own : String} {L : gL} {sz : Nat} {Q : State → Prop} {ce sl pc : Nat} {lv : List (Nat × Value)} {st : List Value} {v : gMem}
theorem g_catch (C : gC p l s m args meth c cc nL own L sz) {name : String} {E : String} (pre : List ExceptionTableEntry) (x : ExceptionTableEntry) (suf : List ExceptionTableEntry) (hsplit : c.exceptionTable.toList = pre ++ x :: suf) (hpass : ∀ z ∈ pre, z.catchType ≠ 0 ∧ ∃ nm : String, Cond.classLink own z.catchType nm ∈ gTbl ∧ (E, nm) ∈ gNcs) (hx : covers x pc = true) (h0 : x.catchType ≠ 0) (hlink : Cond.classLink own x.catchType name ∈ gTbl) (hcast : Cond.castable E name ∈ gTbl) (kk : ∀ q : Nat, gS p l e R s m args below meth c nL L sz Q ce sl x.handlerPc lv [.ref q] v) : gX p l e R s m args below meth c nL L sz Q ce sl E pc lv st v := fun H locs ls q ce9 hP hS hl hc hv hcl =>
  vx_catch C.2.2.2.1 pre x suf hsplit (fun z hz => by
    obtain ⟨h1, nm, h2, h3⟩ := hpass z hz
    exact Or.inr ⟨h1, nm, C.2.2.2.2.1 _ h2, C.2.2.2.2.2.2.2.2.2.2.2.2.2.2 _ h3⟩) hx h0 (C.2.2.2.2.1 _ hlink) (C.2.2.2.2.1 _ hcast) hc hv hcl (kk q H locs ls hP hS hl)
theorem vp0 : vp_in 0 1 := by unfold vp_in; decide
theorem g_lconst (C : gC p l s m args meth c cc nL own L sz) {n : Fin 2} (x : Int32) (hv : Int64.ofNat (n : Nat) = x.toInt64) (hd : decode cc pc = .ok (.lconst n, 1)) (kk : gS p l e R s m args below meth c nL L sz Q ce sl (pc + 1) lv (.long x.toInt64 :: st) v) : gS p l e R s m args below meth c nL L sz Q ce sl pc lv st v := fun H locs ls hP hS hl => lv_lconst C.1 C.2.1 hd hv (kk H locs ls hP hS hl)
theorem g_lcmp (C : gC p l s m args meth c cc nL own L sz) {x y : Int32} (hd : decode cc pc = .ok (.lcmp, 1)) (kk : gS p l e R s m args below meth c nL L sz Q ce sl (pc + 1) lv (.int (lg_cmp x.toInt64 y.toInt64) :: st) v) : gS p l e R s m args below meth c nL L sz Q ce sl pc lv (.long y.toInt64 :: .long x.toInt64 :: st) v := fun H locs ls hP hS hl => W.lcmp C.1 C.2.1 hd (kk H locs ls hP hS hl)
theorem g_dcmp (C : gC p l s m args meth c cc nL own L sz) {x y : UInt64} {op : CmpOp} (hd : decode cc pc = .ok (.dcmp op, 1)) (kk : gS p l e R s m args below meth c nL L sz Q ce sl (pc + 1) lv (.int (Op.cmpValue (FP.dcmp x y) op) :: st) v) : gS p l e R s m args below meth c nL L sz Q ce sl pc lv (.double y :: .double x :: st) v := fun H locs ls hP hS hl => lv_dcmp C.1 C.2.1 hd (kk H locs ls hP hS hl)
theorem g_fcmp (C : gC p l s m args meth c cc nL own L sz) {x y : UInt32} {op : CmpOp} (hd : decode cc pc = .ok (.fcmp op, 1)) (kk : gS p l e R s m args below meth c nL L sz Q ce sl (pc + 1) lv (.int (Op.cmpValue (FP.fcmp x y) op) :: st) v) : gS p l e R s m args below meth c nL L sz Q ce sl pc lv (.float y :: .float x :: st) v := fun H locs ls hP hS hl => lv_fcmp C.1 C.2.1 hd (kk H locs ls hP hS hl)
theorem g_fload (C : gC p l s m args meth c cc nL own L sz) {i : Nat} (q : Nat) {x : UInt32} (hq : lv[q]? = some (i, .float x)) (hd : decode cc pc = .ok (.fload i, 2)) (kk : gS p l e R s m args below meth c nL L sz Q ce sl (pc + 2) lv (.float x :: st) v) : gS p l e R s m args below meth c nL L sz Q ce sl pc lv st v := fun H locs ls hP hS hl => lv_fload C.1 C.2.1 hd (lv_at hl q hq) (kk H locs ls hP hS hl)
theorem g_fstore (C : gC p l s m args meth c cc nL own L sz) {i : Nat} {x : UInt32} (lv' : List (Nat × Value)) (hn : i < nL) (hf : (i, Value.float x) :: lv.filter (fun q => !(q.1 == i) && !(q.1 + 1 == i && q.2.category == 2)) = lv') (hd : decode cc pc = .ok (.fstore i, 2)) (kk : gS p l e R s m args below meth c nL L sz Q ce sl (pc + 2) lv' st v) : gS p l e R s m args below meth c nL L sz Q ce sl pc lv (.float x :: st) v := fun H locs ls hP hS hl => lv_fstore C.1 C.2.1 hd hl hn hf (fun ls hl => kk H locs ls hP hS hl)
theorem g_laload (C : gC p l s m args meth c cc nL own L sz) (hd : decode cc pc = .ok (.laload, 1)) (kk : gS p l e R s m args below meth c nL L sz Q ce sl (pc + 1) lv (.long (v 50 0 0).toInt64 :: st) v) : gS p l e R s m args below meth c nL L sz Q ce sl pc lv (.int 0 :: .ref (L.2.1 50 0) :: st) v := fun H locs ls hP hS hl => by
  obtain ⟨q, hq0, hq1⟩ := gW_at L v gok_50
  exact va_lald C.1 C.2.1 C.2.2.2.2.2.2.2.2.2.1 hP q 4 hq1 rfl vp0 hd (kk H locs ls hP hS hl)
theorem g_daload (C : gC p l s m args meth c cc nL own L sz) (hd : decode cc pc = .ok (.daload, 1)) (kk : gS p l e R s m args below meth c nL L sz Q ce sl (pc + 1) lv (.double (FP.f2d (v 51 0 0).toUInt32) :: st) v) : gS p l e R s m args below meth c nL L sz Q ce sl pc lv (.int 0 :: .ref (L.2.1 51 0) :: st) v := fun H locs ls hP hS hl => by
  obtain ⟨q, hq0, hq1⟩ := gW_at L v gok_51
  exact va_dald C.1 C.2.1 C.2.2.2.2.2.2.2.2.2.1 hP q 5 hq1 rfl vp0 hd (kk H locs ls hP hS hl)
theorem g_lastore (C : gC p l s m args meth c cc nL own L sz) {x : Int32} (hd : decode cc pc = .ok (.lastore, 1)) (kk : gS p l e R s m args below meth c nL L sz Q ce sl (pc + 1) lv st (gw v 50 0 0 x)) : gS p l e R s m args below meth c nL L sz Q ce sl pc lv (.long x.toInt64 :: .int 0 :: .ref (L.2.1 50 0) :: st) v := fun H locs ls hP hS hl => by
  obtain ⟨q, hq0, hq1⟩ := gW_at L v gok_50
  refine va_last C.1 C.2.1 C.2.2.2.2.2.2.2.2.2.1 hP (gW_D C.2.2.2.2.2.2.2.1 sz v) hS q 4 hq1 rfl vp0 hd (fun H1 locs1 hP1 _ hS1 => ?_)
  rw [gW_set (v' := gw v 50 0 0 x) hq0 (by
    rw [gw_row]
    simp only [gcont]
    congr 5
    funext j
    by_cases hj : j = 0 <;> simp [vp_updL, hj, sb_cl0]) (gw_off v 50 0 _ _)] at hP1
  exact kk H1 locs1 ls hP1 hS1 hl
theorem g_dastore (C : gC p l s m args meth c cc nL own L sz) {x : UInt32} (hd : decode cc pc = .ok (.dastore, 1)) (kk : gS p l e R s m args below meth c nL L sz Q ce sl (pc + 1) lv st (gw v 51 0 0 x.toInt32)) : gS p l e R s m args below meth c nL L sz Q ce sl pc lv (.double (FP.f2d x) :: .int 0 :: .ref (L.2.1 51 0) :: st) v := fun H locs ls hP hS hl => by
  obtain ⟨q, hq0, hq1⟩ := gW_at L v gok_51
  refine va_dast C.1 C.2.1 C.2.2.2.2.2.2.2.2.2.1 hP (gW_D C.2.2.2.2.2.2.2.1 sz v) hS q 5 hq1 rfl vp0 hd (fun H1 locs1 hP1 _ hS1 => ?_)
  rw [gW_set (v' := gw v 51 0 0 x.toInt32) hq0 (by
    rw [gw_row]
    simp only [gcont]
    congr 7
    funext j
    by_cases hj : j = 0 <;> simp [vf_upd, hj, sb_cl0]) (gw_off v 51 0 _ _)] at hP1
  exact kk H1 locs1 ls hP1 hS1 hl
theorem g_slen (C : gC p l s m args meth c cc nL own L sz) {b Ln : Nat} {xs : Nat → Int32} (hX : va_X b Ln xs s s.heap) (hbl : b < s.heap.size) (hbA : ¬ gA L sz b) (hd : decode cc pc = .ok (.arraylength, 1)) (kk : gS p l e R s m args below meth c nL L sz Q ce sl (pc + 1) lv (.int (Int32.ofNat Ln) :: st) v) : gS p l e R s m args below meth c nL L sz Q ce sl pc lv (.ref b :: st) v := fun H locs ls hP hS hl => va_slen C.1 C.2.1 hX hbl hbA hS hd (kk H locs ls hP hS hl)
theorem g_sld (C : gC p l s m args meth c cc nL own L sz) {b Ln : Nat} {xs : Nat → Int32} (hX : va_X b Ln xs s s.heap) (hbl : b < s.heap.size) (hbA : ¬ gA L sz b) {i : Int32} (y : Int32) (hin : vp_in i Ln) (hy : xs i.toNatClampNeg = y) (hd : decode cc pc = .ok (.iaload, 1)) (kk : gS p l e R s m args below meth c nL L sz Q ce sl (pc + 1) lv (.int y :: st) v) : gS p l e R s m args below meth c nL L sz Q ce sl pc lv (.int i :: .ref b :: st) v := fun H locs ls hP hS hl => by
  subst hy
  exact va_sld C.1 C.2.1 hX hbl hbA hS hin hd (kk H locs ls hP hS hl)
theorem g_gcallVi (C : gC p l s m args meth c cc nL own L sz) {Qx : String → gMem → Prop} {y : MethodName} {bytes : ByteArray} {maxL : Nat} {ret : Option FieldType} {rm : Room} {mc1 ms1 index n : Nat} {k i ci : Nat} {fs : List Value} {T : u_T} {N : Nat} (hk : gok k i) (hf : gcont L (v k i) k i = .inr (ci, fs)) (hc : vwCl[ci]? = some (y.cls, T, N)) (As : List Value) {Qn : Int32 → gMem → Prop}
    (hM : ∀ sz', vx_Met l y [.code y bytes maxL ret] rm (gPc L sz' (.ref (L.2.1 k i) :: As) v) (gQi L sz' Qn) (gXC L sz' Qx) mc1 ms1 (gA L sz'))
    (hq1 : Cond.methodLink own index y ∈ gTbl) (hq2 : Cond.instanceMethod y ∈ gTbl) (hq3 : Cond.selects y.cls y y ∈ gTbl) (hq4 : Cond.initialized y.cls ∈ gTbl) (hq5 : Cond.code y bytes maxL ret ∈ gTbl) (hrc : rm.cells = mc1) (hrs : rm.slots = ms1) (hd : y.cls ≠ "java/lang/invoke/MethodHandle" ∧ y.cls ≠ "java/lang/invoke/VarHandle" ∧ (parseMethodDescriptor y.desc).map (fun d => d.parameters.length) = some n) (hn : As.length = n) (hR : rm.frames + 1 ≤ R.frames ∧ 8 + (maxL + 11) + rm.locals ≤ R.locals) (hR2 : ce + mc1 ≤ R.cells ∧ sl + ms1 ≤ R.slots) (hW : (st.map fun v => v.category).sum ≤ 8) (hdg : decode cc pc = .ok (.invokevirtual index, 3))
    (kx : ∀ (E : String) (v' : gMem), Qx E v' → gX p l e R s m args below meth c nL L sz Q (ce + mc1) (sl + ms1) E pc lv st v') (kk : ∀ (r : Int32) (v' : gMem), Qn r v' → gS p l e R s m args below meth c nL L sz Q (ce + mc1) (sl + ms1) (pc + 3) lv (.int r :: st) v') : gS p l e R s m args below meth c nL L sz Q ce sl pc lv (As.reverse ++ .ref (L.2.1 k i) :: st) v := fun H locs ls hP hS hl => by
  have hEnv := C.2.2.2.2.2.2.2.2.2
  have hsz : s.heap.size = sz := C.2.2.2.2.2.2.2.2.1
  have t1 := C.2.2.2.2.1 _ hq1
  have t2 := C.2.2.2.2.1 _ hq2
  have t3 := C.2.2.2.2.1 _ hq3
  have t4 := C.2.2.2.2.1 _ hq4
  have t5 := C.2.2.2.2.1 _ hq5
  have hpay : ∀ w ∈ [Cond.code y bytes maxL ret], ∀ (a' : Array Value) (U : State), s.WarmedH U.vm → w.before a' U = true := by
    intro w hw a' U hW
    rw [List.mem_singleton.mp hw]
    exact gtw_move (gTbl_gtw hq5) hW t5
  have hlen : ∀ sig, parseMethodDescriptor y.desc = some sig → As.length = sig.parameters.length := by
    intro sig h
    have h2 := hd.2.2
    rw [h] at h2
    exact hn.trans (Option.some.inj h2).symm
  have hsub : ∀ q, gA L H.size q → gA L sz q := fun q h => h.elim Or.inl (fun h => Or.inr (Nat.le_trans (by rw [← hsz]; exact hS.1) h))
  have hpre : ∀ U : State, U.heap = H → s.WarmedH U.vm → gPc L H.size (.ref (L.2.1 k i) :: As) v ((.ref (L.2.1 k i) :: As)).toArray U := by
    intro U hU hW
    refine ⟨rfl, by rw [hU], by rw [hU]; exact hP, ?_⟩
    rw [hU]
    exact gEnv_move hW (by intro a h1 h2; exact hS.2.1 a h1 h2) (by rw [← hsz]; exact hS.1) hEnv
  have hrecv : ∃ cellB : Cell, H[L.2.1 k i]? = some cellB ∧ cellB.vm.isStatics = false ∧ s.vm.findClass y.cls = some cellB.cls := by
    obtain ⟨q, hq0, hq1⟩ := gW_at L v hk
    rw [hf] at hq1
    exact va_recv hEnv.1 hP hc hq1
  refine vx_calli (vx_runV (As := As) (rest := st) ⟨C.1, C.2.1, C.2.2.1, C.2.2.2.1, C.2.2.2.2.1⟩ (hM H.size) ⟨⟨hrc, hrs, hR.1, hR.2, hpay, List.mem_cons_self, t5, t4, ⟨hd.1, hd.2.1⟩, hlen, t1⟩, t2, t3⟩ ⟨gPc_blind _ _ _ _, hrecv, hpre⟩ rfl rfl hl.1 rfl (lv_room hW) hdg hR2) hS (fun q _ h => hsub q h) hsub (fun q _ h => hsub q h) ?_ (fun r u t H1 locs1 ht hvm hw hB hz1 hk1 hS1 => kk r u hw H1 locs1 ls (by rw [← ht]; exact hB) hS1 hl)
  intro E ce9 q9 u t H1 locs1 ht hvm _ hB hz1 hk1 hS1 hc9 hv9 hcl9
  exact kx E u hB.1 H1 locs1 ls q9 ce9 (by rw [← ht]; exact hB.2) hS1 hl hc9 hv9 hcl9
theorem g_gcallVv (C : gC p l s m args meth c cc nL own L sz) {Qx : String → gMem → Prop} {y : MethodName} {bytes : ByteArray} {maxL : Nat} {ret : Option FieldType} {rm : Room} {mc1 ms1 index n : Nat} {k i ci : Nat} {fs : List Value} {T : u_T} {N : Nat} (hk : gok k i) (hf : gcont L (v k i) k i = .inr (ci, fs)) (hc : vwCl[ci]? = some (y.cls, T, N)) (As : List Value) {Qn : gMem → Prop}
    (hM : ∀ sz', vx_Met l y [.code y bytes maxL ret] rm (gPc L sz' (.ref (L.2.1 k i) :: As) v) (gQv L sz' Qn) (gXC L sz' Qx) mc1 ms1 (gA L sz'))
    (hq1 : Cond.methodLink own index y ∈ gTbl) (hq2 : Cond.instanceMethod y ∈ gTbl) (hq3 : Cond.selects y.cls y y ∈ gTbl) (hq4 : Cond.initialized y.cls ∈ gTbl) (hq5 : Cond.code y bytes maxL ret ∈ gTbl) (hrc : rm.cells = mc1) (hrs : rm.slots = ms1) (hd : y.cls ≠ "java/lang/invoke/MethodHandle" ∧ y.cls ≠ "java/lang/invoke/VarHandle" ∧ (parseMethodDescriptor y.desc).map (fun d => d.parameters.length) = some n) (hn : As.length = n) (hR : rm.frames + 1 ≤ R.frames ∧ 8 + (maxL + 11) + rm.locals ≤ R.locals) (hR2 : ce + mc1 ≤ R.cells ∧ sl + ms1 ≤ R.slots) (hW : (st.map fun v => v.category).sum ≤ 8) (hdg : decode cc pc = .ok (.invokevirtual index, 3))
    (kx : ∀ (E : String) (v' : gMem), Qx E v' → gX p l e R s m args below meth c nL L sz Q (ce + mc1) (sl + ms1) E pc lv st v') (kk : ∀ v' : gMem, Qn v' → gS p l e R s m args below meth c nL L sz Q (ce + mc1) (sl + ms1) (pc + 3) lv st v') : gS p l e R s m args below meth c nL L sz Q ce sl pc lv (As.reverse ++ .ref (L.2.1 k i) :: st) v := fun H locs ls hP hS hl => by
  have hEnv := C.2.2.2.2.2.2.2.2.2
  have hsz : s.heap.size = sz := C.2.2.2.2.2.2.2.2.1
  have t1 := C.2.2.2.2.1 _ hq1
  have t2 := C.2.2.2.2.1 _ hq2
  have t3 := C.2.2.2.2.1 _ hq3
  have t4 := C.2.2.2.2.1 _ hq4
  have t5 := C.2.2.2.2.1 _ hq5
  have hpay : ∀ w ∈ [Cond.code y bytes maxL ret], ∀ (a' : Array Value) (U : State), s.WarmedH U.vm → w.before a' U = true := by
    intro w hw a' U hW
    rw [List.mem_singleton.mp hw]
    exact gtw_move (gTbl_gtw hq5) hW t5
  have hlen : ∀ sig, parseMethodDescriptor y.desc = some sig → As.length = sig.parameters.length := by
    intro sig h
    have h2 := hd.2.2
    rw [h] at h2
    exact hn.trans (Option.some.inj h2).symm
  have hsub : ∀ q, gA L H.size q → gA L sz q := fun q h => h.elim Or.inl (fun h => Or.inr (Nat.le_trans (by rw [← hsz]; exact hS.1) h))
  have hpre : ∀ U : State, U.heap = H → s.WarmedH U.vm → gPc L H.size (.ref (L.2.1 k i) :: As) v ((.ref (L.2.1 k i) :: As)).toArray U := by
    intro U hU hW
    refine ⟨rfl, by rw [hU], by rw [hU]; exact hP, ?_⟩
    rw [hU]
    exact gEnv_move hW (by intro a h1 h2; exact hS.2.1 a h1 h2) (by rw [← hsz]; exact hS.1) hEnv
  have hrecv : ∃ cellB : Cell, H[L.2.1 k i]? = some cellB ∧ cellB.vm.isStatics = false ∧ s.vm.findClass y.cls = some cellB.cls := by
    obtain ⟨q, hq0, hq1⟩ := gW_at L v hk
    rw [hf] at hq1
    exact va_recv hEnv.1 hP hc hq1
  refine vx_callv (vx_runV (As := As) (rest := st) ⟨C.1, C.2.1, C.2.2.1, C.2.2.2.1, C.2.2.2.2.1⟩ (hM H.size) ⟨⟨hrc, hrs, hR.1, hR.2, hpay, List.mem_cons_self, t5, t4, ⟨hd.1, hd.2.1⟩, hlen, t1⟩, t2, t3⟩ ⟨gPc_blind _ _ _ _, hrecv, hpre⟩ rfl rfl hl.1 rfl (lv_room hW) hdg hR2) hS (fun q _ h => hsub q h) hsub (fun q _ h => hsub q h) ?_ (fun u t H1 locs1 ht hvm hw hB hz1 hk1 hS1 => kk u hw H1 locs1 ls (by rw [← ht]; exact hB) hS1 hl)
  intro E ce9 q9 u t H1 locs1 ht hvm _ hB hz1 hk1 hS1 hc9 hv9 hcl9
  exact kx E u hB.1 H1 locs1 ls q9 ce9 (by rw [← ht]; exact hB.2) hS1 hl hc9 hv9 hcl9
theorem g_gcallVf (C : gC p l s m args meth c cc nL own L sz) {Qx : String → gMem → Prop} {y : MethodName} {bytes : ByteArray} {maxL : Nat} {ret : Option FieldType} {rm : Room} {mc1 ms1 index n : Nat} {k i ci : Nat} {fs : List Value} {T : u_T} {N : Nat} (hk : gok k i) (hf : gcont L (v k i) k i = .inr (ci, fs)) (hc : vwCl[ci]? = some (y.cls, T, N)) (As : List Value) {Qn : UInt32 → gMem → Prop}
    (hM : ∀ sz', vx_Met l y [.code y bytes maxL ret] rm (gPc L sz' (.ref (L.2.1 k i) :: As) v) (gQf L sz' Qn) (gXC L sz' Qx) mc1 ms1 (gA L sz'))
    (hq1 : Cond.methodLink own index y ∈ gTbl) (hq2 : Cond.instanceMethod y ∈ gTbl) (hq3 : Cond.selects y.cls y y ∈ gTbl) (hq4 : Cond.initialized y.cls ∈ gTbl) (hq5 : Cond.code y bytes maxL ret ∈ gTbl) (hrc : rm.cells = mc1) (hrs : rm.slots = ms1) (hd : y.cls ≠ "java/lang/invoke/MethodHandle" ∧ y.cls ≠ "java/lang/invoke/VarHandle" ∧ (parseMethodDescriptor y.desc).map (fun d => d.parameters.length) = some n) (hn : As.length = n) (hR : rm.frames + 1 ≤ R.frames ∧ 8 + (maxL + 11) + rm.locals ≤ R.locals) (hR2 : ce + mc1 ≤ R.cells ∧ sl + ms1 ≤ R.slots) (hW : (st.map fun v => v.category).sum ≤ 8) (hdg : decode cc pc = .ok (.invokevirtual index, 3))
    (kx : ∀ (E : String) (v' : gMem), Qx E v' → gX p l e R s m args below meth c nL L sz Q (ce + mc1) (sl + ms1) E pc lv st v') (kk : ∀ (r : UInt32) (v' : gMem), Qn r v' → gS p l e R s m args below meth c nL L sz Q (ce + mc1) (sl + ms1) (pc + 3) lv (.float r :: st) v') : gS p l e R s m args below meth c nL L sz Q ce sl pc lv (As.reverse ++ .ref (L.2.1 k i) :: st) v := fun H locs ls hP hS hl => by
  have hEnv := C.2.2.2.2.2.2.2.2.2
  have hsz : s.heap.size = sz := C.2.2.2.2.2.2.2.2.1
  have t1 := C.2.2.2.2.1 _ hq1
  have t2 := C.2.2.2.2.1 _ hq2
  have t3 := C.2.2.2.2.1 _ hq3
  have t4 := C.2.2.2.2.1 _ hq4
  have t5 := C.2.2.2.2.1 _ hq5
  have hpay : ∀ w ∈ [Cond.code y bytes maxL ret], ∀ (a' : Array Value) (U : State), s.WarmedH U.vm → w.before a' U = true := by
    intro w hw a' U hW
    rw [List.mem_singleton.mp hw]
    exact gtw_move (gTbl_gtw hq5) hW t5
  have hlen : ∀ sig, parseMethodDescriptor y.desc = some sig → As.length = sig.parameters.length := by
    intro sig h
    have h2 := hd.2.2
    rw [h] at h2
    exact hn.trans (Option.some.inj h2).symm
  have hsub : ∀ q, gA L H.size q → gA L sz q := fun q h => h.elim Or.inl (fun h => Or.inr (Nat.le_trans (by rw [← hsz]; exact hS.1) h))
  have hpre : ∀ U : State, U.heap = H → s.WarmedH U.vm → gPc L H.size (.ref (L.2.1 k i) :: As) v ((.ref (L.2.1 k i) :: As)).toArray U := by
    intro U hU hW
    refine ⟨rfl, by rw [hU], by rw [hU]; exact hP, ?_⟩
    rw [hU]
    exact gEnv_move hW (by intro a h1 h2; exact hS.2.1 a h1 h2) (by rw [← hsz]; exact hS.1) hEnv
  have hrecv : ∃ cellB : Cell, H[L.2.1 k i]? = some cellB ∧ cellB.vm.isStatics = false ∧ s.vm.findClass y.cls = some cellB.cls := by
    obtain ⟨q, hq0, hq1⟩ := gW_at L v hk
    rw [hf] at hq1
    exact va_recv hEnv.1 hP hc hq1
  refine vx_callf (vx_runV (As := As) (rest := st) ⟨C.1, C.2.1, C.2.2.1, C.2.2.2.1, C.2.2.2.2.1⟩ (hM H.size) ⟨⟨hrc, hrs, hR.1, hR.2, hpay, List.mem_cons_self, t5, t4, ⟨hd.1, hd.2.1⟩, hlen, t1⟩, t2, t3⟩ ⟨gPc_blind _ _ _ _, hrecv, hpre⟩ rfl rfl hl.1 rfl (lv_room hW) hdg hR2) hS (fun q _ h => hsub q h) hsub (fun q _ h => hsub q h) ?_ (fun r u t H1 locs1 ht hvm hw hB hz1 hk1 hS1 => kk r u hw H1 locs1 ls (by rw [← ht]; exact hB) hS1 hl)
  intro E ce9 q9 u t H1 locs1 ht hvm _ hB hz1 hk1 hS1 hc9 hv9 hcl9
  exact kx E u hB.1 H1 locs1 ls q9 ce9 (by rw [← ht]; exact hB.2) hS1 hl hc9 hv9 hcl9
theorem g_gcallSi (C : gC p l s m args meth c cc nL own L sz) {Qx : String → gMem → Prop} {y : MethodName} {bytes : ByteArray} {maxL : Nat} {ret : Option FieldType} {rm : Room} {mc1 ms1 index n : Nat} (As : List Value) {Qn : Int32 → gMem → Prop}
    (hM : ∀ sz', vx_Met l y [.code y bytes maxL ret] rm (gPc L sz' As v) (gQi L sz' Qn) (gXC L sz' Qx) mc1 ms1 (gA L sz'))
    (hq1 : Cond.methodLink own index y ∈ gTbl) (hq2 : Cond.static y ∈ gTbl) (hq4 : Cond.initialized y.cls ∈ gTbl) (hq5 : Cond.code y bytes maxL ret ∈ gTbl) (hrc : rm.cells = mc1) (hrs : rm.slots = ms1) (hd : y.cls ≠ "java/lang/invoke/MethodHandle" ∧ y.cls ≠ "java/lang/invoke/VarHandle" ∧ (parseMethodDescriptor y.desc).map (fun d => d.parameters.length) = some n) (hn : As.length = n) (hR : rm.frames + 1 ≤ R.frames ∧ 8 + (maxL + 11) + rm.locals ≤ R.locals) (hR2 : ce + mc1 ≤ R.cells ∧ sl + ms1 ≤ R.slots) (hW : (st.map fun v => v.category).sum ≤ 8) (hdg : decode cc pc = .ok (.invokestatic index, 3))
    (kx : ∀ (E : String) (v' : gMem), Qx E v' → gX p l e R s m args below meth c nL L sz Q (ce + mc1) (sl + ms1) E pc lv st v') (kk : ∀ (r : Int32) (v' : gMem), Qn r v' → gS p l e R s m args below meth c nL L sz Q (ce + mc1) (sl + ms1) (pc + 3) lv (.int r :: st) v') : gS p l e R s m args below meth c nL L sz Q ce sl pc lv (As.reverse ++ st) v := fun H locs ls hP hS hl => by
  have hEnv := C.2.2.2.2.2.2.2.2.2
  have hsz : s.heap.size = sz := C.2.2.2.2.2.2.2.2.1
  have t1 := C.2.2.2.2.1 _ hq1
  have t2 := C.2.2.2.2.1 _ hq2
  have t4 := C.2.2.2.2.1 _ hq4
  have t5 := C.2.2.2.2.1 _ hq5
  have hpay : ∀ w ∈ [Cond.code y bytes maxL ret], ∀ (a' : Array Value) (U : State), s.WarmedH U.vm → w.before a' U = true := by
    intro w hw a' U hW
    rw [List.mem_singleton.mp hw]
    exact gtw_move (gTbl_gtw hq5) hW t5
  have hlen : ∀ sig, parseMethodDescriptor y.desc = some sig → As.length = sig.parameters.length := by
    intro sig h
    have h2 := hd.2.2
    rw [h] at h2
    exact hn.trans (Option.some.inj h2).symm
  have hsub : ∀ q, gA L H.size q → gA L sz q := fun q h => h.elim Or.inl (fun h => Or.inr (Nat.le_trans (by rw [← hsz]; exact hS.1) h))
  have hpre : ∀ U : State, U.heap = H → s.WarmedH U.vm → gPc L H.size As v (As).toArray U := by
    intro U hU hW
    refine ⟨rfl, by rw [hU], by rw [hU]; exact hP, ?_⟩
    rw [hU]
    exact gEnv_move hW (by intro a h1 h2; exact hS.2.1 a h1 h2) (by rw [← hsz]; exact hS.1) hEnv
  refine vx_calli (vx_runS (As := As) (rest := st) ⟨C.1, C.2.1, C.2.2.1, C.2.2.2.1, C.2.2.2.2.1⟩ (hM H.size) ⟨⟨hrc, hrs, hR.1, hR.2, hpay, List.mem_cons_self, t5, t4, ⟨hd.1, hd.2.1⟩, hlen, t1⟩, t2⟩ ⟨gPc_blind _ _ _ _, hpre⟩ rfl rfl hl.1 rfl (lv_room hW) hdg hR2) hS (fun q _ h => hsub q h) hsub (fun q _ h => hsub q h) ?_ (fun r u t H1 locs1 ht hvm hw hB hz1 hk1 hS1 => kk r u hw H1 locs1 ls (by rw [← ht]; exact hB) hS1 hl)
  intro E ce9 q9 u t H1 locs1 ht hvm _ hB hz1 hk1 hS1 hc9 hv9 hcl9
  exact kx E u hB.1 H1 locs1 ls q9 ce9 (by rw [← ht]; exact hB.2) hS1 hl hc9 hv9 hcl9
theorem g_gcallSXi (C : gC p l s m args meth c cc nL own L sz) {Qx : String → gMem → Prop} {y : MethodName} {bytes : ByteArray} {maxL : Nat} {ret : Option FieldType} {hh : List (Nat × Nat × Nat × Nat)} {rm : Room} {mc1 ms1 index n : Nat} (As : List Value) {Qn : Int32 → gMem → Prop}
    (hM : ∀ sz', vx_Met l y [.codeWith y bytes maxL ret hh] rm (gPc L sz' As v) (gQi L sz' Qn) (gXC L sz' Qx) mc1 ms1 (gA L sz'))
    (hq1 : Cond.methodLink own index y ∈ gTbl) (hq2 : Cond.static y ∈ gTbl) (hq4 : Cond.initialized y.cls ∈ gTbl) (hq5 : Cond.codeWith y bytes maxL ret hh ∈ gTbl) (hrc : rm.cells = mc1) (hrs : rm.slots = ms1) (hd : y.cls ≠ "java/lang/invoke/MethodHandle" ∧ y.cls ≠ "java/lang/invoke/VarHandle" ∧ (parseMethodDescriptor y.desc).map (fun d => d.parameters.length) = some n) (hn : As.length = n) (hR : rm.frames + 1 ≤ R.frames ∧ 8 + (maxL + 11) + rm.locals ≤ R.locals) (hR2 : ce + mc1 ≤ R.cells ∧ sl + ms1 ≤ R.slots) (hW : (st.map fun v => v.category).sum ≤ 8) (hdg : decode cc pc = .ok (.invokestatic index, 3))
    (kx : ∀ (E : String) (v' : gMem), Qx E v' → gX p l e R s m args below meth c nL L sz Q (ce + mc1) (sl + ms1) E pc lv st v') (kk : ∀ (r : Int32) (v' : gMem), Qn r v' → gS p l e R s m args below meth c nL L sz Q (ce + mc1) (sl + ms1) (pc + 3) lv (.int r :: st) v') : gS p l e R s m args below meth c nL L sz Q ce sl pc lv (As.reverse ++ st) v := fun H locs ls hP hS hl => by
  have hEnv := C.2.2.2.2.2.2.2.2.2
  have hsz : s.heap.size = sz := C.2.2.2.2.2.2.2.2.1
  have t1 := C.2.2.2.2.1 _ hq1
  have t2 := C.2.2.2.2.1 _ hq2
  have t4 := C.2.2.2.2.1 _ hq4
  have t5 := C.2.2.2.2.1 _ hq5
  have hpay : ∀ w ∈ [Cond.codeWith y bytes maxL ret hh], ∀ (a' : Array Value) (U : State), s.WarmedH U.vm → w.before a' U = true := by
    intro w hw a' U hW
    rw [List.mem_singleton.mp hw]
    exact gtw_move (gTbl_gtw hq5) hW t5
  have hlen : ∀ sig, parseMethodDescriptor y.desc = some sig → n = sig.parameters.length := by
    intro sig h
    have h2 := hd.2.2
    rw [h] at h2
    exact (Option.some.inj h2).symm
  have hsub : ∀ q, gA L H.size q → gA L sz q := fun q h => h.elim Or.inl (fun h => Or.inr (Nat.le_trans (by rw [← hsz]; exact hS.1) h))
  have hpre : ∀ U : State, U.heap = H → s.WarmedH U.vm → gPc L H.size As v As.toArray U := by
    intro U hU hW
    refine ⟨rfl, by rw [hU], by rw [hU]; exact hP, ?_⟩
    rw [hU]
    exact gEnv_move hW (by intro a h1 h2; exact hS.2.1 a h1 h2) (by rw [← hsz]; exact hS.1) hEnv
  refine vx_calli (vx_runSX (As := As) (rest := st) ⟨C.1, C.2.1, C.2.2.1, C.2.2.2.1, C.2.2.2.2.1⟩ (hM H.size) ⟨⟨hrc, hrs, hR.1, hR.2, hpay, List.mem_cons_self⟩, t5, t4, ⟨hd.1, hd.2.1⟩, hlen, t1, t2⟩ ⟨gPc_blind _ _ _ _, hpre⟩ rfl hn hl.1 rfl (lv_room hW) hdg hR2) hS (fun q _ h => hsub q h) hsub (fun q _ h => hsub q h) ?_ (fun r u t H1 locs1 ht hvm hw hB hz1 hk1 hS1 => kk r u hw H1 locs1 ls (by rw [← ht]; exact hB) hS1 hl)
  intro E ce9 q9 u t H1 locs1 ht hvm _ hB hz1 hk1 hS1 hc9 hv9 hcl9
  exact kx E u hB.1 H1 locs1 ls q9 ce9 (by rw [← ht]; exact hB.2) hS1 hl hc9 hv9 hcl9
end GLW
theorem g_ofWH {l : Launch} {L : gL} {sz mc ms : Nat} {v : gMem} {X : String → gMem → Prop} {cc : ByteArray} {y : MethodName} {rm : Room} {Qc : Array Value → State → Outcome → State → Prop} {maxL : Nat} {ret : Option FieldType} {hh : List (Nat × Nat × Nat × Nat)} {As : List Value} (hy : plainName y.cls = true) (hfl : l.stackTraces = false) (hL : gDist L) (hA : (lg_sl As).length ≤ maxL)
    (body : ∀ (p : Program) (e : Env) (s : State) (m : MethodId) (args : Array Value) (below : List Frame) (meth : Method) (c : Code), gC p l s m args meth c cc maxL y.cls L sz → meth.sig.returnType = ret → c.exceptionTable.toList = tableOf hh → gS p l e rm s m args below meth c maxL L sz (vx_MQ below Qc (gXC L sz X) args s mc ms (gA L sz)) 0 0 0 (lv_args 0 As) [] v) :
    vx_Met l y [.codeWith y cc maxL ret hh] rm (gPc L sz As v) Qc (gXC L sz X) mc ms (gA L sz) := by
  refine vx_ofWH (cc := cc) (maxL := maxL) (ret := ret) (hh := hh) hy rfl ?_
  intro p e s m args below meth c s₁ B hml hv
  obtain ⟨rfl, hsz, hP, hE⟩ := hv
  have hown : s.vm.findClass y.cls = some m.cls := findClass_of_methodNamed B.named
  have htab : c.exceptionTable.toList = tableOf hh := vx_table (x := y) B (atoms_spec (ws := [Cond.codeWith y cc maxL ret hh]) B.pre _ List.mem_cons_self)
  have hC : gC p l s m As.toArray meth c cc maxL y.cls L sz := ⟨B.exec, B.bytes, hml, hown, fun w hw => gtw_move (gTbl_gtw hw) (State.WarmedH.refl s) (hE.2.1 w hw), B.notSynchronized, hfl, hL, hsz, hE⟩
  rw [lg_entry_eq]
  exact body p e s m As.toArray below meth c hC B.returns htab s.heap [] _ hP va_S.rf (lv_entry As hA)
