/-! CONSTRUCTORS: worlds as lists of cells that grow -/
def ktys (cA : Nat → ClassId) : List (ClassId × FieldType) := [(cA 0, .char), (cA 1, .int), (cA 2, .boolean), (cA 3, .object "Cardmeld$Card"), (cA 4, .long), (cA 5, .double)]
def kArr : List FieldType := [.char, .int, .boolean, .long, .double]
def kEnv (D : va_G) (cA : Nat → ClassId) (U : State) : Prop := va_K D vwCl (ktys cA) U ∧ (∀ w ∈ gTbl, w.before #[] U = true) ∧ (∀ ty ∈ kArr, (Cond.arrayClass ty).before #[] U = true) ∧ va_AO "Cardmeld$Card" U
theorem kEnv_move {D : va_G} {cA : Nat → ClassId} {s U : State} (hW : s.WarmedH U.vm) (h : kEnv D cA s) : kEnv D cA U :=
  ⟨va_K.moved hW.alike h.1, fun w hw => gtw_move (gTbl_gtw hw) hW (h.2.1 w hw), fun ty hty => word_at hW (Or.inr ⟨ty, rfl⟩) (h.2.2.1 ty hty), va_AO.moved hW.alike h.2.2.2⟩
def kC (p : Program) (s : State) (m : MethodId) (args : Array Value) (meth : Method) (c : Code) (cc : ByteArray) (nL : Nat) (own : String) (D : va_G) (cA : Nat → ClassId) (A : Nat → Prop) : Prop :=
  p.tables.exec = Jvm.exec ∧ c.code = cc ∧ c.maxLocals = nL ∧ s.vm.findClass own = some m.cls ∧ (∀ w ∈ gTbl, w.before args s = true) ∧ meth.locks = false ∧ kEnv D cA s ∧ (∀ q, s.heap.size ≤ q → A q)
def nS (p : Program) (l : Launch) (e : Env) (R : Room) (s : State) (m : MethodId) (args : Array Value) (below : List Frame) (meth : Method) (c : Code) (nL : Nat) (D : va_G) (A : Nat → Prop) (Q : State → Prop) (ce sl pc : Nat) (lv : List (Nat × Value)) (st : List Value) (ws : va_W) : Prop :=
  ∀ (H : Heap) (locs : List Loc) (ls : Array Slot), va_P D vwCl ws H → va_D A ws → va_S A s.heap H locs → lv_has ls nL lv → W p l e R s m args below meth c H locs ce sl Q (F0 m pc ls st)
section NR
variable {p : Program} {l : Launch} {e : Env} {R : Room} {s : State} {m : MethodId} {args : Array Value} {below : List Frame} {meth : Method} {c : Code} {cc : ByteArray} {nL : Nat} {own : String} {D : va_G} {cA : Nat → ClassId} {A : Nat → Prop} {Q : State → Prop} {ce sl pc : Nat} {lv : List (Nat × Value)} {st : List Value} {ws : va_W}
theorem n_iconst (C : kC p s m args meth c cc nL own D cA A) {n : Int} (x : Int32) (hv : Int32.ofInt n = x) (hd : decode cc pc = .ok (.iconst n, 1)) (kk : nS p l e R s m args below meth c nL D A Q ce sl (pc + 1) lv (.int x :: st) ws) : nS p l e R s m args below meth c nL D A Q ce sl pc lv st ws := fun H locs ls hP hD hS hl => lv_iconst C.1 C.2.1 hd hv (kk H locs ls hP hD hS hl)
theorem n_bipush (C : kC p s m args meth c cc nL own D cA A) {n : Int} (x : Int32) (hv : (Int8.ofInt n).toInt32 = x) (hd : decode cc pc = .ok (.bipush n, 2)) (kk : nS p l e R s m args below meth c nL D A Q ce sl (pc + 2) lv (.int x :: st) ws) : nS p l e R s m args below meth c nL D A Q ce sl pc lv st ws := fun H locs ls hP hD hS hl => lv_bipush C.1 C.2.1 hd hv (kk H locs ls hP hD hS hl)
theorem n_sipush (C : kC p s m args meth c cc nL own D cA A) {n : Int} (x : Int32) (hv : (Int16.ofInt n).toInt32 = x) (hd : decode cc pc = .ok (.sipush n, 3)) (kk : nS p l e R s m args below meth c nL D A Q ce sl (pc + 3) lv (.int x :: st) ws) : nS p l e R s m args below meth c nL D A Q ce sl pc lv st ws := fun H locs ls hP hD hS hl => lv_sipush C.1 C.2.1 hd hv (kk H locs ls hP hD hS hl)
theorem n_iload_n (C : kC p s m args meth c cc nL own D cA A) {k : Fin 4} (i : Nat) (hi : (k : Nat) = i) (q : Nat) {x : Int32} (hq : lv[q]? = some (i, .int x)) (hd : decode cc pc = .ok (.iload_n k, 1)) (kk : nS p l e R s m args below meth c nL D A Q ce sl (pc + 1) lv (.int x :: st) ws) : nS p l e R s m args below meth c nL D A Q ce sl pc lv st ws := fun H locs ls hP hD hS hl => lv_iload_n C.1 C.2.1 hd hi (lv_at hl q hq) (kk H locs ls hP hD hS hl)
theorem n_aload_n (C : kC p s m args meth c cc nL own D cA A) {k : Fin 4} (i : Nat) (hi : (k : Nat) = i) (q : Nat) {x : Nat} (hq : lv[q]? = some (i, .ref x)) (hd : decode cc pc = .ok (.aload_n k, 1)) (kk : nS p l e R s m args below meth c nL D A Q ce sl (pc + 1) lv (.ref x :: st) ws) : nS p l e R s m args below meth c nL D A Q ce sl pc lv st ws := fun H locs ls hP hD hS hl => lv_aload_n C.1 C.2.1 hd hi (lv_at hl q hq) (kk H locs ls hP hD hS hl)
theorem n_istore_n (C : kC p s m args meth c cc nL own D cA A) {k : Fin 4} (i : Nat) (hi : (k : Nat) = i) {x : Int32} (lv' : List (Nat × Value)) (hn : i < nL) (hf : (i, Value.int x) :: lv.filter (fun q => !(q.1 == i) && !(q.1 + 1 == i && q.2.category == 2)) = lv') (hd : decode cc pc = .ok (.istore_n k, 1)) (kk : nS p l e R s m args below meth c nL D A Q ce sl (pc + 1) lv' st ws) : nS p l e R s m args below meth c nL D A Q ce sl pc lv (.int x :: st) ws := fun H locs ls hP hD hS hl => lv_istore_n C.1 C.2.1 hd hi hl hn hf (fun ls hl => kk H locs ls hP hD hS hl)
theorem n_istore (C : kC p s m args meth c cc nL own D cA A) {i : Nat} {x : Int32} (lv' : List (Nat × Value)) (hn : i < nL) (hf : (i, Value.int x) :: lv.filter (fun q => !(q.1 == i) && !(q.1 + 1 == i && q.2.category == 2)) = lv') (hd : decode cc pc = .ok (.istore i, 2)) (kk : nS p l e R s m args below meth c nL D A Q ce sl (pc + 2) lv' st ws) : nS p l e R s m args below meth c nL D A Q ce sl pc lv (.int x :: st) ws := fun H locs ls hP hD hS hl => lv_istore C.1 C.2.1 hd hl hn hf (fun ls hl => kk H locs ls hP hD hS hl)
theorem n_astore_n (C : kC p s m args meth c cc nL own D cA A) {k : Fin 4} (i : Nat) (hi : (k : Nat) = i) {x : Nat} (lv' : List (Nat × Value)) (hn : i < nL) (hf : (i, Value.ref x) :: lv.filter (fun q => !(q.1 == i) && !(q.1 + 1 == i && q.2.category == 2)) = lv') (hd : decode cc pc = .ok (.astore_n k, 1)) (kk : nS p l e R s m args below meth c nL D A Q ce sl (pc + 1) lv' st ws) : nS p l e R s m args below meth c nL D A Q ce sl pc lv (.ref x :: st) ws := fun H locs ls hP hD hS hl => lv_astore_n C.1 C.2.1 hd hi hl hn hf (fun ls hl => kk H locs ls hP hD hS hl)
theorem n_astore (C : kC p s m args meth c cc nL own D cA A) {i : Nat} {x : Nat} (lv' : List (Nat × Value)) (hn : i < nL) (hf : (i, Value.ref x) :: lv.filter (fun q => !(q.1 == i) && !(q.1 + 1 == i && q.2.category == 2)) = lv') (hd : decode cc pc = .ok (.astore i, 2)) (kk : nS p l e R s m args below meth c nL D A Q ce sl (pc + 2) lv' st ws) : nS p l e R s m args below meth c nL D A Q ce sl pc lv (.ref x :: st) ws := fun H locs ls hP hD hS hl => lv_astore C.1 C.2.1 hd hl hn hf (fun ls hl => kk H locs ls hP hD hS hl)
theorem n_iinc (C : kC p s m args meth c cc nL own D cA A) {i k : Nat} {n : Int} {x : Int32} (y : Int32) (lv' : List (Nat × Value)) (hk : lv[k]? = some (i, .int x)) (hv : x + Int32.ofInt n = y) (hn : i < nL) (hf : (i, Value.int y) :: lv.filter (fun q => !(q.1 == i) && !(q.1 + 1 == i && q.2.category == 2)) = lv') (hd : decode cc pc = .ok (.iinc i n, 3)) (kk : nS p l e R s m args below meth c nL D A Q ce sl (pc + 3) lv' st ws) : nS p l e R s m args below meth c nL D A Q ce sl pc lv st ws := fun H locs ls hP hD hS hl => lv_iinc C.1 C.2.1 hd hl hk hv hn hf (fun ls hl => kk H locs ls hP hD hS hl)
theorem n_dup (C : kC p s m args meth c cc nL own D cA A) {a : Value} (ha : a.category = 1) (hd : decode cc pc = .ok (.dup, 1)) (kk : nS p l e R s m args below meth c nL D A Q ce sl (pc + 1) lv (a :: a :: st) ws) : nS p l e R s m args below meth c nL D A Q ce sl pc lv (a :: st) ws := fun H locs ls hP hD hS hl => lv_dup C.1 C.2.1 hd ha (kk H locs ls hP hD hS hl)
theorem n_goto (C : kC p s m args meth c cc nL own D cA A) {off : Int} (tgt : Nat) (ht : (pc : Int) + off = (tgt : Int)) (hd : decode cc pc = .ok (.goto off, 3)) (kk : nS p l e R s m args below meth c nL D A Q ce sl tgt lv st ws) : nS p l e R s m args below meth c nL D A Q ce sl pc lv st ws := fun H locs ls hP hD hS hl => lv_goto C.1 C.2.1 hd ht (kk H locs ls hP hD hS hl)
theorem n_icmp_ge (C : kC p s m args meth c cc nL own D cA A) {x y : Int32} {off : Int} (tgt : Nat) (ht : (pc : Int) + off = (tgt : Int)) (hd : decode cc pc = .ok (.if_icmp .ge off, 3)) (kt : y ≤ x → nS p l e R s m args below meth c nL D A Q ce sl tgt lv st ws) (kf : ¬ y ≤ x → nS p l e R s m args below meth c nL D A Q ce sl (pc + 3) lv st ws) : nS p l e R s m args below meth c nL D A Q ce sl pc lv (.int y :: .int x :: st) ws := fun H locs ls hP hD hS hl => lv_icmp_ge C.1 C.2.1 hd ht (fun h => kt h H locs ls hP hD hS hl) (fun h => kf h H locs ls hP hD hS hl)
theorem n_objInit (C : kC p s m args meth c cc nL own D cA A) {idx : Nat} {a : Addr} (hq1 : Cond.methodLink own idx objectInit ∈ gTbl) (hq2 : Cond.instanceMethod objectInit ∈ gTbl) (hq3 : Cond.code objectInit ⟨#[0xb1]⟩ 1 none ∈ gTbl) (hd : decode cc pc = .ok (.invokespecial idx, 3)) (hR1 : 1 ≤ R.frames) (hR2 : (st.map fun v => v.category).sum + 12 ≤ R.locals) (kk : nS p l e R s m args below meth c nL D A Q ce sl (pc + 3) lv st ws) : nS p l e R s m args below meth c nL D A Q ce sl pc lv (.ref a :: st) ws := fun H locs ls hP hD hS hl => by
  refine W.objInit C.1 C.2.1 C.2.2.2.1 (C.2.2.2.2.1 _ hq1) (C.2.2.2.2.1 _ hq2) (C.2.2.2.2.1 _ hq3) rfl (by rw [C.2.2.1]; exact hl.1) rfl hd hR1 (by show 2 * 0 + _ + 12 ≤ _; omega) ?_
  exact kk H locs ls hP hD hS hl
theorem n_new (C : kC p s m args meth c cc nL own D cA A) {Cn : String} {T : u_T} {N ci idx : Nat} (hin : ∀ w ∈ u_ws Cn T N, w ∈ gTbl) (ty : Nat → FieldType) (hty : ∀ k, k < N → parseFieldDescriptor (T k).2.2.1 = some (ty k)) (hq1 : Cond.classLink own idx Cn ∈ gTbl) (hq2 : Cond.instantiable Cn N ∈ gTbl) (hq3 : Cond.initialized Cn ∈ gTbl) (hc : vwCl[ci]? = some (Cn, T, N)) {fs : List Value} (hfs : ∀ j, j < N → defaultValue (ty j) = vp_V fs j) (hcells : ce + 1 ≤ R.cells ∧ sl + N ≤ R.slots) (hd : decode cc pc = .ok (.new idx, 3)) (kk : ∀ q : Nat, nS p l e R s m args below meth c nL D A Q (ce + 1) (sl + N) (pc + 3) lv (.ref q :: st) (ws ++ [(q, .inr (ci, fs))])) : nS p l e R s m args below meth c nL D A Q ce sl pc lv st ws := fun H locs ls hP hD hS hl =>
  va_new C.1 C.2.1 C.2.2.2.2.1 hin ty hty C.2.2.2.1 (C.2.2.2.2.1 _ hq1) (C.2.2.2.2.1 _ hq2) (C.2.2.2.2.1 _ hq3) C.2.2.2.2.2.2.1.1 hP hD hS C.2.2.2.2.2.2.2 hc hfs hcells.1 hcells.2 hd (fun q H1 hP1 hD1 hS1 => kk q H1 locs ls hP1 hD1 hS1 hl)
theorem n_newa (C : kC p s m args meth c cc nL own D cA A) {atype : ArrayType} {ty : FieldType} (hty : newarray.typeOf atype = ty) (hm : ty ∈ kArr) (t0 : Nat) {cX : ClassId} (ht : (ktys cA)[t0]? = some (cX, ty)) {n : Int32} (N : Nat) {a0 : vp_A} (ha : ∀ cA : ClassId, vp_cell cA a0 = arrV cA N (fun _ => defaultValue ty)) (hn : ¬ n < 0) (hN : n.toNatClampNeg = N) (hb : N * componentBytes ty ≤ 536870912) (hcells : ce + 1 ≤ R.cells ∧ sl + N ≤ R.slots) (hd : decode cc pc = .ok (.newarray atype, 2)) (kk : ∀ q : Nat, nS p l e R s m args below meth c nL D A Q (ce + 1) (sl + N) (pc + 2) lv (.ref q :: st) (ws ++ [(q, .inl (cX, a0))])) : nS p l e R s m args below meth c nL D A Q ce sl pc lv (.int n :: st) ws := fun H locs ls hP hD hS hl => by
  have harr : (Cond.arrayClass (newarray.typeOf atype)).before args s = true := by
    rw [hty]
    exact word_at (State.WarmedH.refl s) (Or.inr ⟨ty, rfl⟩) (C.2.2.2.2.2.2.1.2.2.1 ty hm)
  refine va_newa C.1 C.2.1 harr hty C.2.2.2.2.2.2.1.1 hP hD hS C.2.2.2.2.2.2.2 ha hn hN hb hcells.1 hcells.2 hd (fun q cB H1 hK1 hP1 hD1 hS1 => ?_)
  have hcB : cB = cX := by
    have h1 := ((hK1.2 6 (cB, ty) rfl).2)
    have h2 := ((C.2.2.2.2.2.2.1.1).2 t0 (cX, ty) ht).2
    simp only [kArr, List.mem_cons, List.not_mem_nil, or_false] at hm
    rcases hm with rfl | rfl | rfl | rfl | rfl <;> exact Option.some.inj (h1.symm.trans h2)
  subst hcB
  exact kk q H1 locs ls hP1 hD1 hS1 hl
theorem n_newq (C : kC p s m args meth c cc nL own D cA A) {idx : Nat} (hq1 : Cond.classLink own idx "Cardmeld$Card" ∈ gTbl) {n : Int32} (N : Nat) (hn : ¬ n < 0) (hN : n.toNatClampNeg = N) (hb : N * 4 ≤ 536870912) (hcells : ce + 1 ≤ R.cells ∧ sl + N ≤ R.slots) (hd : decode cc pc = .ok (.anewarray idx, 3)) (kk : ∀ q : Nat, nS p l e R s m args below meth c nL D A Q (ce + 1) (sl + N) (pc + 3) lv (.ref q :: st) (ws ++ [(q, .inl (cA 3, N, .inr (.inr (.inr (.inr (fun _ => none))))))])) : nS p l e R s m args below meth c nL D A Q ce sl pc lv (.int n :: st) ws := fun H locs ls hP hD hS hl => by
  refine va_newq C.1 C.2.1 C.2.2.2.1 (C.2.2.2.2.1 _ hq1) C.2.2.2.2.2.2.1.2.2.2 C.2.2.2.2.2.2.1.1 hP hD hS C.2.2.2.2.2.2.2 hn hN hb hcells.1 hcells.2 hd (fun q cB H1 hK1 hP1 hD1 hS1 => ?_)
  have hcB : cB = cA 3 := by
    obtain ⟨-, kA, comp, h1, h2, h3, h4⟩ := hK1.2 6 (cB, .object "Cardmeld$Card") rfl
    obtain ⟨-, kA', comp', g1, g2, g3, g4⟩ := C.2.2.2.2.2.2.1.1.2 3 (cA 3, .object "Cardmeld$Card") rfl
    exact Option.some.inj (h4.symm.trans g4)
  subst hcB
  exact kk q H1 locs ls hP1 hD1 hS1 hl
theorem n_put (C : kC p s m args meth c cc nL own D cA A) {a q0 ci : Nat} {fs : List Value} (he : ws[q0]? = some (a, .inr (ci, fs))) {Cn : String} {T : u_T} {N : Nat} (hc : vwCl[ci]? = some (Cn, T, N)) (hin : ∀ w ∈ u_ws Cn T N, w ∈ gTbl) (ty0 : Nat → FieldType) (hty : ∀ k, k < N → parseFieldDescriptor (T k).2.2.1 = some (ty0 k)) (hnm : ∀ a, a < N → ∀ b, b < N → a ≠ b → (T a).2.1 ≠ (T b).2.1) (j : Nat) (hj : j < N) {idx : Nat} (hq : Cond.fieldLink own idx (T j).1 (T j).2.1 (T j).2.2.1 ∈ gTbl) (hfin : (T j).2.2.2 = false) {ty : FieldType} {x : Value} (htj : parseFieldDescriptor (T j).2.2.1 = some ty) (hn : narrow ty x = x) (hfit : fits ty x = true) (hl0 : j < fs.length) (ws' : va_W) (hws : ws.set q0 (a, .inr (ci, fs.set j x)) = ws') (hd : decode cc pc = .ok (.putfield idx, 3)) (kk : nS p l e R s m args below meth c nL D A Q ce sl (pc + 3) lv st ws') : nS p l e R s m args below meth c nL D A Q ce sl pc lv (x :: .ref a :: st) ws := fun H locs ls hP hD hS hl => by
  subst hws
  exact va_put C.1 C.2.1 C.2.2.2.2.1 hin ty0 hty hnm C.2.2.2.1 C.2.2.2.2.2.2.1.1 hP hD hS q0 he hc j hj (C.2.2.2.2.1 _ hq) (fun _ h9 => h9) hfin htj hn hfit hl0 hd (fun H1 locs1 hP1 hD1 hS1 => kk H1 locs1 ls hP1 hD1 hS1 hl)
theorem n_putF (C : kC p s m args meth c cc nL own D cA A) (hin2 : meth.name = "<init>") {a q0 ci : Nat} {fs : List Value} (he : ws[q0]? = some (a, .inr (ci, fs))) {Cn : String} {T : u_T} {N : Nat} (hc : vwCl[ci]? = some (Cn, T, N)) (hin : ∀ w ∈ u_ws Cn T N, w ∈ gTbl) (ty0 : Nat → FieldType) (hty : ∀ k, k < N → parseFieldDescriptor (T k).2.2.1 = some (ty0 k)) (hnm : ∀ a, a < N → ∀ b, b < N → a ≠ b → (T a).2.1 ≠ (T b).2.1) (j : Nat) (hj : j < N) {idx : Nat} (hq : Cond.fieldLink own idx (T j).1 (T j).2.1 (T j).2.2.1 ∈ gTbl) (hfin : (T j).2.2.2 = true) (hdecl : (T j).1 = own) {ty : FieldType} {x : Value} (htj : parseFieldDescriptor (T j).2.2.1 = some ty) (hn : narrow ty x = x) (hfit : fits ty x = true) (hl0 : j < fs.length) (ws' : va_W) (hws : ws.set q0 (a, .inr (ci, fs.set j x)) = ws') (hd : decode cc pc = .ok (.putfield idx, 3)) (kk : nS p l e R s m args below meth c nL D A Q ce sl (pc + 3) lv st ws') : nS p l e R s m args below meth c nL D A Q ce sl pc lv (x :: .ref a :: st) ws := fun H locs ls hP hD hS hl => by
  subst hws
  exact va_putF C.1 C.2.1 C.2.2.2.2.1 hin ty0 hty hnm C.2.2.2.1 C.2.2.2.2.2.2.1.1 hP hD hS q0 he hc j hj (C.2.2.2.2.1 _ hq) (fun _ h9 => h9) hfin hin2 hdecl htj hn hfit hl0 hd (fun H1 locs1 hP1 hD1 hS1 => kk H1 locs1 ls hP1 hD1 hS1 hl)
theorem n_get (C : kC p s m args meth c cc nL own D cA A) {a q0 ci : Nat} {fs : List Value} (he : ws[q0]? = some (a, .inr (ci, fs))) {Cn : String} {T : u_T} {N : Nat} (hc : vwCl[ci]? = some (Cn, T, N)) (hin : ∀ w ∈ u_ws Cn T N, w ∈ gTbl) (j : Nat) (hj : j < N) {idx : Nat} (hq : Cond.fieldLink own idx (T j).1 (T j).2.1 (T j).2.2.1 ∈ gTbl) {x : Value} (hx : fs[j]? = some x) (hd : decode cc pc = .ok (.getfield idx, 3)) (kk : nS p l e R s m args below meth c nL D A Q ce sl (pc + 3) lv (x :: st) ws) : nS p l e R s m args below meth c nL D A Q ce sl pc lv (.ref a :: st) ws := fun H locs ls hP hD hS hl =>
  va_get C.1 C.2.1 C.2.2.2.2.1 hin C.2.2.2.1 C.2.2.2.2.2.2.1.1 hP q0 he hc j hj (C.2.2.2.2.1 _ hq) (fun _ h9 => h9) hx hd (kk H locs ls hP hD hS hl)
theorem n_iast (C : kC p s m args meth c cc nL own D cA A) {a q0 n : Nat} {f : Nat → Int32} (ha : ws[q0]? = some (a, .inl (cA 1, n, .inl f))) {i x : Int32} (hin : vp_in i n) (ws' : va_W) (hws : ws.set q0 (a, .inl (cA 1, n, .inl (upd f i.toNatClampNeg x))) = ws') (hd : decode cc pc = .ok (.iastore, 1)) (kk : nS p l e R s m args below meth c nL D A Q ce sl (pc + 1) lv st ws') : nS p l e R s m args below meth c nL D A Q ce sl pc lv (.int x :: .int i :: .ref a :: st) ws := fun H locs ls hP hD hS hl => by
  subst hws
  exact va_iast C.1 C.2.1 C.2.2.2.2.2.2.1.1 hP hD hS q0 1 ha rfl hin hd (fun H1 locs1 hP1 hD1 hS1 => kk H1 locs1 ls hP1 hD1 hS1 hl)
theorem n_aast (C : kC p s m args meth c cc nL own D cA A) {a q0 qk n v : Nat} {vs : List Value} {f : Nat → Option Nat} (ha : ws[q0]? = some (a, .inl (cA 3, n, .inr (.inr (.inr (.inr f)))))) (hv : ws[qk]? = some (v, .inr (2, vs))) {i : Int32} (hin : vp_in i n) (ws' : va_W) (hws : ws.set q0 (a, .inl (cA 3, n, .inr (.inr (.inr (.inr (va_up f i.toNatClampNeg (some v))))))) = ws') (hd : decode cc pc = .ok (.aastore, 1)) (kk : nS p l e R s m args below meth c nL D A Q ce sl (pc + 1) lv st ws') : nS p l e R s m args below meth c nL D A Q ce sl pc lv (.ref v :: .int i :: .ref a :: st) ws := fun H locs ls hP hD hS hl => by
  subst hws
  exact va_astq (r := (RX2, TX2, 3)) C.1 C.2.1 C.2.2.2.2.2.2.1.1 hP hD hS q0 3 qk 2 ha rfl hv rfl hin hd (fun H1 locs1 hP1 hD1 hS1 => kk H1 locs1 ls hP1 hD1 hS1 hl)
theorem n_eq (ws' : va_W) (h : ws = ws') (kk : nS p l e R s m args below meth c nL D A Q ce sl pc lv st ws') : nS p l e R s m args below meth c nL D A Q ce sl pc lv st ws := by subst h; exact kk
theorem n_widen (ce' sl' : Nat) (h1 : ce ≤ ce') (h2 : sl ≤ sl') (kk : nS p l e R s m args below meth c nL D A Q ce' sl' pc lv st ws) : nS p l e R s m args below meth c nL D A Q ce sl pc lv st ws := fun H locs ls hP hD hS hl => W.widen h1 h2 (kk H locs ls hP hD hS hl)
end NR
/-- a constructor: from a fresh object of the class to the world W1 of it and of what it makes -/
def nMet (l : Launch) (y : MethodName) (cc : ByteArray) (nL : Nat) (D : va_G) (cA : Nat → ClassId) (rm : Room) (mc ms ci : Nat) (fs0 : List Value) (W1 : Nat → (Nat → Nat) → va_W) : Prop :=
  ∀ (h sz : Nat), Met l y [.code y cc nL none] rm (va_Pc [.ref h] (fun U => U.heap.size = sz ∧ va_P D vwCl [(h, .inr (ci, fs0))] U.heap ∧ kEnv D cA U)) (va_Qv (fun _ : Nat → Nat => True) (fun a t => va_P D vwCl (W1 h a) t.heap ∧ va_D (va_A [(h, .inr (ci, fs0))] sz) (W1 h a)) (va_A [(h, .inr (ci, fs0))] sz)) mc ms (va_A [(h, .inr (ci, fs0))] sz)
theorem nD1 {A : Nat → Prop} {h : Nat} {e : va_E} (hA : A h) : va_D A [(h, e)] := by
  refine ⟨fun i j p q hi hj _ => ?_, fun k q hk => ?_⟩
  · have h1 := (List.getElem?_eq_some_iff.mp hi).1
    have h2 := (List.getElem?_eq_some_iff.mp hj).1
    simp only [List.length_singleton] at h1 h2
    omega
  · have h1 := (List.getElem?_eq_some_iff.mp hk).1
    simp only [List.length_singleton] at h1
    rw [show k = 0 by omega] at hk
    cases hk
    exact hA
theorem n_open {l : Launch} {y : MethodName} {cc : ByteArray} {nL : Nat} {D : va_G} {cA : Nat → ClassId} {rm : Room} {mc ms ci : Nat} {fs0 : List Value} {W1 : Nat → (Nat → Nat) → va_W} (hy : plainName y.cls = true) (hnL : 1 ≤ nL)
    (body : ∀ (h : Nat) (A : Nat → Prop) (Q : State → Prop) (p : Program) (e : Env) (s : State) (m : MethodId) (args : Array Value) (below : List Frame) (meth : Method) (c : Code), kC p s m args meth c cc nL y.cls D cA A → meth.sig.returnType = none → meth.name = y.name →
      (∀ (ce sl pc : Nat) (lv : List (Nat × Value)) (a : Nat → Nat), ce ≤ mc → sl ≤ ms → decode cc pc = .ok (.return_, 1) → nS p l e rm s m args below meth c nL D A Q ce sl pc lv [] (W1 h a)) → nS p l e rm s m args below meth c nL D A Q 0 0 0 [(0, .ref h)] [] [(h, .inr (ci, fs0))]) :
    nMet l y cc nL D cA rm mc ms ci fs0 W1 := by
  intro h sz
  refine Met.ofW (cc := cc) (maxL := nL) (ret := none) hy rfl ?_
  intro p e s m args below meth c s₁ B hml hv
  obtain ⟨rfl, hsz, hP, hE⟩ := hv
  have hown : s.vm.findClass y.cls = some m.cls := findClass_of_methodNamed B.named
  subst hsz
  have hC : kC p s m [Value.ref h].toArray meth c cc nL y.cls D cA (va_A [(h, .inr (ci, fs0))] s.heap.size) := ⟨B.exec, B.bytes, hml, hown, fun w hw => gtw_move (gTbl_gtw hw) (State.WarmedH.refl s) (hE.2.1 w hw), B.notSynchronized, hE, fun q hq => Or.inr hq⟩
  have hl := lv_entry ([.ref h]) (n := nL) hnL
  rw [lg_entry_eq]
  refine body h _ _ p e s m _ below meth c hC B.returns (name_of_methodNamed B.named B.method).1 ?_ s.heap [] _ hP (nD1 (Or.inl ⟨0, _, rfl⟩)) va_S.rf hl
  intro ce sl pc lv a h1 h2 hd H locs ls hP1 hD1 hS1 hl1
  exact W.widen h1 h2 (W.vret B.exec B.bytes B.returns (fun t ht hW => ⟨⟨a, rfl, trivial, by rw [ht]; exact hP1, hD1⟩, hS1.F ht⟩) hS1.2.2 hd B.notSynchronized)
section NC
variable {p : Program} {l : Launch} {e : Env} {R : Room} {s : State} {m : MethodId} {args : Array Value} {below : List Frame} {meth : Method} {c : Code} {cc : ByteArray} {nL : Nat} {own : String} {D : va_G} {cA : Nat → ClassId} {A : Nat → Prop} {Q : State → Prop} {ce sl pc : Nat} {lv : List (Nat × Value)} {st : List Value} {wr : va_W}
theorem n_join {h ci : Nat} {fs0 : List Value} {w1 : va_W} {H H1 : Heap} (hP : va_P D vwCl (wr ++ [(h, .inr (ci, fs0))]) H) (hD : va_D A (wr ++ [(h, .inr (ci, fs0))])) (hA : ∀ q, H.size ≤ q → A q) (hk : ∀ q : Nat, q < H.size → ¬ va_A [(h, .inr (ci, fs0))] H.size q → H1[q]? = H[q]?) (hP1 : va_P D vwCl w1 H1) (hD1 : va_D (va_A [(h, .inr (ci, fs0))] H.size) w1) : va_P D vwCl (wr ++ w1) H1 ∧ va_D A (wr ++ w1) := by
  have hlast : (wr ++ [(h, (.inr (ci, fs0) : va_E))])[wr.length]? = some (h, .inr (ci, fs0)) := by simp
  have hin : ∀ (k : Nat) (q : Nat × va_E), wr[k]? = some q → (wr ++ [(h, (.inr (ci, fs0) : va_E))])[k]? = some q := fun k q hq => by
    rw [List.getElem?_append_left (List.getElem?_eq_some_iff.mp hq).1]; exact hq
  have apart : ∀ (k : Nat) (q : Nat × va_E), wr[k]? = some q → q.1 < H.size ∧ ¬ va_A [(h, .inr (ci, fs0))] H.size q.1 := by
    intro k q hq
    have hlt := (hP k q (hin k q hq)).lt
    refine ⟨hlt, ?_⟩
    rintro (⟨k2, e2, h2⟩ | h2)
    · have hz := (List.getElem?_eq_some_iff.mp h2).1
      simp only [List.length_singleton] at hz
      rw [show k2 = 0 by omega] at h2
      cases h2
      have := hD.1 k wr.length q _ (hin k q hq) hlast rfl
      have h3 := (List.getElem?_eq_some_iff.mp hq).1
      omega
    · omega
  have hsub : ∀ q, va_A [(h, .inr (ci, fs0))] H.size q → A q := by
    rintro q (⟨k2, e2, h2⟩ | h2)
    · have hz := (List.getElem?_eq_some_iff.mp h2).1
      simp only [List.length_singleton] at hz
      rw [show k2 = 0 by omega] at h2
      cases h2
      exact hD.2 wr.length _ hlast
    · exact hA q h2
  refine ⟨va_P.app (fun k q hq => ?_) hP1, va_D.app ⟨fun i j x y hx hy => hD.1 i j x y (hin i x hx) (hin j y hy), fun k q hq => hD.2 k q (hin k q hq)⟩ (hD1.weaken (fun k q _ h => hsub q.1 h)) (fun i j x y hx hy hxy => ?_)⟩
  · obtain ⟨g1, g2⟩ := apart k q hq
    exact (hP k q (hin k q hq)).kept (hk q.1 g1 g2)
  · exact (apart i x hx).2 (by rw [hxy]; exact hD1.2 j y hy)
theorem n_call (C : kC p s m args meth c cc nL own D cA A) {y : MethodName} {bytes : ByteArray} {maxL index h ci mc1 ms1 : Nat} {rm : Room} {fs0 : List Value} {W1 : Nat → (Nat → Nat) → va_W} (hM : nMet l y bytes maxL D cA rm mc1 ms1 ci fs0 W1) (hq1 : Cond.methodLink own index y ∈ gTbl) (hq2 : Cond.instanceMethod y ∈ gTbl) (hq4 : Cond.initialized y.cls ∈ gTbl) (hq5 : Cond.code y bytes maxL none ∈ gTbl) (hy1 : y.name = "<init>") (hrc : rm.cells = mc1) (hrs : rm.slots = ms1) (hd : y.cls ≠ "java/lang/invoke/MethodHandle" ∧ y.cls ≠ "java/lang/invoke/VarHandle" ∧ (parseMethodDescriptor y.desc).map (fun d => d.parameters.length) = some 0) (hR : rm.frames + 1 ≤ R.frames ∧ 8 + (maxL + 11) + rm.locals ≤ R.locals) (hR2 : ce + mc1 ≤ R.cells ∧ sl + ms1 ≤ R.slots) (hW : (st.map fun v => v.category).sum ≤ 8) (hdg : decode cc pc = .ok (.invokespecial index, 3))
    (kk : ∀ a : Nat → Nat, nS p l e R s m args below meth c nL D A Q (ce + mc1) (sl + ms1) (pc + 3) lv st (wr ++ W1 h a)) : nS p l e R s m args below meth c nL D A Q ce sl pc lv (.ref h :: st) (wr ++ [(h, .inr (ci, fs0))]) := fun H locs ls hP hD hS hl => by
  have t1 := C.2.2.2.2.1 _ hq1
  have t2 := C.2.2.2.2.1 _ hq2
  have t4 := C.2.2.2.2.1 _ hq4
  have t5 := C.2.2.2.2.1 _ hq5
  have hA : ∀ q, H.size ≤ q → A q := fun q hq => C.2.2.2.2.2.2.2 q (Nat.le_trans hS.1 hq)
  have hlast : (wr ++ [(h, (.inr (ci, fs0) : va_E))])[wr.length]? = some (h, .inr (ci, fs0)) := by simp
  have hpay : ∀ w ∈ [Cond.code y bytes maxL none], ∀ (a' : Array Value) (U : State), s.WarmedH U.vm → w.before a' U = true := by
    intro w hw a' U hW
    rw [List.mem_singleton.mp hw]
    exact gtw_move (gTbl_gtw hq5) hW t5
  have hlen : ∀ sig, parseMethodDescriptor y.desc = some sig → 0 = sig.parameters.length := by
    intro sig h
    have h2 := hd.2.2
    rw [h] at h2
    exact (Option.some.inj h2).symm
  have hsub : ∀ q, va_A [(h, .inr (ci, fs0))] H.size q → A q := by
    rintro q (⟨k2, e2, h2⟩ | h2)
    · have hz := (List.getElem?_eq_some_iff.mp h2).1
      simp only [List.length_singleton] at hz
      rw [show k2 = 0 by omega] at h2
      cases h2
      exact hD.2 wr.length _ hlast
    · exact hA q h2
  have hp1 : va_P D vwCl [(h, .inr (ci, fs0))] H := by
    intro k q hk
    have hz := (List.getElem?_eq_some_iff.mp hk).1
    simp only [List.length_singleton] at hz
    rw [show k = 0 by omega] at hk
    cases hk
    exact hP wr.length _ hlast
  refine va_callv (va_runI (As := []) (rest := st) ⟨C.1, C.2.1, C.2.2.1, C.2.2.2.1, C.2.2.2.2.1⟩ (hM h H.size) ⟨⟨hrc, hrs, hR.1, hR.2, hpay, List.mem_cons_self, t5, t4, ⟨hd.1, hd.2.1⟩, hlen, t1⟩, hy1, t2⟩ ⟨?_, fun U hU hW => ⟨rfl, by rw [hU], by rw [hU]; exact hp1, kEnv_move hW C.2.2.2.2.2.2.1⟩⟩ rfl rfl hl.1 rfl (lv_room hW) hdg hR2) hS (fun q _ h => hsub q h) hsub (fun a t H1 locs1 ht hvm hw hB hz1 hk1 hS1 => ?_)
  · rintro a U g mk ⟨h1, h2, h3, h4⟩
    exact ⟨h1, h2, h3, kEnv_move (s := U) (U := U.calling g mk a) (State.WarmedH.refl U) h4⟩
  · obtain ⟨hP1, hD1⟩ := hB
    rw [ht] at hP1
    obtain ⟨hP2, hD2⟩ := n_join hP hD hA hk1 hP1 hD1
    exact kk a H1 locs1 ls hP2 hD2 hS1 hl
theorem n_callN (C : kC p s m args meth c cc nL own D cA A) {y : MethodName} {bytes : ByteArray} {maxL index h ci mc1 ms1 : Nat} {host : String} {rm : Room} {fs0 : List Value} {W1 : Nat → (Nat → Nat) → va_W} (hM : nMet l y bytes maxL D cA rm mc1 ms1 ci fs0 W1) (hq1 : Cond.methodLinkNest own index y host ∈ gTbl) (hq2 : Cond.instanceMethod y ∈ gTbl) (hq4 : Cond.initialized y.cls ∈ gTbl) (hq5 : Cond.code y bytes maxL none ∈ gTbl) (hy1 : y.name = "<init>") (hrc : rm.cells = mc1) (hrs : rm.slots = ms1) (hd : y.cls ≠ "java/lang/invoke/MethodHandle" ∧ y.cls ≠ "java/lang/invoke/VarHandle" ∧ (parseMethodDescriptor y.desc).map (fun d => d.parameters.length) = some 0) (hR : rm.frames + 1 ≤ R.frames ∧ 8 + (maxL + 11) + rm.locals ≤ R.locals) (hR2 : ce + mc1 ≤ R.cells ∧ sl + ms1 ≤ R.slots) (hW : (st.map fun v => v.category).sum ≤ 8) (hdg : decode cc pc = .ok (.invokespecial index, 3))
    (kk : ∀ a : Nat → Nat, nS p l e R s m args below meth c nL D A Q (ce + mc1) (sl + ms1) (pc + 3) lv st (wr ++ W1 h a)) : nS p l e R s m args below meth c nL D A Q ce sl pc lv (.ref h :: st) (wr ++ [(h, .inr (ci, fs0))]) := fun H locs ls hP hD hS hl => by
  have t1 := C.2.2.2.2.1 _ hq1
  have t2 := C.2.2.2.2.1 _ hq2
  have t4 := C.2.2.2.2.1 _ hq4
  have t5 := C.2.2.2.2.1 _ hq5
  have hA : ∀ q, H.size ≤ q → A q := fun q hq => C.2.2.2.2.2.2.2 q (Nat.le_trans hS.1 hq)
  have hlast : (wr ++ [(h, (.inr (ci, fs0) : va_E))])[wr.length]? = some (h, .inr (ci, fs0)) := by simp
  have hpay : ∀ w ∈ [Cond.code y bytes maxL none], ∀ (a' : Array Value) (U : State), s.WarmedH U.vm → w.before a' U = true := by
    intro w hw a' U hW
    rw [List.mem_singleton.mp hw]
    exact gtw_move (gTbl_gtw hq5) hW t5
  have hlen : ∀ sig, parseMethodDescriptor y.desc = some sig → 0 = sig.parameters.length := by
    intro sig h
    have h2 := hd.2.2
    rw [h] at h2
    exact (Option.some.inj h2).symm
  have hsub : ∀ q, va_A [(h, .inr (ci, fs0))] H.size q → A q := by
    rintro q (⟨k2, e2, h2⟩ | h2)
    · have hz := (List.getElem?_eq_some_iff.mp h2).1
      simp only [List.length_singleton] at hz
      rw [show k2 = 0 by omega] at h2
      cases h2
      exact hD.2 wr.length _ hlast
    · exact hA q h2
  have hp1 : va_P D vwCl [(h, .inr (ci, fs0))] H := by
    intro k q hk
    have hz := (List.getElem?_eq_some_iff.mp hk).1
    simp only [List.length_singleton] at hz
    rw [show k = 0 by omega] at hk
    cases hk
    exact hP wr.length _ hlast
  refine va_callv (va_runIN (As := []) (rest := st) ⟨C.1, C.2.1, C.2.2.1, C.2.2.2.1, C.2.2.2.2.1⟩ (hM h H.size) ⟨⟨⟨hrc, hrs, hR.1, hR.2, hpay, List.mem_cons_self⟩, t5, t4, ⟨hd.1, hd.2.1⟩, hlen, t1⟩, hy1, t2⟩ ⟨?_, fun U hU hW => ⟨rfl, by rw [hU], by rw [hU]; exact hp1, kEnv_move hW C.2.2.2.2.2.2.1⟩⟩ rfl rfl hl.1 rfl (lv_room hW) hdg hR2) hS (fun q _ h => hsub q h) hsub (fun a t H1 locs1 ht hvm hw hB hz1 hk1 hS1 => ?_)
  · rintro a U g mk ⟨h1, h2, h3, h4⟩
    exact ⟨h1, h2, h3, kEnv_move (s := U) (U := U.calling g mk a) (State.WarmedH.refl U) h4⟩
  · obtain ⟨hP1, hD1⟩ := hB
    rw [ht] at hP1
    obtain ⟨hP2, hD2⟩ := n_join hP hD hA hk1 hP1 hD1
    exact kk a H1 locs1 ls hP2 hD2 hS1 hl
end NC
