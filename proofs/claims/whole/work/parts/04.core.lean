/-! ONE WORLD OF FIXED SHAPE: objects and rows by kind and instance; what changes are ints by kind, instance and place -/
abbrev gMem : Type := Nat → Nat → Nat → Int32
def gw (v : gMem) (k i j : Nat) (x : Int32) : gMem := fun k' i' j' => if k' = k ∧ i' = i ∧ j' = j then x else v k' i' j'
/-- the layout: classes and slots, addresses, the classes of arrays (0 char, 1 int, 2 boolean, 3 cards, 4 long, 5 double) -/
abbrev gL : Type := va_G × (Nat → Nat → Nat) × (Nat → ClassId)
def gty : Nat → Nat := fun k => match k with
  | 11 => 3 | 19 => 2 | 21 => 0 | 22 => 0 | 42 => 0 | 43 => 2 | 44 => 2 | 45 => 2 | _ => 1
def glen : Nat → Nat := fun k => match k with
  | 10 => 4 | 12 => 4 | 13 => 4 | 14 => 4 | 15 => 16 | 16 => 16 | 17 => 30 | 18 => 30 | 19 => 30 | 20 => 16 | 21 => 10 | 22 => 4 | 23 => 4 | 24 => 16 | 25 => 16
  | 30 => 4 | 31 => 16 | 32 => 16 | 33 => 64 | 34 => 4 | 35 => 4 | 36 => 30 | 37 => 30 | 38 => 16 | 39 => 16 | 40 => 4 | 42 => 176 | 43 => 30 | 44 => 256 | 45 => 64 | _ => 0
def gcont (L : gL) (f : Nat → Int32) (k i : Nat) : va_E := match k with
  | 0 => .inr (0, [.int (f 0), .int (f 1), .int (f 2)])
  | 1 => .inr (1, [.ref (L.2.1 24 0), .ref (L.2.1 25 0), .int (f 2)])
  | 2 => .inr (2, [.int (f 0), .ref (L.2.1 4 i), .ref (L.2.1 23 i)])
  | 3 => .inr (3, [.ref (L.2.1 17 0), .ref (L.2.1 18 0), .ref (L.2.1 19 0), .int (f 3), .ref (L.2.1 5 1), .ref (L.2.1 20 0)])
  | 4 => .inr (4, [.ref (L.2.1 21 i), .int (f 1), .ref (L.2.1 22 i), .int (f 3)])
  | 5 => .inr (5, [.ref (L.2.1 16 i)])
  | 6 => .inr (6, [.ref (L.2.1 10 0), .int (f 1), .ref (L.2.1 11 0), .int (f 3), .ref (L.2.1 12 0), .ref (L.2.1 13 0), .int (f 6), .ref (L.2.1 5 0), .int (f 8), .ref (L.2.1 3 0), .ref (L.2.1 14 0), .ref (L.2.1 4 16), .ref (L.2.1 0 0), .ref (L.2.1 1 0), .ref (L.2.1 15 0)])
  | 7 => .inr (7, [.int (f 0), .int (f 1), .int (f 2), .int (f 3), .int (f 4), .int (f 5), .int (f 6), .int (f 7), .int (f 8), .ref (L.2.1 30 0), .ref (L.2.1 31 0), .ref (L.2.1 32 0), .ref (L.2.1 33 0), .ref (L.2.1 34 0), .ref (L.2.1 35 0), .ref (L.2.1 36 0), .ref (L.2.1 37 0), .ref (L.2.1 38 0), .ref (L.2.1 39 0), .ref (L.2.1 40 0), .ref (L.2.1 40 1), .ref (L.2.1 42 0), .ref (L.2.1 43 0), .ref (L.2.1 44 0), .ref (L.2.1 45 0)])
  | 11 => .inl (L.2.2 3, 16, .inr (.inr (.inr (.inr (fun j => some (L.2.1 2 j))))))
  | 50 => .inl (L.2.2 4, 1, .inr (.inl (fun j => (f j).toInt64)))
  | 51 => .inl (L.2.2 5, 1, .inr (.inr (.inr (.inl (fun j => FP.f2d (f j).toUInt32)))))
  | k => .inl (L.2.2 (gty k), glen k, .inl f)
def groles : List (Nat × Nat) := [(0, 0), (1, 0), (3, 0), (5, 0), (5, 1), (6, 0), (7, 0), (10, 0), (11, 0), (12, 0), (13, 0), (14, 0), (15, 0), (16, 0), (16, 1), (17, 0), (18, 0), (19, 0), (20, 0), (24, 0), (25, 0), (30, 0), (31, 0), (32, 0), (33, 0), (34, 0), (35, 0), (36, 0), (37, 0), (38, 0), (39, 0), (40, 0), (40, 1), (42, 0), (43, 0), (44, 0), (45, 0), (50, 0), (51, 0)] ++ ((List.range 16).map (fun i => (2, i)) ++ ((List.range 17).map (fun i => (4, i)) ++ ((List.range 17).map (fun i => (21, i)) ++ ((List.range 17).map (fun i => (22, i)) ++ (List.range 16).map (fun i => (23, i))))))
def gok (k i : Nat) : Prop := (k, i) ∈ groles
theorem gok_2 {i : Nat} (h : i < 16) : gok 2 i := by simp [gok, groles, h]
theorem gok_4 {i : Nat} (h : i < 17) : gok 4 i := by simp [gok, groles, h]
theorem gok_21 {i : Nat} (h : i < 17) : gok 21 i := by simp [gok, groles, h]
theorem gok_22 {i : Nat} (h : i < 17) : gok 22 i := by simp [gok, groles, h]
theorem gok_23 {i : Nat} (h : i < 16) : gok 23 i := by simp [gok, groles, h]
theorem gok_16 {i : Nat} (h : i < 2) : gok 16 i := by
  rcases (show i = 0 ∨ i = 1 by omega) with rfl | rfl <;> simp [gok, groles]
theorem gok_5 {i : Nat} (h : i < 2) : gok 5 i := by
  rcases (show i = 0 ∨ i = 1 by omega) with rfl | rfl <;> simp [gok, groles]
theorem gok_40 {i : Nat} (h : i < 2) : gok 40 i := by
  rcases (show i = 0 ∨ i = 1 by omega) with rfl | rfl <;> simp [gok, groles]
theorem gok_0 : gok 0 0 := by simp [gok, groles]
theorem gok_1 : gok 1 0 := by simp [gok, groles]
theorem gok_3 : gok 3 0 := by simp [gok, groles]
theorem gok_6 : gok 6 0 := by simp [gok, groles]
theorem gok_7 : gok 7 0 := by simp [gok, groles]
theorem gok_10 : gok 10 0 := by simp [gok, groles]
theorem gok_11 : gok 11 0 := by simp [gok, groles]
theorem gok_12 : gok 12 0 := by simp [gok, groles]
theorem gok_13 : gok 13 0 := by simp [gok, groles]
theorem gok_14 : gok 14 0 := by simp [gok, groles]
theorem gok_15 : gok 15 0 := by simp [gok, groles]
theorem gok_17 : gok 17 0 := by simp [gok, groles]
theorem gok_18 : gok 18 0 := by simp [gok, groles]
theorem gok_19 : gok 19 0 := by simp [gok, groles]
theorem gok_20 : gok 20 0 := by simp [gok, groles]
theorem gok_24 : gok 24 0 := by simp [gok, groles]
theorem gok_25 : gok 25 0 := by simp [gok, groles]
theorem gok_30 : gok 30 0 := by simp [gok, groles]
theorem gok_31 : gok 31 0 := by simp [gok, groles]
theorem gok_32 : gok 32 0 := by simp [gok, groles]
theorem gok_33 : gok 33 0 := by simp [gok, groles]
theorem gok_34 : gok 34 0 := by simp [gok, groles]
theorem gok_35 : gok 35 0 := by simp [gok, groles]
theorem gok_36 : gok 36 0 := by simp [gok, groles]
theorem gok_37 : gok 37 0 := by simp [gok, groles]
theorem gok_38 : gok 38 0 := by simp [gok, groles]
theorem gok_39 : gok 39 0 := by simp [gok, groles]
theorem gok_42 : gok 42 0 := by simp [gok, groles]
theorem gok_43 : gok 43 0 := by simp [gok, groles]
theorem gok_44 : gok 44 0 := by simp [gok, groles]
theorem gok_45 : gok 45 0 := by simp [gok, groles]
theorem gok_50 : gok 50 0 := by simp [gok, groles]
theorem gok_51 : gok 51 0 := by simp [gok, groles]
theorem groles_nd : va_nd (groles.map (fun r => r.1 * 100 + r.2)) = true := by decide +kernel
theorem groles_inj {n n' : Nat} {r : Nat × Nat} (h : groles[n]? = some r) (h' : groles[n']? = some r) : n = n' := by
  refine va_nd_inj _ groles_nd n n' (r.1 * 100 + r.2) ?_ ?_
  · rw [List.getElem?_map, h]; rfl
  · rw [List.getElem?_map, h']; rfl
def gW (L : gL) (v : gMem) : va_W := groles.map (fun r => (L.2.1 r.1 r.2, gcont L (v r.1 r.2) r.1 r.2))
theorem gW_at (L : gL) (v : gMem) {k i : Nat} (h : gok k i) : ∃ p : Nat, groles[p]? = some (k, i) ∧ (gW L v)[p]? = some (L.2.1 k i, gcont L (v k i) k i) := by
  obtain ⟨p, hp⟩ := List.getElem?_of_mem h
  exact ⟨p, hp, by rw [gW, List.getElem?_map, hp]; rfl⟩
theorem gW_set {L : gL} {v v' : gMem} {p k i : Nat} {e : va_E} (hp : groles[p]? = some (k, i)) (he : gcont L (v' k i) k i = e) (ho : ∀ k' i', ¬ (k' = k ∧ i' = i) → v' k' i' = v k' i') : (gW L v).set p (L.2.1 k i, e) = gW L v' := by
  have hl : p < (gW L v).length := by
    have h1 := (List.getElem?_eq_some_iff.mp hp).1
    simpa [gW] using h1
  apply List.ext_getElem?
  intro n
  by_cases hn : n = p
  · subst hn
    rw [List.getElem?_set_self hl, gW, List.getElem?_map, hp, ← he]
    rfl
  · rw [List.getElem?_set_ne (Ne.symm hn), gW, gW, List.getElem?_map, List.getElem?_map]
    cases hr : groles[n]? with
    | none => rfl
    | some r =>
      have hne : ¬ (r.1 = k ∧ r.2 = i) := by
        rintro ⟨h1, h2⟩
        refine hn (groles_inj (r := r) hr ?_)
        rw [hp, ← h1, ← h2]
      simp only [Option.map_some, ho r.1 r.2 hne]
theorem gw_row (v : gMem) (k i j : Nat) (x : Int32) : gw v k i j x k i = fun j' => if j' = j then x else v k i j' := by
  funext j'
  simp [gw]
theorem gw_off (v : gMem) (k i j : Nat) (x : Int32) : ∀ k' i', ¬ (k' = k ∧ i' = i) → gw v k i j x k' i' = v k' i' := by
  intro k' i' h
  funext j'
  simp only [gw]
  rw [if_neg]
  rintro ⟨h1, h2, -⟩
  exact h ⟨h1, h2⟩
theorem gw_upd (v : gMem) (k i j : Nat) (x : Int32) : gw v k i j x k i = upd (v k i) j x := by
  rw [gw_row]; rfl
def gDist (L : gL) : Prop := ∀ r ∈ groles, ∀ r' ∈ groles, L.2.1 r.1 r.2 = L.2.1 r'.1 r'.2 → r = r'
def gA (L : gL) (sz : Nat) : Nat → Prop := fun q => (∃ r ∈ groles, q = L.2.1 r.1 r.2) ∨ sz ≤ q
theorem gW_D {L : gL} (hd : gDist L) (sz : Nat) (v : gMem) : va_D (gA L sz) (gW L v) := by
  have key : ∀ (n : Nat) (q : Nat × va_E), (gW L v)[n]? = some q → ∃ r, groles[n]? = some r ∧ q.1 = L.2.1 r.1 r.2 := by
    intro n q h
    rw [gW, List.getElem?_map] at h
    cases hr : groles[n]? with
    | none => rw [hr] at h; cases h
    | some r => rw [hr] at h; cases h; exact ⟨r, rfl, rfl⟩
  refine ⟨fun i j p q hi hj he => ?_, fun n q hq => ?_⟩
  · obtain ⟨r, h1, h2⟩ := key i p hi
    obtain ⟨r', h3, h4⟩ := key j q hj
    have := hd r (List.mem_of_getElem? h1) r' (List.mem_of_getElem? h3) (by rw [← h2, ← h4, he])
    subst this
    exact groles_inj h1 h3
  · obtain ⟨r, h1, h2⟩ := key n q hq
    exact Or.inl ⟨r, List.mem_of_getElem? h1, h2⟩
def gtys (L : gL) : List (ClassId × FieldType) := [(L.2.2 0, .char), (L.2.2 1, .int), (L.2.2 2, .boolean), (L.2.2 3, .object "Cardmeld$Card"), (L.2.2 4, .long), (L.2.2 5, .double)]
/-! the tables' words that stay as the tables warm -/
def gtw : Cond → Bool := fun w => match w with
  | .fieldLinkNest .. => true
  | .methodLinkNest .. => true
  | .castable .. => true
  | .declares _ => true
  | w => w.onTables && w.keeps
theorem gtw_tab {w : Cond} (h : gtw w = true) : w.onTables = true := by
  cases w <;> simp_all [gtw, Cond.onTables]
theorem gtw_move {w : Cond} (h : gtw w = true) {args a' : Array Value} {s U : State} (hW : s.WarmedH U.vm) (hw : w.before args s = true) : w.before a' U = true := by
  have hn : va_Nw w s := va_Nw.of (gtw_tab h) hw
  have hg : w.onTables = true ∧ w.keeps = true → w.before a' U = true := fun h2 => word_at hW (Or.inl (by simp [h2.1, h2.2])) hw
  cases w with
  | fieldLinkNest => exact va_Nw.use rfl (va_Nw.warmF hW hn)
  | methodLinkNest => exact va_Nw.use rfl (va_Nw.warmM hW hn)
  | castable => exact va_Nw.use rfl (va_Nw.warmC hW hn)
  | declares => exact va_Nw.use rfl (va_Nw.warmD hW hn)
  | _ => exact hg (by simpa only [gtw, Bool.and_eq_true] using h)
def gTbl : List Cond := lw_tbl.filter gtw
theorem gTbl_gtw {w : Cond} (h : w ∈ gTbl) : gtw w = true := (List.mem_filter.mp h).2
theorem gTbl_of {w : Cond} (h : w ∈ tables_1) (h2 : gtw w = true) : w ∈ gTbl := List.mem_filter.mpr ⟨List.mem_append_right _ h, h2⟩
theorem gTbl_sel {w : Cond} (h : w ∈ k2_sels lw_privs) (h2 : gtw w = true) : w ∈ gTbl := List.mem_filter.mpr ⟨List.mem_append_left _ h, h2⟩
def gNcs : List (String × String) := [("java/lang/IllegalArgumentException", "java/lang/IllegalStateException"), ("java/lang/IllegalArgumentException", "java/lang/IndexOutOfBoundsException"), ("java/lang/IllegalArgumentException", "java/lang/UnsupportedOperationException"), ("java/lang/IllegalArgumentException", "java/util/NoSuchElementException"), ("java/lang/IllegalStateException", "java/lang/IllegalArgumentException"), ("java/lang/IllegalStateException", "java/lang/IndexOutOfBoundsException"), ("java/lang/IllegalStateException", "java/lang/UnsupportedOperationException"), ("java/lang/IllegalStateException", "java/util/NoSuchElementException"), ("java/lang/IndexOutOfBoundsException", "java/lang/IllegalArgumentException"), ("java/lang/IndexOutOfBoundsException", "java/lang/IllegalStateException"), ("java/lang/IndexOutOfBoundsException", "java/lang/UnsupportedOperationException"), ("java/lang/IndexOutOfBoundsException", "java/util/NoSuchElementException"), ("java/lang/UnsupportedOperationException", "java/lang/IllegalArgumentException"), ("java/lang/UnsupportedOperationException", "java/lang/IllegalStateException"), ("java/lang/UnsupportedOperationException", "java/lang/IndexOutOfBoundsException"), ("java/lang/UnsupportedOperationException", "java/util/NoSuchElementException"), ("java/util/NoSuchElementException", "java/lang/IllegalArgumentException"), ("java/util/NoSuchElementException", "java/lang/IllegalStateException"), ("java/util/NoSuchElementException", "java/lang/IndexOutOfBoundsException"), ("java/util/NoSuchElementException", "java/lang/UnsupportedOperationException")]
/-- what a method is given of the tables and statics -/
def gEnv (L : gL) (sz : Nat) (U : State) (H : Heap) : Prop := va_K L.1 vwCl (gtys L) U ∧ (∀ w ∈ gTbl, w.before #[] U = true) ∧ (∀ t ∈ gStr, ∃ sa, vk_R RX6 t.1 t.2 sa U) ∧ vx_Zq Bundle.tN "UNASSIGNED_STACK" Bundle.steD (gA L sz) U H ∧ vx_Zq Bundle.tN "SUPPRESSED_SENTINEL" Bundle.listD (gA L sz) U H ∧ ∀ t ∈ gNcs, va_Nc t.1 t.2 U
theorem gEnv_move {L : gL} {sz : Nat} {s U : State} {H H1 : Heap} (hW : s.WarmedH U.vm) (hq : ∀ a : Nat, a < H.size → ¬ gA L sz a → H1[a]? = H[a]?) (hz : sz ≤ H1.size) (h : gEnv L sz s H) : gEnv L H1.size U H1 := by
  obtain ⟨h1, h2, h3, h4, h5, h6⟩ := h
  have nar : ∀ q, gA L H1.size q → gA L sz q := fun q h => h.elim Or.inl (fun h => Or.inr (Nat.le_trans hz h))
  refine ⟨va_K.moved hW.alike h1, fun w hw => gtw_move (gTbl_gtw hw) hW (h2 w hw), fun t ht => ?_, (vx_Zq.moved hW.alike (h4.kept hq)).narrow nar, (vx_Zq.moved hW.alike (h5.kept hq)).narrow nar, fun t ht => va_Nc.moved hW.alike (h6 t ht)⟩
  obtain ⟨sa, hsa⟩ := h3 t ht
  exact ⟨sa, vk_R.warm hW hsa⟩
def gPc (L : gL) (sz : Nat) (As : List Value) (v : gMem) : Array Value → State → Prop := va_Pc As (fun U => U.heap.size = sz ∧ va_P L.1 vwCl (gW L v) U.heap ∧ gEnv L sz U U.heap)
theorem gPc_blind (L : gL) (sz : Nat) (As : List Value) (v : gMem) : FrameBlind (gPc L sz As v) := by
  rintro a U g mk ⟨h1, h2, h3, h4⟩
  refine ⟨h1, h2, h3, ?_⟩
  have hz : sz = U.heap.size := h2.symm
  subst hz
  exact gEnv_move (s := U) (U := U.calling g mk a) (State.WarmedH.refl U) (fun _ _ _ => rfl) (Nat.le_refl _) h4
abbrev gB (L : gL) (v : gMem) (t : State) : Prop := va_P L.1 vwCl (gW L v) t.heap
abbrev gQi (L : gL) (sz : Nat) (Q : Int32 → gMem → Prop) : Array Value → State → Outcome → State → Prop := va_Qi Q (gB L) (gA L sz)
abbrev gQf (L : gL) (sz : Nat) (Q : UInt32 → gMem → Prop) : Array Value → State → Outcome → State → Prop := va_Qf Q (gB L) (gA L sz)
abbrev gQv (L : gL) (sz : Nat) (Q : gMem → Prop) : Array Value → State → Outcome → State → Prop := va_Qv Q (gB L) (gA L sz)
abbrev gXC (L : gL) (sz : Nat) (X : String → gMem → Prop) : String → State → State → Prop := vx_X (S := gMem) (fun _ => True) (fun E v t => X E v ∧ gB L v t) (gA L sz)
/-- what holds all through a method -/
def gC (p : Program) (l : Launch) (s : State) (m : MethodId) (args : Array Value) (meth : Method) (c : Code) (cc : ByteArray) (nL : Nat) (own : String) (L : gL) (sz : Nat) : Prop :=
  p.tables.exec = Jvm.exec ∧ c.code = cc ∧ c.maxLocals = nL ∧ s.vm.findClass own = some m.cls ∧ (∀ w ∈ gTbl, w.before args s = true) ∧ meth.locks = false ∧ l.stackTraces = false ∧ gDist L ∧ s.heap.size = sz ∧ gEnv L sz s s.heap
/-- at pc, with these locals, stack and contents, in any heap that holds them, the machine comes to Q -/
def gS (p : Program) (l : Launch) (e : Env) (R : Room) (s : State) (m : MethodId) (args : Array Value) (below : List Frame) (meth : Method) (c : Code) (nL : Nat) (L : gL) (sz : Nat) (Q : State → Prop) (ce sl pc : Nat) (lv : List (Nat × Value)) (st : List Value) (v : gMem) : Prop :=
  ∀ (H : Heap) (locs : List Loc) (ls : Array Slot), va_P L.1 vwCl (gW L v) H → va_S (gA L sz) s.heap H locs → lv_has ls nL lv → W p l e R s m args below meth c H locs ce sl Q (F0 m pc ls st)
section GR
variable {p : Program} {l : Launch} {e : Env} {R : Room} {s : State} {m : MethodId} {args : Array Value} {below : List Frame} {meth : Method} {c : Code} {cc : ByteArray} {nL : Nat} {own : String} {L : gL} {sz : Nat} {Q : State → Prop} {ce sl pc : Nat} {lv : List (Nat × Value)} {st : List Value} {v : gMem}
theorem g_iconst (C : gC p l s m args meth c cc nL own L sz) {n : Int} (x : Int32) (hv : Int32.ofInt n = x) (hd : decode cc pc = .ok (.iconst n, 1)) (kk : gS p l e R s m args below meth c nL L sz Q ce sl (pc + 1) lv (.int x :: st) v) : gS p l e R s m args below meth c nL L sz Q ce sl pc lv st v := fun H locs ls hP hS hl => lv_iconst C.1 C.2.1 hd hv (kk H locs ls hP hS hl)
theorem g_bipush (C : gC p l s m args meth c cc nL own L sz) {n : Int} (x : Int32) (hv : (Int8.ofInt n).toInt32 = x) (hd : decode cc pc = .ok (.bipush n, 2)) (kk : gS p l e R s m args below meth c nL L sz Q ce sl (pc + 2) lv (.int x :: st) v) : gS p l e R s m args below meth c nL L sz Q ce sl pc lv st v := fun H locs ls hP hS hl => lv_bipush C.1 C.2.1 hd hv (kk H locs ls hP hS hl)
theorem g_sipush (C : gC p l s m args meth c cc nL own L sz) {n : Int} (x : Int32) (hv : (Int16.ofInt n).toInt32 = x) (hd : decode cc pc = .ok (.sipush n, 3)) (kk : gS p l e R s m args below meth c nL L sz Q ce sl (pc + 3) lv (.int x :: st) v) : gS p l e R s m args below meth c nL L sz Q ce sl pc lv st v := fun H locs ls hP hS hl => lv_sipush C.1 C.2.1 hd hv (kk H locs ls hP hS hl)
theorem g_ldc (C : gC p l s m args meth c cc nL own L sz) {index : Nat} (x : Int32) (hq : Jvm.Cond.constant own index x ∈ gTbl) (hd : decode cc pc = .ok (.ldc index, 2)) (kk : gS p l e R s m args below meth c nL L sz Q ce sl (pc + 2) lv (.int x :: st) v) : gS p l e R s m args below meth c nL L sz Q ce sl pc lv st v := fun H locs ls hP hS hl => lv_ldc C.1 C.2.1 C.2.2.2.1 (C.2.2.2.2.1 _ hq) hd (kk H locs ls hP hS hl)
theorem g_ldcw (C : gC p l s m args meth c cc nL own L sz) {index : Nat} (x : Int32) (hq : Jvm.Cond.constant own index x ∈ gTbl) (hd : decode cc pc = .ok (.ldc_w index, 3)) (kk : gS p l e R s m args below meth c nL L sz Q ce sl (pc + 3) lv (.int x :: st) v) : gS p l e R s m args below meth c nL L sz Q ce sl pc lv st v := fun H locs ls hP hS hl => lv_ldcw C.1 C.2.1 C.2.2.2.1 (C.2.2.2.2.1 _ hq) hd (kk H locs ls hP hS hl)
theorem g_fconst (C : gC p l s m args meth c cc nL own L sz) (hd : decode cc pc = .ok (.fconst 0, 1)) (kk : gS p l e R s m args below meth c nL L sz Q ce sl (pc + 1) lv (.float FP.fconst0 :: st) v) : gS p l e R s m args below meth c nL L sz Q ce sl pc lv st v := fun H locs ls hP hS hl => lv_fconst0 C.1 C.2.1 hd (kk H locs ls hP hS hl)
theorem g_iload_n (C : gC p l s m args meth c cc nL own L sz) {k : Fin 4} (i : Nat) (hi : (k : Nat) = i) (q : Nat) {x : Int32} (hq : lv[q]? = some (i, .int x)) (hd : decode cc pc = .ok (.iload_n k, 1)) (kk : gS p l e R s m args below meth c nL L sz Q ce sl (pc + 1) lv (.int x :: st) v) : gS p l e R s m args below meth c nL L sz Q ce sl pc lv st v := fun H locs ls hP hS hl => lv_iload_n C.1 C.2.1 hd hi (lv_at hl q hq) (kk H locs ls hP hS hl)
theorem g_iload (C : gC p l s m args meth c cc nL own L sz) {i : Nat} (q : Nat) {x : Int32} (hq : lv[q]? = some (i, .int x)) (hd : decode cc pc = .ok (.iload i, 2)) (kk : gS p l e R s m args below meth c nL L sz Q ce sl (pc + 2) lv (.int x :: st) v) : gS p l e R s m args below meth c nL L sz Q ce sl pc lv st v := fun H locs ls hP hS hl => lv_iload C.1 C.2.1 hd (lv_at hl q hq) (kk H locs ls hP hS hl)
theorem g_aload_n (C : gC p l s m args meth c cc nL own L sz) {k : Fin 4} (i : Nat) (hi : (k : Nat) = i) (q : Nat) {x : Nat} (hq : lv[q]? = some (i, .ref x)) (hd : decode cc pc = .ok (.aload_n k, 1)) (kk : gS p l e R s m args below meth c nL L sz Q ce sl (pc + 1) lv (.ref x :: st) v) : gS p l e R s m args below meth c nL L sz Q ce sl pc lv st v := fun H locs ls hP hS hl => lv_aload_n C.1 C.2.1 hd hi (lv_at hl q hq) (kk H locs ls hP hS hl)
theorem g_aload (C : gC p l s m args meth c cc nL own L sz) {i : Nat} (q : Nat) {x : Nat} (hq : lv[q]? = some (i, .ref x)) (hd : decode cc pc = .ok (.aload i, 2)) (kk : gS p l e R s m args below meth c nL L sz Q ce sl (pc + 2) lv (.ref x :: st) v) : gS p l e R s m args below meth c nL L sz Q ce sl pc lv st v := fun H locs ls hP hS hl => lv_aload C.1 C.2.1 hd (lv_at hl q hq) (kk H locs ls hP hS hl)
theorem g_istore_n (C : gC p l s m args meth c cc nL own L sz) {k : Fin 4} (i : Nat) (hi : (k : Nat) = i) {x : Int32} (lv' : List (Nat × Value)) (hn : i < nL) (hf : (i, Value.int x) :: lv.filter (fun q => !(q.1 == i) && !(q.1 + 1 == i && q.2.category == 2)) = lv') (hd : decode cc pc = .ok (.istore_n k, 1)) (kk : gS p l e R s m args below meth c nL L sz Q ce sl (pc + 1) lv' st v) : gS p l e R s m args below meth c nL L sz Q ce sl pc lv (.int x :: st) v := fun H locs ls hP hS hl => lv_istore_n C.1 C.2.1 hd hi hl hn hf (fun ls hl => kk H locs ls hP hS hl)
theorem g_istore (C : gC p l s m args meth c cc nL own L sz) {i : Nat} {x : Int32} (lv' : List (Nat × Value)) (hn : i < nL) (hf : (i, Value.int x) :: lv.filter (fun q => !(q.1 == i) && !(q.1 + 1 == i && q.2.category == 2)) = lv') (hd : decode cc pc = .ok (.istore i, 2)) (kk : gS p l e R s m args below meth c nL L sz Q ce sl (pc + 2) lv' st v) : gS p l e R s m args below meth c nL L sz Q ce sl pc lv (.int x :: st) v := fun H locs ls hP hS hl => lv_istore C.1 C.2.1 hd hl hn hf (fun ls hl => kk H locs ls hP hS hl)
theorem g_astore_n (C : gC p l s m args meth c cc nL own L sz) {k : Fin 4} (i : Nat) (hi : (k : Nat) = i) {x : Nat} (lv' : List (Nat × Value)) (hn : i < nL) (hf : (i, Value.ref x) :: lv.filter (fun q => !(q.1 == i) && !(q.1 + 1 == i && q.2.category == 2)) = lv') (hd : decode cc pc = .ok (.astore_n k, 1)) (kk : gS p l e R s m args below meth c nL L sz Q ce sl (pc + 1) lv' st v) : gS p l e R s m args below meth c nL L sz Q ce sl pc lv (.ref x :: st) v := fun H locs ls hP hS hl => lv_astore_n C.1 C.2.1 hd hi hl hn hf (fun ls hl => kk H locs ls hP hS hl)
theorem g_astore (C : gC p l s m args meth c cc nL own L sz) {i : Nat} {x : Nat} (lv' : List (Nat × Value)) (hn : i < nL) (hf : (i, Value.ref x) :: lv.filter (fun q => !(q.1 == i) && !(q.1 + 1 == i && q.2.category == 2)) = lv') (hd : decode cc pc = .ok (.astore i, 2)) (kk : gS p l e R s m args below meth c nL L sz Q ce sl (pc + 2) lv' st v) : gS p l e R s m args below meth c nL L sz Q ce sl pc lv (.ref x :: st) v := fun H locs ls hP hS hl => lv_astore C.1 C.2.1 hd hl hn hf (fun ls hl => kk H locs ls hP hS hl)
theorem g_iinc (C : gC p l s m args meth c cc nL own L sz) {i k : Nat} {n : Int} {x : Int32} (y : Int32) (lv' : List (Nat × Value)) (hk : lv[k]? = some (i, .int x)) (hv : x + Int32.ofInt n = y) (hn : i < nL) (hf : (i, Value.int y) :: lv.filter (fun q => !(q.1 == i) && !(q.1 + 1 == i && q.2.category == 2)) = lv') (hd : decode cc pc = .ok (.iinc i n, 3)) (kk : gS p l e R s m args below meth c nL L sz Q ce sl (pc + 3) lv' st v) : gS p l e R s m args below meth c nL L sz Q ce sl pc lv st v := fun H locs ls hP hS hl => lv_iinc C.1 C.2.1 hd hl hk hv hn hf (fun ls hl => kk H locs ls hP hS hl)
theorem g_iadd (C : gC p l s m args meth c cc nL own L sz) {x y : Int32} (hd : decode cc pc = .ok (.iadd, 1)) (kk : gS p l e R s m args below meth c nL L sz Q ce sl (pc + 1) lv (.int (x + y) :: st) v) : gS p l e R s m args below meth c nL L sz Q ce sl pc lv (.int y :: .int x :: st) v := fun H locs ls hP hS hl => lv_iadd C.1 C.2.1 hd (kk H locs ls hP hS hl)
theorem g_isub (C : gC p l s m args meth c cc nL own L sz) {x y : Int32} (hd : decode cc pc = .ok (.isub, 1)) (kk : gS p l e R s m args below meth c nL L sz Q ce sl (pc + 1) lv (.int (x - y) :: st) v) : gS p l e R s m args below meth c nL L sz Q ce sl pc lv (.int y :: .int x :: st) v := fun H locs ls hP hS hl => lv_isub C.1 C.2.1 hd (kk H locs ls hP hS hl)
theorem g_imul (C : gC p l s m args meth c cc nL own L sz) {x y : Int32} (hd : decode cc pc = .ok (.imul, 1)) (kk : gS p l e R s m args below meth c nL L sz Q ce sl (pc + 1) lv (.int (x * y) :: st) v) : gS p l e R s m args below meth c nL L sz Q ce sl pc lv (.int y :: .int x :: st) v := fun H locs ls hP hS hl => lv_imul C.1 C.2.1 hd (kk H locs ls hP hS hl)
theorem g_iand (C : gC p l s m args meth c cc nL own L sz) {x y : Int32} (hd : decode cc pc = .ok (.iand, 1)) (kk : gS p l e R s m args below meth c nL L sz Q ce sl (pc + 1) lv (.int (x &&& y) :: st) v) : gS p l e R s m args below meth c nL L sz Q ce sl pc lv (.int y :: .int x :: st) v := fun H locs ls hP hS hl => lv_iand C.1 C.2.1 hd (kk H locs ls hP hS hl)
theorem g_ior (C : gC p l s m args meth c cc nL own L sz) {x y : Int32} (hd : decode cc pc = .ok (.ior, 1)) (kk : gS p l e R s m args below meth c nL L sz Q ce sl (pc + 1) lv (.int (x ||| y) :: st) v) : gS p l e R s m args below meth c nL L sz Q ce sl pc lv (.int y :: .int x :: st) v := fun H locs ls hP hS hl => lv_ior C.1 C.2.1 hd (kk H locs ls hP hS hl)
theorem g_ixor (C : gC p l s m args meth c cc nL own L sz) {x y : Int32} (hd : decode cc pc = .ok (.ixor, 1)) (kk : gS p l e R s m args below meth c nL L sz Q ce sl (pc + 1) lv (.int (x ^^^ y) :: st) v) : gS p l e R s m args below meth c nL L sz Q ce sl pc lv (.int y :: .int x :: st) v := fun H locs ls hP hS hl => lv_ixor C.1 C.2.1 hd (kk H locs ls hP hS hl)
theorem g_ishl (C : gC p l s m args meth c cc nL own L sz) {x y : Int32} (hd : decode cc pc = .ok (.ishl, 1)) (kk : gS p l e R s m args below meth c nL L sz Q ce sl (pc + 1) lv (.int (x <<< (y &&& 31)) :: st) v) : gS p l e R s m args below meth c nL L sz Q ce sl pc lv (.int y :: .int x :: st) v := fun H locs ls hP hS hl => lv_ishl C.1 C.2.1 hd (kk H locs ls hP hS hl)
theorem g_ishr (C : gC p l s m args meth c cc nL own L sz) {x y : Int32} (hd : decode cc pc = .ok (.ishr, 1)) (kk : gS p l e R s m args below meth c nL L sz Q ce sl (pc + 1) lv (.int (x >>> (y &&& 31)) :: st) v) : gS p l e R s m args below meth c nL L sz Q ce sl pc lv (.int y :: .int x :: st) v := fun H locs ls hP hS hl => lv_ishr C.1 C.2.1 hd (kk H locs ls hP hS hl)
theorem g_iushr (C : gC p l s m args meth c cc nL own L sz) {x y : Int32} (hd : decode cc pc = .ok (.iushr, 1)) (kk : gS p l e R s m args below meth c nL L sz Q ce sl (pc + 1) lv (.int (x.toUInt32 >>> (y.toUInt32 &&& Int32.toUInt32 31)).toInt32 :: st) v) : gS p l e R s m args below meth c nL L sz Q ce sl pc lv (.int y :: .int x :: st) v := fun H locs ls hP hS hl => lv_iushr C.1 C.2.1 hd rfl (kk H locs ls hP hS hl)
theorem g_idiv (C : gC p l s m args meth c cc nL own L sz) {x y : Int32} (hy : ¬ y = 0) (hd : decode cc pc = .ok (.idiv, 1)) (kk : gS p l e R s m args below meth c nL L sz Q ce sl (pc + 1) lv (.int (x / y) :: st) v) : gS p l e R s m args below meth c nL L sz Q ce sl pc lv (.int y :: .int x :: st) v := fun H locs ls hP hS hl => lv_idiv C.1 C.2.1 hd hy (kk H locs ls hP hS hl)
theorem g_ineg (C : gC p l s m args meth c cc nL own L sz) {x : Int32} (hd : decode cc pc = .ok (.ineg, 1)) (kk : gS p l e R s m args below meth c nL L sz Q ce sl (pc + 1) lv (.int (-x) :: st) v) : gS p l e R s m args below meth c nL L sz Q ce sl pc lv (.int x :: st) v := fun H locs ls hP hS hl => lv_ineg C.1 C.2.1 hd (kk H locs ls hP hS hl)
theorem g_i2c (C : gC p l s m args meth c cc nL own L sz) {x : Int32} (hd : decode cc pc = .ok (.i2c, 1)) (kk : gS p l e R s m args below meth c nL L sz Q ce sl (pc + 1) lv (.int (x.toUInt32 % 65536).toInt32 :: st) v) : gS p l e R s m args below meth c nL L sz Q ce sl pc lv (.int x :: st) v := fun H locs ls hP hS hl => lv_i2c C.1 C.2.1 hd rfl (kk H locs ls hP hS hl)
theorem g_i2l (C : gC p l s m args meth c cc nL own L sz) {x : Int32} (hd : decode cc pc = .ok (.i2l, 1)) (kk : gS p l e R s m args below meth c nL L sz Q ce sl (pc + 1) lv (.long x.toInt64 :: st) v) : gS p l e R s m args below meth c nL L sz Q ce sl pc lv (.int x :: st) v := fun H locs ls hP hS hl => lv_i2l C.1 C.2.1 hd rfl (kk H locs ls hP hS hl)
theorem g_i2f (C : gC p l s m args meth c cc nL own L sz) {x : Int32} (hd : decode cc pc = .ok (.i2f, 1)) (kk : gS p l e R s m args below meth c nL L sz Q ce sl (pc + 1) lv (.float (FP.i2f x) :: st) v) : gS p l e R s m args below meth c nL L sz Q ce sl pc lv (.int x :: st) v := fun H locs ls hP hS hl => lv_i2f C.1 C.2.1 hd (kk H locs ls hP hS hl)
theorem g_fdiv (C : gC p l s m args meth c cc nL own L sz) {x y : UInt32} (hn : vf_n32 (FP.fdiv x y)) (hd : decode cc pc = .ok (.fdiv, 1)) (kk : gS p l e R s m args below meth c nL L sz Q ce sl (pc + 1) lv (.float (FP.fdiv x y) :: st) v) : gS p l e R s m args below meth c nL L sz Q ce sl pc lv (.float y :: .float x :: st) v := fun H locs ls hP hS hl => lv_fdiv C.1 C.2.1 hd hn (kk H locs ls hP hS hl)
theorem g_f2d (C : gC p l s m args meth c cc nL own L sz) {x : UInt32} (hn : vf_n64 (FP.f2d x)) (hd : decode cc pc = .ok (.f2d, 1)) (kk : gS p l e R s m args below meth c nL L sz Q ce sl (pc + 1) lv (.double (FP.f2d x) :: st) v) : gS p l e R s m args below meth c nL L sz Q ce sl pc lv (.float x :: st) v := fun H locs ls hP hS hl => lv_f2d C.1 C.2.1 hd hn (kk H locs ls hP hS hl)
theorem g_dup (C : gC p l s m args meth c cc nL own L sz) {a : Value} (ha : a.category = 1) (hd : decode cc pc = .ok (.dup, 1)) (kk : gS p l e R s m args below meth c nL L sz Q ce sl (pc + 1) lv (a :: a :: st) v) : gS p l e R s m args below meth c nL L sz Q ce sl pc lv (a :: st) v := fun H locs ls hP hS hl => lv_dup C.1 C.2.1 hd ha (kk H locs ls hP hS hl)
theorem g_dup2 (C : gC p l s m args meth c cc nL own L sz) {a b : Value} (ha : a.category = 1) (hb : b.category = 1) (hd : decode cc pc = .ok (.dup2, 1)) (kk : gS p l e R s m args below meth c nL L sz Q ce sl (pc + 1) lv (a :: b :: a :: b :: st) v) : gS p l e R s m args below meth c nL L sz Q ce sl pc lv (a :: b :: st) v := fun H locs ls hP hS hl => lv_dup2_11 C.1 C.2.1 hd ha hb (kk H locs ls hP hS hl)
theorem g_dup_x1 (C : gC p l s m args meth c cc nL own L sz) {a b : Value} (ha : a.category = 1) (hb : b.category = 1) (hd : decode cc pc = .ok (.dup_x1, 1)) (kk : gS p l e R s m args below meth c nL L sz Q ce sl (pc + 1) lv (a :: b :: a :: st) v) : gS p l e R s m args below meth c nL L sz Q ce sl pc lv (a :: b :: st) v := fun H locs ls hP hS hl => lv_dup_x1 C.1 C.2.1 hd ha hb (kk H locs ls hP hS hl)
theorem g_dup_x2 (C : gC p l s m args meth c cc nL own L sz) {a b d : Value} (ha : a.category = 1) (hb : b.category = 1) (hc : d.category = 1) (hd : decode cc pc = .ok (.dup_x2, 1)) (kk : gS p l e R s m args below meth c nL L sz Q ce sl (pc + 1) lv (a :: b :: d :: a :: st) v) : gS p l e R s m args below meth c nL L sz Q ce sl pc lv (a :: b :: d :: st) v := fun H locs ls hP hS hl => lv_dup_x2 C.1 C.2.1 hd ha hb hc (kk H locs ls hP hS hl)
theorem g_goto (C : gC p l s m args meth c cc nL own L sz) {off : Int} (tgt : Nat) (ht : (pc : Int) + off = (tgt : Int)) (hd : decode cc pc = .ok (.goto off, 3)) (kk : gS p l e R s m args below meth c nL L sz Q ce sl tgt lv st v) : gS p l e R s m args below meth c nL L sz Q ce sl pc lv st v := fun H locs ls hP hS hl => lv_goto C.1 C.2.1 hd ht (kk H locs ls hP hS hl)
theorem g_if_eq (C : gC p l s m args meth c cc nL own L sz) {x : Int32} {off : Int} (tgt : Nat) (ht : (pc : Int) + off = (tgt : Int)) (hd : decode cc pc = .ok (.ifCond .eq off, 3)) (kt : x = 0 → gS p l e R s m args below meth c nL L sz Q ce sl tgt lv st v) (kf : ¬ x = 0 → gS p l e R s m args below meth c nL L sz Q ce sl (pc + 3) lv st v) : gS p l e R s m args below meth c nL L sz Q ce sl pc lv (.int x :: st) v := fun H locs ls hP hS hl => lv_if_eq C.1 C.2.1 hd ht (fun h => kt h H locs ls hP hS hl) (fun h => kf h H locs ls hP hS hl)
theorem g_if_ne (C : gC p l s m args meth c cc nL own L sz) {x : Int32} {off : Int} (tgt : Nat) (ht : (pc : Int) + off = (tgt : Int)) (hd : decode cc pc = .ok (.ifCond .ne off, 3)) (kt : ¬ x = 0 → gS p l e R s m args below meth c nL L sz Q ce sl tgt lv st v) (kf : x = 0 → gS p l e R s m args below meth c nL L sz Q ce sl (pc + 3) lv st v) : gS p l e R s m args below meth c nL L sz Q ce sl pc lv (.int x :: st) v := fun H locs ls hP hS hl => lv_if_ne C.1 C.2.1 hd ht (fun h => kt h H locs ls hP hS hl) (fun h => kf h H locs ls hP hS hl)
theorem g_if_lt (C : gC p l s m args meth c cc nL own L sz) {x : Int32} {off : Int} (tgt : Nat) (ht : (pc : Int) + off = (tgt : Int)) (hd : decode cc pc = .ok (.ifCond .lt off, 3)) (kt : x < 0 → gS p l e R s m args below meth c nL L sz Q ce sl tgt lv st v) (kf : ¬ x < 0 → gS p l e R s m args below meth c nL L sz Q ce sl (pc + 3) lv st v) : gS p l e R s m args below meth c nL L sz Q ce sl pc lv (.int x :: st) v := fun H locs ls hP hS hl => lv_if_lt C.1 C.2.1 hd ht (fun h => kt h H locs ls hP hS hl) (fun h => kf h H locs ls hP hS hl)
theorem g_if_ge (C : gC p l s m args meth c cc nL own L sz) {x : Int32} {off : Int} (tgt : Nat) (ht : (pc : Int) + off = (tgt : Int)) (hd : decode cc pc = .ok (.ifCond .ge off, 3)) (kt : 0 ≤ x → gS p l e R s m args below meth c nL L sz Q ce sl tgt lv st v) (kf : ¬ 0 ≤ x → gS p l e R s m args below meth c nL L sz Q ce sl (pc + 3) lv st v) : gS p l e R s m args below meth c nL L sz Q ce sl pc lv (.int x :: st) v := fun H locs ls hP hS hl => lv_if_ge C.1 C.2.1 hd ht (fun h => kt h H locs ls hP hS hl) (fun h => kf h H locs ls hP hS hl)
theorem g_if_gt (C : gC p l s m args meth c cc nL own L sz) {x : Int32} {off : Int} (tgt : Nat) (ht : (pc : Int) + off = (tgt : Int)) (hd : decode cc pc = .ok (.ifCond .gt off, 3)) (kt : 0 < x → gS p l e R s m args below meth c nL L sz Q ce sl tgt lv st v) (kf : ¬ 0 < x → gS p l e R s m args below meth c nL L sz Q ce sl (pc + 3) lv st v) : gS p l e R s m args below meth c nL L sz Q ce sl pc lv (.int x :: st) v := fun H locs ls hP hS hl => lv_if_gt C.1 C.2.1 hd ht (fun h => kt h H locs ls hP hS hl) (fun h => kf h H locs ls hP hS hl)
theorem g_if_le (C : gC p l s m args meth c cc nL own L sz) {x : Int32} {off : Int} (tgt : Nat) (ht : (pc : Int) + off = (tgt : Int)) (hd : decode cc pc = .ok (.ifCond .le off, 3)) (kt : x ≤ 0 → gS p l e R s m args below meth c nL L sz Q ce sl tgt lv st v) (kf : ¬ x ≤ 0 → gS p l e R s m args below meth c nL L sz Q ce sl (pc + 3) lv st v) : gS p l e R s m args below meth c nL L sz Q ce sl pc lv (.int x :: st) v := fun H locs ls hP hS hl => lv_if_le C.1 C.2.1 hd ht (fun h => kt h H locs ls hP hS hl) (fun h => kf h H locs ls hP hS hl)
theorem g_icmp_eq (C : gC p l s m args meth c cc nL own L sz) {x y : Int32} {off : Int} (tgt : Nat) (ht : (pc : Int) + off = (tgt : Int)) (hd : decode cc pc = .ok (.if_icmp .eq off, 3)) (kt : x = y → gS p l e R s m args below meth c nL L sz Q ce sl tgt lv st v) (kf : ¬ x = y → gS p l e R s m args below meth c nL L sz Q ce sl (pc + 3) lv st v) : gS p l e R s m args below meth c nL L sz Q ce sl pc lv (.int y :: .int x :: st) v := fun H locs ls hP hS hl => lv_icmp_eq C.1 C.2.1 hd ht (fun h => kt h H locs ls hP hS hl) (fun h => kf h H locs ls hP hS hl)
theorem g_icmp_ne (C : gC p l s m args meth c cc nL own L sz) {x y : Int32} {off : Int} (tgt : Nat) (ht : (pc : Int) + off = (tgt : Int)) (hd : decode cc pc = .ok (.if_icmp .ne off, 3)) (kt : ¬ x = y → gS p l e R s m args below meth c nL L sz Q ce sl tgt lv st v) (kf : x = y → gS p l e R s m args below meth c nL L sz Q ce sl (pc + 3) lv st v) : gS p l e R s m args below meth c nL L sz Q ce sl pc lv (.int y :: .int x :: st) v := fun H locs ls hP hS hl => lv_icmp_ne C.1 C.2.1 hd ht (fun h => kt h H locs ls hP hS hl) (fun h => kf h H locs ls hP hS hl)
theorem g_icmp_lt (C : gC p l s m args meth c cc nL own L sz) {x y : Int32} {off : Int} (tgt : Nat) (ht : (pc : Int) + off = (tgt : Int)) (hd : decode cc pc = .ok (.if_icmp .lt off, 3)) (kt : x < y → gS p l e R s m args below meth c nL L sz Q ce sl tgt lv st v) (kf : ¬ x < y → gS p l e R s m args below meth c nL L sz Q ce sl (pc + 3) lv st v) : gS p l e R s m args below meth c nL L sz Q ce sl pc lv (.int y :: .int x :: st) v := fun H locs ls hP hS hl => lv_icmp_lt C.1 C.2.1 hd ht (fun h => kt h H locs ls hP hS hl) (fun h => kf h H locs ls hP hS hl)
theorem g_icmp_ge (C : gC p l s m args meth c cc nL own L sz) {x y : Int32} {off : Int} (tgt : Nat) (ht : (pc : Int) + off = (tgt : Int)) (hd : decode cc pc = .ok (.if_icmp .ge off, 3)) (kt : y ≤ x → gS p l e R s m args below meth c nL L sz Q ce sl tgt lv st v) (kf : ¬ y ≤ x → gS p l e R s m args below meth c nL L sz Q ce sl (pc + 3) lv st v) : gS p l e R s m args below meth c nL L sz Q ce sl pc lv (.int y :: .int x :: st) v := fun H locs ls hP hS hl => lv_icmp_ge C.1 C.2.1 hd ht (fun h => kt h H locs ls hP hS hl) (fun h => kf h H locs ls hP hS hl)
theorem g_icmp_gt (C : gC p l s m args meth c cc nL own L sz) {x y : Int32} {off : Int} (tgt : Nat) (ht : (pc : Int) + off = (tgt : Int)) (hd : decode cc pc = .ok (.if_icmp .gt off, 3)) (kt : y < x → gS p l e R s m args below meth c nL L sz Q ce sl tgt lv st v) (kf : ¬ y < x → gS p l e R s m args below meth c nL L sz Q ce sl (pc + 3) lv st v) : gS p l e R s m args below meth c nL L sz Q ce sl pc lv (.int y :: .int x :: st) v := fun H locs ls hP hS hl => lv_icmp_gt C.1 C.2.1 hd ht (fun h => kt h H locs ls hP hS hl) (fun h => kf h H locs ls hP hS hl)
theorem g_icmp_le (C : gC p l s m args meth c cc nL own L sz) {x y : Int32} {off : Int} (tgt : Nat) (ht : (pc : Int) + off = (tgt : Int)) (hd : decode cc pc = .ok (.if_icmp .le off, 3)) (kt : x ≤ y → gS p l e R s m args below meth c nL L sz Q ce sl tgt lv st v) (kf : ¬ x ≤ y → gS p l e R s m args below meth c nL L sz Q ce sl (pc + 3) lv st v) : gS p l e R s m args below meth c nL L sz Q ce sl pc lv (.int y :: .int x :: st) v := fun H locs ls hP hS hl => lv_icmp_le C.1 C.2.1 hd ht (fun h => kt h H locs ls hP hS hl) (fun h => kf h H locs ls hP hS hl)
theorem g_sub (lv' : List (Nat × Value)) (ks : List Nat) (h : lv_pick lv ks = lv') (kk : gS p l e R s m args below meth c nL L sz Q ce sl pc lv' st v) : gS p l e R s m args below meth c nL L sz Q ce sl pc lv st v := fun H locs ls hP hS hl => kk H locs ls hP hS (lv_sub hl ks h)
theorem g_widen (ce' sl' : Nat) (h1 : ce ≤ ce') (h2 : sl ≤ sl') (kk : gS p l e R s m args below meth c nL L sz Q ce' sl' pc lv st v) : gS p l e R s m args below meth c nL L sz Q ce sl pc lv st v := fun H locs ls hP hS hl => W.widen h1 h2 (kk H locs ls hP hS hl)
theorem g_switch (C : gC p l s m args meth c cc nL own L sz) {dflt lo hi : Int} {offs : Array Int} {len : Nat} {x : Int32} (hd : decode cc pc = .ok (.tableswitch dflt lo hi offs, len)) (ko : (x.toInt < lo ∨ hi < x.toInt) → ∃ tgt : Nat, (pc : Int) + dflt = (tgt : Int) ∧ gS p l e R s m args below meth c nL L sz Q ce sl tgt lv st v) (ki : ¬ x.toInt < lo → ¬ hi < x.toInt → ∃ (off : Int) (tgt : Nat), offs[(x.toInt - lo).toNat]? = some off ∧ (pc : Int) + off = (tgt : Int) ∧ gS p l e R s m args below meth c nL L sz Q ce sl tgt lv st v) : gS p l e R s m args below meth c nL L sz Q ce sl pc lv (.int x :: st) v := fun H locs ls hP hS hl => by
  by_cases h1 : x.toInt < lo
  · obtain ⟨tgt, ht, kk⟩ := ko (Or.inl h1)
    exact lv_tableOut C.1 C.2.1 hd (Or.inl h1) ht (kk H locs ls hP hS hl)
  · by_cases h2 : hi < x.toInt
    · obtain ⟨tgt, ht, kk⟩ := ko (Or.inr h2)
      exact lv_tableOut C.1 C.2.1 hd (Or.inr h2) ht (kk H locs ls hP hS hl)
    · obtain ⟨off, tgt, ho, ht, kk⟩ := ki h1 h2
      exact lv_tableIn C.1 C.2.1 hd h1 h2 ho ht (kk H locs ls hP hS hl)
theorem g_get (C : gC p l s m args meth c cc nL own L sz) {k i : Nat} (hk : gok k i) {ci : Nat} {fs : List Value} (hf : gcont L (v k i) k i = .inr (ci, fs)) {Cn : String} {T : u_T} {N : Nat} (hc : vwCl[ci]? = some (Cn, T, N)) (hin : ∀ w ∈ u_ws Cn T N, w ∈ gTbl) (j : Nat) (hj : j < N) {idx : Nat} (hq : Cond.fieldLink own idx (T j).1 (T j).2.1 (T j).2.2.1 ∈ gTbl) {x : Value} (hx : fs[j]? = some x) (hd : decode cc pc = .ok (.getfield idx, 3)) (kk : gS p l e R s m args below meth c nL L sz Q ce sl (pc + 3) lv (x :: st) v) : gS p l e R s m args below meth c nL L sz Q ce sl pc lv (.ref (L.2.1 k i) :: st) v := fun H locs ls hP hS hl => by
  obtain ⟨q, hq0, hq1⟩ := gW_at L v hk
  rw [hf] at hq1
  exact va_get C.1 C.2.1 C.2.2.2.2.1 hin C.2.2.2.1 C.2.2.2.2.2.2.2.2.2.1 hP q hq1 hc j hj (C.2.2.2.2.1 _ hq) (fun _ h9 => h9) hx hd (kk H locs ls hP hS hl)
theorem g_getN (C : gC p l s m args meth c cc nL own L sz) {host : String} {k i : Nat} (hk : gok k i) {ci : Nat} {fs : List Value} (hf : gcont L (v k i) k i = .inr (ci, fs)) {Cn : String} {T : u_T} {N : Nat} (hc : vwCl[ci]? = some (Cn, T, N)) (hin : ∀ w ∈ u_ws Cn T N, w ∈ gTbl) (j : Nat) (hj : j < N) {idx : Nat} (hq : Cond.fieldLinkNest own idx (T j).1 (T j).2.1 (T j).2.2.1 host ∈ gTbl) {x : Value} (hx : fs[j]? = some x) (hd : decode cc pc = .ok (.getfield idx, 3)) (kk : gS p l e R s m args below meth c nL L sz Q ce sl (pc + 3) lv (x :: st) v) : gS p l e R s m args below meth c nL L sz Q ce sl pc lv (.ref (L.2.1 k i) :: st) v := fun H locs ls hP hS hl => by
  obtain ⟨q, hq0, hq1⟩ := gW_at L v hk
  rw [hf] at hq1
  exact va_getN C.1 C.2.1 C.2.2.2.2.1 hin C.2.2.2.1 C.2.2.2.2.2.2.2.2.2.1 hP q hq1 hc j hj (C.2.2.2.2.1 _ hq) (fun _ h9 => h9) hx hd (kk H locs ls hP hS hl)
theorem g_put (C : gC p l s m args meth c cc nL own L sz) {k i : Nat} (hk : gok k i) {ci : Nat} {fs : List Value} (hf : gcont L (v k i) k i = .inr (ci, fs)) {Cn : String} {T : u_T} {N : Nat} (hc : vwCl[ci]? = some (Cn, T, N)) (hin : ∀ w ∈ u_ws Cn T N, w ∈ gTbl) (ty0 : Nat → FieldType) (hty : ∀ k, k < N → parseFieldDescriptor (T k).2.2.1 = some (ty0 k)) (hnm : ∀ a, a < N → ∀ b, b < N → a ≠ b → (T a).2.1 ≠ (T b).2.1) (j : Nat) (hj : j < N) {idx : Nat} (hq : Cond.fieldLink own idx (T j).1 (T j).2.1 (T j).2.2.1 ∈ gTbl) (hfin : (T j).2.2.2 = false) {x : Int32} (htj : parseFieldDescriptor (T j).2.2.1 = some .int) (hl0 : j < fs.length) (hfs : gcont L (gw v k i j x k i) k i = .inr (ci, fs.set j (.int x))) (hd : decode cc pc = .ok (.putfield idx, 3)) (kk : gS p l e R s m args below meth c nL L sz Q ce sl (pc + 3) lv st (gw v k i j x)) : gS p l e R s m args below meth c nL L sz Q ce sl pc lv (.int x :: .ref (L.2.1 k i) :: st) v := fun H locs ls hP hS hl => by
  obtain ⟨q, hq0, hq1⟩ := gW_at L v hk
  rw [hf] at hq1
  refine va_put C.1 C.2.1 C.2.2.2.2.1 hin ty0 hty hnm C.2.2.2.1 C.2.2.2.2.2.2.2.2.2.1 hP (gW_D C.2.2.2.2.2.2.2.1 sz v) hS q hq1 hc j hj (C.2.2.2.2.1 _ hq) (fun _ h9 => h9) hfin htj rfl rfl hl0 hd (fun H1 locs1 hP1 _ hS1 => ?_)
  rw [gW_set hq0 hfs (gw_off v k i j x)] at hP1
  exact kk H1 locs1 ls hP1 hS1 hl
theorem g_putN (C : gC p l s m args meth c cc nL own L sz) {host : String} {k i : Nat} (hk : gok k i) {ci : Nat} {fs : List Value} (hf : gcont L (v k i) k i = .inr (ci, fs)) {Cn : String} {T : u_T} {N : Nat} (hc : vwCl[ci]? = some (Cn, T, N)) (hin : ∀ w ∈ u_ws Cn T N, w ∈ gTbl) (ty0 : Nat → FieldType) (hty : ∀ k, k < N → parseFieldDescriptor (T k).2.2.1 = some (ty0 k)) (hnm : ∀ a, a < N → ∀ b, b < N → a ≠ b → (T a).2.1 ≠ (T b).2.1) (j : Nat) (hj : j < N) {idx : Nat} (hq : Cond.fieldLinkNest own idx (T j).1 (T j).2.1 (T j).2.2.1 host ∈ gTbl) (hfin : (T j).2.2.2 = false) {x : Int32} (htj : parseFieldDescriptor (T j).2.2.1 = some .int) (hl0 : j < fs.length) (hfs : gcont L (gw v k i j x k i) k i = .inr (ci, fs.set j (.int x))) (hd : decode cc pc = .ok (.putfield idx, 3)) (kk : gS p l e R s m args below meth c nL L sz Q ce sl (pc + 3) lv st (gw v k i j x)) : gS p l e R s m args below meth c nL L sz Q ce sl pc lv (.int x :: .ref (L.2.1 k i) :: st) v := fun H locs ls hP hS hl => by
  obtain ⟨q, hq0, hq1⟩ := gW_at L v hk
  rw [hf] at hq1
  refine va_putN C.1 C.2.1 C.2.2.2.2.1 hin ty0 hty hnm C.2.2.2.1 C.2.2.2.2.2.2.2.2.2.1 hP (gW_D C.2.2.2.2.2.2.2.1 sz v) hS q hq1 hc j hj (C.2.2.2.2.1 _ hq) (fun _ h9 => h9) hfin htj rfl rfl hl0 hd (fun H1 locs1 hP1 _ hS1 => ?_)
  rw [gW_set hq0 hfs (gw_off v k i j x)] at hP1
  exact kk H1 locs1 ls hP1 hS1 hl
theorem g_iald (C : gC p l s m args meth c cc nL own L sz) {k i : Nat} (hk : gok k i) {n : Nat} (hf : gcont L (v k i) k i = .inl (L.2.2 1, n, .inl (v k i))) {x : Int32} (hin : vp_in x n) (hd : decode cc pc = .ok (.iaload, 1)) (kk : gS p l e R s m args below meth c nL L sz Q ce sl (pc + 1) lv (.int (v k i x.toNatClampNeg) :: st) v) : gS p l e R s m args below meth c nL L sz Q ce sl pc lv (.int x :: .ref (L.2.1 k i) :: st) v := fun H locs ls hP hS hl => by
  obtain ⟨q, hq0, hq1⟩ := gW_at L v hk
  rw [hf] at hq1
  exact va_iald C.1 C.2.1 C.2.2.2.2.2.2.2.2.2.1 hP q 1 hq1 rfl hin hd (kk H locs ls hP hS hl)
theorem g_cald (C : gC p l s m args meth c cc nL own L sz) {k i : Nat} (hk : gok k i) {n : Nat} (hf : gcont L (v k i) k i = .inl (L.2.2 0, n, .inl (v k i))) {x : Int32} (hin : vp_in x n) (hd : decode cc pc = .ok (.caload, 1)) (kk : gS p l e R s m args below meth c nL L sz Q ce sl (pc + 1) lv (.int (v k i x.toNatClampNeg) :: st) v) : gS p l e R s m args below meth c nL L sz Q ce sl pc lv (.int x :: .ref (L.2.1 k i) :: st) v := fun H locs ls hP hS hl => by
  obtain ⟨q, hq0, hq1⟩ := gW_at L v hk
  rw [hf] at hq1
  exact va_cald C.1 C.2.1 C.2.2.2.2.2.2.2.2.2.1 hP q 0 hq1 rfl hin hd (kk H locs ls hP hS hl)
theorem g_zald (C : gC p l s m args meth c cc nL own L sz) {k i : Nat} (hk : gok k i) {n : Nat} (hf : gcont L (v k i) k i = .inl (L.2.2 2, n, .inl (v k i))) {x : Int32} (hin : vp_in x n) (hd : decode cc pc = .ok (.baload, 1)) (kk : gS p l e R s m args below meth c nL L sz Q ce sl (pc + 1) lv (.int (v k i x.toNatClampNeg) :: st) v) : gS p l e R s m args below meth c nL L sz Q ce sl pc lv (.int x :: .ref (L.2.1 k i) :: st) v := fun H locs ls hP hS hl => by
  obtain ⟨q, hq0, hq1⟩ := gW_at L v hk
  rw [hf] at hq1
  exact va_zald C.1 C.2.1 C.2.2.2.2.2.2.2.2.2.1 hP q 2 hq1 rfl hin hd (kk H locs ls hP hS hl)
theorem g_iast (C : gC p l s m args meth c cc nL own L sz) {k i : Nat} (hk : gok k i) {n : Nat} (hf : ∀ f, gcont L f k i = .inl (L.2.2 1, n, .inl f)) {x y : Int32} (hin : vp_in x n) (hd : decode cc pc = .ok (.iastore, 1)) (kk : gS p l e R s m args below meth c nL L sz Q ce sl (pc + 1) lv st (gw v k i x.toNatClampNeg (y))) : gS p l e R s m args below meth c nL L sz Q ce sl pc lv (.int y :: .int x :: .ref (L.2.1 k i) :: st) v := fun H locs ls hP hS hl => by
  obtain ⟨q, hq0, hq1⟩ := gW_at L v hk
  rw [hf] at hq1
  refine va_iast C.1 C.2.1 C.2.2.2.2.2.2.2.2.2.1 hP (gW_D C.2.2.2.2.2.2.2.1 sz v) hS q 1 hq1 rfl hin hd (fun H1 locs1 hP1 _ hS1 => ?_)
  rw [gW_set (v' := gw v k i x.toNatClampNeg (y)) hq0 (by rw [hf, gw_upd]) (gw_off v k i _ _)] at hP1
  exact kk H1 locs1 ls hP1 hS1 hl
theorem g_cast (C : gC p l s m args meth c cc nL own L sz) {k i : Nat} (hk : gok k i) {n : Nat} (hf : ∀ f, gcont L f k i = .inl (L.2.2 0, n, .inl f)) {x y : Int32} (hin : vp_in x n) (hd : decode cc pc = .ok (.castore, 1)) (kk : gS p l e R s m args below meth c nL L sz Q ce sl (pc + 1) lv st (gw v k i x.toNatClampNeg (vp_nar .char y))) : gS p l e R s m args below meth c nL L sz Q ce sl pc lv (.int y :: .int x :: .ref (L.2.1 k i) :: st) v := fun H locs ls hP hS hl => by
  obtain ⟨q, hq0, hq1⟩ := gW_at L v hk
  rw [hf] at hq1
  refine va_cast C.1 C.2.1 C.2.2.2.2.2.2.2.2.2.1 hP (gW_D C.2.2.2.2.2.2.2.1 sz v) hS q 0 hq1 rfl hin hd (fun H1 locs1 hP1 _ hS1 => ?_)
  rw [gW_set (v' := gw v k i x.toNatClampNeg (vp_nar .char y)) hq0 (by rw [hf, gw_upd]) (gw_off v k i _ _)] at hP1
  exact kk H1 locs1 ls hP1 hS1 hl
theorem g_zast (C : gC p l s m args meth c cc nL own L sz) {k i : Nat} (hk : gok k i) {n : Nat} (hf : ∀ f, gcont L f k i = .inl (L.2.2 2, n, .inl f)) {x y : Int32} (hin : vp_in x n) (hd : decode cc pc = .ok (.bastore, 1)) (kk : gS p l e R s m args below meth c nL L sz Q ce sl (pc + 1) lv st (gw v k i x.toNatClampNeg (vp_nar .boolean y))) : gS p l e R s m args below meth c nL L sz Q ce sl pc lv (.int y :: .int x :: .ref (L.2.1 k i) :: st) v := fun H locs ls hP hS hl => by
  obtain ⟨q, hq0, hq1⟩ := gW_at L v hk
  rw [hf] at hq1
  refine va_zast C.1 C.2.1 C.2.2.2.2.2.2.2.2.2.1 hP (gW_D C.2.2.2.2.2.2.2.1 sz v) hS q 2 hq1 rfl hin hd (fun H1 locs1 hP1 _ hS1 => ?_)
  rw [gW_set (v' := gw v k i x.toNatClampNeg (vp_nar .boolean y)) hq0 (by rw [hf, gw_upd]) (gw_off v k i _ _)] at hP1
  exact kk H1 locs1 ls hP1 hS1 hl
theorem g_book (C : gC p l s m args meth c cc nL own L sz) {x : Int32} (hin : vp_in x 16) (hd : decode cc pc = .ok (.aaload, 1)) (kk : gS p l e R s m args below meth c nL L sz Q ce sl (pc + 1) lv (.ref (L.2.1 2 x.toNatClampNeg) :: st) v) : gS p l e R s m args below meth c nL L sz Q ce sl pc lv (.int x :: .ref (L.2.1 11 0) :: st) v := fun H locs ls hP hS hl => by
  obtain ⟨q, hq0, hq1⟩ := gW_at L v gok_11
  exact va_aldq C.1 C.2.1 C.2.2.2.2.2.2.2.2.2.1 hP q 3 hq1 rfl hin hd (kk H locs ls hP hS hl)
theorem vp_lt {x : Int32} {n : Nat} (h : vp_in x n) : x.toNatClampNeg < n := Nat.not_le.mp fun q => h (Or.inr q)
end GR
section GE
variable {p : Program} {l : Launch} {e : Env} {R : Room} {s : State} {m : MethodId} {args : Array Value} {below : List Frame} {meth : Method} {c : Code} {cc : ByteArray} {nL : Nat} {own : String} {L : gL} {sz : Nat} {ce sl pc mc ms : Nat} {lv : List (Nat × Value)} {st : List Value} {v : gMem} {X : String → gMem → Prop}
theorem g_iret (C : gC p l s m args meth c cc nL own L sz) {Qn : Int32 → gMem → Prop} {x : Int32} {ty : FieldType} (hr : meth.sig.returnType = some ty) (hn : narrow ty (.int x) = .int x) (h1 : ce ≤ mc) (h2 : sl ≤ ms) (hq : Qn x v) (hd : decode cc pc = .ok (.ireturn, 1)) : gS p l e R s m args below meth c nL L sz (vx_MQ below (gQi L sz Qn) (gXC L sz X) args s mc ms (gA L sz)) ce sl pc lv [.int x] v := fun H locs ls hP hS hl =>
  W.widen h1 h2 (vx_ret (W.zret C.1 C.2.1 hr hn (fun t ht hW => ⟨⟨x, v, rfl, hq, by show va_P _ _ _ t.heap; rw [ht]; exact hP⟩, hS.F ht⟩) hS.2.2 hd C.2.2.2.2.2.1))
theorem g_fret (C : gC p l s m args meth c cc nL own L sz) {Qn : UInt32 → gMem → Prop} {x : UInt32} (hr : meth.sig.returnType = some .float) (h1 : ce ≤ mc) (h2 : sl ≤ ms) (hq : Qn x v) (hd : decode cc pc = .ok (.freturn, 1)) : gS p l e R s m args below meth c nL L sz (vx_MQ below (gQf L sz Qn) (gXC L sz X) args s mc ms (gA L sz)) ce sl pc lv [.float x] v := fun H locs ls hP hS hl =>
  W.widen h1 h2 (vx_ret (W.fret C.1 C.2.1 hr (fun t ht hW => ⟨⟨x, v, rfl, hq, by show va_P _ _ _ t.heap; rw [ht]; exact hP⟩, hS.F ht⟩) hS.2.2 hd C.2.2.2.2.2.1))
theorem g_vret (C : gC p l s m args meth c cc nL own L sz) {Qn : gMem → Prop} (hr : meth.sig.returnType = none) (h1 : ce ≤ mc) (h2 : sl ≤ ms) (hq : Qn v) (hd : decode cc pc = .ok (.return_, 1)) : gS p l e R s m args below meth c nL L sz (vx_MQ below (gQv L sz Qn) (gXC L sz X) args s mc ms (gA L sz)) ce sl pc lv [] v := fun H locs ls hP hS hl =>
  W.widen h1 h2 (vx_ret (W.vret C.1 C.2.1 hr (fun t ht hW => ⟨⟨v, rfl, hq, by show va_P _ _ _ t.heap; rw [ht]; exact hP⟩, hS.F ht⟩) hS.2.2 hd C.2.2.2.2.2.1))
theorem g_throwS (C : gC p l s m args meth c cc nL own L sz) {Qc : Array Value → State → Outcome → State → Prop} (hno : ∀ x ∈ c.exceptionTable.toList, False) {cls text : String} {ik is ic : Nat} (hown6 : own = RX6) (hcls : Bundle.fit cls = true) (hk : Cond.classLink own ik cls ∈ gTbl) (hini : Cond.initialized cls ∈ gTbl) (hstr : (is, text) ∈ gStr) (hat : ∀ w ∈ vx_atS own ic cls ["java/lang/RuntimeException", "java/lang/Exception"], w ∈ gTbl)
    (d0 : decode cc pc = .ok (.new ik, 3)) (d3 : decode cc (pc + 3) = .ok (.dup, 1)) (d4 : decode cc (pc + 4) = .ok (.ldc is, 2)) (d6 : decode cc (pc + 6) = .ok (.invokespecial ic, 3)) (d9 : decode cc (pc + 9) = .ok (.athrow, 1))
    (hR1 : 5 < R.frames) (hR2 : (st.map fun v => v.category).sum + 82 ≤ R.locals) (hR3 : ce + 1 ≤ R.cells ∧ sl + 6 ≤ R.slots) (h1 : ce + 1 ≤ mc) (h2 : sl + 6 ≤ ms) (hq : X cls v) : gS p l e R s m args below meth c nL L sz (vx_MQ below Qc (gXC L sz X) args s mc ms (gA L sz)) ce sl pc lv st v := fun H locs ls hP hS hl => by
  subst hown6
  obtain ⟨sa, hsa⟩ := C.2.2.2.2.2.2.2.2.2.2.2.1 (is, text) hstr
  have hot : ∀ w ∈ gTbl, vx_ot w = true := fun w hw => by
    have := gtw_tab (gTbl_gtw hw)
    simp [vx_ot, this]
  have hz : s.heap.size = sz := C.2.2.2.2.2.2.2.2.1
  have hU := C.2.2.2.2.2.2.2.2.2.2.2.2.1
  have hN := C.2.2.2.2.2.2.2.2.2.2.2.2.2.1
  refine vx_throwS C.1 C.2.1 C.2.2.2.2.2.2.1 C.2.2.2.1 hcls (by decide) (C.2.2.2.2.1 _ hk) (C.2.2.2.2.1 _ hini) hsa (fun w hw => C.2.2.2.2.1 w (hat w hw)) ?_ hU hN hS (hl.1.trans C.2.2.1.symm) d0 d3 d4 d6 d9 (fun x hx => (hno x hx).elim) hR1 hR2 hR3.1 hR3.2 C.2.2.2.2.2.1 ?_ hS.2.2 h1 h2
  · intro w hw
    rcases List.mem_cons.mp hw with rfl | hw
    · exact hot _ hk
    · rcases List.mem_cons.mp hw with rfl | hw
      · exact hot _ hini
      · exact hot _ (hat w hw)
  · intro t ht hsz hkeep
    refine ⟨v, trivial, ⟨hq, ?_⟩, ?_⟩
    · exact hP.kept (fun n q hn => hkeep q.1 (hP n q hn).lt)
    · exact ⟨Nat.le_trans hS.1 hsz, fun q h1 h2 => (hkeep q (Nat.lt_of_lt_of_le h1 hS.1)).trans (hS.2.1 q h1 h2)⟩
theorem g_throwSW (C : gC p l s m args meth c cc nL own L sz) {Qc : Array Value → State → Outcome → State → Prop} (hno : ∀ x ∈ c.exceptionTable.toList, False) {cls text : String} {ik is ic : Nat} (hown6 : own = RX6) (hcls : Bundle.fit cls = true) (hk : Cond.classLink own ik cls ∈ gTbl) (hini : Cond.initialized cls ∈ gTbl) (hstr : (is, text) ∈ gStr) (hat : ∀ w ∈ vx_atS own ic cls ["java/lang/RuntimeException", "java/lang/Exception"], w ∈ gTbl)
    (d0 : decode cc pc = .ok (.new ik, 3)) (d3 : decode cc (pc + 3) = .ok (.dup, 1)) (d4 : decode cc (pc + 4) = .ok (.ldc_w is, 3)) (d6 : decode cc (pc + 7) = .ok (.invokespecial ic, 3)) (d9 : decode cc (pc + 10) = .ok (.athrow, 1))
    (hR1 : 5 < R.frames) (hR2 : (st.map fun v => v.category).sum + 82 ≤ R.locals) (hR3 : ce + 1 ≤ R.cells ∧ sl + 6 ≤ R.slots) (h1 : ce + 1 ≤ mc) (h2 : sl + 6 ≤ ms) (hq : X cls v) : gS p l e R s m args below meth c nL L sz (vx_MQ below Qc (gXC L sz X) args s mc ms (gA L sz)) ce sl pc lv st v := fun H locs ls hP hS hl => by
  subst hown6
  obtain ⟨sa, hsa⟩ := C.2.2.2.2.2.2.2.2.2.2.2.1 (is, text) hstr
  have hot : ∀ w ∈ gTbl, vx_ot w = true := fun w hw => by
    have := gtw_tab (gTbl_gtw hw)
    simp [vx_ot, this]
  have hz : s.heap.size = sz := C.2.2.2.2.2.2.2.2.1
  have hU := C.2.2.2.2.2.2.2.2.2.2.2.2.1
  have hN := C.2.2.2.2.2.2.2.2.2.2.2.2.2.1
  refine vx_throwSW C.1 C.2.1 C.2.2.2.2.2.2.1 C.2.2.2.1 hcls (by decide) (C.2.2.2.2.1 _ hk) (C.2.2.2.2.1 _ hini) hsa (fun w hw => C.2.2.2.2.1 w (hat w hw)) ?_ hU hN hS (hl.1.trans C.2.2.1.symm) d0 d3 d4 d6 d9 (fun x hx => (hno x hx).elim) hR1 hR2 hR3.1 hR3.2 C.2.2.2.2.2.1 ?_ hS.2.2 h1 h2
  · intro w hw
    rcases List.mem_cons.mp hw with rfl | hw
    · exact hot _ hk
    · rcases List.mem_cons.mp hw with rfl | hw
      · exact hot _ hini
      · exact hot _ (hat w hw)
  · intro t ht hsz hkeep
    refine ⟨v, trivial, ⟨hq, ?_⟩, ?_⟩
    · exact hP.kept (fun n q hn => hkeep q.1 (hP n q hn).lt)
    · exact ⟨Nat.le_trans hS.1 hsz, fun q h1 h2 => (hkeep q (Nat.lt_of_lt_of_le h1 hS.1)).trans (hS.2.1 q h1 h2)⟩
theorem g_throwN (C : gC p l s m args meth c cc nL own L sz) {Qc : Array Value → State → Outcome → State → Prop} (hno : ∀ x ∈ c.exceptionTable.toList, False) {cls text : String} {ik is ic : Nat} (hown6 : own = RX6) (hcls : Bundle.fit cls = true) (hk : Cond.classLink own ik cls ∈ gTbl) (hini : Cond.initialized cls ∈ gTbl) (hstr : (is, text) ∈ gStr) (hat : ∀ w ∈ ny_at own ic cls ["java/lang/Exception"], w ∈ gTbl)
    (d0 : decode cc pc = .ok (.new ik, 3)) (d3 : decode cc (pc + 3) = .ok (.dup, 1)) (d4 : decode cc (pc + 4) = .ok (.ldc is, 2)) (d6 : decode cc (pc + 6) = .ok (.invokespecial ic, 3)) (d9 : decode cc (pc + 9) = .ok (.athrow, 1))
    (hR1 : 5 < R.frames) (hR2 : (st.map fun v => v.category).sum + 82 ≤ R.locals) (hR3 : ce + 1 ≤ R.cells ∧ sl + 6 ≤ R.slots) (h1 : ce + 1 ≤ mc) (h2 : sl + 6 ≤ ms) (hq : X cls v) : gS p l e R s m args below meth c nL L sz (vx_MQ below Qc (gXC L sz X) args s mc ms (gA L sz)) ce sl pc lv st v := fun H locs ls hP hS hl => by
  subst hown6
  obtain ⟨sa, hsa⟩ := C.2.2.2.2.2.2.2.2.2.2.2.1 (is, text) hstr
  have hot : ∀ w ∈ gTbl, vx_ot w = true := fun w hw => by
    have := gtw_tab (gTbl_gtw hw)
    simp [vx_ot, this]
  have hU := C.2.2.2.2.2.2.2.2.2.2.2.2.1
  have hN := C.2.2.2.2.2.2.2.2.2.2.2.2.2.1
  refine ny_makeS C.1 C.2.1 C.2.2.2.2.2.2.1 C.2.2.2.1 hcls (by decide) (C.2.2.2.2.1 _ hk) (C.2.2.2.2.1 _ hini) hsa (fun w hw => C.2.2.2.2.1 w (hat w hw)) ?_ hU hN hS (hl.1.trans C.2.2.1.symm) d0 d3 d4 d6 hR1 hR2 hR3.1 hR3.2 ?_
  · intro w hw
    rcases List.mem_cons.mp hw with rfl | hw
    · exact hot _ hk
    · rcases List.mem_cons.mp hw with rfl | hw
      · exact hot _ hini
      · exact hot _ (hat w hw)
  · intro q ce9 H1 hsz hkeep hc9 hv9 hcl9
    refine vx_athrow C.1 C.2.1 d9 (vx_out (fun x hx => (hno x hx).elim) C.2.2.2.2.2.1 hc9 hv9 hcl9 (fun t2 ht2 _ => ⟨v, trivial, ⟨hq, ?_⟩, ?_⟩) hS.2.2 h1 h2)
    · show va_P _ _ _ t2.heap
      rw [ht2]
      exact hP.kept (fun n q hn => hkeep q.1 (hP n q hn).lt)
    · rw [va_F, ht2]
      exact ⟨Nat.le_trans hS.1 hsz, fun q h1 h2 => (hkeep q (Nat.lt_of_lt_of_le h1 hS.1)).trans (hS.2.1 q h1 h2)⟩
theorem g_throwNW (C : gC p l s m args meth c cc nL own L sz) {Qc : Array Value → State → Outcome → State → Prop} (hno : ∀ x ∈ c.exceptionTable.toList, False) {cls text : String} {ik is ic : Nat} (hown6 : own = RX6) (hcls : Bundle.fit cls = true) (hk : Cond.classLink own ik cls ∈ gTbl) (hini : Cond.initialized cls ∈ gTbl) (hstr : (is, text) ∈ gStr) (hat : ∀ w ∈ ny_at own ic cls ["java/lang/Exception"], w ∈ gTbl)
    (d0 : decode cc pc = .ok (.new ik, 3)) (d3 : decode cc (pc + 3) = .ok (.dup, 1)) (d4 : decode cc (pc + 4) = .ok (.ldc_w is, 3)) (d6 : decode cc (pc + 7) = .ok (.invokespecial ic, 3)) (d9 : decode cc (pc + 10) = .ok (.athrow, 1))
    (hR1 : 5 < R.frames) (hR2 : (st.map fun v => v.category).sum + 82 ≤ R.locals) (hR3 : ce + 1 ≤ R.cells ∧ sl + 6 ≤ R.slots) (h1 : ce + 1 ≤ mc) (h2 : sl + 6 ≤ ms) (hq : X cls v) : gS p l e R s m args below meth c nL L sz (vx_MQ below Qc (gXC L sz X) args s mc ms (gA L sz)) ce sl pc lv st v := fun H locs ls hP hS hl => by
  subst hown6
  obtain ⟨sa, hsa⟩ := C.2.2.2.2.2.2.2.2.2.2.2.1 (is, text) hstr
  have hot : ∀ w ∈ gTbl, vx_ot w = true := fun w hw => by
    have := gtw_tab (gTbl_gtw hw)
    simp [vx_ot, this]
  have hU := C.2.2.2.2.2.2.2.2.2.2.2.2.1
  have hN := C.2.2.2.2.2.2.2.2.2.2.2.2.2.1
  refine ny_makeSW C.1 C.2.1 C.2.2.2.2.2.2.1 C.2.2.2.1 hcls (by decide) (C.2.2.2.2.1 _ hk) (C.2.2.2.2.1 _ hini) hsa (fun w hw => C.2.2.2.2.1 w (hat w hw)) ?_ hU hN hS (hl.1.trans C.2.2.1.symm) d0 d3 d4 d6 hR1 hR2 hR3.1 hR3.2 ?_
  · intro w hw
    rcases List.mem_cons.mp hw with rfl | hw
    · exact hot _ hk
    · rcases List.mem_cons.mp hw with rfl | hw
      · exact hot _ hini
      · exact hot _ (hat w hw)
  · intro q ce9 H1 hsz hkeep hc9 hv9 hcl9
    refine vx_athrow C.1 C.2.1 d9 (vx_out (fun x hx => (hno x hx).elim) C.2.2.2.2.2.1 hc9 hv9 hcl9 (fun t2 ht2 _ => ⟨v, trivial, ⟨hq, ?_⟩, ?_⟩) hS.2.2 h1 h2)
    · show va_P _ _ _ t2.heap
      rw [ht2]
      exact hP.kept (fun n q hn => hkeep q.1 (hP n q hn).lt)
    · rw [va_F, ht2]
      exact ⟨Nat.le_trans hS.1 hsz, fun q h1 h2 => (hkeep q (Nat.lt_of_lt_of_le h1 hS.1)).trans (hS.2.1 q h1 h2)⟩
theorem gx_ofW {l : Launch} {y : MethodName} {ws ws' : List Cond} {rm : Room} {Pc : Array Value → State → Prop} {Qc : Array Value → State → Outcome → State → Prop} {XC : String → State → State → Prop} {mc ms : Nat} {free : Addr → Prop} {cc : ByteArray} {maxL : Nat} {ret : Option FieldType}
    (hy : plainFor y = true) (hw : ws = Cond.code y cc maxL ret :: ws')
    (body : ∀ p e s m args below meth c s₁, BodyLoose p l y (headSpec ws rm) cc maxL ret e s m args below meth c s₁ → c.maxLocals = maxL → (∀ x ∈ c.exceptionTable.toList, False) → Pc args s →
      W p l e (headSpec ws rm).room s m args below meth c s.heap [] 0 0 (vx_MQ below Qc XC args s mc ms free) (entryFrame m args maxL)) : vx_Met l y ws rm Pc Qc XC mc ms free := by
  refine MetFree.of_bodySF (code := cc) (maxLocals := maxL) (ret := ret) hy ?_ ?_
  · intro args s m h hn
    obtain ⟨meth, c, h1, h2, h3, h4, h5, h6, -, -⟩ := Cond.code_spec hn (atoms_spec (ws := ws) h _ (by rw [hw]; exact List.mem_cons_self))
    exact ⟨meth, c, h1, h2, h3, h4, h5, h6⟩
  · intro p e s m args below meth c s₁ B hml hP _
    have hh0 : s₁.heap = s.heap := by rw [B.state]; rfl
    have ht : ∀ x ∈ c.exceptionTable.toList, False := by
      obtain ⟨meth9, c9, h1, h2, -, -, -, -, h7, -⟩ := Cond.code_spec B.named (atoms_spec (ws := ws) B.pre _ (by rw [hw]; exact List.mem_cons_self))
      cases Option.some.inj (h1.symm.trans B.method)
      cases Option.some.inj (h2.symm.trans (Stand.of_body B).code)
      intro x hx
      rw [Array.isEmpty_iff.mp h7] at hx
      cases hx
    obtain ⟨t, a1, o, b1, b2, b3⟩ := body p e s m args below meth c s₁ B hml ht hP s₁ hh0 (Stand.of_body B)
    exact ⟨t, o, a1, b1, b2, b3⟩
theorem g_ofW {y : MethodName} {rm : Room} {Qc : Array Value → State → Outcome → State → Prop} {maxL : Nat} {ret : Option FieldType} {As : List Value} (hy : plainFor y = true) (hfl : l.stackTraces = false) (hL : gDist L) (hA : (lg_sl As).length ≤ maxL)
    (body : ∀ (p : Program) (e : Env) (s : State) (m : MethodId) (args : Array Value) (below : List Frame) (meth : Method) (c : Code), gC p l s m args meth c cc maxL y.cls L sz → meth.sig.returnType = ret → (∀ x ∈ c.exceptionTable.toList, False) → gS p l e rm s m args below meth c maxL L sz (vx_MQ below Qc (gXC L sz X) args s mc ms (gA L sz)) 0 0 0 (lv_args 0 As) [] v) :
    vx_Met l y [.code y cc maxL ret] rm (gPc L sz As v) Qc (gXC L sz X) mc ms (gA L sz) := by
  refine gx_ofW (cc := cc) (maxL := maxL) (ret := ret) hy rfl ?_
  intro p e s m args below meth c s₁ B hml hno hv
  obtain ⟨rfl, hsz, hP, hE⟩ := hv
  have hown : s.vm.findClass y.cls = some m.cls := findClass_of_methodNamed B.named
  have hC : gC p l s m As.toArray meth c cc maxL y.cls L sz := ⟨B.exec, B.bytes, hml, hown, fun w hw => gtw_move (gTbl_gtw hw) (State.WarmedH.refl s) (hE.2.1 w hw), B.notSynchronized, hfl, hL, hsz, hE⟩
  rw [lg_entry_eq]
  exact body p e s m As.toArray below meth c hC B.returns hno s.heap [] _ hP va_S.rf (lv_entry As hA)
theorem g_callVi (C : gC p l s m args meth c cc nL own L sz) {Qc : Array Value → State → Outcome → State → Prop} (hno : ∀ x ∈ c.exceptionTable.toList, False) {y : MethodName} {bytes : ByteArray} {maxL : Nat} {ret : Option FieldType} {rm : Room} {mc1 ms1 index n : Nat} {k i ci : Nat} {fs : List Value} {T : u_T} {N : Nat} (hk : gok k i) (hf : gcont L (v k i) k i = .inr (ci, fs)) (hc : vwCl[ci]? = some (y.cls, T, N)) (As : List Value) {Qn : Int32 → gMem → Prop}
    (hM : ∀ sz', vx_Met l y [.code y bytes maxL ret] rm (gPc L sz' (.ref (L.2.1 k i) :: As) v) (gQi L sz' Qn) (gXC L sz' X) mc1 ms1 (gA L sz'))
    (hq1 : Cond.methodLink own index y ∈ gTbl) (hq2 : Cond.instanceMethod y ∈ gTbl) (hq3 : Cond.selects y.cls y y ∈ gTbl) (hq4 : Cond.initialized y.cls ∈ gTbl) (hq5 : Cond.code y bytes maxL ret ∈ gTbl) (hrc : rm.cells = mc1) (hrs : rm.slots = ms1) (hd : y.cls ≠ "java/lang/invoke/MethodHandle" ∧ y.cls ≠ "java/lang/invoke/VarHandle" ∧ (parseMethodDescriptor y.desc).map (fun d => d.parameters.length) = some n) (hn : As.length = n) (hR : rm.frames + 1 ≤ R.frames ∧ 8 + (maxL + 11) + rm.locals ≤ R.locals) (hR2 : ce + mc1 ≤ R.cells ∧ sl + ms1 ≤ R.slots) (hm : ce + mc1 ≤ mc ∧ sl + ms1 ≤ ms) (hW : (st.map fun v => v.category).sum ≤ 8) (hdg : decode cc pc = .ok (.invokevirtual index, 3))
    (kk : ∀ (r : Int32) (v' : gMem), Qn r v' → gS p l e R s m args below meth c nL L sz (vx_MQ below Qc (gXC L sz X) args s mc ms (gA L sz)) (ce + mc1) (sl + ms1) (pc + 3) lv (.int r :: st) v') : gS p l e R s m args below meth c nL L sz (vx_MQ below Qc (gXC L sz X) args s mc ms (gA L sz)) ce sl pc lv (As.reverse ++ .ref (L.2.1 k i) :: st) v := fun H locs ls hP hS hl => by
  have hEnv := C.2.2.2.2.2.2.2.2.2
  have hsz : s.heap.size = sz := C.2.2.2.2.2.2.2.2.1
  have t1 := C.2.2.2.2.1 _ hq1
  have t2 := C.2.2.2.2.1 _ hq2
  have t3 := C.2.2.2.2.1 _ hq3
  have t4 := C.2.2.2.2.1 _ hq4
  have t5 := C.2.2.2.2.1 _ hq5
  have hpay : ∀ w ∈ [Cond.code y bytes maxL ret], ∀ (a' : Array Value) (U : State), s.WarmedH U.vm → w.before a' U = true := by
    intro w hw a' U hW
    rw [List.mem_singleton.mp hw]
    exact gtw_move (gTbl_gtw hq5) hW t5
  have hlen : ∀ sig, parseMethodDescriptor y.desc = some sig → As.length = sig.parameters.length := by
    intro sig h
    have h2 := hd.2.2
    rw [h] at h2
    exact hn.trans (Option.some.inj h2).symm
  have hsub : ∀ q, gA L H.size q → gA L sz q := fun q h => h.elim Or.inl (fun h => Or.inr (Nat.le_trans (by rw [← hsz]; exact hS.1) h))
  have hpre : ∀ U : State, U.heap = H → s.WarmedH U.vm → gPc L H.size (.ref (L.2.1 k i) :: As) v ((.ref (L.2.1 k i) :: As)).toArray U := by
    intro U hU hW
    refine ⟨rfl, by rw [hU], by rw [hU]; exact hP, ?_⟩
    rw [hU]
    exact gEnv_move hW (by intro a h1 h2; exact hS.2.1 a h1 h2) (by rw [← hsz]; exact hS.1) hEnv
  have hrecv : ∃ cellB : Cell, H[L.2.1 k i]? = some cellB ∧ cellB.vm.isStatics = false ∧ s.vm.findClass y.cls = some cellB.cls := by
    obtain ⟨q, hq0, hq1⟩ := gW_at L v hk
    rw [hf] at hq1
    exact va_recv hEnv.1 hP hc hq1
  refine vx_calli (vx_runV (As := As) (rest := st) ⟨C.1, C.2.1, C.2.2.1, C.2.2.2.1, C.2.2.2.2.1⟩ (hM H.size) ⟨⟨hrc, hrs, hR.1, hR.2, hpay, List.mem_cons_self, t5, t4, ⟨hd.1, hd.2.1⟩, hlen, t1⟩, t2, t3⟩ ⟨gPc_blind _ _ _ _, hrecv, hpre⟩ rfl rfl hl.1 rfl (lv_room hW) hdg hR2) hS (fun q _ h => hsub q h) hsub (fun q _ h => hsub q h) ?_ (fun r u t H1 locs1 ht hvm hw hB hz1 hk1 hS1 => kk r u hw H1 locs1 ls (by rw [← ht]; exact hB) hS1 hl)
  intro E ce9 q9 u t H1 locs1 ht hvm _ hB hz1 hk1 hS1 hc9 hv9 hcl9
  refine vx_out (fun x hx => (hno x hx).elim) C.2.2.2.2.2.1 hc9 hv9 hcl9 (fun t2 ht2 _ => ⟨u, trivial, ⟨hB.1, by show va_P _ _ _ t2.heap; rw [ht2, ← ht]; exact hB.2⟩, hS1.F ht2⟩) hS1.2.2 hm.1 hm.2
theorem g_callVv (C : gC p l s m args meth c cc nL own L sz) {Qc : Array Value → State → Outcome → State → Prop} (hno : ∀ x ∈ c.exceptionTable.toList, False) {y : MethodName} {bytes : ByteArray} {maxL : Nat} {ret : Option FieldType} {rm : Room} {mc1 ms1 index n : Nat} {k i ci : Nat} {fs : List Value} {T : u_T} {N : Nat} (hk : gok k i) (hf : gcont L (v k i) k i = .inr (ci, fs)) (hc : vwCl[ci]? = some (y.cls, T, N)) (As : List Value) {Qn : gMem → Prop}
    (hM : ∀ sz', vx_Met l y [.code y bytes maxL ret] rm (gPc L sz' (.ref (L.2.1 k i) :: As) v) (gQv L sz' Qn) (gXC L sz' X) mc1 ms1 (gA L sz'))
    (hq1 : Cond.methodLink own index y ∈ gTbl) (hq2 : Cond.instanceMethod y ∈ gTbl) (hq3 : Cond.selects y.cls y y ∈ gTbl) (hq4 : Cond.initialized y.cls ∈ gTbl) (hq5 : Cond.code y bytes maxL ret ∈ gTbl) (hrc : rm.cells = mc1) (hrs : rm.slots = ms1) (hd : y.cls ≠ "java/lang/invoke/MethodHandle" ∧ y.cls ≠ "java/lang/invoke/VarHandle" ∧ (parseMethodDescriptor y.desc).map (fun d => d.parameters.length) = some n) (hn : As.length = n) (hR : rm.frames + 1 ≤ R.frames ∧ 8 + (maxL + 11) + rm.locals ≤ R.locals) (hR2 : ce + mc1 ≤ R.cells ∧ sl + ms1 ≤ R.slots) (hm : ce + mc1 ≤ mc ∧ sl + ms1 ≤ ms) (hW : (st.map fun v => v.category).sum ≤ 8) (hdg : decode cc pc = .ok (.invokevirtual index, 3))
    (kk : ∀ v' : gMem, Qn v' → gS p l e R s m args below meth c nL L sz (vx_MQ below Qc (gXC L sz X) args s mc ms (gA L sz)) (ce + mc1) (sl + ms1) (pc + 3) lv st v') : gS p l e R s m args below meth c nL L sz (vx_MQ below Qc (gXC L sz X) args s mc ms (gA L sz)) ce sl pc lv (As.reverse ++ .ref (L.2.1 k i) :: st) v := fun H locs ls hP hS hl => by
  have hEnv := C.2.2.2.2.2.2.2.2.2
  have hsz : s.heap.size = sz := C.2.2.2.2.2.2.2.2.1
  have t1 := C.2.2.2.2.1 _ hq1
  have t2 := C.2.2.2.2.1 _ hq2
  have t3 := C.2.2.2.2.1 _ hq3
  have t4 := C.2.2.2.2.1 _ hq4
  have t5 := C.2.2.2.2.1 _ hq5
  have hpay : ∀ w ∈ [Cond.code y bytes maxL ret], ∀ (a' : Array Value) (U : State), s.WarmedH U.vm → w.before a' U = true := by
    intro w hw a' U hW
    rw [List.mem_singleton.mp hw]
    exact gtw_move (gTbl_gtw hq5) hW t5
  have hlen : ∀ sig, parseMethodDescriptor y.desc = some sig → As.length = sig.parameters.length := by
    intro sig h
    have h2 := hd.2.2
    rw [h] at h2
    exact hn.trans (Option.some.inj h2).symm
  have hsub : ∀ q, gA L H.size q → gA L sz q := fun q h => h.elim Or.inl (fun h => Or.inr (Nat.le_trans (by rw [← hsz]; exact hS.1) h))
  have hpre : ∀ U : State, U.heap = H → s.WarmedH U.vm → gPc L H.size (.ref (L.2.1 k i) :: As) v ((.ref (L.2.1 k i) :: As)).toArray U := by
    intro U hU hW
    refine ⟨rfl, by rw [hU], by rw [hU]; exact hP, ?_⟩
    rw [hU]
    exact gEnv_move hW (by intro a h1 h2; exact hS.2.1 a h1 h2) (by rw [← hsz]; exact hS.1) hEnv
  have hrecv : ∃ cellB : Cell, H[L.2.1 k i]? = some cellB ∧ cellB.vm.isStatics = false ∧ s.vm.findClass y.cls = some cellB.cls := by
    obtain ⟨q, hq0, hq1⟩ := gW_at L v hk
    rw [hf] at hq1
    exact va_recv hEnv.1 hP hc hq1
  refine vx_callv (vx_runV (As := As) (rest := st) ⟨C.1, C.2.1, C.2.2.1, C.2.2.2.1, C.2.2.2.2.1⟩ (hM H.size) ⟨⟨hrc, hrs, hR.1, hR.2, hpay, List.mem_cons_self, t5, t4, ⟨hd.1, hd.2.1⟩, hlen, t1⟩, t2, t3⟩ ⟨gPc_blind _ _ _ _, hrecv, hpre⟩ rfl rfl hl.1 rfl (lv_room hW) hdg hR2) hS (fun q _ h => hsub q h) hsub (fun q _ h => hsub q h) ?_ (fun u t H1 locs1 ht hvm hw hB hz1 hk1 hS1 => kk u hw H1 locs1 ls (by rw [← ht]; exact hB) hS1 hl)
  intro E ce9 q9 u t H1 locs1 ht hvm _ hB hz1 hk1 hS1 hc9 hv9 hcl9
  refine vx_out (fun x hx => (hno x hx).elim) C.2.2.2.2.2.1 hc9 hv9 hcl9 (fun t2 ht2 _ => ⟨u, trivial, ⟨hB.1, by show va_P _ _ _ t2.heap; rw [ht2, ← ht]; exact hB.2⟩, hS1.F ht2⟩) hS1.2.2 hm.1 hm.2
theorem g_callVf (C : gC p l s m args meth c cc nL own L sz) {Qc : Array Value → State → Outcome → State → Prop} (hno : ∀ x ∈ c.exceptionTable.toList, False) {y : MethodName} {bytes : ByteArray} {maxL : Nat} {ret : Option FieldType} {rm : Room} {mc1 ms1 index n : Nat} {k i ci : Nat} {fs : List Value} {T : u_T} {N : Nat} (hk : gok k i) (hf : gcont L (v k i) k i = .inr (ci, fs)) (hc : vwCl[ci]? = some (y.cls, T, N)) (As : List Value) {Qn : UInt32 → gMem → Prop}
    (hM : ∀ sz', vx_Met l y [.code y bytes maxL ret] rm (gPc L sz' (.ref (L.2.1 k i) :: As) v) (gQf L sz' Qn) (gXC L sz' X) mc1 ms1 (gA L sz'))
    (hq1 : Cond.methodLink own index y ∈ gTbl) (hq2 : Cond.instanceMethod y ∈ gTbl) (hq3 : Cond.selects y.cls y y ∈ gTbl) (hq4 : Cond.initialized y.cls ∈ gTbl) (hq5 : Cond.code y bytes maxL ret ∈ gTbl) (hrc : rm.cells = mc1) (hrs : rm.slots = ms1) (hd : y.cls ≠ "java/lang/invoke/MethodHandle" ∧ y.cls ≠ "java/lang/invoke/VarHandle" ∧ (parseMethodDescriptor y.desc).map (fun d => d.parameters.length) = some n) (hn : As.length = n) (hR : rm.frames + 1 ≤ R.frames ∧ 8 + (maxL + 11) + rm.locals ≤ R.locals) (hR2 : ce + mc1 ≤ R.cells ∧ sl + ms1 ≤ R.slots) (hm : ce + mc1 ≤ mc ∧ sl + ms1 ≤ ms) (hW : (st.map fun v => v.category).sum ≤ 8) (hdg : decode cc pc = .ok (.invokevirtual index, 3))
    (kk : ∀ (r : UInt32) (v' : gMem), Qn r v' → gS p l e R s m args below meth c nL L sz (vx_MQ below Qc (gXC L sz X) args s mc ms (gA L sz)) (ce + mc1) (sl + ms1) (pc + 3) lv (.float r :: st) v') : gS p l e R s m args below meth c nL L sz (vx_MQ below Qc (gXC L sz X) args s mc ms (gA L sz)) ce sl pc lv (As.reverse ++ .ref (L.2.1 k i) :: st) v := fun H locs ls hP hS hl => by
  have hEnv := C.2.2.2.2.2.2.2.2.2
  have hsz : s.heap.size = sz := C.2.2.2.2.2.2.2.2.1
  have t1 := C.2.2.2.2.1 _ hq1
  have t2 := C.2.2.2.2.1 _ hq2
  have t3 := C.2.2.2.2.1 _ hq3
  have t4 := C.2.2.2.2.1 _ hq4
  have t5 := C.2.2.2.2.1 _ hq5
  have hpay : ∀ w ∈ [Cond.code y bytes maxL ret], ∀ (a' : Array Value) (U : State), s.WarmedH U.vm → w.before a' U = true := by
    intro w hw a' U hW
    rw [List.mem_singleton.mp hw]
    exact gtw_move (gTbl_gtw hq5) hW t5
  have hlen : ∀ sig, parseMethodDescriptor y.desc = some sig → As.length = sig.parameters.length := by
    intro sig h
    have h2 := hd.2.2
    rw [h] at h2
    exact hn.trans (Option.some.inj h2).symm
  have hsub : ∀ q, gA L H.size q → gA L sz q := fun q h => h.elim Or.inl (fun h => Or.inr (Nat.le_trans (by rw [← hsz]; exact hS.1) h))
  have hpre : ∀ U : State, U.heap = H → s.WarmedH U.vm → gPc L H.size (.ref (L.2.1 k i) :: As) v ((.ref (L.2.1 k i) :: As)).toArray U := by
    intro U hU hW
    refine ⟨rfl, by rw [hU], by rw [hU]; exact hP, ?_⟩
    rw [hU]
    exact gEnv_move hW (by intro a h1 h2; exact hS.2.1 a h1 h2) (by rw [← hsz]; exact hS.1) hEnv
  have hrecv : ∃ cellB : Cell, H[L.2.1 k i]? = some cellB ∧ cellB.vm.isStatics = false ∧ s.vm.findClass y.cls = some cellB.cls := by
    obtain ⟨q, hq0, hq1⟩ := gW_at L v hk
    rw [hf] at hq1
    exact va_recv hEnv.1 hP hc hq1
  refine vx_callf (vx_runV (As := As) (rest := st) ⟨C.1, C.2.1, C.2.2.1, C.2.2.2.1, C.2.2.2.2.1⟩ (hM H.size) ⟨⟨hrc, hrs, hR.1, hR.2, hpay, List.mem_cons_self, t5, t4, ⟨hd.1, hd.2.1⟩, hlen, t1⟩, t2, t3⟩ ⟨gPc_blind _ _ _ _, hrecv, hpre⟩ rfl rfl hl.1 rfl (lv_room hW) hdg hR2) hS (fun q _ h => hsub q h) hsub (fun q _ h => hsub q h) ?_ (fun r u t H1 locs1 ht hvm hw hB hz1 hk1 hS1 => kk r u hw H1 locs1 ls (by rw [← ht]; exact hB) hS1 hl)
  intro E ce9 q9 u t H1 locs1 ht hvm _ hB hz1 hk1 hS1 hc9 hv9 hcl9
  refine vx_out (fun x hx => (hno x hx).elim) C.2.2.2.2.2.1 hc9 hv9 hcl9 (fun t2 ht2 _ => ⟨u, trivial, ⟨hB.1, by show va_P _ _ _ t2.heap; rw [ht2, ← ht]; exact hB.2⟩, hS1.F ht2⟩) hS1.2.2 hm.1 hm.2
theorem g_callSi (C : gC p l s m args meth c cc nL own L sz) {Qc : Array Value → State → Outcome → State → Prop} (hno : ∀ x ∈ c.exceptionTable.toList, False) {y : MethodName} {bytes : ByteArray} {maxL : Nat} {ret : Option FieldType} {rm : Room} {mc1 ms1 index n : Nat} (As : List Value) {Qn : Int32 → gMem → Prop}
    (hM : ∀ sz', vx_Met l y [.code y bytes maxL ret] rm (gPc L sz' As v) (gQi L sz' Qn) (gXC L sz' X) mc1 ms1 (gA L sz'))
    (hq1 : Cond.methodLink own index y ∈ gTbl) (hq2 : Cond.static y ∈ gTbl) (hq4 : Cond.initialized y.cls ∈ gTbl) (hq5 : Cond.code y bytes maxL ret ∈ gTbl) (hrc : rm.cells = mc1) (hrs : rm.slots = ms1) (hd : y.cls ≠ "java/lang/invoke/MethodHandle" ∧ y.cls ≠ "java/lang/invoke/VarHandle" ∧ (parseMethodDescriptor y.desc).map (fun d => d.parameters.length) = some n) (hn : As.length = n) (hR : rm.frames + 1 ≤ R.frames ∧ 8 + (maxL + 11) + rm.locals ≤ R.locals) (hR2 : ce + mc1 ≤ R.cells ∧ sl + ms1 ≤ R.slots) (hm : ce + mc1 ≤ mc ∧ sl + ms1 ≤ ms) (hW : (st.map fun v => v.category).sum ≤ 8) (hdg : decode cc pc = .ok (.invokestatic index, 3))
    (kk : ∀ (r : Int32) (v' : gMem), Qn r v' → gS p l e R s m args below meth c nL L sz (vx_MQ below Qc (gXC L sz X) args s mc ms (gA L sz)) (ce + mc1) (sl + ms1) (pc + 3) lv (.int r :: st) v') : gS p l e R s m args below meth c nL L sz (vx_MQ below Qc (gXC L sz X) args s mc ms (gA L sz)) ce sl pc lv (As.reverse ++ st) v := fun H locs ls hP hS hl => by
  have hEnv := C.2.2.2.2.2.2.2.2.2
  have hsz : s.heap.size = sz := C.2.2.2.2.2.2.2.2.1
  have t1 := C.2.2.2.2.1 _ hq1
  have t2 := C.2.2.2.2.1 _ hq2
  have t4 := C.2.2.2.2.1 _ hq4
  have t5 := C.2.2.2.2.1 _ hq5
  have hpay : ∀ w ∈ [Cond.code y bytes maxL ret], ∀ (a' : Array Value) (U : State), s.WarmedH U.vm → w.before a' U = true := by
    intro w hw a' U hW
    rw [List.mem_singleton.mp hw]
    exact gtw_move (gTbl_gtw hq5) hW t5
  have hlen : ∀ sig, parseMethodDescriptor y.desc = some sig → As.length = sig.parameters.length := by
    intro sig h
    have h2 := hd.2.2
    rw [h] at h2
    exact hn.trans (Option.some.inj h2).symm
  have hsub : ∀ q, gA L H.size q → gA L sz q := fun q h => h.elim Or.inl (fun h => Or.inr (Nat.le_trans (by rw [← hsz]; exact hS.1) h))
  have hpre : ∀ U : State, U.heap = H → s.WarmedH U.vm → gPc L H.size As v (As).toArray U := by
    intro U hU hW
    refine ⟨rfl, by rw [hU], by rw [hU]; exact hP, ?_⟩
    rw [hU]
    exact gEnv_move hW (by intro a h1 h2; exact hS.2.1 a h1 h2) (by rw [← hsz]; exact hS.1) hEnv
  refine vx_calli (vx_runS (As := As) (rest := st) ⟨C.1, C.2.1, C.2.2.1, C.2.2.2.1, C.2.2.2.2.1⟩ (hM H.size) ⟨⟨hrc, hrs, hR.1, hR.2, hpay, List.mem_cons_self, t5, t4, ⟨hd.1, hd.2.1⟩, hlen, t1⟩, t2⟩ ⟨gPc_blind _ _ _ _, hpre⟩ rfl rfl hl.1 rfl (lv_room hW) hdg hR2) hS (fun q _ h => hsub q h) hsub (fun q _ h => hsub q h) ?_ (fun r u t H1 locs1 ht hvm hw hB hz1 hk1 hS1 => kk r u hw H1 locs1 ls (by rw [← ht]; exact hB) hS1 hl)
  intro E ce9 q9 u t H1 locs1 ht hvm _ hB hz1 hk1 hS1 hc9 hv9 hcl9
  refine vx_out (fun x hx => (hno x hx).elim) C.2.2.2.2.2.1 hc9 hv9 hcl9 (fun t2 ht2 _ => ⟨u, trivial, ⟨hB.1, by show va_P _ _ _ t2.heap; rw [ht2, ← ht]; exact hB.2⟩, hS1.F ht2⟩) hS1.2.2 hm.1 hm.2
theorem g_callSv (C : gC p l s m args meth c cc nL own L sz) {Qc : Array Value → State → Outcome → State → Prop} (hno : ∀ x ∈ c.exceptionTable.toList, False) {y : MethodName} {bytes : ByteArray} {maxL : Nat} {ret : Option FieldType} {rm : Room} {mc1 ms1 index n : Nat} (As : List Value) {Qn : gMem → Prop}
    (hM : ∀ sz', vx_Met l y [.code y bytes maxL ret] rm (gPc L sz' As v) (gQv L sz' Qn) (gXC L sz' X) mc1 ms1 (gA L sz'))
    (hq1 : Cond.methodLink own index y ∈ gTbl) (hq2 : Cond.static y ∈ gTbl) (hq4 : Cond.initialized y.cls ∈ gTbl) (hq5 : Cond.code y bytes maxL ret ∈ gTbl) (hrc : rm.cells = mc1) (hrs : rm.slots = ms1) (hd : y.cls ≠ "java/lang/invoke/MethodHandle" ∧ y.cls ≠ "java/lang/invoke/VarHandle" ∧ (parseMethodDescriptor y.desc).map (fun d => d.parameters.length) = some n) (hn : As.length = n) (hR : rm.frames + 1 ≤ R.frames ∧ 8 + (maxL + 11) + rm.locals ≤ R.locals) (hR2 : ce + mc1 ≤ R.cells ∧ sl + ms1 ≤ R.slots) (hm : ce + mc1 ≤ mc ∧ sl + ms1 ≤ ms) (hW : (st.map fun v => v.category).sum ≤ 8) (hdg : decode cc pc = .ok (.invokestatic index, 3))
    (kk : ∀ v' : gMem, Qn v' → gS p l e R s m args below meth c nL L sz (vx_MQ below Qc (gXC L sz X) args s mc ms (gA L sz)) (ce + mc1) (sl + ms1) (pc + 3) lv st v') : gS p l e R s m args below meth c nL L sz (vx_MQ below Qc (gXC L sz X) args s mc ms (gA L sz)) ce sl pc lv (As.reverse ++ st) v := fun H locs ls hP hS hl => by
  have hEnv := C.2.2.2.2.2.2.2.2.2
  have hsz : s.heap.size = sz := C.2.2.2.2.2.2.2.2.1
  have t1 := C.2.2.2.2.1 _ hq1
  have t2 := C.2.2.2.2.1 _ hq2
  have t4 := C.2.2.2.2.1 _ hq4
  have t5 := C.2.2.2.2.1 _ hq5
  have hpay : ∀ w ∈ [Cond.code y bytes maxL ret], ∀ (a' : Array Value) (U : State), s.WarmedH U.vm → w.before a' U = true := by
    intro w hw a' U hW
    rw [List.mem_singleton.mp hw]
    exact gtw_move (gTbl_gtw hq5) hW t5
  have hlen : ∀ sig, parseMethodDescriptor y.desc = some sig → As.length = sig.parameters.length := by
    intro sig h
    have h2 := hd.2.2
    rw [h] at h2
    exact hn.trans (Option.some.inj h2).symm
  have hsub : ∀ q, gA L H.size q → gA L sz q := fun q h => h.elim Or.inl (fun h => Or.inr (Nat.le_trans (by rw [← hsz]; exact hS.1) h))
  have hpre : ∀ U : State, U.heap = H → s.WarmedH U.vm → gPc L H.size As v (As).toArray U := by
    intro U hU hW
    refine ⟨rfl, by rw [hU], by rw [hU]; exact hP, ?_⟩
    rw [hU]
    exact gEnv_move hW (by intro a h1 h2; exact hS.2.1 a h1 h2) (by rw [← hsz]; exact hS.1) hEnv
  refine vx_callv (vx_runS (As := As) (rest := st) ⟨C.1, C.2.1, C.2.2.1, C.2.2.2.1, C.2.2.2.2.1⟩ (hM H.size) ⟨⟨hrc, hrs, hR.1, hR.2, hpay, List.mem_cons_self, t5, t4, ⟨hd.1, hd.2.1⟩, hlen, t1⟩, t2⟩ ⟨gPc_blind _ _ _ _, hpre⟩ rfl rfl hl.1 rfl (lv_room hW) hdg hR2) hS (fun q _ h => hsub q h) hsub (fun q _ h => hsub q h) ?_ (fun u t H1 locs1 ht hvm hw hB hz1 hk1 hS1 => kk u hw H1 locs1 ls (by rw [← ht]; exact hB) hS1 hl)
  intro E ce9 q9 u t H1 locs1 ht hvm _ hB hz1 hk1 hS1 hc9 hv9 hcl9
  refine vx_out (fun x hx => (hno x hx).elim) C.2.2.2.2.2.1 hc9 hv9 hcl9 (fun t2 ht2 _ => ⟨u, trivial, ⟨hB.1, by show va_P _ _ _ t2.heap; rw [ht2, ← ht]; exact hB.2⟩, hS1.F ht2⟩) hS1.2.2 hm.1 hm.2
theorem g_callVNi (C : gC p l s m args meth c cc nL own L sz) {Qc : Array Value → State → Outcome → State → Prop} (hno : ∀ x ∈ c.exceptionTable.toList, False) {y : MethodName} {bytes : ByteArray} {maxL : Nat} {ret : Option FieldType} {rm : Room} {mc1 ms1 index n : Nat} {host : String} {k i ci : Nat} {fs : List Value} {T : u_T} {N : Nat} (hk : gok k i) (hf : gcont L (v k i) k i = .inr (ci, fs)) (hc : vwCl[ci]? = some (y.cls, T, N)) (As : List Value) {Qn : Int32 → gMem → Prop}
    (hM : ∀ sz', vx_Met l y [.code y bytes maxL ret] rm (gPc L sz' (.ref (L.2.1 k i) :: As) v) (gQi L sz' Qn) (gXC L sz' X) mc1 ms1 (gA L sz'))
    (hq1 : Cond.methodLinkNest own index y host ∈ gTbl) (hq2 : Cond.instanceMethod y ∈ gTbl) (hq3 : Cond.selects y.cls y y ∈ gTbl) (hq4 : Cond.initialized y.cls ∈ gTbl) (hq5 : Cond.code y bytes maxL ret ∈ gTbl) (hrc : rm.cells = mc1) (hrs : rm.slots = ms1) (hd : y.cls ≠ "java/lang/invoke/MethodHandle" ∧ y.cls ≠ "java/lang/invoke/VarHandle" ∧ (parseMethodDescriptor y.desc).map (fun d => d.parameters.length) = some n) (hn : As.length = n) (hR : rm.frames + 1 ≤ R.frames ∧ 8 + (maxL + 11) + rm.locals ≤ R.locals) (hR2 : ce + mc1 ≤ R.cells ∧ sl + ms1 ≤ R.slots) (hm : ce + mc1 ≤ mc ∧ sl + ms1 ≤ ms) (hW : (st.map fun v => v.category).sum ≤ 8) (hdg : decode cc pc = .ok (.invokevirtual index, 3))
    (kk : ∀ (r : Int32) (v' : gMem), Qn r v' → gS p l e R s m args below meth c nL L sz (vx_MQ below Qc (gXC L sz X) args s mc ms (gA L sz)) (ce + mc1) (sl + ms1) (pc + 3) lv (.int r :: st) v') : gS p l e R s m args below meth c nL L sz (vx_MQ below Qc (gXC L sz X) args s mc ms (gA L sz)) ce sl pc lv (As.reverse ++ .ref (L.2.1 k i) :: st) v := fun H locs ls hP hS hl => by
  have hEnv := C.2.2.2.2.2.2.2.2.2
  have hsz : s.heap.size = sz := C.2.2.2.2.2.2.2.2.1
  have t1 := C.2.2.2.2.1 _ hq1
  have t2 := C.2.2.2.2.1 _ hq2
  have t3 := C.2.2.2.2.1 _ hq3
  have t4 := C.2.2.2.2.1 _ hq4
  have t5 := C.2.2.2.2.1 _ hq5
  have hpay : ∀ w ∈ [Cond.code y bytes maxL ret], ∀ (a' : Array Value) (U : State), s.WarmedH U.vm → w.before a' U = true := by
    intro w hw a' U hW
    rw [List.mem_singleton.mp hw]
    exact gtw_move (gTbl_gtw hq5) hW t5
  have hlen : ∀ sig, parseMethodDescriptor y.desc = some sig → As.length = sig.parameters.length := by
    intro sig h
    have h2 := hd.2.2
    rw [h] at h2
    exact hn.trans (Option.some.inj h2).symm
  have hsub : ∀ q, gA L H.size q → gA L sz q := fun q h => h.elim Or.inl (fun h => Or.inr (Nat.le_trans (by rw [← hsz]; exact hS.1) h))
  have hpre : ∀ U : State, U.heap = H → s.WarmedH U.vm → gPc L H.size (.ref (L.2.1 k i) :: As) v ((.ref (L.2.1 k i) :: As)).toArray U := by
    intro U hU hW
    refine ⟨rfl, by rw [hU], by rw [hU]; exact hP, ?_⟩
    rw [hU]
    exact gEnv_move hW (by intro a h1 h2; exact hS.2.1 a h1 h2) (by rw [← hsz]; exact hS.1) hEnv
  have hrecv : ∃ cellB : Cell, H[L.2.1 k i]? = some cellB ∧ cellB.vm.isStatics = false ∧ s.vm.findClass y.cls = some cellB.cls := by
    obtain ⟨q, hq0, hq1⟩ := gW_at L v hk
    rw [hf] at hq1
    exact va_recv hEnv.1 hP hc hq1
  refine vx_calli (vx_runVN (As := As) (rest := st) ⟨C.1, C.2.1, C.2.2.1, C.2.2.2.1, C.2.2.2.2.1⟩ (hM H.size) ⟨⟨⟨hrc, hrs, hR.1, hR.2, hpay, List.mem_cons_self⟩, t5, t4, ⟨hd.1, hd.2.1⟩, hlen, t1⟩, t2, t3⟩ ⟨gPc_blind _ _ _ _, hrecv, hpre⟩ rfl rfl hl.1 rfl (lv_room hW) hdg hR2) hS (fun q _ h => hsub q h) hsub (fun q _ h => hsub q h) ?_ (fun r u t H1 locs1 ht hvm hw hB hz1 hk1 hS1 => kk r u hw H1 locs1 ls (by rw [← ht]; exact hB) hS1 hl)
  intro E ce9 q9 u t H1 locs1 ht hvm _ hB hz1 hk1 hS1 hc9 hv9 hcl9
  refine vx_out (fun x hx => (hno x hx).elim) C.2.2.2.2.2.1 hc9 hv9 hcl9 (fun t2 ht2 _ => ⟨u, trivial, ⟨hB.1, by show va_P _ _ _ t2.heap; rw [ht2, ← ht]; exact hB.2⟩, hS1.F ht2⟩) hS1.2.2 hm.1 hm.2
theorem g_callVNv (C : gC p l s m args meth c cc nL own L sz) {Qc : Array Value → State → Outcome → State → Prop} (hno : ∀ x ∈ c.exceptionTable.toList, False) {y : MethodName} {bytes : ByteArray} {maxL : Nat} {ret : Option FieldType} {rm : Room} {mc1 ms1 index n : Nat} {host : String} {k i ci : Nat} {fs : List Value} {T : u_T} {N : Nat} (hk : gok k i) (hf : gcont L (v k i) k i = .inr (ci, fs)) (hc : vwCl[ci]? = some (y.cls, T, N)) (As : List Value) {Qn : gMem → Prop}
    (hM : ∀ sz', vx_Met l y [.code y bytes maxL ret] rm (gPc L sz' (.ref (L.2.1 k i) :: As) v) (gQv L sz' Qn) (gXC L sz' X) mc1 ms1 (gA L sz'))
    (hq1 : Cond.methodLinkNest own index y host ∈ gTbl) (hq2 : Cond.instanceMethod y ∈ gTbl) (hq3 : Cond.selects y.cls y y ∈ gTbl) (hq4 : Cond.initialized y.cls ∈ gTbl) (hq5 : Cond.code y bytes maxL ret ∈ gTbl) (hrc : rm.cells = mc1) (hrs : rm.slots = ms1) (hd : y.cls ≠ "java/lang/invoke/MethodHandle" ∧ y.cls ≠ "java/lang/invoke/VarHandle" ∧ (parseMethodDescriptor y.desc).map (fun d => d.parameters.length) = some n) (hn : As.length = n) (hR : rm.frames + 1 ≤ R.frames ∧ 8 + (maxL + 11) + rm.locals ≤ R.locals) (hR2 : ce + mc1 ≤ R.cells ∧ sl + ms1 ≤ R.slots) (hm : ce + mc1 ≤ mc ∧ sl + ms1 ≤ ms) (hW : (st.map fun v => v.category).sum ≤ 8) (hdg : decode cc pc = .ok (.invokevirtual index, 3))
    (kk : ∀ v' : gMem, Qn v' → gS p l e R s m args below meth c nL L sz (vx_MQ below Qc (gXC L sz X) args s mc ms (gA L sz)) (ce + mc1) (sl + ms1) (pc + 3) lv st v') : gS p l e R s m args below meth c nL L sz (vx_MQ below Qc (gXC L sz X) args s mc ms (gA L sz)) ce sl pc lv (As.reverse ++ .ref (L.2.1 k i) :: st) v := fun H locs ls hP hS hl => by
  have hEnv := C.2.2.2.2.2.2.2.2.2
  have hsz : s.heap.size = sz := C.2.2.2.2.2.2.2.2.1
  have t1 := C.2.2.2.2.1 _ hq1
  have t2 := C.2.2.2.2.1 _ hq2
  have t3 := C.2.2.2.2.1 _ hq3
  have t4 := C.2.2.2.2.1 _ hq4
  have t5 := C.2.2.2.2.1 _ hq5
  have hpay : ∀ w ∈ [Cond.code y bytes maxL ret], ∀ (a' : Array Value) (U : State), s.WarmedH U.vm → w.before a' U = true := by
    intro w hw a' U hW
    rw [List.mem_singleton.mp hw]
    exact gtw_move (gTbl_gtw hq5) hW t5
  have hlen : ∀ sig, parseMethodDescriptor y.desc = some sig → As.length = sig.parameters.length := by
    intro sig h
    have h2 := hd.2.2
    rw [h] at h2
    exact hn.trans (Option.some.inj h2).symm
  have hsub : ∀ q, gA L H.size q → gA L sz q := fun q h => h.elim Or.inl (fun h => Or.inr (Nat.le_trans (by rw [← hsz]; exact hS.1) h))
  have hpre : ∀ U : State, U.heap = H → s.WarmedH U.vm → gPc L H.size (.ref (L.2.1 k i) :: As) v ((.ref (L.2.1 k i) :: As)).toArray U := by
    intro U hU hW
    refine ⟨rfl, by rw [hU], by rw [hU]; exact hP, ?_⟩
    rw [hU]
    exact gEnv_move hW (by intro a h1 h2; exact hS.2.1 a h1 h2) (by rw [← hsz]; exact hS.1) hEnv
  have hrecv : ∃ cellB : Cell, H[L.2.1 k i]? = some cellB ∧ cellB.vm.isStatics = false ∧ s.vm.findClass y.cls = some cellB.cls := by
    obtain ⟨q, hq0, hq1⟩ := gW_at L v hk
    rw [hf] at hq1
    exact va_recv hEnv.1 hP hc hq1
  refine vx_callv (vx_runVN (As := As) (rest := st) ⟨C.1, C.2.1, C.2.2.1, C.2.2.2.1, C.2.2.2.2.1⟩ (hM H.size) ⟨⟨⟨hrc, hrs, hR.1, hR.2, hpay, List.mem_cons_self⟩, t5, t4, ⟨hd.1, hd.2.1⟩, hlen, t1⟩, t2, t3⟩ ⟨gPc_blind _ _ _ _, hrecv, hpre⟩ rfl rfl hl.1 rfl (lv_room hW) hdg hR2) hS (fun q _ h => hsub q h) hsub (fun q _ h => hsub q h) ?_ (fun u t H1 locs1 ht hvm hw hB hz1 hk1 hS1 => kk u hw H1 locs1 ls (by rw [← ht]; exact hB) hS1 hl)
  intro E ce9 q9 u t H1 locs1 ht hvm _ hB hz1 hk1 hS1 hc9 hv9 hcl9
  refine vx_out (fun x hx => (hno x hx).elim) C.2.2.2.2.2.1 hc9 hv9 hcl9 (fun t2 ht2 _ => ⟨u, trivial, ⟨hB.1, by show va_P _ _ _ t2.heap; rw [ht2, ← ht]; exact hB.2⟩, hS1.F ht2⟩) hS1.2.2 hm.1 hm.2
theorem g_callSNi (C : gC p l s m args meth c cc nL own L sz) {Qc : Array Value → State → Outcome → State → Prop} (hno : ∀ x ∈ c.exceptionTable.toList, False) {y : MethodName} {bytes : ByteArray} {maxL : Nat} {ret : Option FieldType} {rm : Room} {mc1 ms1 index n : Nat} {host : String} (As : List Value) {Qn : Int32 → gMem → Prop}
    (hM : ∀ sz', vx_Met l y [.code y bytes maxL ret] rm (gPc L sz' As v) (gQi L sz' Qn) (gXC L sz' X) mc1 ms1 (gA L sz'))
    (hq1 : Cond.methodLinkNest own index y host ∈ gTbl) (hq2 : Cond.static y ∈ gTbl) (hq4 : Cond.initialized y.cls ∈ gTbl) (hq5 : Cond.code y bytes maxL ret ∈ gTbl) (hrc : rm.cells = mc1) (hrs : rm.slots = ms1) (hd : y.cls ≠ "java/lang/invoke/MethodHandle" ∧ y.cls ≠ "java/lang/invoke/VarHandle" ∧ (parseMethodDescriptor y.desc).map (fun d => d.parameters.length) = some n) (hn : As.length = n) (hR : rm.frames + 1 ≤ R.frames ∧ 8 + (maxL + 11) + rm.locals ≤ R.locals) (hR2 : ce + mc1 ≤ R.cells ∧ sl + ms1 ≤ R.slots) (hm : ce + mc1 ≤ mc ∧ sl + ms1 ≤ ms) (hW : (st.map fun v => v.category).sum ≤ 8) (hdg : decode cc pc = .ok (.invokestatic index, 3))
    (kk : ∀ (r : Int32) (v' : gMem), Qn r v' → gS p l e R s m args below meth c nL L sz (vx_MQ below Qc (gXC L sz X) args s mc ms (gA L sz)) (ce + mc1) (sl + ms1) (pc + 3) lv (.int r :: st) v') : gS p l e R s m args below meth c nL L sz (vx_MQ below Qc (gXC L sz X) args s mc ms (gA L sz)) ce sl pc lv (As.reverse ++ st) v := fun H locs ls hP hS hl => by
  have hEnv := C.2.2.2.2.2.2.2.2.2
  have hsz : s.heap.size = sz := C.2.2.2.2.2.2.2.2.1
  have t1 := C.2.2.2.2.1 _ hq1
  have t2 := C.2.2.2.2.1 _ hq2
  have t4 := C.2.2.2.2.1 _ hq4
  have t5 := C.2.2.2.2.1 _ hq5
  have hpay : ∀ w ∈ [Cond.code y bytes maxL ret], ∀ (a' : Array Value) (U : State), s.WarmedH U.vm → w.before a' U = true := by
    intro w hw a' U hW
    rw [List.mem_singleton.mp hw]
    exact gtw_move (gTbl_gtw hq5) hW t5
  have hlen : ∀ sig, parseMethodDescriptor y.desc = some sig → As.length = sig.parameters.length := by
    intro sig h
    have h2 := hd.2.2
    rw [h] at h2
    exact hn.trans (Option.some.inj h2).symm
  have hsub : ∀ q, gA L H.size q → gA L sz q := fun q h => h.elim Or.inl (fun h => Or.inr (Nat.le_trans (by rw [← hsz]; exact hS.1) h))
  have hpre : ∀ U : State, U.heap = H → s.WarmedH U.vm → gPc L H.size As v (As).toArray U := by
    intro U hU hW
    refine ⟨rfl, by rw [hU], by rw [hU]; exact hP, ?_⟩
    rw [hU]
    exact gEnv_move hW (by intro a h1 h2; exact hS.2.1 a h1 h2) (by rw [← hsz]; exact hS.1) hEnv
  refine vx_calli (vx_runSN (As := As) (rest := st) ⟨C.1, C.2.1, C.2.2.1, C.2.2.2.1, C.2.2.2.2.1⟩ (hM H.size) ⟨⟨⟨hrc, hrs, hR.1, hR.2, hpay, List.mem_cons_self⟩, t5, t4, ⟨hd.1, hd.2.1⟩, hlen, t1⟩, t2, trivial⟩ ⟨gPc_blind _ _ _ _, hpre⟩ rfl rfl hl.1 rfl (lv_room hW) hdg hR2) hS (fun q _ h => hsub q h) hsub (fun q _ h => hsub q h) ?_ (fun r u t H1 locs1 ht hvm hw hB hz1 hk1 hS1 => kk r u hw H1 locs1 ls (by rw [← ht]; exact hB) hS1 hl)
  intro E ce9 q9 u t H1 locs1 ht hvm _ hB hz1 hk1 hS1 hc9 hv9 hcl9
  refine vx_out (fun x hx => (hno x hx).elim) C.2.2.2.2.2.1 hc9 hv9 hcl9 (fun t2 ht2 _ => ⟨u, trivial, ⟨hB.1, by show va_P _ _ _ t2.heap; rw [ht2, ← ht]; exact hB.2⟩, hS1.F ht2⟩) hS1.2.2 hm.1 hm.2
theorem g_callSNv (C : gC p l s m args meth c cc nL own L sz) {Qc : Array Value → State → Outcome → State → Prop} (hno : ∀ x ∈ c.exceptionTable.toList, False) {y : MethodName} {bytes : ByteArray} {maxL : Nat} {ret : Option FieldType} {rm : Room} {mc1 ms1 index n : Nat} {host : String} (As : List Value) {Qn : gMem → Prop}
    (hM : ∀ sz', vx_Met l y [.code y bytes maxL ret] rm (gPc L sz' As v) (gQv L sz' Qn) (gXC L sz' X) mc1 ms1 (gA L sz'))
    (hq1 : Cond.methodLinkNest own index y host ∈ gTbl) (hq2 : Cond.static y ∈ gTbl) (hq4 : Cond.initialized y.cls ∈ gTbl) (hq5 : Cond.code y bytes maxL ret ∈ gTbl) (hrc : rm.cells = mc1) (hrs : rm.slots = ms1) (hd : y.cls ≠ "java/lang/invoke/MethodHandle" ∧ y.cls ≠ "java/lang/invoke/VarHandle" ∧ (parseMethodDescriptor y.desc).map (fun d => d.parameters.length) = some n) (hn : As.length = n) (hR : rm.frames + 1 ≤ R.frames ∧ 8 + (maxL + 11) + rm.locals ≤ R.locals) (hR2 : ce + mc1 ≤ R.cells ∧ sl + ms1 ≤ R.slots) (hm : ce + mc1 ≤ mc ∧ sl + ms1 ≤ ms) (hW : (st.map fun v => v.category).sum ≤ 8) (hdg : decode cc pc = .ok (.invokestatic index, 3))
    (kk : ∀ v' : gMem, Qn v' → gS p l e R s m args below meth c nL L sz (vx_MQ below Qc (gXC L sz X) args s mc ms (gA L sz)) (ce + mc1) (sl + ms1) (pc + 3) lv st v') : gS p l e R s m args below meth c nL L sz (vx_MQ below Qc (gXC L sz X) args s mc ms (gA L sz)) ce sl pc lv (As.reverse ++ st) v := fun H locs ls hP hS hl => by
  have hEnv := C.2.2.2.2.2.2.2.2.2
  have hsz : s.heap.size = sz := C.2.2.2.2.2.2.2.2.1
  have t1 := C.2.2.2.2.1 _ hq1
  have t2 := C.2.2.2.2.1 _ hq2
  have t4 := C.2.2.2.2.1 _ hq4
  have t5 := C.2.2.2.2.1 _ hq5
  have hpay : ∀ w ∈ [Cond.code y bytes maxL ret], ∀ (a' : Array Value) (U : State), s.WarmedH U.vm → w.before a' U = true := by
    intro w hw a' U hW
    rw [List.mem_singleton.mp hw]
    exact gtw_move (gTbl_gtw hq5) hW t5
  have hlen : ∀ sig, parseMethodDescriptor y.desc = some sig → As.length = sig.parameters.length := by
    intro sig h
    have h2 := hd.2.2
    rw [h] at h2
    exact hn.trans (Option.some.inj h2).symm
  have hsub : ∀ q, gA L H.size q → gA L sz q := fun q h => h.elim Or.inl (fun h => Or.inr (Nat.le_trans (by rw [← hsz]; exact hS.1) h))
  have hpre : ∀ U : State, U.heap = H → s.WarmedH U.vm → gPc L H.size As v (As).toArray U := by
    intro U hU hW
    refine ⟨rfl, by rw [hU], by rw [hU]; exact hP, ?_⟩
    rw [hU]
    exact gEnv_move hW (by intro a h1 h2; exact hS.2.1 a h1 h2) (by rw [← hsz]; exact hS.1) hEnv
  refine vx_callv (vx_runSN (As := As) (rest := st) ⟨C.1, C.2.1, C.2.2.1, C.2.2.2.1, C.2.2.2.2.1⟩ (hM H.size) ⟨⟨⟨hrc, hrs, hR.1, hR.2, hpay, List.mem_cons_self⟩, t5, t4, ⟨hd.1, hd.2.1⟩, hlen, t1⟩, t2, trivial⟩ ⟨gPc_blind _ _ _ _, hpre⟩ rfl rfl hl.1 rfl (lv_room hW) hdg hR2) hS (fun q _ h => hsub q h) hsub (fun q _ h => hsub q h) ?_ (fun u t H1 locs1 ht hvm hw hB hz1 hk1 hS1 => kk u hw H1 locs1 ls (by rw [← ht]; exact hB) hS1 hl)
  intro E ce9 q9 u t H1 locs1 ht hvm _ hB hz1 hk1 hS1 hc9 hv9 hcl9
  refine vx_out (fun x hx => (hno x hx).elim) C.2.2.2.2.2.1 hc9 hv9 hcl9 (fun t2 ht2 _ => ⟨u, trivial, ⟨hB.1, by show va_P _ _ _ t2.heap; rw [ht2, ← ht]; exact hB.2⟩, hS1.F ht2⟩) hS1.2.2 hm.1 hm.2
end GE
