theorem wcl_RL_8 : Cond.classLink RL 8 RX6 ∈ gTbl := gTbl_of (List.mem_of_getElem? (i := 19) (by decide +kernel)) rfl
theorem wcl_RL_148 : Cond.classLink RL 148 RX7 ∈ gTbl := gTbl_of (List.mem_of_getElem? (i := 909) (by decide +kernel)) rfl
theorem wins_RX6 : Cond.instantiable RX6 15 ∈ gTbl := gTbl_of (List.mem_of_getElem? (i := 20) (by decide +kernel)) rfl
theorem wins_RX7 : Cond.instantiable RX7 25 ∈ gTbl := gTbl_of (List.mem_of_getElem? (i := 910) (by decide +kernel)) rfl
theorem wml_RL_147 : Cond.methodLink RL 147 yX6_init ∈ gTbl := gTbl_of (List.mem_of_getElem? (i := 21) (by decide +kernel)) rfl
theorem wml_RL_150 : Cond.methodLink RL 150 yX7_init ∈ gTbl := gTbl_of (List.mem_of_getElem? (i := 911) (by decide +kernel)) rfl
theorem winst_X6_init : Cond.instanceMethod yX6_init ∈ gTbl := gTbl_of (List.mem_of_getElem? (i := 22) (by decide +kernel)) rfl
theorem wcode_X6_init : Cond.code yX6_init cX6_init 2 none ∈ gTbl := gTbl_of (List.mem_of_getElem? (i := 23) (by decide +kernel)) rfl
theorem winst_X7_init : Cond.instanceMethod yX7_init ∈ gTbl := gTbl_of (List.mem_of_getElem? (i := 912) (by decide +kernel)) rfl
theorem wcode_X7_init : Cond.code yX7_init cX7_init 1 none ∈ gTbl := gTbl_of (List.mem_of_getElem? (i := 913) (by decide +kernel)) rfl
/-! THE CLAIM OUT OF ONE WALK OF THE LAW'S BODY. Your part is whole_start (and what it stands on); all else here is the same for every law, but numbers. -/
def R_law : String := "CardmeldLaw"
def lw_P (b : Addr) (xs : List Int32) (args : Array Value) (s : State) : Prop := args = #[.ref b] ∧ s.IntsAt b xs ∧ xs.length ≤ 2048 ∧ (Jvm.Cond.and given_1 narrow_1).before args s = true
/-- what a walk over the start with the record d0 says of its end, said of the start itself -/
theorem lw_closed {s t : State} {o : Outcome} {d0 : Drawn} {L : List Loc} {k n : Nat} (hd0 : s.drawn.sameBut d0 lw_cs) (hv : ∃ v, o = .returned v) (hW : (s.setDrawn d0).WarmedH t.vm) (hs : (s.setDrawn d0).sameButNew ({ t with vm := s.vm } : State) L k n) : State.butDraws s t lw_cs (fun t1 => Framed s o t1 L k n) := by
  have h2 : t.drawn = d0 := congrArg State.drawn hs.1
  refine ⟨⟨hv, hW, State.sameButNew.setDrawn hs s.drawn⟩, ?_, by decide⟩
  rw [h2]
  exact hd0
def lw_Q (_ : Array Value) (s : State) (o : Outcome) (t : State) : Prop := o = .returned (some (.int 1)) ∧ State.butDraws s t lw_cs (fun t1 => Framed s o t1 [] 602775 7287779)
def lw_Z (below : List Frame) (a : Array Value) (s : State) : State → Prop := fun t => ∃ o, t.status = .running ∧ Ended t below o ∧ lw_Q a s o t
/-- the law's own end, with 1 on the stack, nothing written that was there before, its room as the claim has it; d0: the record of draws at this point (at the entry s.drawn: begin with 'refine W.base ?_' and 'have hd0 := Drawn.sameBut.refl s.drawn lw_cs') -/
theorem lw_ret {p : Program} {l : Launch} {e : Env} {s : State} {m : MethodId} {below : List Frame} {meth : Method} {c : Code} {b : Nat} {d0 : Drawn} (hd0 : s.drawn.sameBut d0 lw_cs) (hx : p.tables.exec = Jvm.exec) (hb : c.code = code) (hr : meth.sig.returnType = ret) (hlocks : meth.locks = false) {pc : Nat} {H : Heap} {ls : Array Slot} (hdg : decode code pc = .ok (.ireturn, 1)) : W p l e room_1 (s.setDrawn d0) m #[Value.ref b] below meth c H [] 602775 7287779 (lw_Z below #[Value.ref b] s) (F0 m pc ls [.int 1]) := by
  intro T hT X
  obtain ⟨fs, hret, hrun, hended, hW, hframe⟩ := X.leave (v := some (.int 1)) (hlocks := hlocks) (fun h => by rw [hr] at h; cases h)
  have hmeth' : T.vm.method? m = some meth := X.method'
  refine ⟨T.setFrames fs, ?_, .returned (some (.int 1)), hrun, hended, rfl, lw_closed hd0 ⟨_, rfl⟩ hW hframe⟩
  jvm_step X.here [X.here.top, hx, hb, hdg, hmeth', hr, ret, narrow_b1]
  (try refine ⟨rfl, ?_⟩); (try refine ⟨rfl, ?_⟩)
  first | (intro acts; rw [hret _ acts rfl rfl rfl]) | rw [hret _ _ rfl rfl rfl]
  exact Steps.refl _
/-- what holds at the law's entry: the machine, the code, the tables' words (any of lw_tbl by 'hts w (by decide +kernel)'), the script of L ints xs at the cell b, what the Statement gives of the start (any of its parts by flat_of_before) -/
def lw_At (p : Program) (s : State) (m : MethodId) (meth : Method) (c : Code) (b L : Nat) (xs : Nat → Int32) : Prop :=
  p.tables.exec = Jvm.exec ∧ c.code = code ∧ meth.sig.returnType = ret ∧ c.maxLocals = 8 ∧ s.vm.findClass R_law = some m.cls ∧ (∀ w ∈ lw_tbl, w.before #[Value.ref b] s = true) ∧ va_X b L xs s s.heap ∧ b < s.heap.size ∧ meth.locks = false ∧ (Jvm.Cond.and given_1 narrow_1).before #[Value.ref b] s = true
theorem k_sub {U : State} {args : Array Value} (h : ∀ w ∈ lw_tbl, w.before args U = true) : ∀ w ∈ gTbl, w.before args U = true := fun w hw => h w (List.mem_filter.mp hw).1
theorem k_arr {U : State} {args : Array Value} {ty : FieldType} (hty : ty ∈ kArr) (h : (Cond.arrayClass ty).before args U = true) : ∃ cA : ClassId, ArrOfT U cA ty ∧ va_RA U cA ty := by
  obtain ⟨c, k, comp, h1, h2, h3⟩ := Cond.arrayClass_spec h
  refine ⟨c, fun n z => ⟨fun k h => (by cases h), k, h2, comp, h3⟩, ?_⟩
  simp only [kArr, List.mem_cons, List.not_mem_nil, or_false] at hty
  rcases hty with rfl | rfl | rfl | rfl | rfl <;> exact h1
theorem k_arrO {U : State} {args : Array Value} {C : String} (h : (Cond.arrayOver (.object C)).before args U = true) : ∃ cA : ClassId, ArrOfT U cA (.object C) ∧ va_RA U cA (.object C) := by
  obtain ⟨comp, c, k, h1, h2, h3, h4, h5⟩ := Cond.arrayOver_spec h
  exact ⟨c, fun n z => ⟨fun k h => (by cases h), k, h3, comp, h4⟩, k, comp, h3, h4, h1, h5⟩
theorem k_env {U : State} {args : Array Value} (hts : ∀ w ∈ lw_tbl, w.before args U = true) : ∃ (D : va_G) (cA : Nat → ClassId), kEnv D cA U := by
  have ht := k_sub hts
  have hts2 : ∀ w ∈ tables_1, w.before args U = true := fun w hw => hts w (List.mem_append_right _ hw)
  have hin : ∀ w ∈ gTbl, w ∈ gTbl := fun _ h => h
  obtain ⟨c0, i0, h0⟩ := u_known (C := RX0) (T := TX0) (N := 3) (n := 3) ht inX0 (ht _ wins_RX0)
  obtain ⟨c1, i1, h1⟩ := u_known (C := RX1) (T := TX1) (N := 3) (n := 3) ht inX1 (ht _ wins_RX1)
  obtain ⟨c2, i2, h2⟩ := u_known (C := RX2) (T := TX2) (N := 3) (n := 3) ht inX2 (ht _ wins_RX2)
  obtain ⟨c3, i3, h3⟩ := u_known (C := RX3) (T := TX3) (N := 6) (n := 6) ht inX3 (ht _ wins_RX3)
  obtain ⟨c4, i4, h4⟩ := u_known (C := RX4) (T := TX4) (N := 4) (n := 4) ht inX4 (ht _ wins_RX4)
  obtain ⟨c5, i5, h5⟩ := u_known (C := RX5) (T := TX5) (N := 1) (n := 1) ht inX5 (ht _ wins_RX5)
  obtain ⟨c6, i6, h6⟩ := u_known (C := RX6) (T := TX6) (N := 15) (n := 15) ht inX6 (ht _ wins_RX6)
  obtain ⟨c7, i7, h7⟩ := u_known (C := RX7) (T := TX7) (N := 25) (n := 25) ht inX7 (ht _ wins_RX7)
  obtain ⟨d0, ha0⟩ := k_arr (ty := .char) (by decide) (hts2 _ (by decide +kernel))
  obtain ⟨d1, ha1⟩ := k_arr (ty := .int) (by decide) (hts2 _ (by decide +kernel))
  obtain ⟨d2, ha2⟩ := k_arr (ty := .boolean) (by decide) (hts2 _ (by decide +kernel))
  obtain ⟨d4, ha4⟩ := k_arr (ty := .long) (by decide) (hts2 _ (by decide +kernel))
  obtain ⟨d5, ha5⟩ := k_arr (ty := .double) (by decide) (hts2 _ (by decide +kernel))
  have hO : (Cond.arrayOver (.object "Cardmeld$Card")).before args U = true := hts2 _ (by decide +kernel)
  obtain ⟨d3, ha3⟩ := k_arrO hO
  refine ⟨(fun k => match k with | 0 => c0 | 1 => c1 | 2 => c2 | 3 => c3 | 4 => c4 | 5 => c5 | 6 => c6 | _ => c7, fun k => match k with | 0 => i0 | 1 => i1 | 2 => i2 | 3 => i3 | 4 => i4 | 5 => i5 | 6 => i6 | _ => i7), fun k => match k with | 0 => d0 | 1 => d1 | 2 => d2 | 3 => d3 | 4 => d4 | _ => d5, ⟨fun k q hq => ?_, fun k q hq => ?_⟩, fun w hw => gtw_move (gTbl_gtw hw) (State.WarmedH.refl U) (ht w hw), fun ty hty => ?_, va_AO.of hO⟩
  · match k, hq with
    | 0, hq => cases hq; exact h0
    | 1, hq => cases hq; exact h1
    | 2, hq => cases hq; exact h2
    | 3, hq => cases hq; exact h3
    | 4, hq => cases hq; exact h4
    | 5, hq => cases hq; exact h5
    | 6, hq => cases hq; exact h6
    | 7, hq => cases hq; exact h7
    | k + 8, hq => simp [vwCl] at hq
  · match k, hq with
    | 0, hq => cases hq; exact ha0
    | 1, hq => cases hq; exact ha1
    | 2, hq => cases hq; exact ha2
    | 3, hq => cases hq; exact ha3
    | 4, hq => cases hq; exact ha4
    | 5, hq => cases hq; exact ha5
    | k + 6, hq => simp [ktys] at hq
  · refine word_at (s := U) (args := args) (State.WarmedH.refl U) (Or.inr ⟨ty, rfl⟩) ?_
    simp only [kArr, List.mem_cons, List.not_mem_nil, or_false] at hty
    rcases hty with rfl | rfl | rfl | rfl | rfl <;> exact hts2 _ (by decide +kernel)
def kFlat : List Cond := flatC (Jvm.Cond.and given_1 narrow_1)
theorem k_strW : ∀ t ∈ gStr, Cond.stringRef RX6 t.1 t.2 ∈ tables_1 ∧ Cond.exactly (.string RX6 t.1) "java/lang/String" ∈ kFlat := by decide +kernel
theorem k_ncW : ∀ t ∈ gNcs, Cond.not (.castable t.1 t.2) ∈ kFlat := by decide +kernel
theorem k_stU : Cond.isRef (.static Bundle.tN "UNASSIGNED_STACK" Bundle.steD) ∈ kFlat := by decide +kernel
theorem k_stN : Cond.isRef (.static Bundle.tN "SUPPRESSED_SENTINEL" Bundle.listD) ∈ kFlat := by decide +kernel
theorem k_lsU : Cond.laysStatic Bundle.tN "UNASSIGNED_STACK" Bundle.steD ∈ tables_1 := by decide +kernel
theorem k_lsN : Cond.laysStatic Bundle.tN "SUPPRESSED_SENTINEL" Bundle.listD ∈ tables_1 := by decide +kernel
theorem k_iniT : Cond.initialized Bundle.tN ∈ tables_1 := by decide +kernel
theorem k_gEnv {L : gL} {s : State} {args : Array Value} (hts : ∀ w ∈ lw_tbl, w.before args s = true) (hgv : (Jvm.Cond.and given_1 narrow_1).before args s = true) (hE : kEnv L.1 L.2.2 s) (hlow : ∀ r ∈ groles, s.heap.size ≤ L.2.1 r.1 r.2) : gEnv L s.heap.size s s.heap := by
  have hfl := flat_of_before _ hgv
  have hts2 : ∀ w ∈ tables_1, w.before args s = true := fun w hw => hts w (List.mem_append_right _ hw)
  have hA : ∀ a : Nat, a < s.heap.size → ¬ gA L s.heap.size a := by
    rintro a ha (⟨r, hr, rfl⟩ | h)
    · exact absurd (hlow r hr) (by omega)
    · omega
  refine ⟨hE.1, hE.2.1, fun t ht => ?_, vx_Zqof (hts2 _ k_lsU) (hts2 _ k_iniT) (hfl _ k_stU) hA, vx_Zqof (hts2 _ k_lsN) (hts2 _ k_iniT) (hfl _ k_stN) hA, fun t ht => va_Nc.of (hfl _ (k_ncW t ht))⟩
  obtain ⟨h1, h2⟩ := k_strW t ht
  obtain ⟨a, c, cA, kA, q1, -⟩ := Cond.exactly_spec (args := args) (first := s) (o := none) (s := s) (idx := []) (hfl _ h2)
  exact ⟨a, vk_R.of (hts2 _ h1) q1⟩
theorem k_noTrace {l : Launch} (h : l.flags = flags0) : l.stackTraces = false := by
  unfold Launch.stackTraces
  rw [h]
  decide +kernel
set_option maxRecDepth 100000 in
set_option maxHeartbeats 4000000 in
/-- the law from its entry, when LawStep holds of an invariant that the fresh objects keep -/
theorem whole_of {Inv : gMem → Prop} (hI : LawStep Inv) (h0 : Inv gv0) {p : Program} {e : Env} {s : State} {m : MethodId} {below : List Frame} {meth : Method} {c : Code} (l : Launch) (hflags : l.flags = flags0) {b Ln : Nat} {xs : Nat → Int32} (hL : Ln ≤ 2048) (C0 : lw_At p s m meth c b Ln xs) : W p l e room_1 s m #[Value.ref b] below meth c s.heap [] 0 0 (lw_Z below #[Value.ref b] s) (entryFrame m ([Value.ref b] : List Value).toArray 8) := by
  obtain ⟨hx, hb, hr, hml, hown, hts, hX, hbl, hlocks, hgv⟩ := id C0
  obtain ⟨D, cA, hE⟩ := k_env hts
  have C : kC p s m #[Value.ref b] meth c cL_law 8 RL D cA (fun q => s.heap.size ≤ q) := ⟨hx, hb, hml, hown, k_sub hts, hlocks, hE, fun q hq => hq⟩
  have hl := lv_entry ([.ref b]) (n := 8) (Nat.le_of_ble_eq_true rfl)
  rw [lg_entry_eq]
  suffices K : nS p l e room_1 s m #[Value.ref b] below meth c 8 D (fun q => s.heap.size ≤ q) (lw_Z below #[Value.ref b] s) 0 0 0 [(0, .ref b)] [] [] from K s.heap [] _ (fun k q h => by simp at h) ⟨fun i j p q h => by simp at h, fun k q h => by simp at h⟩ va_S.rf hl
  refine n_new C (ci := 6) (fs := [.null, .int 0, .null, .int 0, .null, .null, .int 0, .null, .int 0, .null, .null, .null, .null, .null, .null]) inX6 tyX6 tyX6_ok wcl_RL_8 wins_RX6 wini_RX6 rfl (fun j hj => by rcases (show j = 0 ∨ j = 1 ∨ j = 2 ∨ j = 3 ∨ j = 4 ∨ j = 5 ∨ j = 6 ∨ j = 7 ∨ j = 8 ∨ j = 9 ∨ j = 10 ∨ j = 11 ∨ j = 12 ∨ j = 13 ∨ j = 14 by omega) with rfl | rfl | rfl | rfl | rfl | rfl | rfl | rfl | rfl | rfl | rfl | rfl | rfl | rfl | rfl <;> rfl) ⟨(Nat.le_of_ble_eq_true rfl), (Nat.le_of_ble_eq_true rfl)⟩ dL_law_0 (fun q0 => ?_)
  refine n_dup C rfl dL_law_3 ?_
  refine n_eq ([] ++ [(q0, .inr (6, [.null, .int 0, .null, .int 0, .null, .null, .int 0, .null, .int 0, .null, .null, .null, .null, .null, .null]))]) rfl ?_
  refine n_call C (nX6_init l D cA) wml_RL_147 winst_X6_init wini_RX6 wcode_X6_init rfl rfl rfl (by decide +kernel) ⟨(Nat.le_of_ble_eq_true rfl), (Nat.le_of_ble_eq_true rfl)⟩ ⟨(Nat.le_of_ble_eq_true rfl), (Nat.le_of_ble_eq_true rfl)⟩ (Nat.le_of_ble_eq_true rfl) dL_law_4 (fun a => ?_)
  refine n_eq ([(q0, .inr (6, [.ref (a 0), .int 0, .ref (a 1), .int 0, .ref (a 2), .ref (a 3), .int 5, .ref (a 4), .int 0, .ref (a 6), .ref (a 13), .ref (a 14), .ref (a 17), .ref (a 18), .ref (a 21)])), ((a 0), .inl (cA 1, 4, .inl (fun _ => 0))), ((a 1), .inl (cA 3, 16, .inr (.inr (.inr (.inr (fun j => some (a (100 + 10 * j)))))))), ((a 2), .inl (cA 1, 4, .inl (upd (upd (upd (upd (fun _ => 0) 0 4) 1 5) 2 6) 3 1))), ((a 3), .inl (cA 1, 4, .inl (upd (upd (upd (upd (fun _ => 0) 0 (-2)) 1 (-3)) 2 (-1)) 3 (-1)))), ((a 4), .inr (5, [.ref (a 5)])), ((a 5), .inl (cA 1, 16, .inl (fun _ => 0))), ((a 6), .inr (3, [.ref (a 7), .ref (a 8), .ref (a 9), .int 0, .ref (a 10), .ref (a 12)])), ((a 7), .inl (cA 1, 30, .inl (fun _ => 0))), ((a 8), .inl (cA 1, 30, .inl (fun _ => 0))), ((a 9), .inl (cA 2, 30, .inl (fun _ => 0))), ((a 10), .inr (5, [.ref (a 11)])), ((a 11), .inl (cA 1, 16, .inl (fun _ => 0))), ((a 12), .inl (cA 1, 16, .inl (fun _ => 0))), ((a 13), .inl (cA 1, 4, .inl (fun _ => 0))), ((a 14), .inr (4, [.ref (a 15), .int 0, .ref (a 16), .int 0])), ((a 15), .inl (cA 0, 10, .inl (fun _ => 0))), ((a 16), .inl (cA 0, 4, .inl (fun _ => 0))), ((a 17), .inr (0, [.int (-1), .int (-1), .int 0])), ((a 18), .inr (1, [.ref (a 19), .ref (a 20), .int 0])), ((a 19), .inl (cA 1, 16, .inl (fun _ => 0))), ((a 20), .inl (cA 1, 16, .inl (fun _ => 0))), ((a 21), .inl (cA 1, 16, .inl (fun _ => 0)))] ++ (List.range 16).flatMap (fun i => wCd cA (a (100 + 10 * i)) (fun j => a (101 + 10 * i + j)))) rfl ?_
  refine n_astore_n C 1 rfl [(1, .ref q0), (0, .ref b)] (Nat.le_of_ble_eq_true rfl) rfl dL_law_7 ?_
  refine n_new C (ci := 7) (fs := [.int 0, .int 0, .int 0, .int 0, .int 0, .int 0, .int 0, .int 0, .int 0, .null, .null, .null, .null, .null, .null, .null, .null, .null, .null, .null, .null, .null, .null, .null, .null]) inX7 tyX7 tyX7_ok wcl_RL_148 wins_RX7 wini_RX7 rfl (fun j hj => by rcases (show j = 0 ∨ j = 1 ∨ j = 2 ∨ j = 3 ∨ j = 4 ∨ j = 5 ∨ j = 6 ∨ j = 7 ∨ j = 8 ∨ j = 9 ∨ j = 10 ∨ j = 11 ∨ j = 12 ∨ j = 13 ∨ j = 14 ∨ j = 15 ∨ j = 16 ∨ j = 17 ∨ j = 18 ∨ j = 19 ∨ j = 20 ∨ j = 21 ∨ j = 22 ∨ j = 23 ∨ j = 24 by omega) with rfl | rfl | rfl | rfl | rfl | rfl | rfl | rfl | rfl | rfl | rfl | rfl | rfl | rfl | rfl | rfl | rfl | rfl | rfl | rfl | rfl | rfl | rfl | rfl | rfl <;> rfl) ⟨(Nat.le_of_ble_eq_true rfl), (Nat.le_of_ble_eq_true rfl)⟩ dL_law_8 (fun q8 => ?_)
  refine n_dup C rfl dL_law_11 ?_
  refine n_call C (nX7_init l D cA) wml_RL_150 winst_X7_init wini_RX7 wcode_X7_init rfl rfl rfl (by decide +kernel) ⟨(Nat.le_of_ble_eq_true rfl), (Nat.le_of_ble_eq_true rfl)⟩ ⟨(Nat.le_of_ble_eq_true rfl), (Nat.le_of_ble_eq_true rfl)⟩ (Nat.le_of_ble_eq_true rfl) dL_law_12 (fun am => ?_)
  refine n_astore_n C 2 rfl [(2, .ref q8), (1, .ref q0), (0, .ref b)] (Nat.le_of_ble_eq_true rfl) rfl dL_law_15 ?_
  refine n_iconst C 1 (by decide) dL_law_16 ?_
  refine n_newa C (ty := .long) rfl (by decide) 4 rfl 1 (a0 := (1, .inr (.inl (fun _ => 0)))) (fun _ => rfl) (by decide) (by decide) (by decide) ⟨(Nat.le_of_ble_eq_true rfl), (Nat.le_of_ble_eq_true rfl)⟩ dL_law_17 (fun q17 => ?_)
  refine n_astore_n C 3 rfl [(3, .ref q17), (2, .ref q8), (1, .ref q0), (0, .ref b)] (Nat.le_of_ble_eq_true rfl) rfl dL_law_19 ?_
  refine n_iconst C 1 (by decide) dL_law_20 ?_
  refine n_newa C (ty := .double) rfl (by decide) 5 rfl 1 (a0 := (1, .inr (.inr (.inr (.inl (fun _ => 0)))))) (fun _ => rfl) (by decide) (by decide) (by decide) ⟨(Nat.le_of_ble_eq_true rfl), (Nat.le_of_ble_eq_true rfl)⟩ dL_law_21 (fun q21 => ?_)
  refine n_astore C [(4, .ref q21), (3, .ref q17), (2, .ref q8), (1, .ref q0), (0, .ref b)] (Nat.le_of_ble_eq_true rfl) rfl dL_law_23 ?_
  refine n_iconst C 0 (by decide) dL_law_25 ?_
  refine n_istore C [(5, .int 0), (4, .ref q21), (3, .ref q17), (2, .ref q8), (1, .ref q0), (0, .ref b)] (Nat.le_of_ble_eq_true rfl) rfl dL_law_26 ?_
  have e1 : (fun _ => (0 : Int64) : Nat → Int64) = fun _ => (0 : Int32).toInt64 := funext fun _ => by decide
  have e2 : (fun _ => (0 : UInt64) : Nat → UInt64) = fun _ => FP.f2d (0 : Int32).toUInt32 := funext fun _ => by decide +kernel
  refine n_eq (gWL cA q0 q8 q17 q21 a am) (by rw [e1, e2]; rfl) ?_
  intro H locs ls hP hD hS hl
  have hall := gWL_all D cA q0 q8 q17 q21 a am
  obtain ⟨L, hLdef⟩ : ∃ L : gL, L = (D, gadr q0 q8 q17 q21 a am, cA) := ⟨_, rfl⟩
  rw [← hLdef] at hall
  have hP2 : va_P L.1 vwCl (gW L gv0) H := by
    have := hP.sub gpl (fm_of_map hall)
    rw [hLdef] at this ⊢
    exact this
  have hD2 := hD.sub gpl gpl_nd hall
  have key : ∀ r ∈ groles, ∃ n, groles[n]? = some r ∧ (gW L gv0)[n]? = some (L.2.1 r.1 r.2, gcont L (gv0 r.1 r.2) r.1 r.2) := fun r hr => by
    obtain ⟨n, h1, h2⟩ := gW_at L gv0 (k := r.1) (i := r.2) hr
    exact ⟨n, h1, h2⟩
  have hdist : gDist L := by
    intro r hr r' hr' he
    obtain ⟨n, h1, h2⟩ := key r hr
    obtain ⟨n', h3, h4⟩ := key r' hr'
    have := hD2.1 n n' _ _ h2 h4 he
    subst this
    exact Option.some.inj (h1.symm.trans h3)
  have hlow : ∀ r ∈ groles, s.heap.size ≤ L.2.1 r.1 r.2 := by
    intro r hr
    obtain ⟨n, h1, h2⟩ := key r hr
    exact hD2.2 n _ h2
  have hE2 : kEnv L.1 L.2.2 s := by rw [hLdef]; exact hE
  have hEnv := k_gEnv hts hgv hE2 hlow
  have C2 : gC p l s m #[Value.ref b] meth c cL_law 8 RL L s.heap.size := ⟨hx, hb, hml, hown, k_sub hts, hlocks, k_noTrace hflags, hdist, rfl, hEnv⟩
  have hbA : ¬ gA L s.heap.size b := by
    rintro (⟨r, hr, h⟩ | h)
    · exact absurd (hlow r hr) (by rw [← h]; omega)
    · omega
  have hd0 := Drawn.sameBut.refl s.drawn lw_cs
  have hend : ∀ (v : gMem) (lv : List (Nat × Value)) (ce sl : Nat), ce ≤ 602775 → sl ≤ 7287779 → gS p l e room_1 s m #[Value.ref b] below meth c 8 L s.heap.size (lw_Z below #[Value.ref b] s) ce sl 2768 lv [.int 1] v := by
    intro v lv ce sl h1 h2 H locs ls hP hS hl
    refine va_forget (fun q hq => ?_) ?_
    · rcases hS.2.2 q hq with ⟨r, hr, h⟩ | h
      · rw [h]; exact hlow r hr
      · exact h
    · refine W.widen h1 h2 ?_
      refine W.base ?_
      exact lw_ret hd0 hx hb hr hlocks dL_law_2768
  have hS2 : va_S (gA L s.heap.size) s.heap H locs := ⟨hS.1, fun q h1 h2 => hS.2.1 q h1 (fun h => h2 (Or.inr h)), fun q hq => Or.inr (hS.2.2 q hq)⟩
  have hgo := law_loop (e := e) (below := below) C2 hX hbl hbA hL hI hend 513 0 (by omega) (by omega) (by omega) gv0 h0
  have eq0 : L.2.1 6 0 = q0 := by rw [hLdef]; rfl
  have eq7 : L.2.1 7 0 = q8 := by rw [hLdef]; rfl
  have eq50 : L.2.1 50 0 = q17 := by rw [hLdef]; rfl
  have eq51 : L.2.1 51 0 = q21 := by rw [hLdef]; rfl
  rw [eq0, eq7, eq50, eq51] at hgo
  exact hgo H locs ls hP2 hS2 (lv_sub hl [5, 4, 3, 2, 1, 0] rfl)
