section
variable {p : Program} {l : Launch} {e : Env} {s : State} {m : MethodId} {args : Array Value} {below : List Frame} {meth : Method} {c : Code} {L : gL} {sz : Nat}
def TC_0 (s1 s2 s3 : Int32) (v : gMem) (Q : gMem → Prop) : Prop := (TL_addSource s1 v (fun r244 v244 => (TX7_addSource s1 v244 (fun r256 v256 => (TX7_thrown v256 (fun r262 v262 => ((r262 = r244 → ((¬ r244 = 0 → (Q v262)) ∧ (r244 = 0 → (((lg_cmp (Int32.toInt64 (v262 50 0 0)) (Int32.toInt64 r256)) = 0 → (Q v262)) ∧ (¬ (lg_cmp (Int32.toInt64 (v262 50 0 0)) (Int32.toInt64 r256)) = 0 → False))))) ∧ (¬ r262 = r244 → False))) (fun _ _ => False))) (fun _ _ => False))) (fun _ _ => False))
theorem kC_0 (C : gC p l s m args meth c cL_law 8 RL L sz) {b Ln : Nat} {xs : Nat → Int32} (hX : va_X b Ln xs s s.heap) (hbl : b < s.heap.size) (hbA : ¬ gA L sz b) {i s1 s2 s3 : Int32} (h1 : vp_in (i + 1) Ln) (h2 : vp_in (i + 2) Ln) (h3 : vp_in (i + 3) Ln) (e1 : xs (i + 1).toNatClampNeg = s1) (e2 : xs (i + 2).toNatClampNeg = s2) (e3 : xs (i + 3).toNatClampNeg = s3) {ce sl : Nat} (hce : ce + 60 ≤ 602775) (hsl : sl + 360 ≤ 7287779) {Q0 : State → Prop} {Q : gMem → Prop} (hK : ∀ v, Q v → gS p l e room_1 s m args below meth c 8 L sz Q0 (ce + 60) (sl + 360) 2761 [(0, .ref b), (1, .ref (L.2.1 6 0)), (2, .ref (L.2.1 7 0)), (3, .ref (L.2.1 50 0)), (4, .ref (L.2.1 51 0)), (5, .int i)] [] v) {v : gMem} (h : TC_0 s1 s2 s3 v Q) : gS p l e room_1 s m args below meth c 8 L sz Q0 ce sl 236 [(0, .ref b), (1, .ref (L.2.1 6 0)), (2, .ref (L.2.1 7 0)), (3, .ref (L.2.1 50 0)), (4, .ref (L.2.1 51 0)), (5, .int i)] [] v := by
  unfold TC_0 at h
  refine g_aload_n C 1 rfl 1 rfl dL_law_236 ?_
  refine g_aload_n C 0 rfl 0 rfl dL_law_237 ?_
  refine g_iload C 5 rfl dL_law_238 ?_
  refine g_iconst C 1 (by decide) dL_law_240 ?_
  refine g_iadd C dL_law_241 ?_
  refine g_sld C hX hbl hbA s1 h1 e1 dL_law_242 ?_
  refine g_aload_n C 3 rfl 3 rfl dL_law_243 ?_
  refine g_gcallSXi C [.ref (L.2.1 6 0), .int s1, .ref (L.2.1 50 0)] (fun sz9 => kL_addSource l C.2.2.2.2.2.2.1 L C.2.2.2.2.2.2.2.1 s1 v _ _ h sz9) wml_RL_151 wstat_L_addSource wini_RL wcw_L_addSource rfl rfl (n := 3) (by decide +kernel) rfl ⟨(Nat.le_of_ble_eq_true rfl), (Nat.le_of_ble_eq_true rfl)⟩ ⟨(by omega : ce + 2 ≤ 602775), (by omega : sl + 12 ≤ 7287779)⟩ (Nat.le_of_ble_eq_true rfl) dL_law_244 (fun _ _ hx => hx.elim) (fun r244 v244 h => ?_)
  refine g_istore C [(6, .int r244), (0, .ref b), (1, .ref (L.2.1 6 0)), (2, .ref (L.2.1 7 0)), (3, .ref (L.2.1 50 0)), (4, .ref (L.2.1 51 0)), (5, .int i)] (Nat.le_of_ble_eq_true rfl) rfl dL_law_247 ?_
  refine g_aload_n C 2 rfl 3 rfl dL_law_249 ?_
  refine g_aload_n C 0 rfl 1 rfl dL_law_250 ?_
  refine g_iload C 6 rfl dL_law_251 ?_
  refine g_iconst C 1 (by decide) dL_law_253 ?_
  refine g_iadd C dL_law_254 ?_
  refine g_sld C hX hbl hbA s1 h1 e1 dL_law_255 ?_
  refine g_gcallVi C gok_7 rfl rfl [.int s1] (fun sz9 => kX7_addSource l C.2.2.2.2.2.2.1 L C.2.2.2.2.2.2.2.1 s1 v244 _ _ h sz9) wml_RL_156 winst_X7_addSource wsel_X7_addSource wini_RX7 wcode_X7_addSource rfl rfl (n := 1) (by decide +kernel) rfl ⟨(Nat.le_of_ble_eq_true rfl), (Nat.le_of_ble_eq_true rfl)⟩ ⟨(by omega : ce + 2 + 0 ≤ 602775), (by omega : sl + 12 + 0 ≤ 7287779)⟩ (Nat.le_of_ble_eq_true rfl) dL_law_256 (fun _ _ hx => hx.elim) (fun r256 v256 h => ?_)
  refine g_istore C [(7, .int r256), (6, .int r244), (0, .ref b), (1, .ref (L.2.1 6 0)), (2, .ref (L.2.1 7 0)), (3, .ref (L.2.1 50 0)), (4, .ref (L.2.1 51 0)), (5, .int i)] (Nat.le_of_ble_eq_true rfl) rfl dL_law_259 ?_
  refine g_aload_n C 2 rfl 4 rfl dL_law_261 ?_
  refine g_gcallVi C gok_7 rfl rfl [] (fun sz9 => kX7_thrown l C.2.2.2.2.2.2.1 L C.2.2.2.2.2.2.2.1 v256 _ _ h sz9) wml_RL_157 winst_X7_thrown wsel_X7_thrown wini_RX7 wcode_X7_thrown rfl rfl (n := 0) (by decide +kernel) rfl ⟨(Nat.le_of_ble_eq_true rfl), (Nat.le_of_ble_eq_true rfl)⟩ ⟨(by omega : ce + 2 + 0 + 0 ≤ 602775), (by omega : sl + 12 + 0 + 0 ≤ 7287779)⟩ (Nat.le_of_ble_eq_true rfl) dL_law_262 (fun _ _ hx => hx.elim) (fun r262 v262 h => ?_)
  refine g_iload C 1 rfl dL_law_265 ?_
  refine g_icmp_eq C 272 (by decide) dL_law_267 (fun hc => ?_) (fun hc => ?_)
  · replace h := h.1 hc
    refine g_iload C 1 rfl dL_law_272 ?_
    refine g_if_ne C 289 (by decide) dL_law_274 (fun hc => ?_) (fun hc => ?_)
    · replace h := h.1 hc
      refine g_goto C 2761 (by decide) dL_law_289 ?_
      refine g_widen (ce + 60) (sl + 360) (by omega) (by omega) ?_
      refine g_sub [(0, .ref b), (1, .ref (L.2.1 6 0)), (2, .ref (L.2.1 7 0)), (3, .ref (L.2.1 50 0)), (4, .ref (L.2.1 51 0)), (5, .int i)] [2, 3, 4, 5, 6, 7] rfl ?_
      exact hK _ h
    · replace h := h.2 hc
      refine g_aload_n C 3 rfl 5 rfl dL_law_277 ?_
      refine g_iconst C 0 (by decide) dL_law_278 ?_
      refine g_laload C dL_law_279 ?_
      refine g_iload C 0 rfl dL_law_280 ?_
      refine g_i2l C dL_law_282 ?_
      refine g_lcmp C dL_law_283 ?_
      refine g_if_eq C 289 (by decide) dL_law_284 (fun hc => ?_) (fun hc => ?_)
      · replace h := h.1 hc
        refine g_goto C 2761 (by decide) dL_law_289 ?_
        refine g_widen (ce + 60) (sl + 360) (by omega) (by omega) ?_
        refine g_sub [(0, .ref b), (1, .ref (L.2.1 6 0)), (2, .ref (L.2.1 7 0)), (3, .ref (L.2.1 50 0)), (4, .ref (L.2.1 51 0)), (5, .int i)] [2, 3, 4, 5, 6, 7] rfl ?_
        exact hK _ h
      · replace h := h.2 hc
        refine g_iconst C 0 (by decide) dL_law_287 ?_
        exact h.elim
  · replace h := h.2 hc
    refine g_iconst C 0 (by decide) dL_law_270 ?_
    exact h.elim
def TC_1 (s1 s2 s3 : Int32) (v : gMem) (Q : gMem → Prop) : Prop := (TL_setRank s1 s2 v (fun r306 v306 => (TX7_setRank s1 s2 v306 (fun r324 v324 => (TX7_thrown v324 (fun r330 v330 => ((r330 = r306 → ((¬ r306 = 0 → (Q v330)) ∧ (r306 = 0 → (((lg_cmp (Int32.toInt64 (v330 50 0 0)) (Int32.toInt64 r324)) = 0 → (Q v330)) ∧ (¬ (lg_cmp (Int32.toInt64 (v330 50 0 0)) (Int32.toInt64 r324)) = 0 → False))))) ∧ (¬ r330 = r306 → False))) (fun _ _ => False))) (fun _ _ => False))) (fun _ _ => False))
theorem kC_1 (C : gC p l s m args meth c cL_law 8 RL L sz) {b Ln : Nat} {xs : Nat → Int32} (hX : va_X b Ln xs s s.heap) (hbl : b < s.heap.size) (hbA : ¬ gA L sz b) {i s1 s2 s3 : Int32} (h1 : vp_in (i + 1) Ln) (h2 : vp_in (i + 2) Ln) (h3 : vp_in (i + 3) Ln) (e1 : xs (i + 1).toNatClampNeg = s1) (e2 : xs (i + 2).toNatClampNeg = s2) (e3 : xs (i + 3).toNatClampNeg = s3) {ce sl : Nat} (hce : ce + 60 ≤ 602775) (hsl : sl + 360 ≤ 7287779) {Q0 : State → Prop} {Q : gMem → Prop} (hK : ∀ v, Q v → gS p l e room_1 s m args below meth c 8 L sz Q0 (ce + 60) (sl + 360) 2761 [(0, .ref b), (1, .ref (L.2.1 6 0)), (2, .ref (L.2.1 7 0)), (3, .ref (L.2.1 50 0)), (4, .ref (L.2.1 51 0)), (5, .int i)] [] v) {v : gMem} (h : TC_1 s1 s2 s3 v Q) : gS p l e room_1 s m args below meth c 8 L sz Q0 ce sl 292 [(0, .ref b), (1, .ref (L.2.1 6 0)), (2, .ref (L.2.1 7 0)), (3, .ref (L.2.1 50 0)), (4, .ref (L.2.1 51 0)), (5, .int i)] [] v := by
  unfold TC_1 at h
  refine g_aload_n C 1 rfl 1 rfl dL_law_292 ?_
  refine g_aload_n C 0 rfl 0 rfl dL_law_293 ?_
  refine g_iload C 5 rfl dL_law_294 ?_
  refine g_iconst C 1 (by decide) dL_law_296 ?_
  refine g_iadd C dL_law_297 ?_
  refine g_sld C hX hbl hbA s1 h1 e1 dL_law_298 ?_
  refine g_aload_n C 0 rfl 0 rfl dL_law_299 ?_
  refine g_iload C 5 rfl dL_law_300 ?_
  refine g_iconst C 2 (by decide) dL_law_302 ?_
  refine g_iadd C dL_law_303 ?_
  refine g_sld C hX hbl hbA s2 h2 e2 dL_law_304 ?_
  refine g_aload_n C 3 rfl 3 rfl dL_law_305 ?_
  refine g_gcallSXi C [.ref (L.2.1 6 0), .int s1, .int s2, .ref (L.2.1 50 0)] (fun sz9 => kL_setRank l C.2.2.2.2.2.2.1 L C.2.2.2.2.2.2.2.1 s1 s2 v _ _ h sz9) wml_RL_160 wstat_L_setRank wini_RL wcw_L_setRank rfl rfl (n := 4) (by decide +kernel) rfl ⟨(Nat.le_of_ble_eq_true rfl), (Nat.le_of_ble_eq_true rfl)⟩ ⟨(by omega : ce + 2 ≤ 602775), (by omega : sl + 12 ≤ 7287779)⟩ (Nat.le_of_ble_eq_true rfl) dL_law_306 (fun _ _ hx => hx.elim) (fun r306 v306 h => ?_)
  refine g_istore C [(6, .int r306), (0, .ref b), (1, .ref (L.2.1 6 0)), (2, .ref (L.2.1 7 0)), (3, .ref (L.2.1 50 0)), (4, .ref (L.2.1 51 0)), (5, .int i)] (Nat.le_of_ble_eq_true rfl) rfl dL_law_309 ?_
  refine g_aload_n C 2 rfl 3 rfl dL_law_311 ?_
  refine g_aload_n C 0 rfl 1 rfl dL_law_312 ?_
  refine g_iload C 6 rfl dL_law_313 ?_
  refine g_iconst C 1 (by decide) dL_law_315 ?_
  refine g_iadd C dL_law_316 ?_
  refine g_sld C hX hbl hbA s1 h1 e1 dL_law_317 ?_
  refine g_aload_n C 0 rfl 1 rfl dL_law_318 ?_
  refine g_iload C 6 rfl dL_law_319 ?_
  refine g_iconst C 2 (by decide) dL_law_321 ?_
  refine g_iadd C dL_law_322 ?_
  refine g_sld C hX hbl hbA s2 h2 e2 dL_law_323 ?_
  refine g_gcallVi C gok_7 rfl rfl [.int s1, .int s2] (fun sz9 => kX7_setRank l C.2.2.2.2.2.2.1 L C.2.2.2.2.2.2.2.1 s1 s2 v306 _ _ h sz9) wml_RL_163 winst_X7_setRank wsel_X7_setRank wini_RX7 wcode_X7_setRank rfl rfl (n := 2) (by decide +kernel) rfl ⟨(Nat.le_of_ble_eq_true rfl), (Nat.le_of_ble_eq_true rfl)⟩ ⟨(by omega : ce + 2 + 0 ≤ 602775), (by omega : sl + 12 + 0 ≤ 7287779)⟩ (Nat.le_of_ble_eq_true rfl) dL_law_324 (fun _ _ hx => hx.elim) (fun r324 v324 h => ?_)
  refine g_istore C [(7, .int r324), (6, .int r306), (0, .ref b), (1, .ref (L.2.1 6 0)), (2, .ref (L.2.1 7 0)), (3, .ref (L.2.1 50 0)), (4, .ref (L.2.1 51 0)), (5, .int i)] (Nat.le_of_ble_eq_true rfl) rfl dL_law_327 ?_
  refine g_aload_n C 2 rfl 4 rfl dL_law_329 ?_
  refine g_gcallVi C gok_7 rfl rfl [] (fun sz9 => kX7_thrown l C.2.2.2.2.2.2.1 L C.2.2.2.2.2.2.2.1 v324 _ _ h sz9) wml_RL_157 winst_X7_thrown wsel_X7_thrown wini_RX7 wcode_X7_thrown rfl rfl (n := 0) (by decide +kernel) rfl ⟨(Nat.le_of_ble_eq_true rfl), (Nat.le_of_ble_eq_true rfl)⟩ ⟨(by omega : ce + 2 + 0 + 0 ≤ 602775), (by omega : sl + 12 + 0 + 0 ≤ 7287779)⟩ (Nat.le_of_ble_eq_true rfl) dL_law_330 (fun _ _ hx => hx.elim) (fun r330 v330 h => ?_)
  refine g_iload C 1 rfl dL_law_333 ?_
  refine g_icmp_eq C 340 (by decide) dL_law_335 (fun hc => ?_) (fun hc => ?_)
  · replace h := h.1 hc
    refine g_iload C 1 rfl dL_law_340 ?_
    refine g_if_ne C 357 (by decide) dL_law_342 (fun hc => ?_) (fun hc => ?_)
    · replace h := h.1 hc
      refine g_goto C 2761 (by decide) dL_law_357 ?_
      refine g_widen (ce + 60) (sl + 360) (by omega) (by omega) ?_
      refine g_sub [(0, .ref b), (1, .ref (L.2.1 6 0)), (2, .ref (L.2.1 7 0)), (3, .ref (L.2.1 50 0)), (4, .ref (L.2.1 51 0)), (5, .int i)] [2, 3, 4, 5, 6, 7] rfl ?_
      exact hK _ h
    · replace h := h.2 hc
      refine g_aload_n C 3 rfl 5 rfl dL_law_345 ?_
      refine g_iconst C 0 (by decide) dL_law_346 ?_
      refine g_laload C dL_law_347 ?_
      refine g_iload C 0 rfl dL_law_348 ?_
      refine g_i2l C dL_law_350 ?_
      refine g_lcmp C dL_law_351 ?_
      refine g_if_eq C 357 (by decide) dL_law_352 (fun hc => ?_) (fun hc => ?_)
      · replace h := h.1 hc
        refine g_goto C 2761 (by decide) dL_law_357 ?_
        refine g_widen (ce + 60) (sl + 360) (by omega) (by omega) ?_
        refine g_sub [(0, .ref b), (1, .ref (L.2.1 6 0)), (2, .ref (L.2.1 7 0)), (3, .ref (L.2.1 50 0)), (4, .ref (L.2.1 51 0)), (5, .int i)] [2, 3, 4, 5, 6, 7] rfl ?_
        exact hK _ h
      · replace h := h.2 hc
        refine g_iconst C 0 (by decide) dL_law_355 ?_
        exact h.elim
  · replace h := h.2 hc
    refine g_iconst C 0 (by decide) dL_law_338 ?_
    exact h.elim
def TC_2 (s1 s2 s3 : Int32) (v : gMem) (Q : gMem → Prop) : Prop := (TL_addCard s1 v (fun r368 v368 => (TX7_addCard s1 v368 (fun r380 v380 => (TX7_thrown v380 (fun r386 v386 => ((r386 = r368 → ((¬ r368 = 0 → (Q v386)) ∧ (r368 = 0 → (((lg_cmp (Int32.toInt64 (v386 50 0 0)) (Int32.toInt64 r380)) = 0 → (Q v386)) ∧ (¬ (lg_cmp (Int32.toInt64 (v386 50 0 0)) (Int32.toInt64 r380)) = 0 → False))))) ∧ (¬ r386 = r368 → False))) (fun _ _ => False))) (fun _ _ => False))) (fun _ _ => False))
theorem kC_2 (C : gC p l s m args meth c cL_law 8 RL L sz) {b Ln : Nat} {xs : Nat → Int32} (hX : va_X b Ln xs s s.heap) (hbl : b < s.heap.size) (hbA : ¬ gA L sz b) {i s1 s2 s3 : Int32} (h1 : vp_in (i + 1) Ln) (h2 : vp_in (i + 2) Ln) (h3 : vp_in (i + 3) Ln) (e1 : xs (i + 1).toNatClampNeg = s1) (e2 : xs (i + 2).toNatClampNeg = s2) (e3 : xs (i + 3).toNatClampNeg = s3) {ce sl : Nat} (hce : ce + 60 ≤ 602775) (hsl : sl + 360 ≤ 7287779) {Q0 : State → Prop} {Q : gMem → Prop} (hK : ∀ v, Q v → gS p l e room_1 s m args below meth c 8 L sz Q0 (ce + 60) (sl + 360) 2761 [(0, .ref b), (1, .ref (L.2.1 6 0)), (2, .ref (L.2.1 7 0)), (3, .ref (L.2.1 50 0)), (4, .ref (L.2.1 51 0)), (5, .int i)] [] v) {v : gMem} (h : TC_2 s1 s2 s3 v Q) : gS p l e room_1 s m args below meth c 8 L sz Q0 ce sl 360 [(0, .ref b), (1, .ref (L.2.1 6 0)), (2, .ref (L.2.1 7 0)), (3, .ref (L.2.1 50 0)), (4, .ref (L.2.1 51 0)), (5, .int i)] [] v := by
  unfold TC_2 at h
  refine g_aload_n C 1 rfl 1 rfl dL_law_360 ?_
  refine g_aload_n C 0 rfl 0 rfl dL_law_361 ?_
  refine g_iload C 5 rfl dL_law_362 ?_
  refine g_iconst C 1 (by decide) dL_law_364 ?_
  refine g_iadd C dL_law_365 ?_
  refine g_sld C hX hbl hbA s1 h1 e1 dL_law_366 ?_
  refine g_aload_n C 3 rfl 3 rfl dL_law_367 ?_
  refine g_gcallSXi C [.ref (L.2.1 6 0), .int s1, .ref (L.2.1 50 0)] (fun sz9 => kL_addCard l C.2.2.2.2.2.2.1 L C.2.2.2.2.2.2.2.1 s1 v _ _ h sz9) wml_RL_164 wstat_L_addCard wini_RL wcw_L_addCard rfl rfl (n := 3) (by decide +kernel) rfl ⟨(Nat.le_of_ble_eq_true rfl), (Nat.le_of_ble_eq_true rfl)⟩ ⟨(by omega : ce + 2 ≤ 602775), (by omega : sl + 12 ≤ 7287779)⟩ (Nat.le_of_ble_eq_true rfl) dL_law_368 (fun _ _ hx => hx.elim) (fun r368 v368 h => ?_)
  refine g_istore C [(6, .int r368), (0, .ref b), (1, .ref (L.2.1 6 0)), (2, .ref (L.2.1 7 0)), (3, .ref (L.2.1 50 0)), (4, .ref (L.2.1 51 0)), (5, .int i)] (Nat.le_of_ble_eq_true rfl) rfl dL_law_371 ?_
  refine g_aload_n C 2 rfl 3 rfl dL_law_373 ?_
  refine g_aload_n C 0 rfl 1 rfl dL_law_374 ?_
  refine g_iload C 6 rfl dL_law_375 ?_
  refine g_iconst C 1 (by decide) dL_law_377 ?_
  refine g_iadd C dL_law_378 ?_
  refine g_sld C hX hbl hbA s1 h1 e1 dL_law_379 ?_
  refine g_gcallVi C gok_7 rfl rfl [.int s1] (fun sz9 => kX7_addCard l C.2.2.2.2.2.2.1 L C.2.2.2.2.2.2.2.1 s1 v368 _ _ h sz9) wml_RL_166 winst_X7_addCard wsel_X7_addCard wini_RX7 wcode_X7_addCard rfl rfl (n := 1) (by decide +kernel) rfl ⟨(Nat.le_of_ble_eq_true rfl), (Nat.le_of_ble_eq_true rfl)⟩ ⟨(by omega : ce + 2 + 0 ≤ 602775), (by omega : sl + 12 + 0 ≤ 7287779)⟩ (Nat.le_of_ble_eq_true rfl) dL_law_380 (fun _ _ hx => hx.elim) (fun r380 v380 h => ?_)
  refine g_istore C [(7, .int r380), (6, .int r368), (0, .ref b), (1, .ref (L.2.1 6 0)), (2, .ref (L.2.1 7 0)), (3, .ref (L.2.1 50 0)), (4, .ref (L.2.1 51 0)), (5, .int i)] (Nat.le_of_ble_eq_true rfl) rfl dL_law_383 ?_
  refine g_aload_n C 2 rfl 4 rfl dL_law_385 ?_
  refine g_gcallVi C gok_7 rfl rfl [] (fun sz9 => kX7_thrown l C.2.2.2.2.2.2.1 L C.2.2.2.2.2.2.2.1 v380 _ _ h sz9) wml_RL_157 winst_X7_thrown wsel_X7_thrown wini_RX7 wcode_X7_thrown rfl rfl (n := 0) (by decide +kernel) rfl ⟨(Nat.le_of_ble_eq_true rfl), (Nat.le_of_ble_eq_true rfl)⟩ ⟨(by omega : ce + 2 + 0 + 0 ≤ 602775), (by omega : sl + 12 + 0 + 0 ≤ 7287779)⟩ (Nat.le_of_ble_eq_true rfl) dL_law_386 (fun _ _ hx => hx.elim) (fun r386 v386 h => ?_)
  refine g_iload C 1 rfl dL_law_389 ?_
  refine g_icmp_eq C 396 (by decide) dL_law_391 (fun hc => ?_) (fun hc => ?_)
  · replace h := h.1 hc
    refine g_iload C 1 rfl dL_law_396 ?_
    refine g_if_ne C 413 (by decide) dL_law_398 (fun hc => ?_) (fun hc => ?_)
    · replace h := h.1 hc
      refine g_goto C 2761 (by decide) dL_law_413 ?_
      refine g_widen (ce + 60) (sl + 360) (by omega) (by omega) ?_
      refine g_sub [(0, .ref b), (1, .ref (L.2.1 6 0)), (2, .ref (L.2.1 7 0)), (3, .ref (L.2.1 50 0)), (4, .ref (L.2.1 51 0)), (5, .int i)] [2, 3, 4, 5, 6, 7] rfl ?_
      exact hK _ h
    · replace h := h.2 hc
      refine g_aload_n C 3 rfl 5 rfl dL_law_401 ?_
      refine g_iconst C 0 (by decide) dL_law_402 ?_
      refine g_laload C dL_law_403 ?_
      refine g_iload C 0 rfl dL_law_404 ?_
      refine g_i2l C dL_law_406 ?_
      refine g_lcmp C dL_law_407 ?_
      refine g_if_eq C 413 (by decide) dL_law_408 (fun hc => ?_) (fun hc => ?_)
      · replace h := h.1 hc
        refine g_goto C 2761 (by decide) dL_law_413 ?_
        refine g_widen (ce + 60) (sl + 360) (by omega) (by omega) ?_
        refine g_sub [(0, .ref b), (1, .ref (L.2.1 6 0)), (2, .ref (L.2.1 7 0)), (3, .ref (L.2.1 50 0)), (4, .ref (L.2.1 51 0)), (5, .int i)] [2, 3, 4, 5, 6, 7] rfl ?_
        exact hK _ h
      · replace h := h.2 hc
        refine g_iconst C 0 (by decide) dL_law_411 ?_
        exact h.elim
  · replace h := h.2 hc
    refine g_iconst C 0 (by decide) dL_law_394 ?_
    exact h.elim
def TC_3 (s1 s2 s3 : Int32) (v : gMem) (Q : gMem → Prop) : Prop := (TX6_cards v (fun r417 v417 => (TX7_cards v417 (fun r421 v421 => ((r417 = r421 → (Q v421)) ∧ (¬ r417 = r421 → False))) (fun _ _ => False))) (fun _ _ => False))
theorem kC_3 (C : gC p l s m args meth c cL_law 8 RL L sz) {b Ln : Nat} {xs : Nat → Int32} (hX : va_X b Ln xs s s.heap) (hbl : b < s.heap.size) (hbA : ¬ gA L sz b) {i s1 s2 s3 : Int32} (h1 : vp_in (i + 1) Ln) (h2 : vp_in (i + 2) Ln) (h3 : vp_in (i + 3) Ln) (e1 : xs (i + 1).toNatClampNeg = s1) (e2 : xs (i + 2).toNatClampNeg = s2) (e3 : xs (i + 3).toNatClampNeg = s3) {ce sl : Nat} (hce : ce + 60 ≤ 602775) (hsl : sl + 360 ≤ 7287779) {Q0 : State → Prop} {Q : gMem → Prop} (hK : ∀ v, Q v → gS p l e room_1 s m args below meth c 8 L sz Q0 (ce + 60) (sl + 360) 2761 [(0, .ref b), (1, .ref (L.2.1 6 0)), (2, .ref (L.2.1 7 0)), (3, .ref (L.2.1 50 0)), (4, .ref (L.2.1 51 0)), (5, .int i)] [] v) {v : gMem} (h : TC_3 s1 s2 s3 v Q) : gS p l e room_1 s m args below meth c 8 L sz Q0 ce sl 416 [(0, .ref b), (1, .ref (L.2.1 6 0)), (2, .ref (L.2.1 7 0)), (3, .ref (L.2.1 50 0)), (4, .ref (L.2.1 51 0)), (5, .int i)] [] v := by
  unfold TC_3 at h
  refine g_aload_n C 1 rfl 1 rfl dL_law_416 ?_
  refine g_gcallVi C gok_6 rfl rfl [] (fun sz9 => kX6_cards l C.2.2.2.2.2.2.1 L C.2.2.2.2.2.2.2.1 v _ _ h sz9) wml_RL_167 winst_X6_cards wsel_X6_cards wini_RX6 wcode_X6_cards rfl rfl (n := 0) (by decide +kernel) rfl ⟨(Nat.le_of_ble_eq_true rfl), (Nat.le_of_ble_eq_true rfl)⟩ ⟨(by omega : ce + 0 ≤ 602775), (by omega : sl + 0 ≤ 7287779)⟩ (Nat.le_of_ble_eq_true rfl) dL_law_417 (fun _ _ hx => hx.elim) (fun r417 v417 h => ?_)
  refine g_aload_n C 2 rfl 2 rfl dL_law_420 ?_
  refine g_gcallVi C gok_7 rfl rfl [] (fun sz9 => kX7_cards l C.2.2.2.2.2.2.1 L C.2.2.2.2.2.2.2.1 v417 _ _ h sz9) wml_RL_170 winst_X7_cards wsel_X7_cards wini_RX7 wcode_X7_cards rfl rfl (n := 0) (by decide +kernel) rfl ⟨(Nat.le_of_ble_eq_true rfl), (Nat.le_of_ble_eq_true rfl)⟩ ⟨(by omega : ce + 0 + 0 ≤ 602775), (by omega : sl + 0 + 0 ≤ 7287779)⟩ (Nat.le_of_ble_eq_true rfl) dL_law_421 (fun _ _ hx => hx.elim) (fun r421 v421 h => ?_)
  refine g_icmp_eq C 2761 (by decide) dL_law_424 (fun hc => ?_) (fun hc => ?_)
  · replace h := h.1 hc
    refine g_widen (ce + 60) (sl + 360) (by omega) (by omega) ?_
    exact hK _ h
  · replace h := h.2 hc
    refine g_iconst C 0 (by decide) dL_law_427 ?_
    exact h.elim
def TC_4 (s1 s2 s3 : Int32) (v : gMem) (Q : gMem → Prop) : Prop := (TL_letter s1 (UInt32.toInt32 ((Int32.toUInt32 s2) % 65536)) v (fun r444 v444 => (TX7_letter s1 (UInt32.toInt32 ((Int32.toUInt32 s2) % 65536)) v444 (fun r463 v463 => (TX7_thrown v463 (fun r469 v469 => ((r469 = r444 → ((¬ r444 = 0 → (Q v469)) ∧ (r444 = 0 → (((lg_cmp (Int32.toInt64 (v469 50 0 0)) (Int32.toInt64 r463)) = 0 → (Q v469)) ∧ (¬ (lg_cmp (Int32.toInt64 (v469 50 0 0)) (Int32.toInt64 r463)) = 0 → False))))) ∧ (¬ r469 = r444 → False))) (fun _ _ => False))) (fun _ _ => False))) (fun _ _ => False))
theorem kC_4 (C : gC p l s m args meth c cL_law 8 RL L sz) {b Ln : Nat} {xs : Nat → Int32} (hX : va_X b Ln xs s s.heap) (hbl : b < s.heap.size) (hbA : ¬ gA L sz b) {i s1 s2 s3 : Int32} (h1 : vp_in (i + 1) Ln) (h2 : vp_in (i + 2) Ln) (h3 : vp_in (i + 3) Ln) (e1 : xs (i + 1).toNatClampNeg = s1) (e2 : xs (i + 2).toNatClampNeg = s2) (e3 : xs (i + 3).toNatClampNeg = s3) {ce sl : Nat} (hce : ce + 60 ≤ 602775) (hsl : sl + 360 ≤ 7287779) {Q0 : State → Prop} {Q : gMem → Prop} (hK : ∀ v, Q v → gS p l e room_1 s m args below meth c 8 L sz Q0 (ce + 60) (sl + 360) 2761 [(0, .ref b), (1, .ref (L.2.1 6 0)), (2, .ref (L.2.1 7 0)), (3, .ref (L.2.1 50 0)), (4, .ref (L.2.1 51 0)), (5, .int i)] [] v) {v : gMem} (h : TC_4 s1 s2 s3 v Q) : gS p l e room_1 s m args below meth c 8 L sz Q0 ce sl 429 [(0, .ref b), (1, .ref (L.2.1 6 0)), (2, .ref (L.2.1 7 0)), (3, .ref (L.2.1 50 0)), (4, .ref (L.2.1 51 0)), (5, .int i)] [] v := by
  unfold TC_4 at h
  refine g_aload_n C 1 rfl 1 rfl dL_law_429 ?_
  refine g_aload_n C 0 rfl 0 rfl dL_law_430 ?_
  refine g_iload C 5 rfl dL_law_431 ?_
  refine g_iconst C 1 (by decide) dL_law_433 ?_
  refine g_iadd C dL_law_434 ?_
  refine g_sld C hX hbl hbA s1 h1 e1 dL_law_435 ?_
  refine g_aload_n C 0 rfl 0 rfl dL_law_436 ?_
  refine g_iload C 5 rfl dL_law_437 ?_
  refine g_iconst C 2 (by decide) dL_law_439 ?_
  refine g_iadd C dL_law_440 ?_
  refine g_sld C hX hbl hbA s2 h2 e2 dL_law_441 ?_
  refine g_i2c C dL_law_442 ?_
  refine g_aload_n C 3 rfl 3 rfl dL_law_443 ?_
  refine g_gcallSXi C [.ref (L.2.1 6 0), .int s1, .int (UInt32.toInt32 ((Int32.toUInt32 s2) % 65536)), .ref (L.2.1 50 0)] (fun sz9 => kL_letter l C.2.2.2.2.2.2.1 L C.2.2.2.2.2.2.2.1 s1 (UInt32.toInt32 ((Int32.toUInt32 s2) % 65536)) v _ _ h sz9) wml_RL_171 wstat_L_letter wini_RL wcw_L_letter rfl rfl (n := 4) (by decide +kernel) rfl ⟨(Nat.le_of_ble_eq_true rfl), (Nat.le_of_ble_eq_true rfl)⟩ ⟨(by omega : ce + 3 ≤ 602775), (by omega : sl + 18 ≤ 7287779)⟩ (Nat.le_of_ble_eq_true rfl) dL_law_444 (fun _ _ hx => hx.elim) (fun r444 v444 h => ?_)
  refine g_istore C [(6, .int r444), (0, .ref b), (1, .ref (L.2.1 6 0)), (2, .ref (L.2.1 7 0)), (3, .ref (L.2.1 50 0)), (4, .ref (L.2.1 51 0)), (5, .int i)] (Nat.le_of_ble_eq_true rfl) rfl dL_law_447 ?_
  refine g_aload_n C 2 rfl 3 rfl dL_law_449 ?_
  refine g_aload_n C 0 rfl 1 rfl dL_law_450 ?_
  refine g_iload C 6 rfl dL_law_451 ?_
  refine g_iconst C 1 (by decide) dL_law_453 ?_
  refine g_iadd C dL_law_454 ?_
  refine g_sld C hX hbl hbA s1 h1 e1 dL_law_455 ?_
  refine g_aload_n C 0 rfl 1 rfl dL_law_456 ?_
  refine g_iload C 6 rfl dL_law_457 ?_
  refine g_iconst C 2 (by decide) dL_law_459 ?_
  refine g_iadd C dL_law_460 ?_
  refine g_sld C hX hbl hbA s2 h2 e2 dL_law_461 ?_
  refine g_i2c C dL_law_462 ?_
  refine g_gcallVi C gok_7 rfl rfl [.int s1, .int (UInt32.toInt32 ((Int32.toUInt32 s2) % 65536))] (fun sz9 => kX7_letter l C.2.2.2.2.2.2.1 L C.2.2.2.2.2.2.2.1 s1 (UInt32.toInt32 ((Int32.toUInt32 s2) % 65536)) v444 _ _ h sz9) wml_RL_174 winst_X7_letter wsel_X7_letter wini_RX7 wcode_X7_letter rfl rfl (n := 2) (by decide +kernel) rfl ⟨(Nat.le_of_ble_eq_true rfl), (Nat.le_of_ble_eq_true rfl)⟩ ⟨(by omega : ce + 3 + 0 ≤ 602775), (by omega : sl + 18 + 0 ≤ 7287779)⟩ (Nat.le_of_ble_eq_true rfl) dL_law_463 (fun _ _ hx => hx.elim) (fun r463 v463 h => ?_)
  refine g_istore C [(7, .int r463), (6, .int r444), (0, .ref b), (1, .ref (L.2.1 6 0)), (2, .ref (L.2.1 7 0)), (3, .ref (L.2.1 50 0)), (4, .ref (L.2.1 51 0)), (5, .int i)] (Nat.le_of_ble_eq_true rfl) rfl dL_law_466 ?_
  refine g_aload_n C 2 rfl 4 rfl dL_law_468 ?_
  refine g_gcallVi C gok_7 rfl rfl [] (fun sz9 => kX7_thrown l C.2.2.2.2.2.2.1 L C.2.2.2.2.2.2.2.1 v463 _ _ h sz9) wml_RL_157 winst_X7_thrown wsel_X7_thrown wini_RX7 wcode_X7_thrown rfl rfl (n := 0) (by decide +kernel) rfl ⟨(Nat.le_of_ble_eq_true rfl), (Nat.le_of_ble_eq_true rfl)⟩ ⟨(by omega : ce + 3 + 0 + 0 ≤ 602775), (by omega : sl + 18 + 0 + 0 ≤ 7287779)⟩ (Nat.le_of_ble_eq_true rfl) dL_law_469 (fun _ _ hx => hx.elim) (fun r469 v469 h => ?_)
  refine g_iload C 1 rfl dL_law_472 ?_
  refine g_icmp_eq C 479 (by decide) dL_law_474 (fun hc => ?_) (fun hc => ?_)
  · replace h := h.1 hc
    refine g_iload C 1 rfl dL_law_479 ?_
    refine g_if_ne C 496 (by decide) dL_law_481 (fun hc => ?_) (fun hc => ?_)
    · replace h := h.1 hc
      refine g_goto C 2761 (by decide) dL_law_496 ?_
      refine g_widen (ce + 60) (sl + 360) (by omega) (by omega) ?_
      refine g_sub [(0, .ref b), (1, .ref (L.2.1 6 0)), (2, .ref (L.2.1 7 0)), (3, .ref (L.2.1 50 0)), (4, .ref (L.2.1 51 0)), (5, .int i)] [2, 3, 4, 5, 6, 7] rfl ?_
      exact hK _ h
    · replace h := h.2 hc
      refine g_aload_n C 3 rfl 5 rfl dL_law_484 ?_
      refine g_iconst C 0 (by decide) dL_law_485 ?_
      refine g_laload C dL_law_486 ?_
      refine g_iload C 0 rfl dL_law_487 ?_
      refine g_i2l C dL_law_489 ?_
      refine g_lcmp C dL_law_490 ?_
      refine g_if_eq C 496 (by decide) dL_law_491 (fun hc => ?_) (fun hc => ?_)
      · replace h := h.1 hc
        refine g_goto C 2761 (by decide) dL_law_496 ?_
        refine g_widen (ce + 60) (sl + 360) (by omega) (by omega) ?_
        refine g_sub [(0, .ref b), (1, .ref (L.2.1 6 0)), (2, .ref (L.2.1 7 0)), (3, .ref (L.2.1 50 0)), (4, .ref (L.2.1 51 0)), (5, .int i)] [2, 3, 4, 5, 6, 7] rfl ?_
        exact hK _ h
      · replace h := h.2 hc
        refine g_iconst C 0 (by decide) dL_law_494 ?_
        exact h.elim
  · replace h := h.2 hc
    refine g_iconst C 0 (by decide) dL_law_477 ?_
    exact h.elim
def TC_5 (s1 s2 s3 : Int32) (v : gMem) (Q : gMem → Prop) : Prop := (TL_clearName s1 v (fun r507 v507 => (TX7_clearName s1 v507 (fun r519 v519 => (TX7_thrown v519 (fun r525 v525 => ((r525 = r507 → ((¬ r507 = 0 → (Q v525)) ∧ (r507 = 0 → (((lg_cmp (Int32.toInt64 (v525 50 0 0)) (Int32.toInt64 r519)) = 0 → (Q v525)) ∧ (¬ (lg_cmp (Int32.toInt64 (v525 50 0 0)) (Int32.toInt64 r519)) = 0 → False))))) ∧ (¬ r525 = r507 → False))) (fun _ _ => False))) (fun _ _ => False))) (fun _ _ => False))
theorem kC_5 (C : gC p l s m args meth c cL_law 8 RL L sz) {b Ln : Nat} {xs : Nat → Int32} (hX : va_X b Ln xs s s.heap) (hbl : b < s.heap.size) (hbA : ¬ gA L sz b) {i s1 s2 s3 : Int32} (h1 : vp_in (i + 1) Ln) (h2 : vp_in (i + 2) Ln) (h3 : vp_in (i + 3) Ln) (e1 : xs (i + 1).toNatClampNeg = s1) (e2 : xs (i + 2).toNatClampNeg = s2) (e3 : xs (i + 3).toNatClampNeg = s3) {ce sl : Nat} (hce : ce + 60 ≤ 602775) (hsl : sl + 360 ≤ 7287779) {Q0 : State → Prop} {Q : gMem → Prop} (hK : ∀ v, Q v → gS p l e room_1 s m args below meth c 8 L sz Q0 (ce + 60) (sl + 360) 2761 [(0, .ref b), (1, .ref (L.2.1 6 0)), (2, .ref (L.2.1 7 0)), (3, .ref (L.2.1 50 0)), (4, .ref (L.2.1 51 0)), (5, .int i)] [] v) {v : gMem} (h : TC_5 s1 s2 s3 v Q) : gS p l e room_1 s m args below meth c 8 L sz Q0 ce sl 499 [(0, .ref b), (1, .ref (L.2.1 6 0)), (2, .ref (L.2.1 7 0)), (3, .ref (L.2.1 50 0)), (4, .ref (L.2.1 51 0)), (5, .int i)] [] v := by
  unfold TC_5 at h
  refine g_aload_n C 1 rfl 1 rfl dL_law_499 ?_
  refine g_aload_n C 0 rfl 0 rfl dL_law_500 ?_
  refine g_iload C 5 rfl dL_law_501 ?_
  refine g_iconst C 1 (by decide) dL_law_503 ?_
  refine g_iadd C dL_law_504 ?_
  refine g_sld C hX hbl hbA s1 h1 e1 dL_law_505 ?_
  refine g_aload_n C 3 rfl 3 rfl dL_law_506 ?_
  refine g_gcallSXi C [.ref (L.2.1 6 0), .int s1, .ref (L.2.1 50 0)] (fun sz9 => kL_clearName l C.2.2.2.2.2.2.1 L C.2.2.2.2.2.2.2.1 s1 v _ _ h sz9) wml_RL_175 wstat_L_clearName wini_RL wcw_L_clearName rfl rfl (n := 3) (by decide +kernel) rfl ⟨(Nat.le_of_ble_eq_true rfl), (Nat.le_of_ble_eq_true rfl)⟩ ⟨(by omega : ce + 1 ≤ 602775), (by omega : sl + 6 ≤ 7287779)⟩ (Nat.le_of_ble_eq_true rfl) dL_law_507 (fun _ _ hx => hx.elim) (fun r507 v507 h => ?_)
  refine g_istore C [(6, .int r507), (0, .ref b), (1, .ref (L.2.1 6 0)), (2, .ref (L.2.1 7 0)), (3, .ref (L.2.1 50 0)), (4, .ref (L.2.1 51 0)), (5, .int i)] (Nat.le_of_ble_eq_true rfl) rfl dL_law_510 ?_
  refine g_aload_n C 2 rfl 3 rfl dL_law_512 ?_
  refine g_aload_n C 0 rfl 1 rfl dL_law_513 ?_
  refine g_iload C 6 rfl dL_law_514 ?_
  refine g_iconst C 1 (by decide) dL_law_516 ?_
  refine g_iadd C dL_law_517 ?_
  refine g_sld C hX hbl hbA s1 h1 e1 dL_law_518 ?_
  refine g_gcallVi C gok_7 rfl rfl [.int s1] (fun sz9 => kX7_clearName l C.2.2.2.2.2.2.1 L C.2.2.2.2.2.2.2.1 s1 v507 _ _ h sz9) wml_RL_177 winst_X7_clearName wsel_X7_clearName wini_RX7 wcode_X7_clearName rfl rfl (n := 1) (by decide +kernel) rfl ⟨(Nat.le_of_ble_eq_true rfl), (Nat.le_of_ble_eq_true rfl)⟩ ⟨(by omega : ce + 1 + 0 ≤ 602775), (by omega : sl + 6 + 0 ≤ 7287779)⟩ (Nat.le_of_ble_eq_true rfl) dL_law_519 (fun _ _ hx => hx.elim) (fun r519 v519 h => ?_)
  refine g_istore C [(7, .int r519), (6, .int r507), (0, .ref b), (1, .ref (L.2.1 6 0)), (2, .ref (L.2.1 7 0)), (3, .ref (L.2.1 50 0)), (4, .ref (L.2.1 51 0)), (5, .int i)] (Nat.le_of_ble_eq_true rfl) rfl dL_law_522 ?_
  refine g_aload_n C 2 rfl 4 rfl dL_law_524 ?_
  refine g_gcallVi C gok_7 rfl rfl [] (fun sz9 => kX7_thrown l C.2.2.2.2.2.2.1 L C.2.2.2.2.2.2.2.1 v519 _ _ h sz9) wml_RL_157 winst_X7_thrown wsel_X7_thrown wini_RX7 wcode_X7_thrown rfl rfl (n := 0) (by decide +kernel) rfl ⟨(Nat.le_of_ble_eq_true rfl), (Nat.le_of_ble_eq_true rfl)⟩ ⟨(by omega : ce + 1 + 0 + 0 ≤ 602775), (by omega : sl + 6 + 0 + 0 ≤ 7287779)⟩ (Nat.le_of_ble_eq_true rfl) dL_law_525 (fun _ _ hx => hx.elim) (fun r525 v525 h => ?_)
  refine g_iload C 1 rfl dL_law_528 ?_
  refine g_icmp_eq C 535 (by decide) dL_law_530 (fun hc => ?_) (fun hc => ?_)
  · replace h := h.1 hc
    refine g_iload C 1 rfl dL_law_535 ?_
    refine g_if_ne C 552 (by decide) dL_law_537 (fun hc => ?_) (fun hc => ?_)
    · replace h := h.1 hc
      refine g_goto C 2761 (by decide) dL_law_552 ?_
      refine g_widen (ce + 60) (sl + 360) (by omega) (by omega) ?_
      refine g_sub [(0, .ref b), (1, .ref (L.2.1 6 0)), (2, .ref (L.2.1 7 0)), (3, .ref (L.2.1 50 0)), (4, .ref (L.2.1 51 0)), (5, .int i)] [2, 3, 4, 5, 6, 7] rfl ?_
      exact hK _ h
    · replace h := h.2 hc
      refine g_aload_n C 3 rfl 5 rfl dL_law_540 ?_
      refine g_iconst C 0 (by decide) dL_law_541 ?_
      refine g_laload C dL_law_542 ?_
      refine g_iload C 0 rfl dL_law_543 ?_
      refine g_i2l C dL_law_545 ?_
      refine g_lcmp C dL_law_546 ?_
      refine g_if_eq C 552 (by decide) dL_law_547 (fun hc => ?_) (fun hc => ?_)
      · replace h := h.1 hc
        refine g_goto C 2761 (by decide) dL_law_552 ?_
        refine g_widen (ce + 60) (sl + 360) (by omega) (by omega) ?_
        refine g_sub [(0, .ref b), (1, .ref (L.2.1 6 0)), (2, .ref (L.2.1 7 0)), (3, .ref (L.2.1 50 0)), (4, .ref (L.2.1 51 0)), (5, .int i)] [2, 3, 4, 5, 6, 7] rfl ?_
        exact hK _ h
      · replace h := h.2 hc
        refine g_iconst C 0 (by decide) dL_law_550 ?_
        exact h.elim
  · replace h := h.2 hc
    refine g_iconst C 0 (by decide) dL_law_533 ?_
    exact h.elim
def TC_6 (s1 s2 s3 : Int32) (v : gMem) (Q : gMem → Prop) : Prop := (TL_setNumber s1 s2 s3 v (fun r575 v575 => (TX7_setNumber s1 s2 s3 v575 (fun r599 v599 => (TX7_thrown v599 (fun r605 v605 => ((r605 = r575 → ((¬ r575 = 0 → (Q v605)) ∧ (r575 = 0 → (((lg_cmp (Int32.toInt64 (v605 50 0 0)) (Int32.toInt64 r599)) = 0 → (Q v605)) ∧ (¬ (lg_cmp (Int32.toInt64 (v605 50 0 0)) (Int32.toInt64 r599)) = 0 → False))))) ∧ (¬ r605 = r575 → False))) (fun _ _ => False))) (fun _ _ => False))) (fun _ _ => False))
theorem kC_6 (C : gC p l s m args meth c cL_law 8 RL L sz) {b Ln : Nat} {xs : Nat → Int32} (hX : va_X b Ln xs s s.heap) (hbl : b < s.heap.size) (hbA : ¬ gA L sz b) {i s1 s2 s3 : Int32} (h1 : vp_in (i + 1) Ln) (h2 : vp_in (i + 2) Ln) (h3 : vp_in (i + 3) Ln) (e1 : xs (i + 1).toNatClampNeg = s1) (e2 : xs (i + 2).toNatClampNeg = s2) (e3 : xs (i + 3).toNatClampNeg = s3) {ce sl : Nat} (hce : ce + 60 ≤ 602775) (hsl : sl + 360 ≤ 7287779) {Q0 : State → Prop} {Q : gMem → Prop} (hK : ∀ v, Q v → gS p l e room_1 s m args below meth c 8 L sz Q0 (ce + 60) (sl + 360) 2761 [(0, .ref b), (1, .ref (L.2.1 6 0)), (2, .ref (L.2.1 7 0)), (3, .ref (L.2.1 50 0)), (4, .ref (L.2.1 51 0)), (5, .int i)] [] v) {v : gMem} (h : TC_6 s1 s2 s3 v Q) : gS p l e room_1 s m args below meth c 8 L sz Q0 ce sl 555 [(0, .ref b), (1, .ref (L.2.1 6 0)), (2, .ref (L.2.1 7 0)), (3, .ref (L.2.1 50 0)), (4, .ref (L.2.1 51 0)), (5, .int i)] [] v := by
  unfold TC_6 at h
  refine g_aload_n C 1 rfl 1 rfl dL_law_555 ?_
  refine g_aload_n C 0 rfl 0 rfl dL_law_556 ?_
  refine g_iload C 5 rfl dL_law_557 ?_
  refine g_iconst C 1 (by decide) dL_law_559 ?_
  refine g_iadd C dL_law_560 ?_
  refine g_sld C hX hbl hbA s1 h1 e1 dL_law_561 ?_
  refine g_aload_n C 0 rfl 0 rfl dL_law_562 ?_
  refine g_iload C 5 rfl dL_law_563 ?_
  refine g_iconst C 2 (by decide) dL_law_565 ?_
  refine g_iadd C dL_law_566 ?_
  refine g_sld C hX hbl hbA s2 h2 e2 dL_law_567 ?_
  refine g_aload_n C 0 rfl 0 rfl dL_law_568 ?_
  refine g_iload C 5 rfl dL_law_569 ?_
  refine g_iconst C 3 (by decide) dL_law_571 ?_
  refine g_iadd C dL_law_572 ?_
  refine g_sld C hX hbl hbA s3 h3 e3 dL_law_573 ?_
  refine g_aload_n C 3 rfl 3 rfl dL_law_574 ?_
  refine g_gcallSXi C [.ref (L.2.1 6 0), .int s1, .int s2, .int s3, .ref (L.2.1 50 0)] (fun sz9 => kL_setNumber l C.2.2.2.2.2.2.1 L C.2.2.2.2.2.2.2.1 s1 s2 s3 v _ _ h sz9) wml_RL_178 wstat_L_setNumber wini_RL wcw_L_setNumber rfl rfl (n := 5) (by decide +kernel) rfl ⟨(Nat.le_of_ble_eq_true rfl), (Nat.le_of_ble_eq_true rfl)⟩ ⟨(by omega : ce + 3 ≤ 602775), (by omega : sl + 18 ≤ 7287779)⟩ (Nat.le_of_ble_eq_true rfl) dL_law_575 (fun _ _ hx => hx.elim) (fun r575 v575 h => ?_)
  refine g_istore C [(6, .int r575), (0, .ref b), (1, .ref (L.2.1 6 0)), (2, .ref (L.2.1 7 0)), (3, .ref (L.2.1 50 0)), (4, .ref (L.2.1 51 0)), (5, .int i)] (Nat.le_of_ble_eq_true rfl) rfl dL_law_578 ?_
  refine g_aload_n C 2 rfl 3 rfl dL_law_580 ?_
  refine g_aload_n C 0 rfl 1 rfl dL_law_581 ?_
  refine g_iload C 6 rfl dL_law_582 ?_
  refine g_iconst C 1 (by decide) dL_law_584 ?_
  refine g_iadd C dL_law_585 ?_
  refine g_sld C hX hbl hbA s1 h1 e1 dL_law_586 ?_
  refine g_aload_n C 0 rfl 1 rfl dL_law_587 ?_
  refine g_iload C 6 rfl dL_law_588 ?_
  refine g_iconst C 2 (by decide) dL_law_590 ?_
  refine g_iadd C dL_law_591 ?_
  refine g_sld C hX hbl hbA s2 h2 e2 dL_law_592 ?_
  refine g_aload_n C 0 rfl 1 rfl dL_law_593 ?_
  refine g_iload C 6 rfl dL_law_594 ?_
  refine g_iconst C 3 (by decide) dL_law_596 ?_
  refine g_iadd C dL_law_597 ?_
  refine g_sld C hX hbl hbA s3 h3 e3 dL_law_598 ?_
  refine g_gcallVi C gok_7 rfl rfl [.int s1, .int s2, .int s3] (fun sz9 => kX7_setNumber l C.2.2.2.2.2.2.1 L C.2.2.2.2.2.2.2.1 s1 s2 s3 v575 _ _ h sz9) wml_RL_181 winst_X7_setNumber wsel_X7_setNumber wini_RX7 wcode_X7_setNumber rfl rfl (n := 3) (by decide +kernel) rfl ⟨(Nat.le_of_ble_eq_true rfl), (Nat.le_of_ble_eq_true rfl)⟩ ⟨(by omega : ce + 3 + 0 ≤ 602775), (by omega : sl + 18 + 0 ≤ 7287779)⟩ (Nat.le_of_ble_eq_true rfl) dL_law_599 (fun _ _ hx => hx.elim) (fun r599 v599 h => ?_)
  refine g_istore C [(7, .int r599), (6, .int r575), (0, .ref b), (1, .ref (L.2.1 6 0)), (2, .ref (L.2.1 7 0)), (3, .ref (L.2.1 50 0)), (4, .ref (L.2.1 51 0)), (5, .int i)] (Nat.le_of_ble_eq_true rfl) rfl dL_law_602 ?_
  refine g_aload_n C 2 rfl 4 rfl dL_law_604 ?_
  refine g_gcallVi C gok_7 rfl rfl [] (fun sz9 => kX7_thrown l C.2.2.2.2.2.2.1 L C.2.2.2.2.2.2.2.1 v599 _ _ h sz9) wml_RL_157 winst_X7_thrown wsel_X7_thrown wini_RX7 wcode_X7_thrown rfl rfl (n := 0) (by decide +kernel) rfl ⟨(Nat.le_of_ble_eq_true rfl), (Nat.le_of_ble_eq_true rfl)⟩ ⟨(by omega : ce + 3 + 0 + 0 ≤ 602775), (by omega : sl + 18 + 0 + 0 ≤ 7287779)⟩ (Nat.le_of_ble_eq_true rfl) dL_law_605 (fun _ _ hx => hx.elim) (fun r605 v605 h => ?_)
  refine g_iload C 1 rfl dL_law_608 ?_
  refine g_icmp_eq C 615 (by decide) dL_law_610 (fun hc => ?_) (fun hc => ?_)
  · replace h := h.1 hc
    refine g_iload C 1 rfl dL_law_615 ?_
    refine g_if_ne C 632 (by decide) dL_law_617 (fun hc => ?_) (fun hc => ?_)
    · replace h := h.1 hc
      refine g_goto C 2761 (by decide) dL_law_632 ?_
      refine g_widen (ce + 60) (sl + 360) (by omega) (by omega) ?_
      refine g_sub [(0, .ref b), (1, .ref (L.2.1 6 0)), (2, .ref (L.2.1 7 0)), (3, .ref (L.2.1 50 0)), (4, .ref (L.2.1 51 0)), (5, .int i)] [2, 3, 4, 5, 6, 7] rfl ?_
      exact hK _ h
    · replace h := h.2 hc
      refine g_aload_n C 3 rfl 5 rfl dL_law_620 ?_
      refine g_iconst C 0 (by decide) dL_law_621 ?_
      refine g_laload C dL_law_622 ?_
      refine g_iload C 0 rfl dL_law_623 ?_
      refine g_i2l C dL_law_625 ?_
      refine g_lcmp C dL_law_626 ?_
      refine g_if_eq C 632 (by decide) dL_law_627 (fun hc => ?_) (fun hc => ?_)
      · replace h := h.1 hc
        refine g_goto C 2761 (by decide) dL_law_632 ?_
        refine g_widen (ce + 60) (sl + 360) (by omega) (by omega) ?_
        refine g_sub [(0, .ref b), (1, .ref (L.2.1 6 0)), (2, .ref (L.2.1 7 0)), (3, .ref (L.2.1 50 0)), (4, .ref (L.2.1 51 0)), (5, .int i)] [2, 3, 4, 5, 6, 7] rfl ?_
        exact hK _ h
      · replace h := h.2 hc
        refine g_iconst C 0 (by decide) dL_law_630 ?_
        exact h.elim
  · replace h := h.2 hc
    refine g_iconst C 0 (by decide) dL_law_613 ?_
    exact h.elim
def TC_7 (s1 s2 s3 : Int32) (v : gMem) (Q : gMem → Prop) : Prop := (TL_nameLength s1 v (fun r643 v643 => (TX7_nameLength s1 v643 (fun r655 v655 => (TX7_thrown v655 (fun r661 v661 => ((r661 = r643 → ((¬ r643 = 0 → (Q v661)) ∧ (r643 = 0 → (((lg_cmp (Int32.toInt64 (v661 50 0 0)) (Int32.toInt64 r655)) = 0 → (Q v661)) ∧ (¬ (lg_cmp (Int32.toInt64 (v661 50 0 0)) (Int32.toInt64 r655)) = 0 → False))))) ∧ (¬ r661 = r643 → False))) (fun _ _ => False))) (fun _ _ => False))) (fun _ _ => False))
theorem kC_7 (C : gC p l s m args meth c cL_law 8 RL L sz) {b Ln : Nat} {xs : Nat → Int32} (hX : va_X b Ln xs s s.heap) (hbl : b < s.heap.size) (hbA : ¬ gA L sz b) {i s1 s2 s3 : Int32} (h1 : vp_in (i + 1) Ln) (h2 : vp_in (i + 2) Ln) (h3 : vp_in (i + 3) Ln) (e1 : xs (i + 1).toNatClampNeg = s1) (e2 : xs (i + 2).toNatClampNeg = s2) (e3 : xs (i + 3).toNatClampNeg = s3) {ce sl : Nat} (hce : ce + 60 ≤ 602775) (hsl : sl + 360 ≤ 7287779) {Q0 : State → Prop} {Q : gMem → Prop} (hK : ∀ v, Q v → gS p l e room_1 s m args below meth c 8 L sz Q0 (ce + 60) (sl + 360) 2761 [(0, .ref b), (1, .ref (L.2.1 6 0)), (2, .ref (L.2.1 7 0)), (3, .ref (L.2.1 50 0)), (4, .ref (L.2.1 51 0)), (5, .int i)] [] v) {v : gMem} (h : TC_7 s1 s2 s3 v Q) : gS p l e room_1 s m args below meth c 8 L sz Q0 ce sl 635 [(0, .ref b), (1, .ref (L.2.1 6 0)), (2, .ref (L.2.1 7 0)), (3, .ref (L.2.1 50 0)), (4, .ref (L.2.1 51 0)), (5, .int i)] [] v := by
  unfold TC_7 at h
  refine g_aload_n C 1 rfl 1 rfl dL_law_635 ?_
  refine g_aload_n C 0 rfl 0 rfl dL_law_636 ?_
  refine g_iload C 5 rfl dL_law_637 ?_
  refine g_iconst C 1 (by decide) dL_law_639 ?_
  refine g_iadd C dL_law_640 ?_
  refine g_sld C hX hbl hbA s1 h1 e1 dL_law_641 ?_
  refine g_aload_n C 3 rfl 3 rfl dL_law_642 ?_
  refine g_gcallSXi C [.ref (L.2.1 6 0), .int s1, .ref (L.2.1 50 0)] (fun sz9 => kL_nameLength l C.2.2.2.2.2.2.1 L C.2.2.2.2.2.2.2.1 s1 v _ _ h sz9) wml_RL_182 wstat_L_nameLength wini_RL wcw_L_nameLength rfl rfl (n := 3) (by decide +kernel) rfl ⟨(Nat.le_of_ble_eq_true rfl), (Nat.le_of_ble_eq_true rfl)⟩ ⟨(by omega : ce + 1 ≤ 602775), (by omega : sl + 6 ≤ 7287779)⟩ (Nat.le_of_ble_eq_true rfl) dL_law_643 (fun _ _ hx => hx.elim) (fun r643 v643 h => ?_)
  refine g_istore C [(6, .int r643), (0, .ref b), (1, .ref (L.2.1 6 0)), (2, .ref (L.2.1 7 0)), (3, .ref (L.2.1 50 0)), (4, .ref (L.2.1 51 0)), (5, .int i)] (Nat.le_of_ble_eq_true rfl) rfl dL_law_646 ?_
  refine g_aload_n C 2 rfl 3 rfl dL_law_648 ?_
  refine g_aload_n C 0 rfl 1 rfl dL_law_649 ?_
  refine g_iload C 6 rfl dL_law_650 ?_
  refine g_iconst C 1 (by decide) dL_law_652 ?_
  refine g_iadd C dL_law_653 ?_
  refine g_sld C hX hbl hbA s1 h1 e1 dL_law_654 ?_
  refine g_gcallVi C gok_7 rfl rfl [.int s1] (fun sz9 => kX7_nameLength l C.2.2.2.2.2.2.1 L C.2.2.2.2.2.2.2.1 s1 v643 _ _ h sz9) wml_RL_184 winst_X7_nameLength wsel_X7_nameLength wini_RX7 wcode_X7_nameLength rfl rfl (n := 1) (by decide +kernel) rfl ⟨(Nat.le_of_ble_eq_true rfl), (Nat.le_of_ble_eq_true rfl)⟩ ⟨(by omega : ce + 1 + 0 ≤ 602775), (by omega : sl + 6 + 0 ≤ 7287779)⟩ (Nat.le_of_ble_eq_true rfl) dL_law_655 (fun _ _ hx => hx.elim) (fun r655 v655 h => ?_)
  refine g_istore C [(7, .int r655), (6, .int r643), (0, .ref b), (1, .ref (L.2.1 6 0)), (2, .ref (L.2.1 7 0)), (3, .ref (L.2.1 50 0)), (4, .ref (L.2.1 51 0)), (5, .int i)] (Nat.le_of_ble_eq_true rfl) rfl dL_law_658 ?_
  refine g_aload_n C 2 rfl 4 rfl dL_law_660 ?_
  refine g_gcallVi C gok_7 rfl rfl [] (fun sz9 => kX7_thrown l C.2.2.2.2.2.2.1 L C.2.2.2.2.2.2.2.1 v655 _ _ h sz9) wml_RL_157 winst_X7_thrown wsel_X7_thrown wini_RX7 wcode_X7_thrown rfl rfl (n := 0) (by decide +kernel) rfl ⟨(Nat.le_of_ble_eq_true rfl), (Nat.le_of_ble_eq_true rfl)⟩ ⟨(by omega : ce + 1 + 0 + 0 ≤ 602775), (by omega : sl + 6 + 0 + 0 ≤ 7287779)⟩ (Nat.le_of_ble_eq_true rfl) dL_law_661 (fun _ _ hx => hx.elim) (fun r661 v661 h => ?_)
  refine g_iload C 1 rfl dL_law_664 ?_
  refine g_icmp_eq C 671 (by decide) dL_law_666 (fun hc => ?_) (fun hc => ?_)
  · replace h := h.1 hc
    refine g_iload C 1 rfl dL_law_671 ?_
    refine g_if_ne C 688 (by decide) dL_law_673 (fun hc => ?_) (fun hc => ?_)
    · replace h := h.1 hc
      refine g_goto C 2761 (by decide) dL_law_688 ?_
      refine g_widen (ce + 60) (sl + 360) (by omega) (by omega) ?_
      refine g_sub [(0, .ref b), (1, .ref (L.2.1 6 0)), (2, .ref (L.2.1 7 0)), (3, .ref (L.2.1 50 0)), (4, .ref (L.2.1 51 0)), (5, .int i)] [2, 3, 4, 5, 6, 7] rfl ?_
      exact hK _ h
    · replace h := h.2 hc
      refine g_aload_n C 3 rfl 5 rfl dL_law_676 ?_
      refine g_iconst C 0 (by decide) dL_law_677 ?_
      refine g_laload C dL_law_678 ?_
      refine g_iload C 0 rfl dL_law_679 ?_
      refine g_i2l C dL_law_681 ?_
      refine g_lcmp C dL_law_682 ?_
      refine g_if_eq C 688 (by decide) dL_law_683 (fun hc => ?_) (fun hc => ?_)
      · replace h := h.1 hc
        refine g_goto C 2761 (by decide) dL_law_688 ?_
        refine g_widen (ce + 60) (sl + 360) (by omega) (by omega) ?_
        refine g_sub [(0, .ref b), (1, .ref (L.2.1 6 0)), (2, .ref (L.2.1 7 0)), (3, .ref (L.2.1 50 0)), (4, .ref (L.2.1 51 0)), (5, .int i)] [2, 3, 4, 5, 6, 7] rfl ?_
        exact hK _ h
      · replace h := h.2 hc
        refine g_iconst C 0 (by decide) dL_law_686 ?_
        exact h.elim
  · replace h := h.2 hc
    refine g_iconst C 0 (by decide) dL_law_669 ?_
    exact h.elim
def TC_8 (s1 s2 s3 : Int32) (v : gMem) (Q : gMem → Prop) : Prop := (TL_nameAt s1 s2 v (fun r705 v705 => (TX7_nameAt s1 s2 v705 (fun r723 v723 => (TX7_thrown v723 (fun r729 v729 => ((r729 = r705 → ((¬ r705 = 0 → (Q v729)) ∧ (r705 = 0 → (((lg_cmp (Int32.toInt64 (v729 50 0 0)) (Int32.toInt64 r723)) = 0 → (Q v729)) ∧ (¬ (lg_cmp (Int32.toInt64 (v729 50 0 0)) (Int32.toInt64 r723)) = 0 → False))))) ∧ (¬ r729 = r705 → False))) (fun _ _ => False))) (fun _ _ => False))) (fun _ _ => False))
theorem kC_8 (C : gC p l s m args meth c cL_law 8 RL L sz) {b Ln : Nat} {xs : Nat → Int32} (hX : va_X b Ln xs s s.heap) (hbl : b < s.heap.size) (hbA : ¬ gA L sz b) {i s1 s2 s3 : Int32} (h1 : vp_in (i + 1) Ln) (h2 : vp_in (i + 2) Ln) (h3 : vp_in (i + 3) Ln) (e1 : xs (i + 1).toNatClampNeg = s1) (e2 : xs (i + 2).toNatClampNeg = s2) (e3 : xs (i + 3).toNatClampNeg = s3) {ce sl : Nat} (hce : ce + 60 ≤ 602775) (hsl : sl + 360 ≤ 7287779) {Q0 : State → Prop} {Q : gMem → Prop} (hK : ∀ v, Q v → gS p l e room_1 s m args below meth c 8 L sz Q0 (ce + 60) (sl + 360) 2761 [(0, .ref b), (1, .ref (L.2.1 6 0)), (2, .ref (L.2.1 7 0)), (3, .ref (L.2.1 50 0)), (4, .ref (L.2.1 51 0)), (5, .int i)] [] v) {v : gMem} (h : TC_8 s1 s2 s3 v Q) : gS p l e room_1 s m args below meth c 8 L sz Q0 ce sl 691 [(0, .ref b), (1, .ref (L.2.1 6 0)), (2, .ref (L.2.1 7 0)), (3, .ref (L.2.1 50 0)), (4, .ref (L.2.1 51 0)), (5, .int i)] [] v := by
  unfold TC_8 at h
  refine g_aload_n C 1 rfl 1 rfl dL_law_691 ?_
  refine g_aload_n C 0 rfl 0 rfl dL_law_692 ?_
  refine g_iload C 5 rfl dL_law_693 ?_
  refine g_iconst C 1 (by decide) dL_law_695 ?_
  refine g_iadd C dL_law_696 ?_
  refine g_sld C hX hbl hbA s1 h1 e1 dL_law_697 ?_
  refine g_aload_n C 0 rfl 0 rfl dL_law_698 ?_
  refine g_iload C 5 rfl dL_law_699 ?_
  refine g_iconst C 2 (by decide) dL_law_701 ?_
  refine g_iadd C dL_law_702 ?_
  refine g_sld C hX hbl hbA s2 h2 e2 dL_law_703 ?_
  refine g_aload_n C 3 rfl 3 rfl dL_law_704 ?_
  refine g_gcallSXi C [.ref (L.2.1 6 0), .int s1, .int s2, .ref (L.2.1 50 0)] (fun sz9 => kL_nameAt l C.2.2.2.2.2.2.1 L C.2.2.2.2.2.2.2.1 s1 s2 v _ _ h sz9) wml_RL_185 wstat_L_nameAt wini_RL wcw_L_nameAt rfl rfl (n := 4) (by decide +kernel) rfl ⟨(Nat.le_of_ble_eq_true rfl), (Nat.le_of_ble_eq_true rfl)⟩ ⟨(by omega : ce + 2 ≤ 602775), (by omega : sl + 12 ≤ 7287779)⟩ (Nat.le_of_ble_eq_true rfl) dL_law_705 (fun _ _ hx => hx.elim) (fun r705 v705 h => ?_)
  refine g_istore C [(6, .int r705), (0, .ref b), (1, .ref (L.2.1 6 0)), (2, .ref (L.2.1 7 0)), (3, .ref (L.2.1 50 0)), (4, .ref (L.2.1 51 0)), (5, .int i)] (Nat.le_of_ble_eq_true rfl) rfl dL_law_708 ?_
  refine g_aload_n C 2 rfl 3 rfl dL_law_710 ?_
  refine g_aload_n C 0 rfl 1 rfl dL_law_711 ?_
  refine g_iload C 6 rfl dL_law_712 ?_
  refine g_iconst C 1 (by decide) dL_law_714 ?_
  refine g_iadd C dL_law_715 ?_
  refine g_sld C hX hbl hbA s1 h1 e1 dL_law_716 ?_
  refine g_aload_n C 0 rfl 1 rfl dL_law_717 ?_
  refine g_iload C 6 rfl dL_law_718 ?_
  refine g_iconst C 2 (by decide) dL_law_720 ?_
  refine g_iadd C dL_law_721 ?_
  refine g_sld C hX hbl hbA s2 h2 e2 dL_law_722 ?_
  refine g_gcallVi C gok_7 rfl rfl [.int s1, .int s2] (fun sz9 => kX7_nameAt l C.2.2.2.2.2.2.1 L C.2.2.2.2.2.2.2.1 s1 s2 v705 _ _ h sz9) wml_RL_187 winst_X7_nameAt wsel_X7_nameAt wini_RX7 wcode_X7_nameAt rfl rfl (n := 2) (by decide +kernel) rfl ⟨(Nat.le_of_ble_eq_true rfl), (Nat.le_of_ble_eq_true rfl)⟩ ⟨(by omega : ce + 2 + 0 ≤ 602775), (by omega : sl + 12 + 0 ≤ 7287779)⟩ (Nat.le_of_ble_eq_true rfl) dL_law_723 (fun _ _ hx => hx.elim) (fun r723 v723 h => ?_)
  refine g_istore C [(7, .int r723), (6, .int r705), (0, .ref b), (1, .ref (L.2.1 6 0)), (2, .ref (L.2.1 7 0)), (3, .ref (L.2.1 50 0)), (4, .ref (L.2.1 51 0)), (5, .int i)] (Nat.le_of_ble_eq_true rfl) rfl dL_law_726 ?_
  refine g_aload_n C 2 rfl 4 rfl dL_law_728 ?_
  refine g_gcallVi C gok_7 rfl rfl [] (fun sz9 => kX7_thrown l C.2.2.2.2.2.2.1 L C.2.2.2.2.2.2.2.1 v723 _ _ h sz9) wml_RL_157 winst_X7_thrown wsel_X7_thrown wini_RX7 wcode_X7_thrown rfl rfl (n := 0) (by decide +kernel) rfl ⟨(Nat.le_of_ble_eq_true rfl), (Nat.le_of_ble_eq_true rfl)⟩ ⟨(by omega : ce + 2 + 0 + 0 ≤ 602775), (by omega : sl + 12 + 0 + 0 ≤ 7287779)⟩ (Nat.le_of_ble_eq_true rfl) dL_law_729 (fun _ _ hx => hx.elim) (fun r729 v729 h => ?_)
  refine g_iload C 1 rfl dL_law_732 ?_
  refine g_icmp_eq C 739 (by decide) dL_law_734 (fun hc => ?_) (fun hc => ?_)
  · replace h := h.1 hc
    refine g_iload C 1 rfl dL_law_739 ?_
    refine g_if_ne C 756 (by decide) dL_law_741 (fun hc => ?_) (fun hc => ?_)
    · replace h := h.1 hc
      refine g_goto C 2761 (by decide) dL_law_756 ?_
      refine g_widen (ce + 60) (sl + 360) (by omega) (by omega) ?_
      refine g_sub [(0, .ref b), (1, .ref (L.2.1 6 0)), (2, .ref (L.2.1 7 0)), (3, .ref (L.2.1 50 0)), (4, .ref (L.2.1 51 0)), (5, .int i)] [2, 3, 4, 5, 6, 7] rfl ?_
      exact hK _ h
    · replace h := h.2 hc
      refine g_aload_n C 3 rfl 5 rfl dL_law_744 ?_
      refine g_iconst C 0 (by decide) dL_law_745 ?_
      refine g_laload C dL_law_746 ?_
      refine g_iload C 0 rfl dL_law_747 ?_
      refine g_i2l C dL_law_749 ?_
      refine g_lcmp C dL_law_750 ?_
      refine g_if_eq C 756 (by decide) dL_law_751 (fun hc => ?_) (fun hc => ?_)
      · replace h := h.1 hc
        refine g_goto C 2761 (by decide) dL_law_756 ?_
        refine g_widen (ce + 60) (sl + 360) (by omega) (by omega) ?_
        refine g_sub [(0, .ref b), (1, .ref (L.2.1 6 0)), (2, .ref (L.2.1 7 0)), (3, .ref (L.2.1 50 0)), (4, .ref (L.2.1 51 0)), (5, .int i)] [2, 3, 4, 5, 6, 7] rfl ?_
        exact hK _ h
      · replace h := h.2 hc
        refine g_iconst C 0 (by decide) dL_law_754 ?_
        exact h.elim
  · replace h := h.2 hc
    refine g_iconst C 0 (by decide) dL_law_737 ?_
    exact h.elim
def TC_9 (s1 s2 s3 : Int32) (v : gMem) (Q : gMem → Prop) : Prop := (TL_soundAt s1 s2 v (fun r773 v773 => (TX7_soundAt s1 s2 v773 (fun r791 v791 => (TX7_thrown v791 (fun r797 v797 => ((r797 = r773 → ((¬ r773 = 0 → (Q v797)) ∧ (r773 = 0 → (((lg_cmp (Int32.toInt64 (v797 50 0 0)) (Int32.toInt64 r791)) = 0 → (Q v797)) ∧ (¬ (lg_cmp (Int32.toInt64 (v797 50 0 0)) (Int32.toInt64 r791)) = 0 → False))))) ∧ (¬ r797 = r773 → False))) (fun _ _ => False))) (fun _ _ => False))) (fun _ _ => False))
theorem kC_9 (C : gC p l s m args meth c cL_law 8 RL L sz) {b Ln : Nat} {xs : Nat → Int32} (hX : va_X b Ln xs s s.heap) (hbl : b < s.heap.size) (hbA : ¬ gA L sz b) {i s1 s2 s3 : Int32} (h1 : vp_in (i + 1) Ln) (h2 : vp_in (i + 2) Ln) (h3 : vp_in (i + 3) Ln) (e1 : xs (i + 1).toNatClampNeg = s1) (e2 : xs (i + 2).toNatClampNeg = s2) (e3 : xs (i + 3).toNatClampNeg = s3) {ce sl : Nat} (hce : ce + 60 ≤ 602775) (hsl : sl + 360 ≤ 7287779) {Q0 : State → Prop} {Q : gMem → Prop} (hK : ∀ v, Q v → gS p l e room_1 s m args below meth c 8 L sz Q0 (ce + 60) (sl + 360) 2761 [(0, .ref b), (1, .ref (L.2.1 6 0)), (2, .ref (L.2.1 7 0)), (3, .ref (L.2.1 50 0)), (4, .ref (L.2.1 51 0)), (5, .int i)] [] v) {v : gMem} (h : TC_9 s1 s2 s3 v Q) : gS p l e room_1 s m args below meth c 8 L sz Q0 ce sl 759 [(0, .ref b), (1, .ref (L.2.1 6 0)), (2, .ref (L.2.1 7 0)), (3, .ref (L.2.1 50 0)), (4, .ref (L.2.1 51 0)), (5, .int i)] [] v := by
  unfold TC_9 at h
  refine g_aload_n C 1 rfl 1 rfl dL_law_759 ?_
  refine g_aload_n C 0 rfl 0 rfl dL_law_760 ?_
  refine g_iload C 5 rfl dL_law_761 ?_
  refine g_iconst C 1 (by decide) dL_law_763 ?_
  refine g_iadd C dL_law_764 ?_
  refine g_sld C hX hbl hbA s1 h1 e1 dL_law_765 ?_
  refine g_aload_n C 0 rfl 0 rfl dL_law_766 ?_
  refine g_iload C 5 rfl dL_law_767 ?_
  refine g_iconst C 2 (by decide) dL_law_769 ?_
  refine g_iadd C dL_law_770 ?_
  refine g_sld C hX hbl hbA s2 h2 e2 dL_law_771 ?_
  refine g_aload_n C 3 rfl 3 rfl dL_law_772 ?_
  refine g_gcallSXi C [.ref (L.2.1 6 0), .int s1, .int s2, .ref (L.2.1 50 0)] (fun sz9 => kL_soundAt l C.2.2.2.2.2.2.1 L C.2.2.2.2.2.2.2.1 s1 s2 v _ _ h sz9) wml_RL_188 wstat_L_soundAt wini_RL wcw_L_soundAt rfl rfl (n := 4) (by decide +kernel) rfl ⟨(Nat.le_of_ble_eq_true rfl), (Nat.le_of_ble_eq_true rfl)⟩ ⟨(by omega : ce + 2 ≤ 602775), (by omega : sl + 12 ≤ 7287779)⟩ (Nat.le_of_ble_eq_true rfl) dL_law_773 (fun _ _ hx => hx.elim) (fun r773 v773 h => ?_)
  refine g_istore C [(6, .int r773), (0, .ref b), (1, .ref (L.2.1 6 0)), (2, .ref (L.2.1 7 0)), (3, .ref (L.2.1 50 0)), (4, .ref (L.2.1 51 0)), (5, .int i)] (Nat.le_of_ble_eq_true rfl) rfl dL_law_776 ?_
  refine g_aload_n C 2 rfl 3 rfl dL_law_778 ?_
  refine g_aload_n C 0 rfl 1 rfl dL_law_779 ?_
  refine g_iload C 6 rfl dL_law_780 ?_
  refine g_iconst C 1 (by decide) dL_law_782 ?_
  refine g_iadd C dL_law_783 ?_
  refine g_sld C hX hbl hbA s1 h1 e1 dL_law_784 ?_
  refine g_aload_n C 0 rfl 1 rfl dL_law_785 ?_
  refine g_iload C 6 rfl dL_law_786 ?_
  refine g_iconst C 2 (by decide) dL_law_788 ?_
  refine g_iadd C dL_law_789 ?_
  refine g_sld C hX hbl hbA s2 h2 e2 dL_law_790 ?_
  refine g_gcallVi C gok_7 rfl rfl [.int s1, .int s2] (fun sz9 => kX7_soundAt l C.2.2.2.2.2.2.1 L C.2.2.2.2.2.2.2.1 s1 s2 v773 _ _ h sz9) wml_RL_190 winst_X7_soundAt wsel_X7_soundAt wini_RX7 wcode_X7_soundAt rfl rfl (n := 2) (by decide +kernel) rfl ⟨(Nat.le_of_ble_eq_true rfl), (Nat.le_of_ble_eq_true rfl)⟩ ⟨(by omega : ce + 2 + 0 ≤ 602775), (by omega : sl + 12 + 0 ≤ 7287779)⟩ (Nat.le_of_ble_eq_true rfl) dL_law_791 (fun _ _ hx => hx.elim) (fun r791 v791 h => ?_)
  refine g_istore C [(7, .int r791), (6, .int r773), (0, .ref b), (1, .ref (L.2.1 6 0)), (2, .ref (L.2.1 7 0)), (3, .ref (L.2.1 50 0)), (4, .ref (L.2.1 51 0)), (5, .int i)] (Nat.le_of_ble_eq_true rfl) rfl dL_law_794 ?_
  refine g_aload_n C 2 rfl 4 rfl dL_law_796 ?_
  refine g_gcallVi C gok_7 rfl rfl [] (fun sz9 => kX7_thrown l C.2.2.2.2.2.2.1 L C.2.2.2.2.2.2.2.1 v791 _ _ h sz9) wml_RL_157 winst_X7_thrown wsel_X7_thrown wini_RX7 wcode_X7_thrown rfl rfl (n := 0) (by decide +kernel) rfl ⟨(Nat.le_of_ble_eq_true rfl), (Nat.le_of_ble_eq_true rfl)⟩ ⟨(by omega : ce + 2 + 0 + 0 ≤ 602775), (by omega : sl + 12 + 0 + 0 ≤ 7287779)⟩ (Nat.le_of_ble_eq_true rfl) dL_law_797 (fun _ _ hx => hx.elim) (fun r797 v797 h => ?_)
  refine g_iload C 1 rfl dL_law_800 ?_
  refine g_icmp_eq C 807 (by decide) dL_law_802 (fun hc => ?_) (fun hc => ?_)
  · replace h := h.1 hc
    refine g_iload C 1 rfl dL_law_807 ?_
    refine g_if_ne C 824 (by decide) dL_law_809 (fun hc => ?_) (fun hc => ?_)
    · replace h := h.1 hc
      refine g_goto C 2761 (by decide) dL_law_824 ?_
      refine g_widen (ce + 60) (sl + 360) (by omega) (by omega) ?_
      refine g_sub [(0, .ref b), (1, .ref (L.2.1 6 0)), (2, .ref (L.2.1 7 0)), (3, .ref (L.2.1 50 0)), (4, .ref (L.2.1 51 0)), (5, .int i)] [2, 3, 4, 5, 6, 7] rfl ?_
      exact hK _ h
    · replace h := h.2 hc
      refine g_aload_n C 3 rfl 5 rfl dL_law_812 ?_
      refine g_iconst C 0 (by decide) dL_law_813 ?_
      refine g_laload C dL_law_814 ?_
      refine g_iload C 0 rfl dL_law_815 ?_
      refine g_i2l C dL_law_817 ?_
      refine g_lcmp C dL_law_818 ?_
      refine g_if_eq C 824 (by decide) dL_law_819 (fun hc => ?_) (fun hc => ?_)
      · replace h := h.1 hc
        refine g_goto C 2761 (by decide) dL_law_824 ?_
        refine g_widen (ce + 60) (sl + 360) (by omega) (by omega) ?_
        refine g_sub [(0, .ref b), (1, .ref (L.2.1 6 0)), (2, .ref (L.2.1 7 0)), (3, .ref (L.2.1 50 0)), (4, .ref (L.2.1 51 0)), (5, .int i)] [2, 3, 4, 5, 6, 7] rfl ?_
        exact hK _ h
      · replace h := h.2 hc
        refine g_iconst C 0 (by decide) dL_law_822 ?_
        exact h.elim
  · replace h := h.2 hc
    refine g_iconst C 0 (by decide) dL_law_805 ?_
    exact h.elim
def TC_10 (s1 s2 s3 : Int32) (v : gMem) (Q : gMem → Prop) : Prop := (TL_number s1 s2 v (fun r841 v841 => (TX7_number s1 s2 v841 (fun r859 v859 => (TX7_thrown v859 (fun r865 v865 => ((r865 = r841 → ((¬ r841 = 0 → (Q v865)) ∧ (r841 = 0 → (((lg_cmp (Int32.toInt64 (v865 50 0 0)) (Int32.toInt64 r859)) = 0 → (Q v865)) ∧ (¬ (lg_cmp (Int32.toInt64 (v865 50 0 0)) (Int32.toInt64 r859)) = 0 → False))))) ∧ (¬ r865 = r841 → False))) (fun _ _ => False))) (fun _ _ => False))) (fun _ _ => False))
theorem kC_10 (C : gC p l s m args meth c cL_law 8 RL L sz) {b Ln : Nat} {xs : Nat → Int32} (hX : va_X b Ln xs s s.heap) (hbl : b < s.heap.size) (hbA : ¬ gA L sz b) {i s1 s2 s3 : Int32} (h1 : vp_in (i + 1) Ln) (h2 : vp_in (i + 2) Ln) (h3 : vp_in (i + 3) Ln) (e1 : xs (i + 1).toNatClampNeg = s1) (e2 : xs (i + 2).toNatClampNeg = s2) (e3 : xs (i + 3).toNatClampNeg = s3) {ce sl : Nat} (hce : ce + 60 ≤ 602775) (hsl : sl + 360 ≤ 7287779) {Q0 : State → Prop} {Q : gMem → Prop} (hK : ∀ v, Q v → gS p l e room_1 s m args below meth c 8 L sz Q0 (ce + 60) (sl + 360) 2761 [(0, .ref b), (1, .ref (L.2.1 6 0)), (2, .ref (L.2.1 7 0)), (3, .ref (L.2.1 50 0)), (4, .ref (L.2.1 51 0)), (5, .int i)] [] v) {v : gMem} (h : TC_10 s1 s2 s3 v Q) : gS p l e room_1 s m args below meth c 8 L sz Q0 ce sl 827 [(0, .ref b), (1, .ref (L.2.1 6 0)), (2, .ref (L.2.1 7 0)), (3, .ref (L.2.1 50 0)), (4, .ref (L.2.1 51 0)), (5, .int i)] [] v := by
  unfold TC_10 at h
  refine g_aload_n C 1 rfl 1 rfl dL_law_827 ?_
  refine g_aload_n C 0 rfl 0 rfl dL_law_828 ?_
  refine g_iload C 5 rfl dL_law_829 ?_
  refine g_iconst C 1 (by decide) dL_law_831 ?_
  refine g_iadd C dL_law_832 ?_
  refine g_sld C hX hbl hbA s1 h1 e1 dL_law_833 ?_
  refine g_aload_n C 0 rfl 0 rfl dL_law_834 ?_
  refine g_iload C 5 rfl dL_law_835 ?_
  refine g_iconst C 2 (by decide) dL_law_837 ?_
  refine g_iadd C dL_law_838 ?_
  refine g_sld C hX hbl hbA s2 h2 e2 dL_law_839 ?_
  refine g_aload_n C 3 rfl 3 rfl dL_law_840 ?_
  refine g_gcallSXi C [.ref (L.2.1 6 0), .int s1, .int s2, .ref (L.2.1 50 0)] (fun sz9 => kL_number l C.2.2.2.2.2.2.1 L C.2.2.2.2.2.2.2.1 s1 s2 v _ _ h sz9) wml_RL_191 wstat_L_number wini_RL wcw_L_number rfl rfl (n := 4) (by decide +kernel) rfl ⟨(Nat.le_of_ble_eq_true rfl), (Nat.le_of_ble_eq_true rfl)⟩ ⟨(by omega : ce + 2 ≤ 602775), (by omega : sl + 12 ≤ 7287779)⟩ (Nat.le_of_ble_eq_true rfl) dL_law_841 (fun _ _ hx => hx.elim) (fun r841 v841 h => ?_)
  refine g_istore C [(6, .int r841), (0, .ref b), (1, .ref (L.2.1 6 0)), (2, .ref (L.2.1 7 0)), (3, .ref (L.2.1 50 0)), (4, .ref (L.2.1 51 0)), (5, .int i)] (Nat.le_of_ble_eq_true rfl) rfl dL_law_844 ?_
  refine g_aload_n C 2 rfl 3 rfl dL_law_846 ?_
  refine g_aload_n C 0 rfl 1 rfl dL_law_847 ?_
  refine g_iload C 6 rfl dL_law_848 ?_
  refine g_iconst C 1 (by decide) dL_law_850 ?_
  refine g_iadd C dL_law_851 ?_
  refine g_sld C hX hbl hbA s1 h1 e1 dL_law_852 ?_
  refine g_aload_n C 0 rfl 1 rfl dL_law_853 ?_
  refine g_iload C 6 rfl dL_law_854 ?_
  refine g_iconst C 2 (by decide) dL_law_856 ?_
  refine g_iadd C dL_law_857 ?_
  refine g_sld C hX hbl hbA s2 h2 e2 dL_law_858 ?_
  refine g_gcallVi C gok_7 rfl rfl [.int s1, .int s2] (fun sz9 => kX7_number l C.2.2.2.2.2.2.1 L C.2.2.2.2.2.2.2.1 s1 s2 v841 _ _ h sz9) wml_RL_193 winst_X7_number wsel_X7_number wini_RX7 wcode_X7_number rfl rfl (n := 2) (by decide +kernel) rfl ⟨(Nat.le_of_ble_eq_true rfl), (Nat.le_of_ble_eq_true rfl)⟩ ⟨(by omega : ce + 2 + 0 ≤ 602775), (by omega : sl + 12 + 0 ≤ 7287779)⟩ (Nat.le_of_ble_eq_true rfl) dL_law_859 (fun _ _ hx => hx.elim) (fun r859 v859 h => ?_)
  refine g_istore C [(7, .int r859), (6, .int r841), (0, .ref b), (1, .ref (L.2.1 6 0)), (2, .ref (L.2.1 7 0)), (3, .ref (L.2.1 50 0)), (4, .ref (L.2.1 51 0)), (5, .int i)] (Nat.le_of_ble_eq_true rfl) rfl dL_law_862 ?_
  refine g_aload_n C 2 rfl 4 rfl dL_law_864 ?_
  refine g_gcallVi C gok_7 rfl rfl [] (fun sz9 => kX7_thrown l C.2.2.2.2.2.2.1 L C.2.2.2.2.2.2.2.1 v859 _ _ h sz9) wml_RL_157 winst_X7_thrown wsel_X7_thrown wini_RX7 wcode_X7_thrown rfl rfl (n := 0) (by decide +kernel) rfl ⟨(Nat.le_of_ble_eq_true rfl), (Nat.le_of_ble_eq_true rfl)⟩ ⟨(by omega : ce + 2 + 0 + 0 ≤ 602775), (by omega : sl + 12 + 0 + 0 ≤ 7287779)⟩ (Nat.le_of_ble_eq_true rfl) dL_law_865 (fun _ _ hx => hx.elim) (fun r865 v865 h => ?_)
  refine g_iload C 1 rfl dL_law_868 ?_
  refine g_icmp_eq C 875 (by decide) dL_law_870 (fun hc => ?_) (fun hc => ?_)
  · replace h := h.1 hc
    refine g_iload C 1 rfl dL_law_875 ?_
    refine g_if_ne C 892 (by decide) dL_law_877 (fun hc => ?_) (fun hc => ?_)
    · replace h := h.1 hc
      refine g_goto C 2761 (by decide) dL_law_892 ?_
      refine g_widen (ce + 60) (sl + 360) (by omega) (by omega) ?_
      refine g_sub [(0, .ref b), (1, .ref (L.2.1 6 0)), (2, .ref (L.2.1 7 0)), (3, .ref (L.2.1 50 0)), (4, .ref (L.2.1 51 0)), (5, .int i)] [2, 3, 4, 5, 6, 7] rfl ?_
      exact hK _ h
    · replace h := h.2 hc
      refine g_aload_n C 3 rfl 5 rfl dL_law_880 ?_
      refine g_iconst C 0 (by decide) dL_law_881 ?_
      refine g_laload C dL_law_882 ?_
      refine g_iload C 0 rfl dL_law_883 ?_
      refine g_i2l C dL_law_885 ?_
      refine g_lcmp C dL_law_886 ?_
      refine g_if_eq C 892 (by decide) dL_law_887 (fun hc => ?_) (fun hc => ?_)
      · replace h := h.1 hc
        refine g_goto C 2761 (by decide) dL_law_892 ?_
        refine g_widen (ce + 60) (sl + 360) (by omega) (by omega) ?_
        refine g_sub [(0, .ref b), (1, .ref (L.2.1 6 0)), (2, .ref (L.2.1 7 0)), (3, .ref (L.2.1 50 0)), (4, .ref (L.2.1 51 0)), (5, .int i)] [2, 3, 4, 5, 6, 7] rfl ?_
        exact hK _ h
      · replace h := h.2 hc
        refine g_iconst C 0 (by decide) dL_law_890 ?_
        exact h.elim
  · replace h := h.2 hc
    refine g_iconst C 0 (by decide) dL_law_873 ?_
    exact h.elim
def TC_11 (s1 s2 s3 : Int32) (v : gMem) (Q : gMem → Prop) : Prop := (TL_setWeights s1 s2 s3 v (fun r915 v915 => (TX7_setWeights s1 s2 s3 v915 (fun r939 v939 => (TX7_thrown v939 (fun r945 v945 => ((r945 = r915 → ((¬ r915 = 0 → (Q v945)) ∧ (r915 = 0 → (((lg_cmp (Int32.toInt64 (v945 50 0 0)) (Int32.toInt64 r939)) = 0 → (Q v945)) ∧ (¬ (lg_cmp (Int32.toInt64 (v945 50 0 0)) (Int32.toInt64 r939)) = 0 → False))))) ∧ (¬ r945 = r915 → False))) (fun _ _ => False))) (fun _ _ => False))) (fun _ _ => False))
theorem kC_11 (C : gC p l s m args meth c cL_law 8 RL L sz) {b Ln : Nat} {xs : Nat → Int32} (hX : va_X b Ln xs s s.heap) (hbl : b < s.heap.size) (hbA : ¬ gA L sz b) {i s1 s2 s3 : Int32} (h1 : vp_in (i + 1) Ln) (h2 : vp_in (i + 2) Ln) (h3 : vp_in (i + 3) Ln) (e1 : xs (i + 1).toNatClampNeg = s1) (e2 : xs (i + 2).toNatClampNeg = s2) (e3 : xs (i + 3).toNatClampNeg = s3) {ce sl : Nat} (hce : ce + 60 ≤ 602775) (hsl : sl + 360 ≤ 7287779) {Q0 : State → Prop} {Q : gMem → Prop} (hK : ∀ v, Q v → gS p l e room_1 s m args below meth c 8 L sz Q0 (ce + 60) (sl + 360) 2761 [(0, .ref b), (1, .ref (L.2.1 6 0)), (2, .ref (L.2.1 7 0)), (3, .ref (L.2.1 50 0)), (4, .ref (L.2.1 51 0)), (5, .int i)] [] v) {v : gMem} (h : TC_11 s1 s2 s3 v Q) : gS p l e room_1 s m args below meth c 8 L sz Q0 ce sl 895 [(0, .ref b), (1, .ref (L.2.1 6 0)), (2, .ref (L.2.1 7 0)), (3, .ref (L.2.1 50 0)), (4, .ref (L.2.1 51 0)), (5, .int i)] [] v := by
  unfold TC_11 at h
  refine g_aload_n C 1 rfl 1 rfl dL_law_895 ?_
  refine g_aload_n C 0 rfl 0 rfl dL_law_896 ?_
  refine g_iload C 5 rfl dL_law_897 ?_
  refine g_iconst C 1 (by decide) dL_law_899 ?_
  refine g_iadd C dL_law_900 ?_
  refine g_sld C hX hbl hbA s1 h1 e1 dL_law_901 ?_
  refine g_aload_n C 0 rfl 0 rfl dL_law_902 ?_
  refine g_iload C 5 rfl dL_law_903 ?_
  refine g_iconst C 2 (by decide) dL_law_905 ?_
  refine g_iadd C dL_law_906 ?_
  refine g_sld C hX hbl hbA s2 h2 e2 dL_law_907 ?_
  refine g_aload_n C 0 rfl 0 rfl dL_law_908 ?_
  refine g_iload C 5 rfl dL_law_909 ?_
  refine g_iconst C 3 (by decide) dL_law_911 ?_
  refine g_iadd C dL_law_912 ?_
  refine g_sld C hX hbl hbA s3 h3 e3 dL_law_913 ?_
  refine g_aload_n C 3 rfl 3 rfl dL_law_914 ?_
  refine g_gcallSXi C [.ref (L.2.1 6 0), .int s1, .int s2, .int s3, .ref (L.2.1 50 0)] (fun sz9 => kL_setWeights l C.2.2.2.2.2.2.1 L C.2.2.2.2.2.2.2.1 s1 s2 s3 v _ _ h sz9) wml_RL_194 wstat_L_setWeights wini_RL wcw_L_setWeights rfl rfl (n := 5) (by decide +kernel) rfl ⟨(Nat.le_of_ble_eq_true rfl), (Nat.le_of_ble_eq_true rfl)⟩ ⟨(by omega : ce + 3 ≤ 602775), (by omega : sl + 18 ≤ 7287779)⟩ (Nat.le_of_ble_eq_true rfl) dL_law_915 (fun _ _ hx => hx.elim) (fun r915 v915 h => ?_)
  refine g_istore C [(6, .int r915), (0, .ref b), (1, .ref (L.2.1 6 0)), (2, .ref (L.2.1 7 0)), (3, .ref (L.2.1 50 0)), (4, .ref (L.2.1 51 0)), (5, .int i)] (Nat.le_of_ble_eq_true rfl) rfl dL_law_918 ?_
  refine g_aload_n C 2 rfl 3 rfl dL_law_920 ?_
  refine g_aload_n C 0 rfl 1 rfl dL_law_921 ?_
  refine g_iload C 6 rfl dL_law_922 ?_
  refine g_iconst C 1 (by decide) dL_law_924 ?_
  refine g_iadd C dL_law_925 ?_
  refine g_sld C hX hbl hbA s1 h1 e1 dL_law_926 ?_
  refine g_aload_n C 0 rfl 1 rfl dL_law_927 ?_
  refine g_iload C 6 rfl dL_law_928 ?_
  refine g_iconst C 2 (by decide) dL_law_930 ?_
  refine g_iadd C dL_law_931 ?_
  refine g_sld C hX hbl hbA s2 h2 e2 dL_law_932 ?_
  refine g_aload_n C 0 rfl 1 rfl dL_law_933 ?_
  refine g_iload C 6 rfl dL_law_934 ?_
  refine g_iconst C 3 (by decide) dL_law_936 ?_
  refine g_iadd C dL_law_937 ?_
  refine g_sld C hX hbl hbA s3 h3 e3 dL_law_938 ?_
  refine g_gcallVi C gok_7 rfl rfl [.int s1, .int s2, .int s3] (fun sz9 => kX7_setWeights l C.2.2.2.2.2.2.1 L C.2.2.2.2.2.2.2.1 s1 s2 s3 v915 _ _ h sz9) wml_RL_196 winst_X7_setWeights wsel_X7_setWeights wini_RX7 wcode_X7_setWeights rfl rfl (n := 3) (by decide +kernel) rfl ⟨(Nat.le_of_ble_eq_true rfl), (Nat.le_of_ble_eq_true rfl)⟩ ⟨(by omega : ce + 3 + 0 ≤ 602775), (by omega : sl + 18 + 0 ≤ 7287779)⟩ (Nat.le_of_ble_eq_true rfl) dL_law_939 (fun _ _ hx => hx.elim) (fun r939 v939 h => ?_)
  refine g_istore C [(7, .int r939), (6, .int r915), (0, .ref b), (1, .ref (L.2.1 6 0)), (2, .ref (L.2.1 7 0)), (3, .ref (L.2.1 50 0)), (4, .ref (L.2.1 51 0)), (5, .int i)] (Nat.le_of_ble_eq_true rfl) rfl dL_law_942 ?_
  refine g_aload_n C 2 rfl 4 rfl dL_law_944 ?_
  refine g_gcallVi C gok_7 rfl rfl [] (fun sz9 => kX7_thrown l C.2.2.2.2.2.2.1 L C.2.2.2.2.2.2.2.1 v939 _ _ h sz9) wml_RL_157 winst_X7_thrown wsel_X7_thrown wini_RX7 wcode_X7_thrown rfl rfl (n := 0) (by decide +kernel) rfl ⟨(Nat.le_of_ble_eq_true rfl), (Nat.le_of_ble_eq_true rfl)⟩ ⟨(by omega : ce + 3 + 0 + 0 ≤ 602775), (by omega : sl + 18 + 0 + 0 ≤ 7287779)⟩ (Nat.le_of_ble_eq_true rfl) dL_law_945 (fun _ _ hx => hx.elim) (fun r945 v945 h => ?_)
  refine g_iload C 1 rfl dL_law_948 ?_
  refine g_icmp_eq C 955 (by decide) dL_law_950 (fun hc => ?_) (fun hc => ?_)
  · replace h := h.1 hc
    refine g_iload C 1 rfl dL_law_955 ?_
    refine g_if_ne C 972 (by decide) dL_law_957 (fun hc => ?_) (fun hc => ?_)
    · replace h := h.1 hc
      refine g_goto C 2761 (by decide) dL_law_972 ?_
      refine g_widen (ce + 60) (sl + 360) (by omega) (by omega) ?_
      refine g_sub [(0, .ref b), (1, .ref (L.2.1 6 0)), (2, .ref (L.2.1 7 0)), (3, .ref (L.2.1 50 0)), (4, .ref (L.2.1 51 0)), (5, .int i)] [2, 3, 4, 5, 6, 7] rfl ?_
      exact hK _ h
    · replace h := h.2 hc
      refine g_aload_n C 3 rfl 5 rfl dL_law_960 ?_
      refine g_iconst C 0 (by decide) dL_law_961 ?_
      refine g_laload C dL_law_962 ?_
      refine g_iload C 0 rfl dL_law_963 ?_
      refine g_i2l C dL_law_965 ?_
      refine g_lcmp C dL_law_966 ?_
      refine g_if_eq C 972 (by decide) dL_law_967 (fun hc => ?_) (fun hc => ?_)
      · replace h := h.1 hc
        refine g_goto C 2761 (by decide) dL_law_972 ?_
        refine g_widen (ce + 60) (sl + 360) (by omega) (by omega) ?_
        refine g_sub [(0, .ref b), (1, .ref (L.2.1 6 0)), (2, .ref (L.2.1 7 0)), (3, .ref (L.2.1 50 0)), (4, .ref (L.2.1 51 0)), (5, .int i)] [2, 3, 4, 5, 6, 7] rfl ?_
        exact hK _ h
      · replace h := h.2 hc
        refine g_iconst C 0 (by decide) dL_law_970 ?_
        exact h.elim
  · replace h := h.2 hc
    refine g_iconst C 0 (by decide) dL_law_953 ?_
    exact h.elim
def TC_12 (s1 s2 s3 : Int32) (v : gMem) (Q : gMem → Prop) : Prop := (TL_setThreshold s1 v (fun r983 v983 => (TX7_setThreshold s1 v983 (fun r995 v995 => (TX7_thrown v995 (fun r1001 v1001 => ((r1001 = r983 → ((¬ r983 = 0 → (Q v1001)) ∧ (r983 = 0 → (((lg_cmp (Int32.toInt64 (v1001 50 0 0)) (Int32.toInt64 r995)) = 0 → (Q v1001)) ∧ (¬ (lg_cmp (Int32.toInt64 (v1001 50 0 0)) (Int32.toInt64 r995)) = 0 → False))))) ∧ (¬ r1001 = r983 → False))) (fun _ _ => False))) (fun _ _ => False))) (fun _ _ => False))
theorem kC_12 (C : gC p l s m args meth c cL_law 8 RL L sz) {b Ln : Nat} {xs : Nat → Int32} (hX : va_X b Ln xs s s.heap) (hbl : b < s.heap.size) (hbA : ¬ gA L sz b) {i s1 s2 s3 : Int32} (h1 : vp_in (i + 1) Ln) (h2 : vp_in (i + 2) Ln) (h3 : vp_in (i + 3) Ln) (e1 : xs (i + 1).toNatClampNeg = s1) (e2 : xs (i + 2).toNatClampNeg = s2) (e3 : xs (i + 3).toNatClampNeg = s3) {ce sl : Nat} (hce : ce + 60 ≤ 602775) (hsl : sl + 360 ≤ 7287779) {Q0 : State → Prop} {Q : gMem → Prop} (hK : ∀ v, Q v → gS p l e room_1 s m args below meth c 8 L sz Q0 (ce + 60) (sl + 360) 2761 [(0, .ref b), (1, .ref (L.2.1 6 0)), (2, .ref (L.2.1 7 0)), (3, .ref (L.2.1 50 0)), (4, .ref (L.2.1 51 0)), (5, .int i)] [] v) {v : gMem} (h : TC_12 s1 s2 s3 v Q) : gS p l e room_1 s m args below meth c 8 L sz Q0 ce sl 975 [(0, .ref b), (1, .ref (L.2.1 6 0)), (2, .ref (L.2.1 7 0)), (3, .ref (L.2.1 50 0)), (4, .ref (L.2.1 51 0)), (5, .int i)] [] v := by
  unfold TC_12 at h
  refine g_aload_n C 1 rfl 1 rfl dL_law_975 ?_
  refine g_aload_n C 0 rfl 0 rfl dL_law_976 ?_
  refine g_iload C 5 rfl dL_law_977 ?_
  refine g_iconst C 1 (by decide) dL_law_979 ?_
  refine g_iadd C dL_law_980 ?_
  refine g_sld C hX hbl hbA s1 h1 e1 dL_law_981 ?_
  refine g_aload_n C 3 rfl 3 rfl dL_law_982 ?_
  refine g_gcallSXi C [.ref (L.2.1 6 0), .int s1, .ref (L.2.1 50 0)] (fun sz9 => kL_setThreshold l C.2.2.2.2.2.2.1 L C.2.2.2.2.2.2.2.1 s1 v _ _ h sz9) wml_RL_197 wstat_L_setThreshold wini_RL wcw_L_setThreshold rfl rfl (n := 3) (by decide +kernel) rfl ⟨(Nat.le_of_ble_eq_true rfl), (Nat.le_of_ble_eq_true rfl)⟩ ⟨(by omega : ce + 1 ≤ 602775), (by omega : sl + 6 ≤ 7287779)⟩ (Nat.le_of_ble_eq_true rfl) dL_law_983 (fun _ _ hx => hx.elim) (fun r983 v983 h => ?_)
  refine g_istore C [(6, .int r983), (0, .ref b), (1, .ref (L.2.1 6 0)), (2, .ref (L.2.1 7 0)), (3, .ref (L.2.1 50 0)), (4, .ref (L.2.1 51 0)), (5, .int i)] (Nat.le_of_ble_eq_true rfl) rfl dL_law_986 ?_
  refine g_aload_n C 2 rfl 3 rfl dL_law_988 ?_
  refine g_aload_n C 0 rfl 1 rfl dL_law_989 ?_
  refine g_iload C 6 rfl dL_law_990 ?_
  refine g_iconst C 1 (by decide) dL_law_992 ?_
  refine g_iadd C dL_law_993 ?_
  refine g_sld C hX hbl hbA s1 h1 e1 dL_law_994 ?_
  refine g_gcallVi C gok_7 rfl rfl [.int s1] (fun sz9 => kX7_setThreshold l C.2.2.2.2.2.2.1 L C.2.2.2.2.2.2.2.1 s1 v983 _ _ h sz9) wml_RL_199 winst_X7_setThreshold wsel_X7_setThreshold wini_RX7 wcode_X7_setThreshold rfl rfl (n := 1) (by decide +kernel) rfl ⟨(Nat.le_of_ble_eq_true rfl), (Nat.le_of_ble_eq_true rfl)⟩ ⟨(by omega : ce + 1 + 0 ≤ 602775), (by omega : sl + 6 + 0 ≤ 7287779)⟩ (Nat.le_of_ble_eq_true rfl) dL_law_995 (fun _ _ hx => hx.elim) (fun r995 v995 h => ?_)
  refine g_istore C [(7, .int r995), (6, .int r983), (0, .ref b), (1, .ref (L.2.1 6 0)), (2, .ref (L.2.1 7 0)), (3, .ref (L.2.1 50 0)), (4, .ref (L.2.1 51 0)), (5, .int i)] (Nat.le_of_ble_eq_true rfl) rfl dL_law_998 ?_
  refine g_aload_n C 2 rfl 4 rfl dL_law_1000 ?_
  refine g_gcallVi C gok_7 rfl rfl [] (fun sz9 => kX7_thrown l C.2.2.2.2.2.2.1 L C.2.2.2.2.2.2.2.1 v995 _ _ h sz9) wml_RL_157 winst_X7_thrown wsel_X7_thrown wini_RX7 wcode_X7_thrown rfl rfl (n := 0) (by decide +kernel) rfl ⟨(Nat.le_of_ble_eq_true rfl), (Nat.le_of_ble_eq_true rfl)⟩ ⟨(by omega : ce + 1 + 0 + 0 ≤ 602775), (by omega : sl + 6 + 0 + 0 ≤ 7287779)⟩ (Nat.le_of_ble_eq_true rfl) dL_law_1001 (fun _ _ hx => hx.elim) (fun r1001 v1001 h => ?_)
  refine g_iload C 1 rfl dL_law_1004 ?_
  refine g_icmp_eq C 1011 (by decide) dL_law_1006 (fun hc => ?_) (fun hc => ?_)
  · replace h := h.1 hc
    refine g_iload C 1 rfl dL_law_1011 ?_
    refine g_if_ne C 1028 (by decide) dL_law_1013 (fun hc => ?_) (fun hc => ?_)
    · replace h := h.1 hc
      refine g_goto C 2761 (by decide) dL_law_1028 ?_
      refine g_widen (ce + 60) (sl + 360) (by omega) (by omega) ?_
      refine g_sub [(0, .ref b), (1, .ref (L.2.1 6 0)), (2, .ref (L.2.1 7 0)), (3, .ref (L.2.1 50 0)), (4, .ref (L.2.1 51 0)), (5, .int i)] [2, 3, 4, 5, 6, 7] rfl ?_
      exact hK _ h
    · replace h := h.2 hc
      refine g_aload_n C 3 rfl 5 rfl dL_law_1016 ?_
      refine g_iconst C 0 (by decide) dL_law_1017 ?_
      refine g_laload C dL_law_1018 ?_
      refine g_iload C 0 rfl dL_law_1019 ?_
      refine g_i2l C dL_law_1021 ?_
      refine g_lcmp C dL_law_1022 ?_
      refine g_if_eq C 1028 (by decide) dL_law_1023 (fun hc => ?_) (fun hc => ?_)
      · replace h := h.1 hc
        refine g_goto C 2761 (by decide) dL_law_1028 ?_
        refine g_widen (ce + 60) (sl + 360) (by omega) (by omega) ?_
        refine g_sub [(0, .ref b), (1, .ref (L.2.1 6 0)), (2, .ref (L.2.1 7 0)), (3, .ref (L.2.1 50 0)), (4, .ref (L.2.1 51 0)), (5, .int i)] [2, 3, 4, 5, 6, 7] rfl ?_
        exact hK _ h
      · replace h := h.2 hc
        refine g_iconst C 0 (by decide) dL_law_1026 ?_
        exact h.elim
  · replace h := h.2 hc
    refine g_iconst C 0 (by decide) dL_law_1009 ?_
    exact h.elim
def TC_13 (s1 s2 s3 : Int32) (v : gMem) (Q : gMem → Prop) : Prop := (TL_score s1 s2 v (fun r1045 v1045 => (TX7_score s1 s2 v1045 (fun r1063 v1063 => (TX7_thrown v1063 (fun r1069 v1069 => ((r1069 = r1045 → ((¬ r1045 = 0 → (Q v1069)) ∧ (r1045 = 0 → (((lg_cmp (Int32.toInt64 (v1069 50 0 0)) (Int32.toInt64 r1063)) = 0 → (Q v1069)) ∧ (¬ (lg_cmp (Int32.toInt64 (v1069 50 0 0)) (Int32.toInt64 r1063)) = 0 → False))))) ∧ (¬ r1069 = r1045 → False))) (fun _ _ => False))) (fun _ _ => False))) (fun _ _ => False))
theorem kC_13 (C : gC p l s m args meth c cL_law 8 RL L sz) {b Ln : Nat} {xs : Nat → Int32} (hX : va_X b Ln xs s s.heap) (hbl : b < s.heap.size) (hbA : ¬ gA L sz b) {i s1 s2 s3 : Int32} (h1 : vp_in (i + 1) Ln) (h2 : vp_in (i + 2) Ln) (h3 : vp_in (i + 3) Ln) (e1 : xs (i + 1).toNatClampNeg = s1) (e2 : xs (i + 2).toNatClampNeg = s2) (e3 : xs (i + 3).toNatClampNeg = s3) {ce sl : Nat} (hce : ce + 60 ≤ 602775) (hsl : sl + 360 ≤ 7287779) {Q0 : State → Prop} {Q : gMem → Prop} (hK : ∀ v, Q v → gS p l e room_1 s m args below meth c 8 L sz Q0 (ce + 60) (sl + 360) 2761 [(0, .ref b), (1, .ref (L.2.1 6 0)), (2, .ref (L.2.1 7 0)), (3, .ref (L.2.1 50 0)), (4, .ref (L.2.1 51 0)), (5, .int i)] [] v) {v : gMem} (h : TC_13 s1 s2 s3 v Q) : gS p l e room_1 s m args below meth c 8 L sz Q0 ce sl 1031 [(0, .ref b), (1, .ref (L.2.1 6 0)), (2, .ref (L.2.1 7 0)), (3, .ref (L.2.1 50 0)), (4, .ref (L.2.1 51 0)), (5, .int i)] [] v := by
  unfold TC_13 at h
  refine g_aload_n C 1 rfl 1 rfl dL_law_1031 ?_
  refine g_aload_n C 0 rfl 0 rfl dL_law_1032 ?_
  refine g_iload C 5 rfl dL_law_1033 ?_
  refine g_iconst C 1 (by decide) dL_law_1035 ?_
  refine g_iadd C dL_law_1036 ?_
  refine g_sld C hX hbl hbA s1 h1 e1 dL_law_1037 ?_
  refine g_aload_n C 0 rfl 0 rfl dL_law_1038 ?_
  refine g_iload C 5 rfl dL_law_1039 ?_
  refine g_iconst C 2 (by decide) dL_law_1041 ?_
  refine g_iadd C dL_law_1042 ?_
  refine g_sld C hX hbl hbA s2 h2 e2 dL_law_1043 ?_
  refine g_aload_n C 3 rfl 3 rfl dL_law_1044 ?_
  refine g_gcallSXi C [.ref (L.2.1 6 0), .int s1, .int s2, .ref (L.2.1 50 0)] (fun sz9 => kL_score l C.2.2.2.2.2.2.1 L C.2.2.2.2.2.2.2.1 s1 s2 v _ _ h sz9) wml_RL_200 wstat_L_score wini_RL wcw_L_score rfl rfl (n := 4) (by decide +kernel) rfl ⟨(Nat.le_of_ble_eq_true rfl), (Nat.le_of_ble_eq_true rfl)⟩ ⟨(by omega : ce + 3 ≤ 602775), (by omega : sl + 18 ≤ 7287779)⟩ (Nat.le_of_ble_eq_true rfl) dL_law_1045 (fun _ _ hx => hx.elim) (fun r1045 v1045 h => ?_)
  refine g_istore C [(6, .int r1045), (0, .ref b), (1, .ref (L.2.1 6 0)), (2, .ref (L.2.1 7 0)), (3, .ref (L.2.1 50 0)), (4, .ref (L.2.1 51 0)), (5, .int i)] (Nat.le_of_ble_eq_true rfl) rfl dL_law_1048 ?_
  refine g_aload_n C 2 rfl 3 rfl dL_law_1050 ?_
  refine g_aload_n C 0 rfl 1 rfl dL_law_1051 ?_
  refine g_iload C 6 rfl dL_law_1052 ?_
  refine g_iconst C 1 (by decide) dL_law_1054 ?_
  refine g_iadd C dL_law_1055 ?_
  refine g_sld C hX hbl hbA s1 h1 e1 dL_law_1056 ?_
  refine g_aload_n C 0 rfl 1 rfl dL_law_1057 ?_
  refine g_iload C 6 rfl dL_law_1058 ?_
  refine g_iconst C 2 (by decide) dL_law_1060 ?_
  refine g_iadd C dL_law_1061 ?_
  refine g_sld C hX hbl hbA s2 h2 e2 dL_law_1062 ?_
  refine g_gcallVi C gok_7 rfl rfl [.int s1, .int s2] (fun sz9 => kX7_score l C.2.2.2.2.2.2.1 L C.2.2.2.2.2.2.2.1 s1 s2 v1045 _ _ h sz9) wml_RL_202 winst_X7_score wsel_X7_score wini_RX7 wcode_X7_score rfl rfl (n := 2) (by decide +kernel) rfl ⟨(Nat.le_of_ble_eq_true rfl), (Nat.le_of_ble_eq_true rfl)⟩ ⟨(by omega : ce + 3 + 0 ≤ 602775), (by omega : sl + 18 + 0 ≤ 7287779)⟩ (Nat.le_of_ble_eq_true rfl) dL_law_1063 (fun _ _ hx => hx.elim) (fun r1063 v1063 h => ?_)
  refine g_istore C [(7, .int r1063), (6, .int r1045), (0, .ref b), (1, .ref (L.2.1 6 0)), (2, .ref (L.2.1 7 0)), (3, .ref (L.2.1 50 0)), (4, .ref (L.2.1 51 0)), (5, .int i)] (Nat.le_of_ble_eq_true rfl) rfl dL_law_1066 ?_
  refine g_aload_n C 2 rfl 4 rfl dL_law_1068 ?_
  refine g_gcallVi C gok_7 rfl rfl [] (fun sz9 => kX7_thrown l C.2.2.2.2.2.2.1 L C.2.2.2.2.2.2.2.1 v1063 _ _ h sz9) wml_RL_157 winst_X7_thrown wsel_X7_thrown wini_RX7 wcode_X7_thrown rfl rfl (n := 0) (by decide +kernel) rfl ⟨(Nat.le_of_ble_eq_true rfl), (Nat.le_of_ble_eq_true rfl)⟩ ⟨(by omega : ce + 3 + 0 + 0 ≤ 602775), (by omega : sl + 18 + 0 + 0 ≤ 7287779)⟩ (Nat.le_of_ble_eq_true rfl) dL_law_1069 (fun _ _ hx => hx.elim) (fun r1069 v1069 h => ?_)
  refine g_iload C 1 rfl dL_law_1072 ?_
  refine g_icmp_eq C 1079 (by decide) dL_law_1074 (fun hc => ?_) (fun hc => ?_)
  · replace h := h.1 hc
    refine g_iload C 1 rfl dL_law_1079 ?_
    refine g_if_ne C 1096 (by decide) dL_law_1081 (fun hc => ?_) (fun hc => ?_)
    · replace h := h.1 hc
      refine g_goto C 2761 (by decide) dL_law_1096 ?_
      refine g_widen (ce + 60) (sl + 360) (by omega) (by omega) ?_
      refine g_sub [(0, .ref b), (1, .ref (L.2.1 6 0)), (2, .ref (L.2.1 7 0)), (3, .ref (L.2.1 50 0)), (4, .ref (L.2.1 51 0)), (5, .int i)] [2, 3, 4, 5, 6, 7] rfl ?_
      exact hK _ h
    · replace h := h.2 hc
      refine g_aload_n C 3 rfl 5 rfl dL_law_1084 ?_
      refine g_iconst C 0 (by decide) dL_law_1085 ?_
      refine g_laload C dL_law_1086 ?_
      refine g_iload C 0 rfl dL_law_1087 ?_
      refine g_i2l C dL_law_1089 ?_
      refine g_lcmp C dL_law_1090 ?_
      refine g_if_eq C 1096 (by decide) dL_law_1091 (fun hc => ?_) (fun hc => ?_)
      · replace h := h.1 hc
        refine g_goto C 2761 (by decide) dL_law_1096 ?_
        refine g_widen (ce + 60) (sl + 360) (by omega) (by omega) ?_
        refine g_sub [(0, .ref b), (1, .ref (L.2.1 6 0)), (2, .ref (L.2.1 7 0)), (3, .ref (L.2.1 50 0)), (4, .ref (L.2.1 51 0)), (5, .int i)] [2, 3, 4, 5, 6, 7] rfl ?_
        exact hK _ h
      · replace h := h.2 hc
        refine g_iconst C 0 (by decide) dL_law_1094 ?_
        exact h.elim
  · replace h := h.2 hc
    refine g_iconst C 0 (by decide) dL_law_1077 ?_
    exact h.elim
def TC_14 (s1 s2 s3 : Int32) (v : gMem) (Q : gMem → Prop) : Prop := (TX6_candidates v (fun r1100 v1100 => (TX7_candidates v1100 (fun r1104 v1104 => ((r1100 = r1104 → (Q v1104)) ∧ (¬ r1100 = r1104 → False))) (fun _ _ => False))) (fun _ _ => False))
theorem kC_14 (C : gC p l s m args meth c cL_law 8 RL L sz) {b Ln : Nat} {xs : Nat → Int32} (hX : va_X b Ln xs s s.heap) (hbl : b < s.heap.size) (hbA : ¬ gA L sz b) {i s1 s2 s3 : Int32} (h1 : vp_in (i + 1) Ln) (h2 : vp_in (i + 2) Ln) (h3 : vp_in (i + 3) Ln) (e1 : xs (i + 1).toNatClampNeg = s1) (e2 : xs (i + 2).toNatClampNeg = s2) (e3 : xs (i + 3).toNatClampNeg = s3) {ce sl : Nat} (hce : ce + 60 ≤ 602775) (hsl : sl + 360 ≤ 7287779) {Q0 : State → Prop} {Q : gMem → Prop} (hK : ∀ v, Q v → gS p l e room_1 s m args below meth c 8 L sz Q0 (ce + 60) (sl + 360) 2761 [(0, .ref b), (1, .ref (L.2.1 6 0)), (2, .ref (L.2.1 7 0)), (3, .ref (L.2.1 50 0)), (4, .ref (L.2.1 51 0)), (5, .int i)] [] v) {v : gMem} (h : TC_14 s1 s2 s3 v Q) : gS p l e room_1 s m args below meth c 8 L sz Q0 ce sl 1099 [(0, .ref b), (1, .ref (L.2.1 6 0)), (2, .ref (L.2.1 7 0)), (3, .ref (L.2.1 50 0)), (4, .ref (L.2.1 51 0)), (5, .int i)] [] v := by
  unfold TC_14 at h
  refine g_aload_n C 1 rfl 1 rfl dL_law_1099 ?_
  refine g_gcallVi C gok_6 rfl rfl [] (fun sz9 => kX6_candidates l C.2.2.2.2.2.2.1 L C.2.2.2.2.2.2.2.1 v _ _ h sz9) wml_RL_203 winst_X6_candidates wsel_X6_candidates wini_RX6 wcode_X6_candidates rfl rfl (n := 0) (by decide +kernel) rfl ⟨(Nat.le_of_ble_eq_true rfl), (Nat.le_of_ble_eq_true rfl)⟩ ⟨(by omega : ce + 0 ≤ 602775), (by omega : sl + 0 ≤ 7287779)⟩ (Nat.le_of_ble_eq_true rfl) dL_law_1100 (fun _ _ hx => hx.elim) (fun r1100 v1100 h => ?_)
  refine g_aload_n C 2 rfl 2 rfl dL_law_1103 ?_
  refine g_gcallVi C gok_7 rfl rfl [] (fun sz9 => kX7_candidates l C.2.2.2.2.2.2.1 L C.2.2.2.2.2.2.2.1 v1100 _ _ h sz9) wml_RL_206 winst_X7_candidates wsel_X7_candidates wini_RX7 wcode_X7_candidates rfl rfl (n := 0) (by decide +kernel) rfl ⟨(Nat.le_of_ble_eq_true rfl), (Nat.le_of_ble_eq_true rfl)⟩ ⟨(by omega : ce + 0 + 0 ≤ 602775), (by omega : sl + 0 + 0 ≤ 7287779)⟩ (Nat.le_of_ble_eq_true rfl) dL_law_1104 (fun _ _ hx => hx.elim) (fun r1104 v1104 h => ?_)
  refine g_icmp_eq C 2761 (by decide) dL_law_1107 (fun hc => ?_) (fun hc => ?_)
  · replace h := h.1 hc
    refine g_widen (ce + 60) (sl + 360) (by omega) (by omega) ?_
    exact hK _ h
  · replace h := h.2 hc
    refine g_iconst C 0 (by decide) dL_law_1110 ?_
    exact h.elim
def TC_15 (s1 s2 s3 : Int32) (v : gMem) (Q : gMem → Prop) : Prop := (TL_bestScore v (fun r1114 v1114 => (TX7_bestScore v1114 (fun r1120 v1120 => (TX7_thrown v1120 (fun r1126 v1126 => ((r1126 = r1114 → ((¬ r1114 = 0 → (Q v1126)) ∧ (r1114 = 0 → (((lg_cmp (Int32.toInt64 (v1126 50 0 0)) (Int32.toInt64 r1120)) = 0 → (Q v1126)) ∧ (¬ (lg_cmp (Int32.toInt64 (v1126 50 0 0)) (Int32.toInt64 r1120)) = 0 → False))))) ∧ (¬ r1126 = r1114 → False))) (fun _ _ => False))) (fun _ _ => False))) (fun _ _ => False))
theorem kC_15 (C : gC p l s m args meth c cL_law 8 RL L sz) {b Ln : Nat} {xs : Nat → Int32} (hX : va_X b Ln xs s s.heap) (hbl : b < s.heap.size) (hbA : ¬ gA L sz b) {i s1 s2 s3 : Int32} (h1 : vp_in (i + 1) Ln) (h2 : vp_in (i + 2) Ln) (h3 : vp_in (i + 3) Ln) (e1 : xs (i + 1).toNatClampNeg = s1) (e2 : xs (i + 2).toNatClampNeg = s2) (e3 : xs (i + 3).toNatClampNeg = s3) {ce sl : Nat} (hce : ce + 60 ≤ 602775) (hsl : sl + 360 ≤ 7287779) {Q0 : State → Prop} {Q : gMem → Prop} (hK : ∀ v, Q v → gS p l e room_1 s m args below meth c 8 L sz Q0 (ce + 60) (sl + 360) 2761 [(0, .ref b), (1, .ref (L.2.1 6 0)), (2, .ref (L.2.1 7 0)), (3, .ref (L.2.1 50 0)), (4, .ref (L.2.1 51 0)), (5, .int i)] [] v) {v : gMem} (h : TC_15 s1 s2 s3 v Q) : gS p l e room_1 s m args below meth c 8 L sz Q0 ce sl 1112 [(0, .ref b), (1, .ref (L.2.1 6 0)), (2, .ref (L.2.1 7 0)), (3, .ref (L.2.1 50 0)), (4, .ref (L.2.1 51 0)), (5, .int i)] [] v := by
  unfold TC_15 at h
  refine g_aload_n C 1 rfl 1 rfl dL_law_1112 ?_
  refine g_aload_n C 3 rfl 3 rfl dL_law_1113 ?_
  refine g_gcallSXi C [.ref (L.2.1 6 0), .ref (L.2.1 50 0)] (fun sz9 => kL_bestScore l C.2.2.2.2.2.2.1 L C.2.2.2.2.2.2.2.1 v _ _ h sz9) wml_RL_207 wstat_L_bestScore wini_RL wcw_L_bestScore rfl rfl (n := 2) (by decide +kernel) rfl ⟨(Nat.le_of_ble_eq_true rfl), (Nat.le_of_ble_eq_true rfl)⟩ ⟨(by omega : ce + 1 ≤ 602775), (by omega : sl + 6 ≤ 7287779)⟩ (Nat.le_of_ble_eq_true rfl) dL_law_1114 (fun _ _ hx => hx.elim) (fun r1114 v1114 h => ?_)
  refine g_istore C [(6, .int r1114), (0, .ref b), (1, .ref (L.2.1 6 0)), (2, .ref (L.2.1 7 0)), (3, .ref (L.2.1 50 0)), (4, .ref (L.2.1 51 0)), (5, .int i)] (Nat.le_of_ble_eq_true rfl) rfl dL_law_1117 ?_
  refine g_aload_n C 2 rfl 3 rfl dL_law_1119 ?_
  refine g_gcallVi C gok_7 rfl rfl [] (fun sz9 => kX7_bestScore l C.2.2.2.2.2.2.1 L C.2.2.2.2.2.2.2.1 v1114 _ _ h sz9) wml_RL_210 winst_X7_bestScore wsel_X7_bestScore wini_RX7 wcode_X7_bestScore rfl rfl (n := 0) (by decide +kernel) rfl ⟨(Nat.le_of_ble_eq_true rfl), (Nat.le_of_ble_eq_true rfl)⟩ ⟨(by omega : ce + 1 + 0 ≤ 602775), (by omega : sl + 6 + 0 ≤ 7287779)⟩ (Nat.le_of_ble_eq_true rfl) dL_law_1120 (fun _ _ hx => hx.elim) (fun r1120 v1120 h => ?_)
  refine g_istore C [(7, .int r1120), (6, .int r1114), (0, .ref b), (1, .ref (L.2.1 6 0)), (2, .ref (L.2.1 7 0)), (3, .ref (L.2.1 50 0)), (4, .ref (L.2.1 51 0)), (5, .int i)] (Nat.le_of_ble_eq_true rfl) rfl dL_law_1123 ?_
  refine g_aload_n C 2 rfl 4 rfl dL_law_1125 ?_
  refine g_gcallVi C gok_7 rfl rfl [] (fun sz9 => kX7_thrown l C.2.2.2.2.2.2.1 L C.2.2.2.2.2.2.2.1 v1120 _ _ h sz9) wml_RL_157 winst_X7_thrown wsel_X7_thrown wini_RX7 wcode_X7_thrown rfl rfl (n := 0) (by decide +kernel) rfl ⟨(Nat.le_of_ble_eq_true rfl), (Nat.le_of_ble_eq_true rfl)⟩ ⟨(by omega : ce + 1 + 0 + 0 ≤ 602775), (by omega : sl + 6 + 0 + 0 ≤ 7287779)⟩ (Nat.le_of_ble_eq_true rfl) dL_law_1126 (fun _ _ hx => hx.elim) (fun r1126 v1126 h => ?_)
  refine g_iload C 1 rfl dL_law_1129 ?_
  refine g_icmp_eq C 1136 (by decide) dL_law_1131 (fun hc => ?_) (fun hc => ?_)
  · replace h := h.1 hc
    refine g_iload C 1 rfl dL_law_1136 ?_
    refine g_if_ne C 1153 (by decide) dL_law_1138 (fun hc => ?_) (fun hc => ?_)
    · replace h := h.1 hc
      refine g_goto C 2761 (by decide) dL_law_1153 ?_
      refine g_widen (ce + 60) (sl + 360) (by omega) (by omega) ?_
      refine g_sub [(0, .ref b), (1, .ref (L.2.1 6 0)), (2, .ref (L.2.1 7 0)), (3, .ref (L.2.1 50 0)), (4, .ref (L.2.1 51 0)), (5, .int i)] [2, 3, 4, 5, 6, 7] rfl ?_
      exact hK _ h
    · replace h := h.2 hc
      refine g_aload_n C 3 rfl 5 rfl dL_law_1141 ?_
      refine g_iconst C 0 (by decide) dL_law_1142 ?_
      refine g_laload C dL_law_1143 ?_
      refine g_iload C 0 rfl dL_law_1144 ?_
      refine g_i2l C dL_law_1146 ?_
      refine g_lcmp C dL_law_1147 ?_
      refine g_if_eq C 1153 (by decide) dL_law_1148 (fun hc => ?_) (fun hc => ?_)
      · replace h := h.1 hc
        refine g_goto C 2761 (by decide) dL_law_1153 ?_
        refine g_widen (ce + 60) (sl + 360) (by omega) (by omega) ?_
        refine g_sub [(0, .ref b), (1, .ref (L.2.1 6 0)), (2, .ref (L.2.1 7 0)), (3, .ref (L.2.1 50 0)), (4, .ref (L.2.1 51 0)), (5, .int i)] [2, 3, 4, 5, 6, 7] rfl ?_
        exact hK _ h
      · replace h := h.2 hc
        refine g_iconst C 0 (by decide) dL_law_1151 ?_
        exact h.elim
  · replace h := h.2 hc
    refine g_iconst C 0 (by decide) dL_law_1134 ?_
    exact h.elim
def TC_16 (s1 s2 s3 : Int32) (v : gMem) (Q : gMem → Prop) : Prop := (TL_bestScoreByPairs v (fun r1158 v1158 => (TX7_bestScoreByPairs v1158 (fun r1164 v1164 => (TX7_thrown v1164 (fun r1170 v1170 => ((r1170 = r1158 → ((¬ r1158 = 0 → (Q v1170)) ∧ (r1158 = 0 → (((lg_cmp (Int32.toInt64 (v1170 50 0 0)) (Int32.toInt64 r1164)) = 0 → (Q v1170)) ∧ (¬ (lg_cmp (Int32.toInt64 (v1170 50 0 0)) (Int32.toInt64 r1164)) = 0 → False))))) ∧ (¬ r1170 = r1158 → False))) (fun _ _ => False))) (fun _ _ => False))) (fun _ _ => False))
theorem kC_16 (C : gC p l s m args meth c cL_law 8 RL L sz) {b Ln : Nat} {xs : Nat → Int32} (hX : va_X b Ln xs s s.heap) (hbl : b < s.heap.size) (hbA : ¬ gA L sz b) {i s1 s2 s3 : Int32} (h1 : vp_in (i + 1) Ln) (h2 : vp_in (i + 2) Ln) (h3 : vp_in (i + 3) Ln) (e1 : xs (i + 1).toNatClampNeg = s1) (e2 : xs (i + 2).toNatClampNeg = s2) (e3 : xs (i + 3).toNatClampNeg = s3) {ce sl : Nat} (hce : ce + 60 ≤ 602775) (hsl : sl + 360 ≤ 7287779) {Q0 : State → Prop} {Q : gMem → Prop} (hK : ∀ v, Q v → gS p l e room_1 s m args below meth c 8 L sz Q0 (ce + 60) (sl + 360) 2761 [(0, .ref b), (1, .ref (L.2.1 6 0)), (2, .ref (L.2.1 7 0)), (3, .ref (L.2.1 50 0)), (4, .ref (L.2.1 51 0)), (5, .int i)] [] v) {v : gMem} (h : TC_16 s1 s2 s3 v Q) : gS p l e room_1 s m args below meth c 8 L sz Q0 ce sl 1156 [(0, .ref b), (1, .ref (L.2.1 6 0)), (2, .ref (L.2.1 7 0)), (3, .ref (L.2.1 50 0)), (4, .ref (L.2.1 51 0)), (5, .int i)] [] v := by
  unfold TC_16 at h
  refine g_aload_n C 1 rfl 1 rfl dL_law_1156 ?_
  refine g_aload_n C 3 rfl 3 rfl dL_law_1157 ?_
  refine g_gcallSXi C [.ref (L.2.1 6 0), .ref (L.2.1 50 0)] (fun sz9 => kL_bestScoreByPairs l C.2.2.2.2.2.2.1 L C.2.2.2.2.2.2.2.1 v _ _ h sz9) wml_RL_211 wstat_L_bestScoreByPairs wini_RL wcw_L_bestScoreByPairs rfl rfl (n := 2) (by decide +kernel) rfl ⟨(Nat.le_of_ble_eq_true rfl), (Nat.le_of_ble_eq_true rfl)⟩ ⟨(by omega : ce + 1 ≤ 602775), (by omega : sl + 6 ≤ 7287779)⟩ (Nat.le_of_ble_eq_true rfl) dL_law_1158 (fun _ _ hx => hx.elim) (fun r1158 v1158 h => ?_)
  refine g_istore C [(6, .int r1158), (0, .ref b), (1, .ref (L.2.1 6 0)), (2, .ref (L.2.1 7 0)), (3, .ref (L.2.1 50 0)), (4, .ref (L.2.1 51 0)), (5, .int i)] (Nat.le_of_ble_eq_true rfl) rfl dL_law_1161 ?_
  refine g_aload_n C 2 rfl 3 rfl dL_law_1163 ?_
  refine g_gcallVi C gok_7 rfl rfl [] (fun sz9 => kX7_bestScoreByPairs l C.2.2.2.2.2.2.1 L C.2.2.2.2.2.2.2.1 v1158 _ _ h sz9) wml_RL_213 winst_X7_bestScoreByPairs wsel_X7_bestScoreByPairs wini_RX7 wcode_X7_bestScoreByPairs rfl rfl (n := 0) (by decide +kernel) rfl ⟨(Nat.le_of_ble_eq_true rfl), (Nat.le_of_ble_eq_true rfl)⟩ ⟨(by omega : ce + 1 + 0 ≤ 602775), (by omega : sl + 6 + 0 ≤ 7287779)⟩ (Nat.le_of_ble_eq_true rfl) dL_law_1164 (fun _ _ hx => hx.elim) (fun r1164 v1164 h => ?_)
  refine g_istore C [(7, .int r1164), (6, .int r1158), (0, .ref b), (1, .ref (L.2.1 6 0)), (2, .ref (L.2.1 7 0)), (3, .ref (L.2.1 50 0)), (4, .ref (L.2.1 51 0)), (5, .int i)] (Nat.le_of_ble_eq_true rfl) rfl dL_law_1167 ?_
  refine g_aload_n C 2 rfl 4 rfl dL_law_1169 ?_
  refine g_gcallVi C gok_7 rfl rfl [] (fun sz9 => kX7_thrown l C.2.2.2.2.2.2.1 L C.2.2.2.2.2.2.2.1 v1164 _ _ h sz9) wml_RL_157 winst_X7_thrown wsel_X7_thrown wini_RX7 wcode_X7_thrown rfl rfl (n := 0) (by decide +kernel) rfl ⟨(Nat.le_of_ble_eq_true rfl), (Nat.le_of_ble_eq_true rfl)⟩ ⟨(by omega : ce + 1 + 0 + 0 ≤ 602775), (by omega : sl + 6 + 0 + 0 ≤ 7287779)⟩ (Nat.le_of_ble_eq_true rfl) dL_law_1170 (fun _ _ hx => hx.elim) (fun r1170 v1170 h => ?_)
  refine g_iload C 1 rfl dL_law_1173 ?_
  refine g_icmp_eq C 1180 (by decide) dL_law_1175 (fun hc => ?_) (fun hc => ?_)
  · replace h := h.1 hc
    refine g_iload C 1 rfl dL_law_1180 ?_
    refine g_if_ne C 1197 (by decide) dL_law_1182 (fun hc => ?_) (fun hc => ?_)
    · replace h := h.1 hc
      refine g_goto C 2761 (by decide) dL_law_1197 ?_
      refine g_widen (ce + 60) (sl + 360) (by omega) (by omega) ?_
      refine g_sub [(0, .ref b), (1, .ref (L.2.1 6 0)), (2, .ref (L.2.1 7 0)), (3, .ref (L.2.1 50 0)), (4, .ref (L.2.1 51 0)), (5, .int i)] [2, 3, 4, 5, 6, 7] rfl ?_
      exact hK _ h
    · replace h := h.2 hc
      refine g_aload_n C 3 rfl 5 rfl dL_law_1185 ?_
      refine g_iconst C 0 (by decide) dL_law_1186 ?_
      refine g_laload C dL_law_1187 ?_
      refine g_iload C 0 rfl dL_law_1188 ?_
      refine g_i2l C dL_law_1190 ?_
      refine g_lcmp C dL_law_1191 ?_
      refine g_if_eq C 1197 (by decide) dL_law_1192 (fun hc => ?_) (fun hc => ?_)
      · replace h := h.1 hc
        refine g_goto C 2761 (by decide) dL_law_1197 ?_
        refine g_widen (ce + 60) (sl + 360) (by omega) (by omega) ?_
        refine g_sub [(0, .ref b), (1, .ref (L.2.1 6 0)), (2, .ref (L.2.1 7 0)), (3, .ref (L.2.1 50 0)), (4, .ref (L.2.1 51 0)), (5, .int i)] [2, 3, 4, 5, 6, 7] rfl ?_
        exact hK _ h
      · replace h := h.2 hc
        refine g_iconst C 0 (by decide) dL_law_1195 ?_
        exact h.elim
  · replace h := h.2 hc
    refine g_iconst C 0 (by decide) dL_law_1178 ?_
    exact h.elim
def TC_17 (s1 s2 s3 : Int32) (v : gMem) (Q : gMem → Prop) : Prop := (TL_bestOne v (fun r1202 v1202 => (TX7_bestOne v1202 (fun r1208 v1208 => (TX7_thrown v1208 (fun r1214 v1214 => ((r1214 = r1202 → ((¬ r1202 = 0 → (Q v1214)) ∧ (r1202 = 0 → (((lg_cmp (Int32.toInt64 (v1214 50 0 0)) (Int32.toInt64 r1208)) = 0 → (Q v1214)) ∧ (¬ (lg_cmp (Int32.toInt64 (v1214 50 0 0)) (Int32.toInt64 r1208)) = 0 → False))))) ∧ (¬ r1214 = r1202 → False))) (fun _ _ => False))) (fun _ _ => False))) (fun _ _ => False))
theorem kC_17 (C : gC p l s m args meth c cL_law 8 RL L sz) {b Ln : Nat} {xs : Nat → Int32} (hX : va_X b Ln xs s s.heap) (hbl : b < s.heap.size) (hbA : ¬ gA L sz b) {i s1 s2 s3 : Int32} (h1 : vp_in (i + 1) Ln) (h2 : vp_in (i + 2) Ln) (h3 : vp_in (i + 3) Ln) (e1 : xs (i + 1).toNatClampNeg = s1) (e2 : xs (i + 2).toNatClampNeg = s2) (e3 : xs (i + 3).toNatClampNeg = s3) {ce sl : Nat} (hce : ce + 60 ≤ 602775) (hsl : sl + 360 ≤ 7287779) {Q0 : State → Prop} {Q : gMem → Prop} (hK : ∀ v, Q v → gS p l e room_1 s m args below meth c 8 L sz Q0 (ce + 60) (sl + 360) 2761 [(0, .ref b), (1, .ref (L.2.1 6 0)), (2, .ref (L.2.1 7 0)), (3, .ref (L.2.1 50 0)), (4, .ref (L.2.1 51 0)), (5, .int i)] [] v) {v : gMem} (h : TC_17 s1 s2 s3 v Q) : gS p l e room_1 s m args below meth c 8 L sz Q0 ce sl 1200 [(0, .ref b), (1, .ref (L.2.1 6 0)), (2, .ref (L.2.1 7 0)), (3, .ref (L.2.1 50 0)), (4, .ref (L.2.1 51 0)), (5, .int i)] [] v := by
  unfold TC_17 at h
  refine g_aload_n C 1 rfl 1 rfl dL_law_1200 ?_
  refine g_aload_n C 3 rfl 3 rfl dL_law_1201 ?_
  refine g_gcallSXi C [.ref (L.2.1 6 0), .ref (L.2.1 50 0)] (fun sz9 => kL_bestOne l C.2.2.2.2.2.2.1 L C.2.2.2.2.2.2.2.1 v _ _ h sz9) wml_RL_214 wstat_L_bestOne wini_RL wcw_L_bestOne rfl rfl (n := 2) (by decide +kernel) rfl ⟨(Nat.le_of_ble_eq_true rfl), (Nat.le_of_ble_eq_true rfl)⟩ ⟨(by omega : ce + 1 ≤ 602775), (by omega : sl + 6 ≤ 7287779)⟩ (Nat.le_of_ble_eq_true rfl) dL_law_1202 (fun _ _ hx => hx.elim) (fun r1202 v1202 h => ?_)
  refine g_istore C [(6, .int r1202), (0, .ref b), (1, .ref (L.2.1 6 0)), (2, .ref (L.2.1 7 0)), (3, .ref (L.2.1 50 0)), (4, .ref (L.2.1 51 0)), (5, .int i)] (Nat.le_of_ble_eq_true rfl) rfl dL_law_1205 ?_
  refine g_aload_n C 2 rfl 3 rfl dL_law_1207 ?_
  refine g_gcallVi C gok_7 rfl rfl [] (fun sz9 => kX7_bestOne l C.2.2.2.2.2.2.1 L C.2.2.2.2.2.2.2.1 v1202 _ _ h sz9) wml_RL_216 winst_X7_bestOne wsel_X7_bestOne wini_RX7 wcode_X7_bestOne rfl rfl (n := 0) (by decide +kernel) rfl ⟨(Nat.le_of_ble_eq_true rfl), (Nat.le_of_ble_eq_true rfl)⟩ ⟨(by omega : ce + 1 + 0 ≤ 602775), (by omega : sl + 6 + 0 ≤ 7287779)⟩ (Nat.le_of_ble_eq_true rfl) dL_law_1208 (fun _ _ hx => hx.elim) (fun r1208 v1208 h => ?_)
  refine g_istore C [(7, .int r1208), (6, .int r1202), (0, .ref b), (1, .ref (L.2.1 6 0)), (2, .ref (L.2.1 7 0)), (3, .ref (L.2.1 50 0)), (4, .ref (L.2.1 51 0)), (5, .int i)] (Nat.le_of_ble_eq_true rfl) rfl dL_law_1211 ?_
  refine g_aload_n C 2 rfl 4 rfl dL_law_1213 ?_
  refine g_gcallVi C gok_7 rfl rfl [] (fun sz9 => kX7_thrown l C.2.2.2.2.2.2.1 L C.2.2.2.2.2.2.2.1 v1208 _ _ h sz9) wml_RL_157 winst_X7_thrown wsel_X7_thrown wini_RX7 wcode_X7_thrown rfl rfl (n := 0) (by decide +kernel) rfl ⟨(Nat.le_of_ble_eq_true rfl), (Nat.le_of_ble_eq_true rfl)⟩ ⟨(by omega : ce + 1 + 0 + 0 ≤ 602775), (by omega : sl + 6 + 0 + 0 ≤ 7287779)⟩ (Nat.le_of_ble_eq_true rfl) dL_law_1214 (fun _ _ hx => hx.elim) (fun r1214 v1214 h => ?_)
  refine g_iload C 1 rfl dL_law_1217 ?_
  refine g_icmp_eq C 1224 (by decide) dL_law_1219 (fun hc => ?_) (fun hc => ?_)
  · replace h := h.1 hc
    refine g_iload C 1 rfl dL_law_1224 ?_
    refine g_if_ne C 1241 (by decide) dL_law_1226 (fun hc => ?_) (fun hc => ?_)
    · replace h := h.1 hc
      refine g_goto C 2761 (by decide) dL_law_1241 ?_
      refine g_widen (ce + 60) (sl + 360) (by omega) (by omega) ?_
      refine g_sub [(0, .ref b), (1, .ref (L.2.1 6 0)), (2, .ref (L.2.1 7 0)), (3, .ref (L.2.1 50 0)), (4, .ref (L.2.1 51 0)), (5, .int i)] [2, 3, 4, 5, 6, 7] rfl ?_
      exact hK _ h
    · replace h := h.2 hc
      refine g_aload_n C 3 rfl 5 rfl dL_law_1229 ?_
      refine g_iconst C 0 (by decide) dL_law_1230 ?_
      refine g_laload C dL_law_1231 ?_
      refine g_iload C 0 rfl dL_law_1232 ?_
      refine g_i2l C dL_law_1234 ?_
      refine g_lcmp C dL_law_1235 ?_
      refine g_if_eq C 1241 (by decide) dL_law_1236 (fun hc => ?_) (fun hc => ?_)
      · replace h := h.1 hc
        refine g_goto C 2761 (by decide) dL_law_1241 ?_
        refine g_widen (ce + 60) (sl + 360) (by omega) (by omega) ?_
        refine g_sub [(0, .ref b), (1, .ref (L.2.1 6 0)), (2, .ref (L.2.1 7 0)), (3, .ref (L.2.1 50 0)), (4, .ref (L.2.1 51 0)), (5, .int i)] [2, 3, 4, 5, 6, 7] rfl ?_
        exact hK _ h
      · replace h := h.2 hc
        refine g_iconst C 0 (by decide) dL_law_1239 ?_
        exact h.elim
  · replace h := h.2 hc
    refine g_iconst C 0 (by decide) dL_law_1222 ?_
    exact h.elim
def TC_18 (s1 s2 s3 : Int32) (v : gMem) (Q : gMem → Prop) : Prop := (TL_bestOther v (fun r1246 v1246 => (TX7_bestOther v1246 (fun r1252 v1252 => (TX7_thrown v1252 (fun r1258 v1258 => ((r1258 = r1246 → ((¬ r1246 = 0 → (Q v1258)) ∧ (r1246 = 0 → (((lg_cmp (Int32.toInt64 (v1258 50 0 0)) (Int32.toInt64 r1252)) = 0 → (Q v1258)) ∧ (¬ (lg_cmp (Int32.toInt64 (v1258 50 0 0)) (Int32.toInt64 r1252)) = 0 → False))))) ∧ (¬ r1258 = r1246 → False))) (fun _ _ => False))) (fun _ _ => False))) (fun _ _ => False))
theorem kC_18 (C : gC p l s m args meth c cL_law 8 RL L sz) {b Ln : Nat} {xs : Nat → Int32} (hX : va_X b Ln xs s s.heap) (hbl : b < s.heap.size) (hbA : ¬ gA L sz b) {i s1 s2 s3 : Int32} (h1 : vp_in (i + 1) Ln) (h2 : vp_in (i + 2) Ln) (h3 : vp_in (i + 3) Ln) (e1 : xs (i + 1).toNatClampNeg = s1) (e2 : xs (i + 2).toNatClampNeg = s2) (e3 : xs (i + 3).toNatClampNeg = s3) {ce sl : Nat} (hce : ce + 60 ≤ 602775) (hsl : sl + 360 ≤ 7287779) {Q0 : State → Prop} {Q : gMem → Prop} (hK : ∀ v, Q v → gS p l e room_1 s m args below meth c 8 L sz Q0 (ce + 60) (sl + 360) 2761 [(0, .ref b), (1, .ref (L.2.1 6 0)), (2, .ref (L.2.1 7 0)), (3, .ref (L.2.1 50 0)), (4, .ref (L.2.1 51 0)), (5, .int i)] [] v) {v : gMem} (h : TC_18 s1 s2 s3 v Q) : gS p l e room_1 s m args below meth c 8 L sz Q0 ce sl 1244 [(0, .ref b), (1, .ref (L.2.1 6 0)), (2, .ref (L.2.1 7 0)), (3, .ref (L.2.1 50 0)), (4, .ref (L.2.1 51 0)), (5, .int i)] [] v := by
  unfold TC_18 at h
  refine g_aload_n C 1 rfl 1 rfl dL_law_1244 ?_
  refine g_aload_n C 3 rfl 3 rfl dL_law_1245 ?_
  refine g_gcallSXi C [.ref (L.2.1 6 0), .ref (L.2.1 50 0)] (fun sz9 => kL_bestOther l C.2.2.2.2.2.2.1 L C.2.2.2.2.2.2.2.1 v _ _ h sz9) wml_RL_217 wstat_L_bestOther wini_RL wcw_L_bestOther rfl rfl (n := 2) (by decide +kernel) rfl ⟨(Nat.le_of_ble_eq_true rfl), (Nat.le_of_ble_eq_true rfl)⟩ ⟨(by omega : ce + 1 ≤ 602775), (by omega : sl + 6 ≤ 7287779)⟩ (Nat.le_of_ble_eq_true rfl) dL_law_1246 (fun _ _ hx => hx.elim) (fun r1246 v1246 h => ?_)
  refine g_istore C [(6, .int r1246), (0, .ref b), (1, .ref (L.2.1 6 0)), (2, .ref (L.2.1 7 0)), (3, .ref (L.2.1 50 0)), (4, .ref (L.2.1 51 0)), (5, .int i)] (Nat.le_of_ble_eq_true rfl) rfl dL_law_1249 ?_
  refine g_aload_n C 2 rfl 3 rfl dL_law_1251 ?_
  refine g_gcallVi C gok_7 rfl rfl [] (fun sz9 => kX7_bestOther l C.2.2.2.2.2.2.1 L C.2.2.2.2.2.2.2.1 v1246 _ _ h sz9) wml_RL_219 winst_X7_bestOther wsel_X7_bestOther wini_RX7 wcode_X7_bestOther rfl rfl (n := 0) (by decide +kernel) rfl ⟨(Nat.le_of_ble_eq_true rfl), (Nat.le_of_ble_eq_true rfl)⟩ ⟨(by omega : ce + 1 + 0 ≤ 602775), (by omega : sl + 6 + 0 ≤ 7287779)⟩ (Nat.le_of_ble_eq_true rfl) dL_law_1252 (fun _ _ hx => hx.elim) (fun r1252 v1252 h => ?_)
  refine g_istore C [(7, .int r1252), (6, .int r1246), (0, .ref b), (1, .ref (L.2.1 6 0)), (2, .ref (L.2.1 7 0)), (3, .ref (L.2.1 50 0)), (4, .ref (L.2.1 51 0)), (5, .int i)] (Nat.le_of_ble_eq_true rfl) rfl dL_law_1255 ?_
  refine g_aload_n C 2 rfl 4 rfl dL_law_1257 ?_
  refine g_gcallVi C gok_7 rfl rfl [] (fun sz9 => kX7_thrown l C.2.2.2.2.2.2.1 L C.2.2.2.2.2.2.2.1 v1252 _ _ h sz9) wml_RL_157 winst_X7_thrown wsel_X7_thrown wini_RX7 wcode_X7_thrown rfl rfl (n := 0) (by decide +kernel) rfl ⟨(Nat.le_of_ble_eq_true rfl), (Nat.le_of_ble_eq_true rfl)⟩ ⟨(by omega : ce + 1 + 0 + 0 ≤ 602775), (by omega : sl + 6 + 0 + 0 ≤ 7287779)⟩ (Nat.le_of_ble_eq_true rfl) dL_law_1258 (fun _ _ hx => hx.elim) (fun r1258 v1258 h => ?_)
  refine g_iload C 1 rfl dL_law_1261 ?_
  refine g_icmp_eq C 1268 (by decide) dL_law_1263 (fun hc => ?_) (fun hc => ?_)
  · replace h := h.1 hc
    refine g_iload C 1 rfl dL_law_1268 ?_
    refine g_if_ne C 1285 (by decide) dL_law_1270 (fun hc => ?_) (fun hc => ?_)
    · replace h := h.1 hc
      refine g_goto C 2761 (by decide) dL_law_1285 ?_
      refine g_widen (ce + 60) (sl + 360) (by omega) (by omega) ?_
      refine g_sub [(0, .ref b), (1, .ref (L.2.1 6 0)), (2, .ref (L.2.1 7 0)), (3, .ref (L.2.1 50 0)), (4, .ref (L.2.1 51 0)), (5, .int i)] [2, 3, 4, 5, 6, 7] rfl ?_
      exact hK _ h
    · replace h := h.2 hc
      refine g_aload_n C 3 rfl 5 rfl dL_law_1273 ?_
      refine g_iconst C 0 (by decide) dL_law_1274 ?_
      refine g_laload C dL_law_1275 ?_
      refine g_iload C 0 rfl dL_law_1276 ?_
      refine g_i2l C dL_law_1278 ?_
      refine g_lcmp C dL_law_1279 ?_
      refine g_if_eq C 1285 (by decide) dL_law_1280 (fun hc => ?_) (fun hc => ?_)
      · replace h := h.1 hc
        refine g_goto C 2761 (by decide) dL_law_1285 ?_
        refine g_widen (ce + 60) (sl + 360) (by omega) (by omega) ?_
        refine g_sub [(0, .ref b), (1, .ref (L.2.1 6 0)), (2, .ref (L.2.1 7 0)), (3, .ref (L.2.1 50 0)), (4, .ref (L.2.1 51 0)), (5, .int i)] [2, 3, 4, 5, 6, 7] rfl ?_
        exact hK _ h
      · replace h := h.2 hc
        refine g_iconst C 0 (by decide) dL_law_1283 ?_
        exact h.elim
  · replace h := h.2 hc
    refine g_iconst C 0 (by decide) dL_law_1266 ?_
    exact h.elim
def TC_19 (s1 s2 s3 : Int32) (v : gMem) (Q : gMem → Prop) : Prop := (TL_forbid s1 s2 v (fun r1302 v1302 => (TX7_forbid s1 s2 v1302 (fun r1320 v1320 => (TX7_thrown v1320 (fun r1326 v1326 => ((r1326 = r1302 → ((¬ r1302 = 0 → (Q v1326)) ∧ (r1302 = 0 → (((lg_cmp (Int32.toInt64 (v1326 50 0 0)) (Int32.toInt64 r1320)) = 0 → (Q v1326)) ∧ (¬ (lg_cmp (Int32.toInt64 (v1326 50 0 0)) (Int32.toInt64 r1320)) = 0 → False))))) ∧ (¬ r1326 = r1302 → False))) (fun _ _ => False))) (fun _ _ => False))) (fun _ _ => False))
theorem kC_19 (C : gC p l s m args meth c cL_law 8 RL L sz) {b Ln : Nat} {xs : Nat → Int32} (hX : va_X b Ln xs s s.heap) (hbl : b < s.heap.size) (hbA : ¬ gA L sz b) {i s1 s2 s3 : Int32} (h1 : vp_in (i + 1) Ln) (h2 : vp_in (i + 2) Ln) (h3 : vp_in (i + 3) Ln) (e1 : xs (i + 1).toNatClampNeg = s1) (e2 : xs (i + 2).toNatClampNeg = s2) (e3 : xs (i + 3).toNatClampNeg = s3) {ce sl : Nat} (hce : ce + 60 ≤ 602775) (hsl : sl + 360 ≤ 7287779) {Q0 : State → Prop} {Q : gMem → Prop} (hK : ∀ v, Q v → gS p l e room_1 s m args below meth c 8 L sz Q0 (ce + 60) (sl + 360) 2761 [(0, .ref b), (1, .ref (L.2.1 6 0)), (2, .ref (L.2.1 7 0)), (3, .ref (L.2.1 50 0)), (4, .ref (L.2.1 51 0)), (5, .int i)] [] v) {v : gMem} (h : TC_19 s1 s2 s3 v Q) : gS p l e room_1 s m args below meth c 8 L sz Q0 ce sl 1288 [(0, .ref b), (1, .ref (L.2.1 6 0)), (2, .ref (L.2.1 7 0)), (3, .ref (L.2.1 50 0)), (4, .ref (L.2.1 51 0)), (5, .int i)] [] v := by
  unfold TC_19 at h
  refine g_aload_n C 1 rfl 1 rfl dL_law_1288 ?_
  refine g_aload_n C 0 rfl 0 rfl dL_law_1289 ?_
  refine g_iload C 5 rfl dL_law_1290 ?_
  refine g_iconst C 1 (by decide) dL_law_1292 ?_
  refine g_iadd C dL_law_1293 ?_
  refine g_sld C hX hbl hbA s1 h1 e1 dL_law_1294 ?_
  refine g_aload_n C 0 rfl 0 rfl dL_law_1295 ?_
  refine g_iload C 5 rfl dL_law_1296 ?_
  refine g_iconst C 2 (by decide) dL_law_1298 ?_
  refine g_iadd C dL_law_1299 ?_
  refine g_sld C hX hbl hbA s2 h2 e2 dL_law_1300 ?_
  refine g_aload_n C 3 rfl 3 rfl dL_law_1301 ?_
  refine g_gcallSXi C [.ref (L.2.1 6 0), .int s1, .int s2, .ref (L.2.1 50 0)] (fun sz9 => kL_forbid l C.2.2.2.2.2.2.1 L C.2.2.2.2.2.2.2.1 s1 s2 v _ _ h sz9) wml_RL_220 wstat_L_forbid wini_RL wcw_L_forbid rfl rfl (n := 4) (by decide +kernel) rfl ⟨(Nat.le_of_ble_eq_true rfl), (Nat.le_of_ble_eq_true rfl)⟩ ⟨(by omega : ce + 4 ≤ 602775), (by omega : sl + 24 ≤ 7287779)⟩ (Nat.le_of_ble_eq_true rfl) dL_law_1302 (fun _ _ hx => hx.elim) (fun r1302 v1302 h => ?_)
  refine g_istore C [(6, .int r1302), (0, .ref b), (1, .ref (L.2.1 6 0)), (2, .ref (L.2.1 7 0)), (3, .ref (L.2.1 50 0)), (4, .ref (L.2.1 51 0)), (5, .int i)] (Nat.le_of_ble_eq_true rfl) rfl dL_law_1305 ?_
  refine g_aload_n C 2 rfl 3 rfl dL_law_1307 ?_
  refine g_aload_n C 0 rfl 1 rfl dL_law_1308 ?_
  refine g_iload C 6 rfl dL_law_1309 ?_
  refine g_iconst C 1 (by decide) dL_law_1311 ?_
  refine g_iadd C dL_law_1312 ?_
  refine g_sld C hX hbl hbA s1 h1 e1 dL_law_1313 ?_
  refine g_aload_n C 0 rfl 1 rfl dL_law_1314 ?_
  refine g_iload C 6 rfl dL_law_1315 ?_
  refine g_iconst C 2 (by decide) dL_law_1317 ?_
  refine g_iadd C dL_law_1318 ?_
  refine g_sld C hX hbl hbA s2 h2 e2 dL_law_1319 ?_
  refine g_gcallVi C gok_7 rfl rfl [.int s1, .int s2] (fun sz9 => kX7_forbid l C.2.2.2.2.2.2.1 L C.2.2.2.2.2.2.2.1 s1 s2 v1302 _ _ h sz9) wml_RL_222 winst_X7_forbid wsel_X7_forbid wini_RX7 wcode_X7_forbid rfl rfl (n := 2) (by decide +kernel) rfl ⟨(Nat.le_of_ble_eq_true rfl), (Nat.le_of_ble_eq_true rfl)⟩ ⟨(by omega : ce + 4 + 0 ≤ 602775), (by omega : sl + 24 + 0 ≤ 7287779)⟩ (Nat.le_of_ble_eq_true rfl) dL_law_1320 (fun _ _ hx => hx.elim) (fun r1320 v1320 h => ?_)
  refine g_istore C [(7, .int r1320), (6, .int r1302), (0, .ref b), (1, .ref (L.2.1 6 0)), (2, .ref (L.2.1 7 0)), (3, .ref (L.2.1 50 0)), (4, .ref (L.2.1 51 0)), (5, .int i)] (Nat.le_of_ble_eq_true rfl) rfl dL_law_1323 ?_
  refine g_aload_n C 2 rfl 4 rfl dL_law_1325 ?_
  refine g_gcallVi C gok_7 rfl rfl [] (fun sz9 => kX7_thrown l C.2.2.2.2.2.2.1 L C.2.2.2.2.2.2.2.1 v1320 _ _ h sz9) wml_RL_157 winst_X7_thrown wsel_X7_thrown wini_RX7 wcode_X7_thrown rfl rfl (n := 0) (by decide +kernel) rfl ⟨(Nat.le_of_ble_eq_true rfl), (Nat.le_of_ble_eq_true rfl)⟩ ⟨(by omega : ce + 4 + 0 + 0 ≤ 602775), (by omega : sl + 24 + 0 + 0 ≤ 7287779)⟩ (Nat.le_of_ble_eq_true rfl) dL_law_1326 (fun _ _ hx => hx.elim) (fun r1326 v1326 h => ?_)
  refine g_iload C 1 rfl dL_law_1329 ?_
  refine g_icmp_eq C 1336 (by decide) dL_law_1331 (fun hc => ?_) (fun hc => ?_)
  · replace h := h.1 hc
    refine g_iload C 1 rfl dL_law_1336 ?_
    refine g_if_ne C 1353 (by decide) dL_law_1338 (fun hc => ?_) (fun hc => ?_)
    · replace h := h.1 hc
      refine g_goto C 2761 (by decide) dL_law_1353 ?_
      refine g_widen (ce + 60) (sl + 360) (by omega) (by omega) ?_
      refine g_sub [(0, .ref b), (1, .ref (L.2.1 6 0)), (2, .ref (L.2.1 7 0)), (3, .ref (L.2.1 50 0)), (4, .ref (L.2.1 51 0)), (5, .int i)] [2, 3, 4, 5, 6, 7] rfl ?_
      exact hK _ h
    · replace h := h.2 hc
      refine g_aload_n C 3 rfl 5 rfl dL_law_1341 ?_
      refine g_iconst C 0 (by decide) dL_law_1342 ?_
      refine g_laload C dL_law_1343 ?_
      refine g_iload C 0 rfl dL_law_1344 ?_
      refine g_i2l C dL_law_1346 ?_
      refine g_lcmp C dL_law_1347 ?_
      refine g_if_eq C 1353 (by decide) dL_law_1348 (fun hc => ?_) (fun hc => ?_)
      · replace h := h.1 hc
        refine g_goto C 2761 (by decide) dL_law_1353 ?_
        refine g_widen (ce + 60) (sl + 360) (by omega) (by omega) ?_
        refine g_sub [(0, .ref b), (1, .ref (L.2.1 6 0)), (2, .ref (L.2.1 7 0)), (3, .ref (L.2.1 50 0)), (4, .ref (L.2.1 51 0)), (5, .int i)] [2, 3, 4, 5, 6, 7] rfl ?_
        exact hK _ h
      · replace h := h.2 hc
        refine g_iconst C 0 (by decide) dL_law_1351 ?_
        exact h.elim
  · replace h := h.2 hc
    refine g_iconst C 0 (by decide) dL_law_1334 ?_
    exact h.elim
def TC_20 (s1 s2 s3 : Int32) (v : gMem) (Q : gMem → Prop) : Prop := (TL_allow s1 s2 v (fun r1370 v1370 => (TX7_allow s1 s2 v1370 (fun r1388 v1388 => (TX7_thrown v1388 (fun r1394 v1394 => ((r1394 = r1370 → ((¬ r1370 = 0 → (Q v1394)) ∧ (r1370 = 0 → (((lg_cmp (Int32.toInt64 (v1394 50 0 0)) (Int32.toInt64 r1388)) = 0 → (Q v1394)) ∧ (¬ (lg_cmp (Int32.toInt64 (v1394 50 0 0)) (Int32.toInt64 r1388)) = 0 → False))))) ∧ (¬ r1394 = r1370 → False))) (fun _ _ => False))) (fun _ _ => False))) (fun _ _ => False))
theorem kC_20 (C : gC p l s m args meth c cL_law 8 RL L sz) {b Ln : Nat} {xs : Nat → Int32} (hX : va_X b Ln xs s s.heap) (hbl : b < s.heap.size) (hbA : ¬ gA L sz b) {i s1 s2 s3 : Int32} (h1 : vp_in (i + 1) Ln) (h2 : vp_in (i + 2) Ln) (h3 : vp_in (i + 3) Ln) (e1 : xs (i + 1).toNatClampNeg = s1) (e2 : xs (i + 2).toNatClampNeg = s2) (e3 : xs (i + 3).toNatClampNeg = s3) {ce sl : Nat} (hce : ce + 60 ≤ 602775) (hsl : sl + 360 ≤ 7287779) {Q0 : State → Prop} {Q : gMem → Prop} (hK : ∀ v, Q v → gS p l e room_1 s m args below meth c 8 L sz Q0 (ce + 60) (sl + 360) 2761 [(0, .ref b), (1, .ref (L.2.1 6 0)), (2, .ref (L.2.1 7 0)), (3, .ref (L.2.1 50 0)), (4, .ref (L.2.1 51 0)), (5, .int i)] [] v) {v : gMem} (h : TC_20 s1 s2 s3 v Q) : gS p l e room_1 s m args below meth c 8 L sz Q0 ce sl 1356 [(0, .ref b), (1, .ref (L.2.1 6 0)), (2, .ref (L.2.1 7 0)), (3, .ref (L.2.1 50 0)), (4, .ref (L.2.1 51 0)), (5, .int i)] [] v := by
  unfold TC_20 at h
  refine g_aload_n C 1 rfl 1 rfl dL_law_1356 ?_
  refine g_aload_n C 0 rfl 0 rfl dL_law_1357 ?_
  refine g_iload C 5 rfl dL_law_1358 ?_
  refine g_iconst C 1 (by decide) dL_law_1360 ?_
  refine g_iadd C dL_law_1361 ?_
  refine g_sld C hX hbl hbA s1 h1 e1 dL_law_1362 ?_
  refine g_aload_n C 0 rfl 0 rfl dL_law_1363 ?_
  refine g_iload C 5 rfl dL_law_1364 ?_
  refine g_iconst C 2 (by decide) dL_law_1366 ?_
  refine g_iadd C dL_law_1367 ?_
  refine g_sld C hX hbl hbA s2 h2 e2 dL_law_1368 ?_
  refine g_aload_n C 3 rfl 3 rfl dL_law_1369 ?_
  refine g_gcallSXi C [.ref (L.2.1 6 0), .int s1, .int s2, .ref (L.2.1 50 0)] (fun sz9 => kL_allow l C.2.2.2.2.2.2.1 L C.2.2.2.2.2.2.2.1 s1 s2 v _ _ h sz9) wml_RL_223 wstat_L_allow wini_RL wcw_L_allow rfl rfl (n := 4) (by decide +kernel) rfl ⟨(Nat.le_of_ble_eq_true rfl), (Nat.le_of_ble_eq_true rfl)⟩ ⟨(by omega : ce + 3 ≤ 602775), (by omega : sl + 18 ≤ 7287779)⟩ (Nat.le_of_ble_eq_true rfl) dL_law_1370 (fun _ _ hx => hx.elim) (fun r1370 v1370 h => ?_)
  refine g_istore C [(6, .int r1370), (0, .ref b), (1, .ref (L.2.1 6 0)), (2, .ref (L.2.1 7 0)), (3, .ref (L.2.1 50 0)), (4, .ref (L.2.1 51 0)), (5, .int i)] (Nat.le_of_ble_eq_true rfl) rfl dL_law_1373 ?_
  refine g_aload_n C 2 rfl 3 rfl dL_law_1375 ?_
  refine g_aload_n C 0 rfl 1 rfl dL_law_1376 ?_
  refine g_iload C 6 rfl dL_law_1377 ?_
  refine g_iconst C 1 (by decide) dL_law_1379 ?_
  refine g_iadd C dL_law_1380 ?_
  refine g_sld C hX hbl hbA s1 h1 e1 dL_law_1381 ?_
  refine g_aload_n C 0 rfl 1 rfl dL_law_1382 ?_
  refine g_iload C 6 rfl dL_law_1383 ?_
  refine g_iconst C 2 (by decide) dL_law_1385 ?_
  refine g_iadd C dL_law_1386 ?_
  refine g_sld C hX hbl hbA s2 h2 e2 dL_law_1387 ?_
  refine g_gcallVi C gok_7 rfl rfl [.int s1, .int s2] (fun sz9 => kX7_allow l C.2.2.2.2.2.2.1 L C.2.2.2.2.2.2.2.1 s1 s2 v1370 _ _ h sz9) wml_RL_225 winst_X7_allow wsel_X7_allow wini_RX7 wcode_X7_allow rfl rfl (n := 2) (by decide +kernel) rfl ⟨(Nat.le_of_ble_eq_true rfl), (Nat.le_of_ble_eq_true rfl)⟩ ⟨(by omega : ce + 3 + 0 ≤ 602775), (by omega : sl + 18 + 0 ≤ 7287779)⟩ (Nat.le_of_ble_eq_true rfl) dL_law_1388 (fun _ _ hx => hx.elim) (fun r1388 v1388 h => ?_)
  refine g_istore C [(7, .int r1388), (6, .int r1370), (0, .ref b), (1, .ref (L.2.1 6 0)), (2, .ref (L.2.1 7 0)), (3, .ref (L.2.1 50 0)), (4, .ref (L.2.1 51 0)), (5, .int i)] (Nat.le_of_ble_eq_true rfl) rfl dL_law_1391 ?_
  refine g_aload_n C 2 rfl 4 rfl dL_law_1393 ?_
  refine g_gcallVi C gok_7 rfl rfl [] (fun sz9 => kX7_thrown l C.2.2.2.2.2.2.1 L C.2.2.2.2.2.2.2.1 v1388 _ _ h sz9) wml_RL_157 winst_X7_thrown wsel_X7_thrown wini_RX7 wcode_X7_thrown rfl rfl (n := 0) (by decide +kernel) rfl ⟨(Nat.le_of_ble_eq_true rfl), (Nat.le_of_ble_eq_true rfl)⟩ ⟨(by omega : ce + 3 + 0 + 0 ≤ 602775), (by omega : sl + 18 + 0 + 0 ≤ 7287779)⟩ (Nat.le_of_ble_eq_true rfl) dL_law_1394 (fun _ _ hx => hx.elim) (fun r1394 v1394 h => ?_)
  refine g_iload C 1 rfl dL_law_1397 ?_
  refine g_icmp_eq C 1404 (by decide) dL_law_1399 (fun hc => ?_) (fun hc => ?_)
  · replace h := h.1 hc
    refine g_iload C 1 rfl dL_law_1404 ?_
    refine g_if_ne C 1421 (by decide) dL_law_1406 (fun hc => ?_) (fun hc => ?_)
    · replace h := h.1 hc
      refine g_goto C 2761 (by decide) dL_law_1421 ?_
      refine g_widen (ce + 60) (sl + 360) (by omega) (by omega) ?_
      refine g_sub [(0, .ref b), (1, .ref (L.2.1 6 0)), (2, .ref (L.2.1 7 0)), (3, .ref (L.2.1 50 0)), (4, .ref (L.2.1 51 0)), (5, .int i)] [2, 3, 4, 5, 6, 7] rfl ?_
      exact hK _ h
    · replace h := h.2 hc
      refine g_aload_n C 3 rfl 5 rfl dL_law_1409 ?_
      refine g_iconst C 0 (by decide) dL_law_1410 ?_
      refine g_laload C dL_law_1411 ?_
      refine g_iload C 0 rfl dL_law_1412 ?_
      refine g_i2l C dL_law_1414 ?_
      refine g_lcmp C dL_law_1415 ?_
      refine g_if_eq C 1421 (by decide) dL_law_1416 (fun hc => ?_) (fun hc => ?_)
      · replace h := h.1 hc
        refine g_goto C 2761 (by decide) dL_law_1421 ?_
        refine g_widen (ce + 60) (sl + 360) (by omega) (by omega) ?_
        refine g_sub [(0, .ref b), (1, .ref (L.2.1 6 0)), (2, .ref (L.2.1 7 0)), (3, .ref (L.2.1 50 0)), (4, .ref (L.2.1 51 0)), (5, .int i)] [2, 3, 4, 5, 6, 7] rfl ?_
        exact hK _ h
      · replace h := h.2 hc
        refine g_iconst C 0 (by decide) dL_law_1419 ?_
        exact h.elim
  · replace h := h.2 hc
    refine g_iconst C 0 (by decide) dL_law_1402 ?_
    exact h.elim
def TC_21 (s1 s2 s3 : Int32) (v : gMem) (Q : gMem → Prop) : Prop := (TL_why s1 s2 v (fun r1438 v1438 => (TX7_why s1 s2 v1438 (fun r1456 v1456 => (TX7_thrown v1456 (fun r1462 v1462 => ((r1462 = r1438 → ((¬ r1438 = 0 → (Q v1462)) ∧ (r1438 = 0 → (((lg_cmp (Int32.toInt64 (v1462 50 0 0)) (Int32.toInt64 r1456)) = 0 → (Q v1462)) ∧ (¬ (lg_cmp (Int32.toInt64 (v1462 50 0 0)) (Int32.toInt64 r1456)) = 0 → False))))) ∧ (¬ r1462 = r1438 → False))) (fun _ _ => False))) (fun _ _ => False))) (fun _ _ => False))
theorem kC_21 (C : gC p l s m args meth c cL_law 8 RL L sz) {b Ln : Nat} {xs : Nat → Int32} (hX : va_X b Ln xs s s.heap) (hbl : b < s.heap.size) (hbA : ¬ gA L sz b) {i s1 s2 s3 : Int32} (h1 : vp_in (i + 1) Ln) (h2 : vp_in (i + 2) Ln) (h3 : vp_in (i + 3) Ln) (e1 : xs (i + 1).toNatClampNeg = s1) (e2 : xs (i + 2).toNatClampNeg = s2) (e3 : xs (i + 3).toNatClampNeg = s3) {ce sl : Nat} (hce : ce + 60 ≤ 602775) (hsl : sl + 360 ≤ 7287779) {Q0 : State → Prop} {Q : gMem → Prop} (hK : ∀ v, Q v → gS p l e room_1 s m args below meth c 8 L sz Q0 (ce + 60) (sl + 360) 2761 [(0, .ref b), (1, .ref (L.2.1 6 0)), (2, .ref (L.2.1 7 0)), (3, .ref (L.2.1 50 0)), (4, .ref (L.2.1 51 0)), (5, .int i)] [] v) {v : gMem} (h : TC_21 s1 s2 s3 v Q) : gS p l e room_1 s m args below meth c 8 L sz Q0 ce sl 1424 [(0, .ref b), (1, .ref (L.2.1 6 0)), (2, .ref (L.2.1 7 0)), (3, .ref (L.2.1 50 0)), (4, .ref (L.2.1 51 0)), (5, .int i)] [] v := by
  unfold TC_21 at h
  refine g_aload_n C 1 rfl 1 rfl dL_law_1424 ?_
  refine g_aload_n C 0 rfl 0 rfl dL_law_1425 ?_
  refine g_iload C 5 rfl dL_law_1426 ?_
  refine g_iconst C 1 (by decide) dL_law_1428 ?_
  refine g_iadd C dL_law_1429 ?_
  refine g_sld C hX hbl hbA s1 h1 e1 dL_law_1430 ?_
  refine g_aload_n C 0 rfl 0 rfl dL_law_1431 ?_
  refine g_iload C 5 rfl dL_law_1432 ?_
  refine g_iconst C 2 (by decide) dL_law_1434 ?_
  refine g_iadd C dL_law_1435 ?_
  refine g_sld C hX hbl hbA s2 h2 e2 dL_law_1436 ?_
  refine g_aload_n C 3 rfl 3 rfl dL_law_1437 ?_
  refine g_gcallSXi C [.ref (L.2.1 6 0), .int s1, .int s2, .ref (L.2.1 50 0)] (fun sz9 => kL_why l C.2.2.2.2.2.2.1 L C.2.2.2.2.2.2.2.1 s1 s2 v _ _ h sz9) wml_RL_226 wstat_L_why wini_RL wcw_L_why rfl rfl (n := 4) (by decide +kernel) rfl ⟨(Nat.le_of_ble_eq_true rfl), (Nat.le_of_ble_eq_true rfl)⟩ ⟨(by omega : ce + 2 ≤ 602775), (by omega : sl + 12 ≤ 7287779)⟩ (Nat.le_of_ble_eq_true rfl) dL_law_1438 (fun _ _ hx => hx.elim) (fun r1438 v1438 h => ?_)
  refine g_istore C [(6, .int r1438), (0, .ref b), (1, .ref (L.2.1 6 0)), (2, .ref (L.2.1 7 0)), (3, .ref (L.2.1 50 0)), (4, .ref (L.2.1 51 0)), (5, .int i)] (Nat.le_of_ble_eq_true rfl) rfl dL_law_1441 ?_
  refine g_aload_n C 2 rfl 3 rfl dL_law_1443 ?_
  refine g_aload_n C 0 rfl 1 rfl dL_law_1444 ?_
  refine g_iload C 6 rfl dL_law_1445 ?_
  refine g_iconst C 1 (by decide) dL_law_1447 ?_
  refine g_iadd C dL_law_1448 ?_
  refine g_sld C hX hbl hbA s1 h1 e1 dL_law_1449 ?_
  refine g_aload_n C 0 rfl 1 rfl dL_law_1450 ?_
  refine g_iload C 6 rfl dL_law_1451 ?_
  refine g_iconst C 2 (by decide) dL_law_1453 ?_
  refine g_iadd C dL_law_1454 ?_
  refine g_sld C hX hbl hbA s2 h2 e2 dL_law_1455 ?_
  refine g_gcallVi C gok_7 rfl rfl [.int s1, .int s2] (fun sz9 => kX7_why l C.2.2.2.2.2.2.1 L C.2.2.2.2.2.2.2.1 s1 s2 v1438 _ _ h sz9) wml_RL_228 winst_X7_why wsel_X7_why wini_RX7 wcode_X7_why rfl rfl (n := 2) (by decide +kernel) rfl ⟨(Nat.le_of_ble_eq_true rfl), (Nat.le_of_ble_eq_true rfl)⟩ ⟨(by omega : ce + 2 + 0 ≤ 602775), (by omega : sl + 12 + 0 ≤ 7287779)⟩ (Nat.le_of_ble_eq_true rfl) dL_law_1456 (fun _ _ hx => hx.elim) (fun r1456 v1456 h => ?_)
  refine g_istore C [(7, .int r1456), (6, .int r1438), (0, .ref b), (1, .ref (L.2.1 6 0)), (2, .ref (L.2.1 7 0)), (3, .ref (L.2.1 50 0)), (4, .ref (L.2.1 51 0)), (5, .int i)] (Nat.le_of_ble_eq_true rfl) rfl dL_law_1459 ?_
  refine g_aload_n C 2 rfl 4 rfl dL_law_1461 ?_
  refine g_gcallVi C gok_7 rfl rfl [] (fun sz9 => kX7_thrown l C.2.2.2.2.2.2.1 L C.2.2.2.2.2.2.2.1 v1456 _ _ h sz9) wml_RL_157 winst_X7_thrown wsel_X7_thrown wini_RX7 wcode_X7_thrown rfl rfl (n := 0) (by decide +kernel) rfl ⟨(Nat.le_of_ble_eq_true rfl), (Nat.le_of_ble_eq_true rfl)⟩ ⟨(by omega : ce + 2 + 0 + 0 ≤ 602775), (by omega : sl + 12 + 0 + 0 ≤ 7287779)⟩ (Nat.le_of_ble_eq_true rfl) dL_law_1462 (fun _ _ hx => hx.elim) (fun r1462 v1462 h => ?_)
  refine g_iload C 1 rfl dL_law_1465 ?_
  refine g_icmp_eq C 1472 (by decide) dL_law_1467 (fun hc => ?_) (fun hc => ?_)
  · replace h := h.1 hc
    refine g_iload C 1 rfl dL_law_1472 ?_
    refine g_if_ne C 1489 (by decide) dL_law_1474 (fun hc => ?_) (fun hc => ?_)
    · replace h := h.1 hc
      refine g_goto C 2761 (by decide) dL_law_1489 ?_
      refine g_widen (ce + 60) (sl + 360) (by omega) (by omega) ?_
      refine g_sub [(0, .ref b), (1, .ref (L.2.1 6 0)), (2, .ref (L.2.1 7 0)), (3, .ref (L.2.1 50 0)), (4, .ref (L.2.1 51 0)), (5, .int i)] [2, 3, 4, 5, 6, 7] rfl ?_
      exact hK _ h
    · replace h := h.2 hc
      refine g_aload_n C 3 rfl 5 rfl dL_law_1477 ?_
      refine g_iconst C 0 (by decide) dL_law_1478 ?_
      refine g_laload C dL_law_1479 ?_
      refine g_iload C 0 rfl dL_law_1480 ?_
      refine g_i2l C dL_law_1482 ?_
      refine g_lcmp C dL_law_1483 ?_
      refine g_if_eq C 1489 (by decide) dL_law_1484 (fun hc => ?_) (fun hc => ?_)
      · replace h := h.1 hc
        refine g_goto C 2761 (by decide) dL_law_1489 ?_
        refine g_widen (ce + 60) (sl + 360) (by omega) (by omega) ?_
        refine g_sub [(0, .ref b), (1, .ref (L.2.1 6 0)), (2, .ref (L.2.1 7 0)), (3, .ref (L.2.1 50 0)), (4, .ref (L.2.1 51 0)), (5, .int i)] [2, 3, 4, 5, 6, 7] rfl ?_
        exact hK _ h
      · replace h := h.2 hc
        refine g_iconst C 0 (by decide) dL_law_1487 ?_
        exact h.elim
  · replace h := h.2 hc
    refine g_iconst C 0 (by decide) dL_law_1470 ?_
    exact h.elim
def TC_22 (s1 s2 s3 : Int32) (v : gMem) (Q : gMem → Prop) : Prop := (TL_barOne s1 s2 v (fun r1506 v1506 => (TX7_barOne s1 s2 v1506 (fun r1524 v1524 => (TX7_thrown v1524 (fun r1530 v1530 => ((r1530 = r1506 → ((¬ r1506 = 0 → (Q v1530)) ∧ (r1506 = 0 → (((lg_cmp (Int32.toInt64 (v1530 50 0 0)) (Int32.toInt64 r1524)) = 0 → (Q v1530)) ∧ (¬ (lg_cmp (Int32.toInt64 (v1530 50 0 0)) (Int32.toInt64 r1524)) = 0 → False))))) ∧ (¬ r1530 = r1506 → False))) (fun _ _ => False))) (fun _ _ => False))) (fun _ _ => False))
theorem kC_22 (C : gC p l s m args meth c cL_law 8 RL L sz) {b Ln : Nat} {xs : Nat → Int32} (hX : va_X b Ln xs s s.heap) (hbl : b < s.heap.size) (hbA : ¬ gA L sz b) {i s1 s2 s3 : Int32} (h1 : vp_in (i + 1) Ln) (h2 : vp_in (i + 2) Ln) (h3 : vp_in (i + 3) Ln) (e1 : xs (i + 1).toNatClampNeg = s1) (e2 : xs (i + 2).toNatClampNeg = s2) (e3 : xs (i + 3).toNatClampNeg = s3) {ce sl : Nat} (hce : ce + 60 ≤ 602775) (hsl : sl + 360 ≤ 7287779) {Q0 : State → Prop} {Q : gMem → Prop} (hK : ∀ v, Q v → gS p l e room_1 s m args below meth c 8 L sz Q0 (ce + 60) (sl + 360) 2761 [(0, .ref b), (1, .ref (L.2.1 6 0)), (2, .ref (L.2.1 7 0)), (3, .ref (L.2.1 50 0)), (4, .ref (L.2.1 51 0)), (5, .int i)] [] v) {v : gMem} (h : TC_22 s1 s2 s3 v Q) : gS p l e room_1 s m args below meth c 8 L sz Q0 ce sl 1492 [(0, .ref b), (1, .ref (L.2.1 6 0)), (2, .ref (L.2.1 7 0)), (3, .ref (L.2.1 50 0)), (4, .ref (L.2.1 51 0)), (5, .int i)] [] v := by
  unfold TC_22 at h
  refine g_aload_n C 1 rfl 1 rfl dL_law_1492 ?_
  refine g_aload_n C 0 rfl 0 rfl dL_law_1493 ?_
  refine g_iload C 5 rfl dL_law_1494 ?_
  refine g_iconst C 1 (by decide) dL_law_1496 ?_
  refine g_iadd C dL_law_1497 ?_
  refine g_sld C hX hbl hbA s1 h1 e1 dL_law_1498 ?_
  refine g_aload_n C 0 rfl 0 rfl dL_law_1499 ?_
  refine g_iload C 5 rfl dL_law_1500 ?_
  refine g_iconst C 2 (by decide) dL_law_1502 ?_
  refine g_iadd C dL_law_1503 ?_
  refine g_sld C hX hbl hbA s2 h2 e2 dL_law_1504 ?_
  refine g_aload_n C 3 rfl 3 rfl dL_law_1505 ?_
  refine g_gcallSXi C [.ref (L.2.1 6 0), .int s1, .int s2, .ref (L.2.1 50 0)] (fun sz9 => kL_barOne l C.2.2.2.2.2.2.1 L C.2.2.2.2.2.2.2.1 s1 s2 v _ _ h sz9) wml_RL_229 wstat_L_barOne wini_RL wcw_L_barOne rfl rfl (n := 4) (by decide +kernel) rfl ⟨(Nat.le_of_ble_eq_true rfl), (Nat.le_of_ble_eq_true rfl)⟩ ⟨(by omega : ce + 3 ≤ 602775), (by omega : sl + 18 ≤ 7287779)⟩ (Nat.le_of_ble_eq_true rfl) dL_law_1506 (fun _ _ hx => hx.elim) (fun r1506 v1506 h => ?_)
  refine g_istore C [(6, .int r1506), (0, .ref b), (1, .ref (L.2.1 6 0)), (2, .ref (L.2.1 7 0)), (3, .ref (L.2.1 50 0)), (4, .ref (L.2.1 51 0)), (5, .int i)] (Nat.le_of_ble_eq_true rfl) rfl dL_law_1509 ?_
  refine g_aload_n C 2 rfl 3 rfl dL_law_1511 ?_
  refine g_aload_n C 0 rfl 1 rfl dL_law_1512 ?_
  refine g_iload C 6 rfl dL_law_1513 ?_
  refine g_iconst C 1 (by decide) dL_law_1515 ?_
  refine g_iadd C dL_law_1516 ?_
  refine g_sld C hX hbl hbA s1 h1 e1 dL_law_1517 ?_
  refine g_aload_n C 0 rfl 1 rfl dL_law_1518 ?_
  refine g_iload C 6 rfl dL_law_1519 ?_
  refine g_iconst C 2 (by decide) dL_law_1521 ?_
  refine g_iadd C dL_law_1522 ?_
  refine g_sld C hX hbl hbA s2 h2 e2 dL_law_1523 ?_
  refine g_gcallVi C gok_7 rfl rfl [.int s1, .int s2] (fun sz9 => kX7_barOne l C.2.2.2.2.2.2.1 L C.2.2.2.2.2.2.2.1 s1 s2 v1506 _ _ h sz9) wml_RL_231 winst_X7_barOne wsel_X7_barOne wini_RX7 wcode_X7_barOne rfl rfl (n := 2) (by decide +kernel) rfl ⟨(Nat.le_of_ble_eq_true rfl), (Nat.le_of_ble_eq_true rfl)⟩ ⟨(by omega : ce + 3 + 0 ≤ 602775), (by omega : sl + 18 + 0 ≤ 7287779)⟩ (Nat.le_of_ble_eq_true rfl) dL_law_1524 (fun _ _ hx => hx.elim) (fun r1524 v1524 h => ?_)
  refine g_istore C [(7, .int r1524), (6, .int r1506), (0, .ref b), (1, .ref (L.2.1 6 0)), (2, .ref (L.2.1 7 0)), (3, .ref (L.2.1 50 0)), (4, .ref (L.2.1 51 0)), (5, .int i)] (Nat.le_of_ble_eq_true rfl) rfl dL_law_1527 ?_
  refine g_aload_n C 2 rfl 4 rfl dL_law_1529 ?_
  refine g_gcallVi C gok_7 rfl rfl [] (fun sz9 => kX7_thrown l C.2.2.2.2.2.2.1 L C.2.2.2.2.2.2.2.1 v1524 _ _ h sz9) wml_RL_157 winst_X7_thrown wsel_X7_thrown wini_RX7 wcode_X7_thrown rfl rfl (n := 0) (by decide +kernel) rfl ⟨(Nat.le_of_ble_eq_true rfl), (Nat.le_of_ble_eq_true rfl)⟩ ⟨(by omega : ce + 3 + 0 + 0 ≤ 602775), (by omega : sl + 18 + 0 + 0 ≤ 7287779)⟩ (Nat.le_of_ble_eq_true rfl) dL_law_1530 (fun _ _ hx => hx.elim) (fun r1530 v1530 h => ?_)
  refine g_iload C 1 rfl dL_law_1533 ?_
  refine g_icmp_eq C 1540 (by decide) dL_law_1535 (fun hc => ?_) (fun hc => ?_)
  · replace h := h.1 hc
    refine g_iload C 1 rfl dL_law_1540 ?_
    refine g_if_ne C 1557 (by decide) dL_law_1542 (fun hc => ?_) (fun hc => ?_)
    · replace h := h.1 hc
      refine g_goto C 2761 (by decide) dL_law_1557 ?_
      refine g_widen (ce + 60) (sl + 360) (by omega) (by omega) ?_
      refine g_sub [(0, .ref b), (1, .ref (L.2.1 6 0)), (2, .ref (L.2.1 7 0)), (3, .ref (L.2.1 50 0)), (4, .ref (L.2.1 51 0)), (5, .int i)] [2, 3, 4, 5, 6, 7] rfl ?_
      exact hK _ h
    · replace h := h.2 hc
      refine g_aload_n C 3 rfl 5 rfl dL_law_1545 ?_
      refine g_iconst C 0 (by decide) dL_law_1546 ?_
      refine g_laload C dL_law_1547 ?_
      refine g_iload C 0 rfl dL_law_1548 ?_
      refine g_i2l C dL_law_1550 ?_
      refine g_lcmp C dL_law_1551 ?_
      refine g_if_eq C 1557 (by decide) dL_law_1552 (fun hc => ?_) (fun hc => ?_)
      · replace h := h.1 hc
        refine g_goto C 2761 (by decide) dL_law_1557 ?_
        refine g_widen (ce + 60) (sl + 360) (by omega) (by omega) ?_
        refine g_sub [(0, .ref b), (1, .ref (L.2.1 6 0)), (2, .ref (L.2.1 7 0)), (3, .ref (L.2.1 50 0)), (4, .ref (L.2.1 51 0)), (5, .int i)] [2, 3, 4, 5, 6, 7] rfl ?_
        exact hK _ h
      · replace h := h.2 hc
        refine g_iconst C 0 (by decide) dL_law_1555 ?_
        exact h.elim
  · replace h := h.2 hc
    refine g_iconst C 0 (by decide) dL_law_1538 ?_
    exact h.elim
def TC_23 (s1 s2 s3 : Int32) (v : gMem) (Q : gMem → Prop) : Prop := (TL_barOther s1 s2 v (fun r1574 v1574 => (TX7_barOther s1 s2 v1574 (fun r1592 v1592 => (TX7_thrown v1592 (fun r1598 v1598 => ((r1598 = r1574 → ((¬ r1574 = 0 → (Q v1598)) ∧ (r1574 = 0 → (((lg_cmp (Int32.toInt64 (v1598 50 0 0)) (Int32.toInt64 r1592)) = 0 → (Q v1598)) ∧ (¬ (lg_cmp (Int32.toInt64 (v1598 50 0 0)) (Int32.toInt64 r1592)) = 0 → False))))) ∧ (¬ r1598 = r1574 → False))) (fun _ _ => False))) (fun _ _ => False))) (fun _ _ => False))
theorem kC_23 (C : gC p l s m args meth c cL_law 8 RL L sz) {b Ln : Nat} {xs : Nat → Int32} (hX : va_X b Ln xs s s.heap) (hbl : b < s.heap.size) (hbA : ¬ gA L sz b) {i s1 s2 s3 : Int32} (h1 : vp_in (i + 1) Ln) (h2 : vp_in (i + 2) Ln) (h3 : vp_in (i + 3) Ln) (e1 : xs (i + 1).toNatClampNeg = s1) (e2 : xs (i + 2).toNatClampNeg = s2) (e3 : xs (i + 3).toNatClampNeg = s3) {ce sl : Nat} (hce : ce + 60 ≤ 602775) (hsl : sl + 360 ≤ 7287779) {Q0 : State → Prop} {Q : gMem → Prop} (hK : ∀ v, Q v → gS p l e room_1 s m args below meth c 8 L sz Q0 (ce + 60) (sl + 360) 2761 [(0, .ref b), (1, .ref (L.2.1 6 0)), (2, .ref (L.2.1 7 0)), (3, .ref (L.2.1 50 0)), (4, .ref (L.2.1 51 0)), (5, .int i)] [] v) {v : gMem} (h : TC_23 s1 s2 s3 v Q) : gS p l e room_1 s m args below meth c 8 L sz Q0 ce sl 1560 [(0, .ref b), (1, .ref (L.2.1 6 0)), (2, .ref (L.2.1 7 0)), (3, .ref (L.2.1 50 0)), (4, .ref (L.2.1 51 0)), (5, .int i)] [] v := by
  unfold TC_23 at h
  refine g_aload_n C 1 rfl 1 rfl dL_law_1560 ?_
  refine g_aload_n C 0 rfl 0 rfl dL_law_1561 ?_
  refine g_iload C 5 rfl dL_law_1562 ?_
  refine g_iconst C 1 (by decide) dL_law_1564 ?_
  refine g_iadd C dL_law_1565 ?_
  refine g_sld C hX hbl hbA s1 h1 e1 dL_law_1566 ?_
  refine g_aload_n C 0 rfl 0 rfl dL_law_1567 ?_
  refine g_iload C 5 rfl dL_law_1568 ?_
  refine g_iconst C 2 (by decide) dL_law_1570 ?_
  refine g_iadd C dL_law_1571 ?_
  refine g_sld C hX hbl hbA s2 h2 e2 dL_law_1572 ?_
  refine g_aload_n C 3 rfl 3 rfl dL_law_1573 ?_
  refine g_gcallSXi C [.ref (L.2.1 6 0), .int s1, .int s2, .ref (L.2.1 50 0)] (fun sz9 => kL_barOther l C.2.2.2.2.2.2.1 L C.2.2.2.2.2.2.2.1 s1 s2 v _ _ h sz9) wml_RL_232 wstat_L_barOther wini_RL wcw_L_barOther rfl rfl (n := 4) (by decide +kernel) rfl ⟨(Nat.le_of_ble_eq_true rfl), (Nat.le_of_ble_eq_true rfl)⟩ ⟨(by omega : ce + 3 ≤ 602775), (by omega : sl + 18 ≤ 7287779)⟩ (Nat.le_of_ble_eq_true rfl) dL_law_1574 (fun _ _ hx => hx.elim) (fun r1574 v1574 h => ?_)
  refine g_istore C [(6, .int r1574), (0, .ref b), (1, .ref (L.2.1 6 0)), (2, .ref (L.2.1 7 0)), (3, .ref (L.2.1 50 0)), (4, .ref (L.2.1 51 0)), (5, .int i)] (Nat.le_of_ble_eq_true rfl) rfl dL_law_1577 ?_
  refine g_aload_n C 2 rfl 3 rfl dL_law_1579 ?_
  refine g_aload_n C 0 rfl 1 rfl dL_law_1580 ?_
  refine g_iload C 6 rfl dL_law_1581 ?_
  refine g_iconst C 1 (by decide) dL_law_1583 ?_
  refine g_iadd C dL_law_1584 ?_
  refine g_sld C hX hbl hbA s1 h1 e1 dL_law_1585 ?_
  refine g_aload_n C 0 rfl 1 rfl dL_law_1586 ?_
  refine g_iload C 6 rfl dL_law_1587 ?_
  refine g_iconst C 2 (by decide) dL_law_1589 ?_
  refine g_iadd C dL_law_1590 ?_
  refine g_sld C hX hbl hbA s2 h2 e2 dL_law_1591 ?_
  refine g_gcallVi C gok_7 rfl rfl [.int s1, .int s2] (fun sz9 => kX7_barOther l C.2.2.2.2.2.2.1 L C.2.2.2.2.2.2.2.1 s1 s2 v1574 _ _ h sz9) wml_RL_234 winst_X7_barOther wsel_X7_barOther wini_RX7 wcode_X7_barOther rfl rfl (n := 2) (by decide +kernel) rfl ⟨(Nat.le_of_ble_eq_true rfl), (Nat.le_of_ble_eq_true rfl)⟩ ⟨(by omega : ce + 3 + 0 ≤ 602775), (by omega : sl + 18 + 0 ≤ 7287779)⟩ (Nat.le_of_ble_eq_true rfl) dL_law_1592 (fun _ _ hx => hx.elim) (fun r1592 v1592 h => ?_)
  refine g_istore C [(7, .int r1592), (6, .int r1574), (0, .ref b), (1, .ref (L.2.1 6 0)), (2, .ref (L.2.1 7 0)), (3, .ref (L.2.1 50 0)), (4, .ref (L.2.1 51 0)), (5, .int i)] (Nat.le_of_ble_eq_true rfl) rfl dL_law_1595 ?_
  refine g_aload_n C 2 rfl 4 rfl dL_law_1597 ?_
  refine g_gcallVi C gok_7 rfl rfl [] (fun sz9 => kX7_thrown l C.2.2.2.2.2.2.1 L C.2.2.2.2.2.2.2.1 v1592 _ _ h sz9) wml_RL_157 winst_X7_thrown wsel_X7_thrown wini_RX7 wcode_X7_thrown rfl rfl (n := 0) (by decide +kernel) rfl ⟨(Nat.le_of_ble_eq_true rfl), (Nat.le_of_ble_eq_true rfl)⟩ ⟨(by omega : ce + 3 + 0 + 0 ≤ 602775), (by omega : sl + 18 + 0 + 0 ≤ 7287779)⟩ (Nat.le_of_ble_eq_true rfl) dL_law_1598 (fun _ _ hx => hx.elim) (fun r1598 v1598 h => ?_)
  refine g_iload C 1 rfl dL_law_1601 ?_
  refine g_icmp_eq C 1608 (by decide) dL_law_1603 (fun hc => ?_) (fun hc => ?_)
  · replace h := h.1 hc
    refine g_iload C 1 rfl dL_law_1608 ?_
    refine g_if_ne C 1625 (by decide) dL_law_1610 (fun hc => ?_) (fun hc => ?_)
    · replace h := h.1 hc
      refine g_goto C 2761 (by decide) dL_law_1625 ?_
      refine g_widen (ce + 60) (sl + 360) (by omega) (by omega) ?_
      refine g_sub [(0, .ref b), (1, .ref (L.2.1 6 0)), (2, .ref (L.2.1 7 0)), (3, .ref (L.2.1 50 0)), (4, .ref (L.2.1 51 0)), (5, .int i)] [2, 3, 4, 5, 6, 7] rfl ?_
      exact hK _ h
    · replace h := h.2 hc
      refine g_aload_n C 3 rfl 5 rfl dL_law_1613 ?_
      refine g_iconst C 0 (by decide) dL_law_1614 ?_
      refine g_laload C dL_law_1615 ?_
      refine g_iload C 0 rfl dL_law_1616 ?_
      refine g_i2l C dL_law_1618 ?_
      refine g_lcmp C dL_law_1619 ?_
      refine g_if_eq C 1625 (by decide) dL_law_1620 (fun hc => ?_) (fun hc => ?_)
      · replace h := h.1 hc
        refine g_goto C 2761 (by decide) dL_law_1625 ?_
        refine g_widen (ce + 60) (sl + 360) (by omega) (by omega) ?_
        refine g_sub [(0, .ref b), (1, .ref (L.2.1 6 0)), (2, .ref (L.2.1 7 0)), (3, .ref (L.2.1 50 0)), (4, .ref (L.2.1 51 0)), (5, .int i)] [2, 3, 4, 5, 6, 7] rfl ?_
        exact hK _ h
      · replace h := h.2 hc
        refine g_iconst C 0 (by decide) dL_law_1623 ?_
        exact h.elim
  · replace h := h.2 hc
    refine g_iconst C 0 (by decide) dL_law_1606 ?_
    exact h.elim
def TC_24 (s1 s2 s3 : Int32) (v : gMem) (Q : gMem → Prop) : Prop := (TL_merge s1 s2 v (fun r1642 v1642 => (TX7_merge s1 s2 v1642 (fun r1660 v1660 => (TX7_thrown v1660 (fun r1666 v1666 => ((r1666 = r1642 → ((¬ r1642 = 0 → (Q v1666)) ∧ (r1642 = 0 → (((lg_cmp (Int32.toInt64 (v1666 50 0 0)) (Int32.toInt64 r1660)) = 0 → (Q v1666)) ∧ (¬ (lg_cmp (Int32.toInt64 (v1666 50 0 0)) (Int32.toInt64 r1660)) = 0 → False))))) ∧ (¬ r1666 = r1642 → False))) (fun _ _ => False))) (fun _ _ => False))) (fun _ _ => False))
theorem kC_24 (C : gC p l s m args meth c cL_law 8 RL L sz) {b Ln : Nat} {xs : Nat → Int32} (hX : va_X b Ln xs s s.heap) (hbl : b < s.heap.size) (hbA : ¬ gA L sz b) {i s1 s2 s3 : Int32} (h1 : vp_in (i + 1) Ln) (h2 : vp_in (i + 2) Ln) (h3 : vp_in (i + 3) Ln) (e1 : xs (i + 1).toNatClampNeg = s1) (e2 : xs (i + 2).toNatClampNeg = s2) (e3 : xs (i + 3).toNatClampNeg = s3) {ce sl : Nat} (hce : ce + 60 ≤ 602775) (hsl : sl + 360 ≤ 7287779) {Q0 : State → Prop} {Q : gMem → Prop} (hK : ∀ v, Q v → gS p l e room_1 s m args below meth c 8 L sz Q0 (ce + 60) (sl + 360) 2761 [(0, .ref b), (1, .ref (L.2.1 6 0)), (2, .ref (L.2.1 7 0)), (3, .ref (L.2.1 50 0)), (4, .ref (L.2.1 51 0)), (5, .int i)] [] v) {v : gMem} (h : TC_24 s1 s2 s3 v Q) : gS p l e room_1 s m args below meth c 8 L sz Q0 ce sl 1628 [(0, .ref b), (1, .ref (L.2.1 6 0)), (2, .ref (L.2.1 7 0)), (3, .ref (L.2.1 50 0)), (4, .ref (L.2.1 51 0)), (5, .int i)] [] v := by
  unfold TC_24 at h
  refine g_aload_n C 1 rfl 1 rfl dL_law_1628 ?_
  refine g_aload_n C 0 rfl 0 rfl dL_law_1629 ?_
  refine g_iload C 5 rfl dL_law_1630 ?_
  refine g_iconst C 1 (by decide) dL_law_1632 ?_
  refine g_iadd C dL_law_1633 ?_
  refine g_sld C hX hbl hbA s1 h1 e1 dL_law_1634 ?_
  refine g_aload_n C 0 rfl 0 rfl dL_law_1635 ?_
  refine g_iload C 5 rfl dL_law_1636 ?_
  refine g_iconst C 2 (by decide) dL_law_1638 ?_
  refine g_iadd C dL_law_1639 ?_
  refine g_sld C hX hbl hbA s2 h2 e2 dL_law_1640 ?_
  refine g_aload_n C 3 rfl 3 rfl dL_law_1641 ?_
  refine g_gcallSXi C [.ref (L.2.1 6 0), .int s1, .int s2, .ref (L.2.1 50 0)] (fun sz9 => kL_merge l C.2.2.2.2.2.2.1 L C.2.2.2.2.2.2.2.1 s1 s2 v _ _ h sz9) wml_RL_235 wstat_L_merge wini_RL wcw_L_merge rfl rfl (n := 4) (by decide +kernel) rfl ⟨(Nat.le_of_ble_eq_true rfl), (Nat.le_of_ble_eq_true rfl)⟩ ⟨(by omega : ce + 3 ≤ 602775), (by omega : sl + 18 ≤ 7287779)⟩ (Nat.le_of_ble_eq_true rfl) dL_law_1642 (fun _ _ hx => hx.elim) (fun r1642 v1642 h => ?_)
  refine g_istore C [(6, .int r1642), (0, .ref b), (1, .ref (L.2.1 6 0)), (2, .ref (L.2.1 7 0)), (3, .ref (L.2.1 50 0)), (4, .ref (L.2.1 51 0)), (5, .int i)] (Nat.le_of_ble_eq_true rfl) rfl dL_law_1645 ?_
  refine g_aload_n C 2 rfl 3 rfl dL_law_1647 ?_
  refine g_aload_n C 0 rfl 1 rfl dL_law_1648 ?_
  refine g_iload C 6 rfl dL_law_1649 ?_
  refine g_iconst C 1 (by decide) dL_law_1651 ?_
  refine g_iadd C dL_law_1652 ?_
  refine g_sld C hX hbl hbA s1 h1 e1 dL_law_1653 ?_
  refine g_aload_n C 0 rfl 1 rfl dL_law_1654 ?_
  refine g_iload C 6 rfl dL_law_1655 ?_
  refine g_iconst C 2 (by decide) dL_law_1657 ?_
  refine g_iadd C dL_law_1658 ?_
  refine g_sld C hX hbl hbA s2 h2 e2 dL_law_1659 ?_
  refine g_gcallVi C gok_7 rfl rfl [.int s1, .int s2] (fun sz9 => kX7_merge l C.2.2.2.2.2.2.1 L C.2.2.2.2.2.2.2.1 s1 s2 v1642 _ _ h sz9) wml_RL_237 winst_X7_merge wsel_X7_merge wini_RX7 wcode_X7_merge rfl rfl (n := 2) (by decide +kernel) rfl ⟨(Nat.le_of_ble_eq_true rfl), (Nat.le_of_ble_eq_true rfl)⟩ ⟨(by omega : ce + 3 + 0 ≤ 602775), (by omega : sl + 18 + 0 ≤ 7287779)⟩ (Nat.le_of_ble_eq_true rfl) dL_law_1660 (fun _ _ hx => hx.elim) (fun r1660 v1660 h => ?_)
  refine g_istore C [(7, .int r1660), (6, .int r1642), (0, .ref b), (1, .ref (L.2.1 6 0)), (2, .ref (L.2.1 7 0)), (3, .ref (L.2.1 50 0)), (4, .ref (L.2.1 51 0)), (5, .int i)] (Nat.le_of_ble_eq_true rfl) rfl dL_law_1663 ?_
  refine g_aload_n C 2 rfl 4 rfl dL_law_1665 ?_
  refine g_gcallVi C gok_7 rfl rfl [] (fun sz9 => kX7_thrown l C.2.2.2.2.2.2.1 L C.2.2.2.2.2.2.2.1 v1660 _ _ h sz9) wml_RL_157 winst_X7_thrown wsel_X7_thrown wini_RX7 wcode_X7_thrown rfl rfl (n := 0) (by decide +kernel) rfl ⟨(Nat.le_of_ble_eq_true rfl), (Nat.le_of_ble_eq_true rfl)⟩ ⟨(by omega : ce + 3 + 0 + 0 ≤ 602775), (by omega : sl + 18 + 0 + 0 ≤ 7287779)⟩ (Nat.le_of_ble_eq_true rfl) dL_law_1666 (fun _ _ hx => hx.elim) (fun r1666 v1666 h => ?_)
  refine g_iload C 1 rfl dL_law_1669 ?_
  refine g_icmp_eq C 1676 (by decide) dL_law_1671 (fun hc => ?_) (fun hc => ?_)
  · replace h := h.1 hc
    refine g_iload C 1 rfl dL_law_1676 ?_
    refine g_if_ne C 1693 (by decide) dL_law_1678 (fun hc => ?_) (fun hc => ?_)
    · replace h := h.1 hc
      refine g_goto C 2761 (by decide) dL_law_1693 ?_
      refine g_widen (ce + 60) (sl + 360) (by omega) (by omega) ?_
      refine g_sub [(0, .ref b), (1, .ref (L.2.1 6 0)), (2, .ref (L.2.1 7 0)), (3, .ref (L.2.1 50 0)), (4, .ref (L.2.1 51 0)), (5, .int i)] [2, 3, 4, 5, 6, 7] rfl ?_
      exact hK _ h
    · replace h := h.2 hc
      refine g_aload_n C 3 rfl 5 rfl dL_law_1681 ?_
      refine g_iconst C 0 (by decide) dL_law_1682 ?_
      refine g_laload C dL_law_1683 ?_
      refine g_iload C 0 rfl dL_law_1684 ?_
      refine g_i2l C dL_law_1686 ?_
      refine g_lcmp C dL_law_1687 ?_
      refine g_if_eq C 1693 (by decide) dL_law_1688 (fun hc => ?_) (fun hc => ?_)
      · replace h := h.1 hc
        refine g_goto C 2761 (by decide) dL_law_1693 ?_
        refine g_widen (ce + 60) (sl + 360) (by omega) (by omega) ?_
        refine g_sub [(0, .ref b), (1, .ref (L.2.1 6 0)), (2, .ref (L.2.1 7 0)), (3, .ref (L.2.1 50 0)), (4, .ref (L.2.1 51 0)), (5, .int i)] [2, 3, 4, 5, 6, 7] rfl ?_
        exact hK _ h
      · replace h := h.2 hc
        refine g_iconst C 0 (by decide) dL_law_1691 ?_
        exact h.elim
  · replace h := h.2 hc
    refine g_iconst C 0 (by decide) dL_law_1674 ?_
    exact h.elim
def TC_25 (s1 s2 s3 : Int32) (v : gMem) (Q : gMem → Prop) : Prop := (TL_mergeBest v (fun r1698 v1698 => (TX7_mergeBest v1698 (fun r1704 v1704 => (TX7_thrown v1704 (fun r1710 v1710 => ((r1710 = r1698 → ((¬ r1698 = 0 → (Q v1710)) ∧ (r1698 = 0 → (((lg_cmp (Int32.toInt64 (v1710 50 0 0)) (Int32.toInt64 r1704)) = 0 → (Q v1710)) ∧ (¬ (lg_cmp (Int32.toInt64 (v1710 50 0 0)) (Int32.toInt64 r1704)) = 0 → False))))) ∧ (¬ r1710 = r1698 → False))) (fun _ _ => False))) (fun _ _ => False))) (fun _ _ => False))
theorem kC_25 (C : gC p l s m args meth c cL_law 8 RL L sz) {b Ln : Nat} {xs : Nat → Int32} (hX : va_X b Ln xs s s.heap) (hbl : b < s.heap.size) (hbA : ¬ gA L sz b) {i s1 s2 s3 : Int32} (h1 : vp_in (i + 1) Ln) (h2 : vp_in (i + 2) Ln) (h3 : vp_in (i + 3) Ln) (e1 : xs (i + 1).toNatClampNeg = s1) (e2 : xs (i + 2).toNatClampNeg = s2) (e3 : xs (i + 3).toNatClampNeg = s3) {ce sl : Nat} (hce : ce + 60 ≤ 602775) (hsl : sl + 360 ≤ 7287779) {Q0 : State → Prop} {Q : gMem → Prop} (hK : ∀ v, Q v → gS p l e room_1 s m args below meth c 8 L sz Q0 (ce + 60) (sl + 360) 2761 [(0, .ref b), (1, .ref (L.2.1 6 0)), (2, .ref (L.2.1 7 0)), (3, .ref (L.2.1 50 0)), (4, .ref (L.2.1 51 0)), (5, .int i)] [] v) {v : gMem} (h : TC_25 s1 s2 s3 v Q) : gS p l e room_1 s m args below meth c 8 L sz Q0 ce sl 1696 [(0, .ref b), (1, .ref (L.2.1 6 0)), (2, .ref (L.2.1 7 0)), (3, .ref (L.2.1 50 0)), (4, .ref (L.2.1 51 0)), (5, .int i)] [] v := by
  unfold TC_25 at h
  refine g_aload_n C 1 rfl 1 rfl dL_law_1696 ?_
  refine g_aload_n C 3 rfl 3 rfl dL_law_1697 ?_
  refine g_gcallSXi C [.ref (L.2.1 6 0), .ref (L.2.1 50 0)] (fun sz9 => kL_mergeBest l C.2.2.2.2.2.2.1 L C.2.2.2.2.2.2.2.1 v _ _ h sz9) wml_RL_238 wstat_L_mergeBest wini_RL wcw_L_mergeBest rfl rfl (n := 2) (by decide +kernel) rfl ⟨(Nat.le_of_ble_eq_true rfl), (Nat.le_of_ble_eq_true rfl)⟩ ⟨(by omega : ce + 2 ≤ 602775), (by omega : sl + 12 ≤ 7287779)⟩ (Nat.le_of_ble_eq_true rfl) dL_law_1698 (fun _ _ hx => hx.elim) (fun r1698 v1698 h => ?_)
  refine g_istore C [(6, .int r1698), (0, .ref b), (1, .ref (L.2.1 6 0)), (2, .ref (L.2.1 7 0)), (3, .ref (L.2.1 50 0)), (4, .ref (L.2.1 51 0)), (5, .int i)] (Nat.le_of_ble_eq_true rfl) rfl dL_law_1701 ?_
  refine g_aload_n C 2 rfl 3 rfl dL_law_1703 ?_
  refine g_gcallVi C gok_7 rfl rfl [] (fun sz9 => kX7_mergeBest l C.2.2.2.2.2.2.1 L C.2.2.2.2.2.2.2.1 v1698 _ _ h sz9) wml_RL_240 winst_X7_mergeBest wsel_X7_mergeBest wini_RX7 wcode_X7_mergeBest rfl rfl (n := 0) (by decide +kernel) rfl ⟨(Nat.le_of_ble_eq_true rfl), (Nat.le_of_ble_eq_true rfl)⟩ ⟨(by omega : ce + 2 + 0 ≤ 602775), (by omega : sl + 12 + 0 ≤ 7287779)⟩ (Nat.le_of_ble_eq_true rfl) dL_law_1704 (fun _ _ hx => hx.elim) (fun r1704 v1704 h => ?_)
  refine g_istore C [(7, .int r1704), (6, .int r1698), (0, .ref b), (1, .ref (L.2.1 6 0)), (2, .ref (L.2.1 7 0)), (3, .ref (L.2.1 50 0)), (4, .ref (L.2.1 51 0)), (5, .int i)] (Nat.le_of_ble_eq_true rfl) rfl dL_law_1707 ?_
  refine g_aload_n C 2 rfl 4 rfl dL_law_1709 ?_
  refine g_gcallVi C gok_7 rfl rfl [] (fun sz9 => kX7_thrown l C.2.2.2.2.2.2.1 L C.2.2.2.2.2.2.2.1 v1704 _ _ h sz9) wml_RL_157 winst_X7_thrown wsel_X7_thrown wini_RX7 wcode_X7_thrown rfl rfl (n := 0) (by decide +kernel) rfl ⟨(Nat.le_of_ble_eq_true rfl), (Nat.le_of_ble_eq_true rfl)⟩ ⟨(by omega : ce + 2 + 0 + 0 ≤ 602775), (by omega : sl + 12 + 0 + 0 ≤ 7287779)⟩ (Nat.le_of_ble_eq_true rfl) dL_law_1710 (fun _ _ hx => hx.elim) (fun r1710 v1710 h => ?_)
  refine g_iload C 1 rfl dL_law_1713 ?_
  refine g_icmp_eq C 1720 (by decide) dL_law_1715 (fun hc => ?_) (fun hc => ?_)
  · replace h := h.1 hc
    refine g_iload C 1 rfl dL_law_1720 ?_
    refine g_if_ne C 1737 (by decide) dL_law_1722 (fun hc => ?_) (fun hc => ?_)
    · replace h := h.1 hc
      refine g_goto C 2761 (by decide) dL_law_1737 ?_
      refine g_widen (ce + 60) (sl + 360) (by omega) (by omega) ?_
      refine g_sub [(0, .ref b), (1, .ref (L.2.1 6 0)), (2, .ref (L.2.1 7 0)), (3, .ref (L.2.1 50 0)), (4, .ref (L.2.1 51 0)), (5, .int i)] [2, 3, 4, 5, 6, 7] rfl ?_
      exact hK _ h
    · replace h := h.2 hc
      refine g_aload_n C 3 rfl 5 rfl dL_law_1725 ?_
      refine g_iconst C 0 (by decide) dL_law_1726 ?_
      refine g_laload C dL_law_1727 ?_
      refine g_iload C 0 rfl dL_law_1728 ?_
      refine g_i2l C dL_law_1730 ?_
      refine g_lcmp C dL_law_1731 ?_
      refine g_if_eq C 1737 (by decide) dL_law_1732 (fun hc => ?_) (fun hc => ?_)
      · replace h := h.1 hc
        refine g_goto C 2761 (by decide) dL_law_1737 ?_
        refine g_widen (ce + 60) (sl + 360) (by omega) (by omega) ?_
        refine g_sub [(0, .ref b), (1, .ref (L.2.1 6 0)), (2, .ref (L.2.1 7 0)), (3, .ref (L.2.1 50 0)), (4, .ref (L.2.1 51 0)), (5, .int i)] [2, 3, 4, 5, 6, 7] rfl ?_
        exact hK _ h
      · replace h := h.2 hc
        refine g_iconst C 0 (by decide) dL_law_1735 ?_
        exact h.elim
  · replace h := h.2 hc
    refine g_iconst C 0 (by decide) dL_law_1718 ?_
    exact h.elim
def TC_26 (s1 s2 s3 : Int32) (v : gMem) (Q : gMem → Prop) : Prop := (TL_undo s1 v (fun r1748 v1748 => (TX7_undo s1 v1748 (fun r1760 v1760 => (TX7_thrown v1760 (fun r1766 v1766 => ((r1766 = r1748 → ((¬ r1748 = 0 → (Q v1766)) ∧ (r1748 = 0 → (((lg_cmp (Int32.toInt64 (v1766 50 0 0)) (Int32.toInt64 r1760)) = 0 → (Q v1766)) ∧ (¬ (lg_cmp (Int32.toInt64 (v1766 50 0 0)) (Int32.toInt64 r1760)) = 0 → False))))) ∧ (¬ r1766 = r1748 → False))) (fun _ _ => False))) (fun _ _ => False))) (fun _ _ => False))
theorem kC_26 (C : gC p l s m args meth c cL_law 8 RL L sz) {b Ln : Nat} {xs : Nat → Int32} (hX : va_X b Ln xs s s.heap) (hbl : b < s.heap.size) (hbA : ¬ gA L sz b) {i s1 s2 s3 : Int32} (h1 : vp_in (i + 1) Ln) (h2 : vp_in (i + 2) Ln) (h3 : vp_in (i + 3) Ln) (e1 : xs (i + 1).toNatClampNeg = s1) (e2 : xs (i + 2).toNatClampNeg = s2) (e3 : xs (i + 3).toNatClampNeg = s3) {ce sl : Nat} (hce : ce + 60 ≤ 602775) (hsl : sl + 360 ≤ 7287779) {Q0 : State → Prop} {Q : gMem → Prop} (hK : ∀ v, Q v → gS p l e room_1 s m args below meth c 8 L sz Q0 (ce + 60) (sl + 360) 2761 [(0, .ref b), (1, .ref (L.2.1 6 0)), (2, .ref (L.2.1 7 0)), (3, .ref (L.2.1 50 0)), (4, .ref (L.2.1 51 0)), (5, .int i)] [] v) {v : gMem} (h : TC_26 s1 s2 s3 v Q) : gS p l e room_1 s m args below meth c 8 L sz Q0 ce sl 1740 [(0, .ref b), (1, .ref (L.2.1 6 0)), (2, .ref (L.2.1 7 0)), (3, .ref (L.2.1 50 0)), (4, .ref (L.2.1 51 0)), (5, .int i)] [] v := by
  unfold TC_26 at h
  refine g_aload_n C 1 rfl 1 rfl dL_law_1740 ?_
  refine g_aload_n C 0 rfl 0 rfl dL_law_1741 ?_
  refine g_iload C 5 rfl dL_law_1742 ?_
  refine g_iconst C 1 (by decide) dL_law_1744 ?_
  refine g_iadd C dL_law_1745 ?_
  refine g_sld C hX hbl hbA s1 h1 e1 dL_law_1746 ?_
  refine g_aload_n C 3 rfl 3 rfl dL_law_1747 ?_
  refine g_gcallSXi C [.ref (L.2.1 6 0), .int s1, .ref (L.2.1 50 0)] (fun sz9 => kL_undo l C.2.2.2.2.2.2.1 L C.2.2.2.2.2.2.2.1 s1 v _ _ h sz9) wml_RL_241 wstat_L_undo wini_RL wcw_L_undo rfl rfl (n := 3) (by decide +kernel) rfl ⟨(Nat.le_of_ble_eq_true rfl), (Nat.le_of_ble_eq_true rfl)⟩ ⟨(by omega : ce + 2 ≤ 602775), (by omega : sl + 12 ≤ 7287779)⟩ (Nat.le_of_ble_eq_true rfl) dL_law_1748 (fun _ _ hx => hx.elim) (fun r1748 v1748 h => ?_)
  refine g_istore C [(6, .int r1748), (0, .ref b), (1, .ref (L.2.1 6 0)), (2, .ref (L.2.1 7 0)), (3, .ref (L.2.1 50 0)), (4, .ref (L.2.1 51 0)), (5, .int i)] (Nat.le_of_ble_eq_true rfl) rfl dL_law_1751 ?_
  refine g_aload_n C 2 rfl 3 rfl dL_law_1753 ?_
  refine g_aload_n C 0 rfl 1 rfl dL_law_1754 ?_
  refine g_iload C 6 rfl dL_law_1755 ?_
  refine g_iconst C 1 (by decide) dL_law_1757 ?_
  refine g_iadd C dL_law_1758 ?_
  refine g_sld C hX hbl hbA s1 h1 e1 dL_law_1759 ?_
  refine g_gcallVi C gok_7 rfl rfl [.int s1] (fun sz9 => kX7_undo l C.2.2.2.2.2.2.1 L C.2.2.2.2.2.2.2.1 s1 v1748 _ _ h sz9) wml_RL_243 winst_X7_undo wsel_X7_undo wini_RX7 wcode_X7_undo rfl rfl (n := 1) (by decide +kernel) rfl ⟨(Nat.le_of_ble_eq_true rfl), (Nat.le_of_ble_eq_true rfl)⟩ ⟨(by omega : ce + 2 + 0 ≤ 602775), (by omega : sl + 12 + 0 ≤ 7287779)⟩ (Nat.le_of_ble_eq_true rfl) dL_law_1760 (fun _ _ hx => hx.elim) (fun r1760 v1760 h => ?_)
  refine g_istore C [(7, .int r1760), (6, .int r1748), (0, .ref b), (1, .ref (L.2.1 6 0)), (2, .ref (L.2.1 7 0)), (3, .ref (L.2.1 50 0)), (4, .ref (L.2.1 51 0)), (5, .int i)] (Nat.le_of_ble_eq_true rfl) rfl dL_law_1763 ?_
  refine g_aload_n C 2 rfl 4 rfl dL_law_1765 ?_
  refine g_gcallVi C gok_7 rfl rfl [] (fun sz9 => kX7_thrown l C.2.2.2.2.2.2.1 L C.2.2.2.2.2.2.2.1 v1760 _ _ h sz9) wml_RL_157 winst_X7_thrown wsel_X7_thrown wini_RX7 wcode_X7_thrown rfl rfl (n := 0) (by decide +kernel) rfl ⟨(Nat.le_of_ble_eq_true rfl), (Nat.le_of_ble_eq_true rfl)⟩ ⟨(by omega : ce + 2 + 0 + 0 ≤ 602775), (by omega : sl + 12 + 0 + 0 ≤ 7287779)⟩ (Nat.le_of_ble_eq_true rfl) dL_law_1766 (fun _ _ hx => hx.elim) (fun r1766 v1766 h => ?_)
  refine g_iload C 1 rfl dL_law_1769 ?_
  refine g_icmp_eq C 1776 (by decide) dL_law_1771 (fun hc => ?_) (fun hc => ?_)
  · replace h := h.1 hc
    refine g_iload C 1 rfl dL_law_1776 ?_
    refine g_if_ne C 1793 (by decide) dL_law_1778 (fun hc => ?_) (fun hc => ?_)
    · replace h := h.1 hc
      refine g_goto C 2761 (by decide) dL_law_1793 ?_
      refine g_widen (ce + 60) (sl + 360) (by omega) (by omega) ?_
      refine g_sub [(0, .ref b), (1, .ref (L.2.1 6 0)), (2, .ref (L.2.1 7 0)), (3, .ref (L.2.1 50 0)), (4, .ref (L.2.1 51 0)), (5, .int i)] [2, 3, 4, 5, 6, 7] rfl ?_
      exact hK _ h
    · replace h := h.2 hc
      refine g_aload_n C 3 rfl 5 rfl dL_law_1781 ?_
      refine g_iconst C 0 (by decide) dL_law_1782 ?_
      refine g_laload C dL_law_1783 ?_
      refine g_iload C 0 rfl dL_law_1784 ?_
      refine g_i2l C dL_law_1786 ?_
      refine g_lcmp C dL_law_1787 ?_
      refine g_if_eq C 1793 (by decide) dL_law_1788 (fun hc => ?_) (fun hc => ?_)
      · replace h := h.1 hc
        refine g_goto C 2761 (by decide) dL_law_1793 ?_
        refine g_widen (ce + 60) (sl + 360) (by omega) (by omega) ?_
        refine g_sub [(0, .ref b), (1, .ref (L.2.1 6 0)), (2, .ref (L.2.1 7 0)), (3, .ref (L.2.1 50 0)), (4, .ref (L.2.1 51 0)), (5, .int i)] [2, 3, 4, 5, 6, 7] rfl ?_
        exact hK _ h
      · replace h := h.2 hc
        refine g_iconst C 0 (by decide) dL_law_1791 ?_
        exact h.elim
  · replace h := h.2 hc
    refine g_iconst C 0 (by decide) dL_law_1774 ?_
    exact h.elim
def TC_27 (s1 s2 s3 : Int32) (v : gMem) (Q : gMem → Prop) : Prop := (TL_stands s1 v (fun r1804 v1804 => (TX7_stands s1 v1804 (fun r1816 v1816 => (TX7_thrown v1816 (fun r1822 v1822 => ((r1822 = r1804 → ((¬ r1804 = 0 → (Q v1822)) ∧ (r1804 = 0 → ((r1816 = 0 → (((lg_cmp (Int32.toInt64 (v1822 50 0 0)) (Int32.toInt64 0)) = 0 → (Q v1822)) ∧ (¬ (lg_cmp (Int32.toInt64 (v1822 50 0 0)) (Int32.toInt64 0)) = 0 → False))) ∧ (¬ r1816 = 0 → (((lg_cmp (Int32.toInt64 (v1822 50 0 0)) (Int32.toInt64 1)) = 0 → (Q v1822)) ∧ (¬ (lg_cmp (Int32.toInt64 (v1822 50 0 0)) (Int32.toInt64 1)) = 0 → False))))))) ∧ (¬ r1822 = r1804 → False))) (fun _ _ => False))) (fun _ _ => False))) (fun _ _ => False))
theorem kC_27 (C : gC p l s m args meth c cL_law 8 RL L sz) {b Ln : Nat} {xs : Nat → Int32} (hX : va_X b Ln xs s s.heap) (hbl : b < s.heap.size) (hbA : ¬ gA L sz b) {i s1 s2 s3 : Int32} (h1 : vp_in (i + 1) Ln) (h2 : vp_in (i + 2) Ln) (h3 : vp_in (i + 3) Ln) (e1 : xs (i + 1).toNatClampNeg = s1) (e2 : xs (i + 2).toNatClampNeg = s2) (e3 : xs (i + 3).toNatClampNeg = s3) {ce sl : Nat} (hce : ce + 60 ≤ 602775) (hsl : sl + 360 ≤ 7287779) {Q0 : State → Prop} {Q : gMem → Prop} (hK : ∀ v, Q v → gS p l e room_1 s m args below meth c 8 L sz Q0 (ce + 60) (sl + 360) 2761 [(0, .ref b), (1, .ref (L.2.1 6 0)), (2, .ref (L.2.1 7 0)), (3, .ref (L.2.1 50 0)), (4, .ref (L.2.1 51 0)), (5, .int i)] [] v) {v : gMem} (h : TC_27 s1 s2 s3 v Q) : gS p l e room_1 s m args below meth c 8 L sz Q0 ce sl 1796 [(0, .ref b), (1, .ref (L.2.1 6 0)), (2, .ref (L.2.1 7 0)), (3, .ref (L.2.1 50 0)), (4, .ref (L.2.1 51 0)), (5, .int i)] [] v := by
  unfold TC_27 at h
  refine g_aload_n C 1 rfl 1 rfl dL_law_1796 ?_
  refine g_aload_n C 0 rfl 0 rfl dL_law_1797 ?_
  refine g_iload C 5 rfl dL_law_1798 ?_
  refine g_iconst C 1 (by decide) dL_law_1800 ?_
  refine g_iadd C dL_law_1801 ?_
  refine g_sld C hX hbl hbA s1 h1 e1 dL_law_1802 ?_
  refine g_aload_n C 3 rfl 3 rfl dL_law_1803 ?_
  refine g_gcallSXi C [.ref (L.2.1 6 0), .int s1, .ref (L.2.1 50 0)] (fun sz9 => kL_stands l C.2.2.2.2.2.2.1 L C.2.2.2.2.2.2.2.1 s1 v _ _ h sz9) wml_RL_244 wstat_L_stands wini_RL wcw_L_stands rfl rfl (n := 3) (by decide +kernel) rfl ⟨(Nat.le_of_ble_eq_true rfl), (Nat.le_of_ble_eq_true rfl)⟩ ⟨(by omega : ce + 1 ≤ 602775), (by omega : sl + 6 ≤ 7287779)⟩ (Nat.le_of_ble_eq_true rfl) dL_law_1804 (fun _ _ hx => hx.elim) (fun r1804 v1804 h => ?_)
  refine g_istore C [(6, .int r1804), (0, .ref b), (1, .ref (L.2.1 6 0)), (2, .ref (L.2.1 7 0)), (3, .ref (L.2.1 50 0)), (4, .ref (L.2.1 51 0)), (5, .int i)] (Nat.le_of_ble_eq_true rfl) rfl dL_law_1807 ?_
  refine g_aload_n C 2 rfl 3 rfl dL_law_1809 ?_
  refine g_aload_n C 0 rfl 1 rfl dL_law_1810 ?_
  refine g_iload C 6 rfl dL_law_1811 ?_
  refine g_iconst C 1 (by decide) dL_law_1813 ?_
  refine g_iadd C dL_law_1814 ?_
  refine g_sld C hX hbl hbA s1 h1 e1 dL_law_1815 ?_
  refine g_gcallVi C gok_7 rfl rfl [.int s1] (fun sz9 => kX7_stands l C.2.2.2.2.2.2.1 L C.2.2.2.2.2.2.2.1 s1 v1804 _ _ h sz9) wml_RL_246 winst_X7_stands wsel_X7_stands wini_RX7 wcode_X7_stands rfl rfl (n := 1) (by decide +kernel) rfl ⟨(Nat.le_of_ble_eq_true rfl), (Nat.le_of_ble_eq_true rfl)⟩ ⟨(by omega : ce + 1 + 0 ≤ 602775), (by omega : sl + 6 + 0 ≤ 7287779)⟩ (Nat.le_of_ble_eq_true rfl) dL_law_1816 (fun _ _ hx => hx.elim) (fun r1816 v1816 h => ?_)
  refine g_istore C [(7, .int r1816), (6, .int r1804), (0, .ref b), (1, .ref (L.2.1 6 0)), (2, .ref (L.2.1 7 0)), (3, .ref (L.2.1 50 0)), (4, .ref (L.2.1 51 0)), (5, .int i)] (Nat.le_of_ble_eq_true rfl) rfl dL_law_1819 ?_
  refine g_aload_n C 2 rfl 4 rfl dL_law_1821 ?_
  refine g_gcallVi C gok_7 rfl rfl [] (fun sz9 => kX7_thrown l C.2.2.2.2.2.2.1 L C.2.2.2.2.2.2.2.1 v1816 _ _ h sz9) wml_RL_157 winst_X7_thrown wsel_X7_thrown wini_RX7 wcode_X7_thrown rfl rfl (n := 0) (by decide +kernel) rfl ⟨(Nat.le_of_ble_eq_true rfl), (Nat.le_of_ble_eq_true rfl)⟩ ⟨(by omega : ce + 1 + 0 + 0 ≤ 602775), (by omega : sl + 6 + 0 + 0 ≤ 7287779)⟩ (Nat.le_of_ble_eq_true rfl) dL_law_1822 (fun _ _ hx => hx.elim) (fun r1822 v1822 h => ?_)
  refine g_iload C 1 rfl dL_law_1825 ?_
  refine g_icmp_eq C 1832 (by decide) dL_law_1827 (fun hc => ?_) (fun hc => ?_)
  · replace h := h.1 hc
    refine g_iload C 1 rfl dL_law_1832 ?_
    refine g_if_ne C 1856 (by decide) dL_law_1834 (fun hc => ?_) (fun hc => ?_)
    · replace h := h.1 hc
      refine g_goto C 2761 (by decide) dL_law_1856 ?_
      refine g_widen (ce + 60) (sl + 360) (by omega) (by omega) ?_
      refine g_sub [(0, .ref b), (1, .ref (L.2.1 6 0)), (2, .ref (L.2.1 7 0)), (3, .ref (L.2.1 50 0)), (4, .ref (L.2.1 51 0)), (5, .int i)] [2, 3, 4, 5, 6, 7] rfl ?_
      exact hK _ h
    · replace h := h.2 hc
      refine g_aload_n C 3 rfl 5 rfl dL_law_1837 ?_
      refine g_iconst C 0 (by decide) dL_law_1838 ?_
      refine g_laload C dL_law_1839 ?_
      refine g_iload C 0 rfl dL_law_1840 ?_
      refine g_if_eq C 1849 (by decide) dL_law_1842 (fun hc => ?_) (fun hc => ?_)
      · replace h := h.1 hc
        refine g_lconst C 0 (by decide) dL_law_1849 ?_
        refine g_lcmp C dL_law_1850 ?_
        refine g_if_eq C 1856 (by decide) dL_law_1851 (fun hc => ?_) (fun hc => ?_)
        · replace h := h.1 hc
          refine g_goto C 2761 (by decide) dL_law_1856 ?_
          refine g_widen (ce + 60) (sl + 360) (by omega) (by omega) ?_
          refine g_sub [(0, .ref b), (1, .ref (L.2.1 6 0)), (2, .ref (L.2.1 7 0)), (3, .ref (L.2.1 50 0)), (4, .ref (L.2.1 51 0)), (5, .int i)] [2, 3, 4, 5, 6, 7] rfl ?_
          exact hK _ h
        · replace h := h.2 hc
          refine g_iconst C 0 (by decide) dL_law_1854 ?_
          exact h.elim
      · replace h := h.2 hc
        refine g_lconst C 1 (by decide) dL_law_1845 ?_
        refine g_goto C 1850 (by decide) dL_law_1846 ?_
        refine g_lcmp C dL_law_1850 ?_
        refine g_if_eq C 1856 (by decide) dL_law_1851 (fun hc => ?_) (fun hc => ?_)
        · replace h := h.1 hc
          refine g_goto C 2761 (by decide) dL_law_1856 ?_
          refine g_widen (ce + 60) (sl + 360) (by omega) (by omega) ?_
          refine g_sub [(0, .ref b), (1, .ref (L.2.1 6 0)), (2, .ref (L.2.1 7 0)), (3, .ref (L.2.1 50 0)), (4, .ref (L.2.1 51 0)), (5, .int i)] [2, 3, 4, 5, 6, 7] rfl ?_
          exact hK _ h
        · replace h := h.2 hc
          refine g_iconst C 0 (by decide) dL_law_1854 ?_
          exact h.elim
  · replace h := h.2 hc
    refine g_iconst C 0 (by decide) dL_law_1830 ?_
    exact h.elim
def TC_28 (s1 s2 s3 : Int32) (v : gMem) (Q : gMem → Prop) : Prop := (TL_steps s1 s2 v (fun r1873 v1873 => (TX7_steps s1 s2 v1873 (fun r1891 v1891 => (TX7_thrown v1891 (fun r1897 v1897 => ((r1897 = r1873 → ((¬ r1873 = 0 → (Q v1897)) ∧ (r1873 = 0 → (((lg_cmp (Int32.toInt64 (v1897 50 0 0)) (Int32.toInt64 r1891)) = 0 → (Q v1897)) ∧ (¬ (lg_cmp (Int32.toInt64 (v1897 50 0 0)) (Int32.toInt64 r1891)) = 0 → False))))) ∧ (¬ r1897 = r1873 → False))) (fun _ _ => False))) (fun _ _ => False))) (fun _ _ => False))
theorem kC_28 (C : gC p l s m args meth c cL_law 8 RL L sz) {b Ln : Nat} {xs : Nat → Int32} (hX : va_X b Ln xs s s.heap) (hbl : b < s.heap.size) (hbA : ¬ gA L sz b) {i s1 s2 s3 : Int32} (h1 : vp_in (i + 1) Ln) (h2 : vp_in (i + 2) Ln) (h3 : vp_in (i + 3) Ln) (e1 : xs (i + 1).toNatClampNeg = s1) (e2 : xs (i + 2).toNatClampNeg = s2) (e3 : xs (i + 3).toNatClampNeg = s3) {ce sl : Nat} (hce : ce + 60 ≤ 602775) (hsl : sl + 360 ≤ 7287779) {Q0 : State → Prop} {Q : gMem → Prop} (hK : ∀ v, Q v → gS p l e room_1 s m args below meth c 8 L sz Q0 (ce + 60) (sl + 360) 2761 [(0, .ref b), (1, .ref (L.2.1 6 0)), (2, .ref (L.2.1 7 0)), (3, .ref (L.2.1 50 0)), (4, .ref (L.2.1 51 0)), (5, .int i)] [] v) {v : gMem} (h : TC_28 s1 s2 s3 v Q) : gS p l e room_1 s m args below meth c 8 L sz Q0 ce sl 1859 [(0, .ref b), (1, .ref (L.2.1 6 0)), (2, .ref (L.2.1 7 0)), (3, .ref (L.2.1 50 0)), (4, .ref (L.2.1 51 0)), (5, .int i)] [] v := by
  unfold TC_28 at h
  refine g_aload_n C 1 rfl 1 rfl dL_law_1859 ?_
  refine g_aload_n C 0 rfl 0 rfl dL_law_1860 ?_
  refine g_iload C 5 rfl dL_law_1861 ?_
  refine g_iconst C 1 (by decide) dL_law_1863 ?_
  refine g_iadd C dL_law_1864 ?_
  refine g_sld C hX hbl hbA s1 h1 e1 dL_law_1865 ?_
  refine g_aload_n C 0 rfl 0 rfl dL_law_1866 ?_
  refine g_iload C 5 rfl dL_law_1867 ?_
  refine g_iconst C 2 (by decide) dL_law_1869 ?_
  refine g_iadd C dL_law_1870 ?_
  refine g_sld C hX hbl hbA s2 h2 e2 dL_law_1871 ?_
  refine g_aload_n C 3 rfl 3 rfl dL_law_1872 ?_
  refine g_gcallSXi C [.ref (L.2.1 6 0), .int s1, .int s2, .ref (L.2.1 50 0)] (fun sz9 => kL_steps l C.2.2.2.2.2.2.1 L C.2.2.2.2.2.2.2.1 s1 s2 v _ _ h sz9) wml_RL_247 wstat_L_steps wini_RL wcw_L_steps rfl rfl (n := 4) (by decide +kernel) rfl ⟨(Nat.le_of_ble_eq_true rfl), (Nat.le_of_ble_eq_true rfl)⟩ ⟨(by omega : ce + 3 ≤ 602775), (by omega : sl + 18 ≤ 7287779)⟩ (Nat.le_of_ble_eq_true rfl) dL_law_1873 (fun _ _ hx => hx.elim) (fun r1873 v1873 h => ?_)
  refine g_istore C [(6, .int r1873), (0, .ref b), (1, .ref (L.2.1 6 0)), (2, .ref (L.2.1 7 0)), (3, .ref (L.2.1 50 0)), (4, .ref (L.2.1 51 0)), (5, .int i)] (Nat.le_of_ble_eq_true rfl) rfl dL_law_1876 ?_
  refine g_aload_n C 2 rfl 3 rfl dL_law_1878 ?_
  refine g_aload_n C 0 rfl 1 rfl dL_law_1879 ?_
  refine g_iload C 6 rfl dL_law_1880 ?_
  refine g_iconst C 1 (by decide) dL_law_1882 ?_
  refine g_iadd C dL_law_1883 ?_
  refine g_sld C hX hbl hbA s1 h1 e1 dL_law_1884 ?_
  refine g_aload_n C 0 rfl 1 rfl dL_law_1885 ?_
  refine g_iload C 6 rfl dL_law_1886 ?_
  refine g_iconst C 2 (by decide) dL_law_1888 ?_
  refine g_iadd C dL_law_1889 ?_
  refine g_sld C hX hbl hbA s2 h2 e2 dL_law_1890 ?_
  refine g_gcallVi C gok_7 rfl rfl [.int s1, .int s2] (fun sz9 => kX7_steps l C.2.2.2.2.2.2.1 L C.2.2.2.2.2.2.2.1 s1 s2 v1873 _ _ h sz9) wml_RL_249 winst_X7_steps wsel_X7_steps wini_RX7 wcode_X7_steps rfl rfl (n := 2) (by decide +kernel) rfl ⟨(Nat.le_of_ble_eq_true rfl), (Nat.le_of_ble_eq_true rfl)⟩ ⟨(by omega : ce + 3 + 0 ≤ 602775), (by omega : sl + 18 + 0 ≤ 7287779)⟩ (Nat.le_of_ble_eq_true rfl) dL_law_1891 (fun _ _ hx => hx.elim) (fun r1891 v1891 h => ?_)
  refine g_istore C [(7, .int r1891), (6, .int r1873), (0, .ref b), (1, .ref (L.2.1 6 0)), (2, .ref (L.2.1 7 0)), (3, .ref (L.2.1 50 0)), (4, .ref (L.2.1 51 0)), (5, .int i)] (Nat.le_of_ble_eq_true rfl) rfl dL_law_1894 ?_
  refine g_aload_n C 2 rfl 4 rfl dL_law_1896 ?_
  refine g_gcallVi C gok_7 rfl rfl [] (fun sz9 => kX7_thrown l C.2.2.2.2.2.2.1 L C.2.2.2.2.2.2.2.1 v1891 _ _ h sz9) wml_RL_157 winst_X7_thrown wsel_X7_thrown wini_RX7 wcode_X7_thrown rfl rfl (n := 0) (by decide +kernel) rfl ⟨(Nat.le_of_ble_eq_true rfl), (Nat.le_of_ble_eq_true rfl)⟩ ⟨(by omega : ce + 3 + 0 + 0 ≤ 602775), (by omega : sl + 18 + 0 + 0 ≤ 7287779)⟩ (Nat.le_of_ble_eq_true rfl) dL_law_1897 (fun _ _ hx => hx.elim) (fun r1897 v1897 h => ?_)
  refine g_iload C 1 rfl dL_law_1900 ?_
  refine g_icmp_eq C 1907 (by decide) dL_law_1902 (fun hc => ?_) (fun hc => ?_)
  · replace h := h.1 hc
    refine g_iload C 1 rfl dL_law_1907 ?_
    refine g_if_ne C 1924 (by decide) dL_law_1909 (fun hc => ?_) (fun hc => ?_)
    · replace h := h.1 hc
      refine g_goto C 2761 (by decide) dL_law_1924 ?_
      refine g_widen (ce + 60) (sl + 360) (by omega) (by omega) ?_
      refine g_sub [(0, .ref b), (1, .ref (L.2.1 6 0)), (2, .ref (L.2.1 7 0)), (3, .ref (L.2.1 50 0)), (4, .ref (L.2.1 51 0)), (5, .int i)] [2, 3, 4, 5, 6, 7] rfl ?_
      exact hK _ h
    · replace h := h.2 hc
      refine g_aload_n C 3 rfl 5 rfl dL_law_1912 ?_
      refine g_iconst C 0 (by decide) dL_law_1913 ?_
      refine g_laload C dL_law_1914 ?_
      refine g_iload C 0 rfl dL_law_1915 ?_
      refine g_i2l C dL_law_1917 ?_
      refine g_lcmp C dL_law_1918 ?_
      refine g_if_eq C 1924 (by decide) dL_law_1919 (fun hc => ?_) (fun hc => ?_)
      · replace h := h.1 hc
        refine g_goto C 2761 (by decide) dL_law_1924 ?_
        refine g_widen (ce + 60) (sl + 360) (by omega) (by omega) ?_
        refine g_sub [(0, .ref b), (1, .ref (L.2.1 6 0)), (2, .ref (L.2.1 7 0)), (3, .ref (L.2.1 50 0)), (4, .ref (L.2.1 51 0)), (5, .int i)] [2, 3, 4, 5, 6, 7] rfl ?_
        exact hK _ h
      · replace h := h.2 hc
        refine g_iconst C 0 (by decide) dL_law_1922 ?_
        exact h.elim
  · replace h := h.2 hc
    refine g_iconst C 0 (by decide) dL_law_1905 ?_
    exact h.elim
def TC_29 (s1 s2 s3 : Int32) (v : gMem) (Q : gMem → Prop) : Prop := (TL_person s1 v (fun r1935 v1935 => (TX7_person s1 v1935 (fun r1947 v1947 => (TX7_thrown v1947 (fun r1953 v1953 => ((r1953 = r1935 → ((¬ r1935 = 0 → (Q v1953)) ∧ (r1935 = 0 → (((lg_cmp (Int32.toInt64 (v1953 50 0 0)) (Int32.toInt64 r1947)) = 0 → (Q v1953)) ∧ (¬ (lg_cmp (Int32.toInt64 (v1953 50 0 0)) (Int32.toInt64 r1947)) = 0 → False))))) ∧ (¬ r1953 = r1935 → False))) (fun _ _ => False))) (fun _ _ => False))) (fun _ _ => False))
theorem kC_29 (C : gC p l s m args meth c cL_law 8 RL L sz) {b Ln : Nat} {xs : Nat → Int32} (hX : va_X b Ln xs s s.heap) (hbl : b < s.heap.size) (hbA : ¬ gA L sz b) {i s1 s2 s3 : Int32} (h1 : vp_in (i + 1) Ln) (h2 : vp_in (i + 2) Ln) (h3 : vp_in (i + 3) Ln) (e1 : xs (i + 1).toNatClampNeg = s1) (e2 : xs (i + 2).toNatClampNeg = s2) (e3 : xs (i + 3).toNatClampNeg = s3) {ce sl : Nat} (hce : ce + 60 ≤ 602775) (hsl : sl + 360 ≤ 7287779) {Q0 : State → Prop} {Q : gMem → Prop} (hK : ∀ v, Q v → gS p l e room_1 s m args below meth c 8 L sz Q0 (ce + 60) (sl + 360) 2761 [(0, .ref b), (1, .ref (L.2.1 6 0)), (2, .ref (L.2.1 7 0)), (3, .ref (L.2.1 50 0)), (4, .ref (L.2.1 51 0)), (5, .int i)] [] v) {v : gMem} (h : TC_29 s1 s2 s3 v Q) : gS p l e room_1 s m args below meth c 8 L sz Q0 ce sl 1927 [(0, .ref b), (1, .ref (L.2.1 6 0)), (2, .ref (L.2.1 7 0)), (3, .ref (L.2.1 50 0)), (4, .ref (L.2.1 51 0)), (5, .int i)] [] v := by
  unfold TC_29 at h
  refine g_aload_n C 1 rfl 1 rfl dL_law_1927 ?_
  refine g_aload_n C 0 rfl 0 rfl dL_law_1928 ?_
  refine g_iload C 5 rfl dL_law_1929 ?_
  refine g_iconst C 1 (by decide) dL_law_1931 ?_
  refine g_iadd C dL_law_1932 ?_
  refine g_sld C hX hbl hbA s1 h1 e1 dL_law_1933 ?_
  refine g_aload_n C 3 rfl 3 rfl dL_law_1934 ?_
  refine g_gcallSXi C [.ref (L.2.1 6 0), .int s1, .ref (L.2.1 50 0)] (fun sz9 => kL_person l C.2.2.2.2.2.2.1 L C.2.2.2.2.2.2.2.1 s1 v _ _ h sz9) wml_RL_250 wstat_L_person wini_RL wcw_L_person rfl rfl (n := 3) (by decide +kernel) rfl ⟨(Nat.le_of_ble_eq_true rfl), (Nat.le_of_ble_eq_true rfl)⟩ ⟨(by omega : ce + 1 ≤ 602775), (by omega : sl + 6 ≤ 7287779)⟩ (Nat.le_of_ble_eq_true rfl) dL_law_1935 (fun _ _ hx => hx.elim) (fun r1935 v1935 h => ?_)
  refine g_istore C [(6, .int r1935), (0, .ref b), (1, .ref (L.2.1 6 0)), (2, .ref (L.2.1 7 0)), (3, .ref (L.2.1 50 0)), (4, .ref (L.2.1 51 0)), (5, .int i)] (Nat.le_of_ble_eq_true rfl) rfl dL_law_1938 ?_
  refine g_aload_n C 2 rfl 3 rfl dL_law_1940 ?_
  refine g_aload_n C 0 rfl 1 rfl dL_law_1941 ?_
  refine g_iload C 6 rfl dL_law_1942 ?_
  refine g_iconst C 1 (by decide) dL_law_1944 ?_
  refine g_iadd C dL_law_1945 ?_
  refine g_sld C hX hbl hbA s1 h1 e1 dL_law_1946 ?_
  refine g_gcallVi C gok_7 rfl rfl [.int s1] (fun sz9 => kX7_person l C.2.2.2.2.2.2.1 L C.2.2.2.2.2.2.2.1 s1 v1935 _ _ h sz9) wml_RL_252 winst_X7_person wsel_X7_person wini_RX7 wcode_X7_person rfl rfl (n := 1) (by decide +kernel) rfl ⟨(Nat.le_of_ble_eq_true rfl), (Nat.le_of_ble_eq_true rfl)⟩ ⟨(by omega : ce + 1 + 0 ≤ 602775), (by omega : sl + 6 + 0 ≤ 7287779)⟩ (Nat.le_of_ble_eq_true rfl) dL_law_1947 (fun _ _ hx => hx.elim) (fun r1947 v1947 h => ?_)
  refine g_istore C [(7, .int r1947), (6, .int r1935), (0, .ref b), (1, .ref (L.2.1 6 0)), (2, .ref (L.2.1 7 0)), (3, .ref (L.2.1 50 0)), (4, .ref (L.2.1 51 0)), (5, .int i)] (Nat.le_of_ble_eq_true rfl) rfl dL_law_1950 ?_
  refine g_aload_n C 2 rfl 4 rfl dL_law_1952 ?_
  refine g_gcallVi C gok_7 rfl rfl [] (fun sz9 => kX7_thrown l C.2.2.2.2.2.2.1 L C.2.2.2.2.2.2.2.1 v1947 _ _ h sz9) wml_RL_157 winst_X7_thrown wsel_X7_thrown wini_RX7 wcode_X7_thrown rfl rfl (n := 0) (by decide +kernel) rfl ⟨(Nat.le_of_ble_eq_true rfl), (Nat.le_of_ble_eq_true rfl)⟩ ⟨(by omega : ce + 1 + 0 + 0 ≤ 602775), (by omega : sl + 6 + 0 + 0 ≤ 7287779)⟩ (Nat.le_of_ble_eq_true rfl) dL_law_1953 (fun _ _ hx => hx.elim) (fun r1953 v1953 h => ?_)
  refine g_iload C 1 rfl dL_law_1956 ?_
  refine g_icmp_eq C 1963 (by decide) dL_law_1958 (fun hc => ?_) (fun hc => ?_)
  · replace h := h.1 hc
    refine g_iload C 1 rfl dL_law_1963 ?_
    refine g_if_ne C 1980 (by decide) dL_law_1965 (fun hc => ?_) (fun hc => ?_)
    · replace h := h.1 hc
      refine g_goto C 2761 (by decide) dL_law_1980 ?_
      refine g_widen (ce + 60) (sl + 360) (by omega) (by omega) ?_
      refine g_sub [(0, .ref b), (1, .ref (L.2.1 6 0)), (2, .ref (L.2.1 7 0)), (3, .ref (L.2.1 50 0)), (4, .ref (L.2.1 51 0)), (5, .int i)] [2, 3, 4, 5, 6, 7] rfl ?_
      exact hK _ h
    · replace h := h.2 hc
      refine g_aload_n C 3 rfl 5 rfl dL_law_1968 ?_
      refine g_iconst C 0 (by decide) dL_law_1969 ?_
      refine g_laload C dL_law_1970 ?_
      refine g_iload C 0 rfl dL_law_1971 ?_
      refine g_i2l C dL_law_1973 ?_
      refine g_lcmp C dL_law_1974 ?_
      refine g_if_eq C 1980 (by decide) dL_law_1975 (fun hc => ?_) (fun hc => ?_)
      · replace h := h.1 hc
        refine g_goto C 2761 (by decide) dL_law_1980 ?_
        refine g_widen (ce + 60) (sl + 360) (by omega) (by omega) ?_
        refine g_sub [(0, .ref b), (1, .ref (L.2.1 6 0)), (2, .ref (L.2.1 7 0)), (3, .ref (L.2.1 50 0)), (4, .ref (L.2.1 51 0)), (5, .int i)] [2, 3, 4, 5, 6, 7] rfl ?_
        exact hK _ h
      · replace h := h.2 hc
        refine g_iconst C 0 (by decide) dL_law_1978 ?_
        exact h.elim
  · replace h := h.2 hc
    refine g_iconst C 0 (by decide) dL_law_1961 ?_
    exact h.elim
def TC_30 (s1 s2 s3 : Int32) (v : gMem) (Q : gMem → Prop) : Prop := (TL_personByRounds s1 v (fun r1991 v1991 => (TX7_personByRounds s1 v1991 (fun r2003 v2003 => (TX7_thrown v2003 (fun r2009 v2009 => ((r2009 = r1991 → ((¬ r1991 = 0 → (Q v2009)) ∧ (r1991 = 0 → (((lg_cmp (Int32.toInt64 (v2009 50 0 0)) (Int32.toInt64 r2003)) = 0 → (Q v2009)) ∧ (¬ (lg_cmp (Int32.toInt64 (v2009 50 0 0)) (Int32.toInt64 r2003)) = 0 → False))))) ∧ (¬ r2009 = r1991 → False))) (fun _ _ => False))) (fun _ _ => False))) (fun _ _ => False))
theorem kC_30 (C : gC p l s m args meth c cL_law 8 RL L sz) {b Ln : Nat} {xs : Nat → Int32} (hX : va_X b Ln xs s s.heap) (hbl : b < s.heap.size) (hbA : ¬ gA L sz b) {i s1 s2 s3 : Int32} (h1 : vp_in (i + 1) Ln) (h2 : vp_in (i + 2) Ln) (h3 : vp_in (i + 3) Ln) (e1 : xs (i + 1).toNatClampNeg = s1) (e2 : xs (i + 2).toNatClampNeg = s2) (e3 : xs (i + 3).toNatClampNeg = s3) {ce sl : Nat} (hce : ce + 60 ≤ 602775) (hsl : sl + 360 ≤ 7287779) {Q0 : State → Prop} {Q : gMem → Prop} (hK : ∀ v, Q v → gS p l e room_1 s m args below meth c 8 L sz Q0 (ce + 60) (sl + 360) 2761 [(0, .ref b), (1, .ref (L.2.1 6 0)), (2, .ref (L.2.1 7 0)), (3, .ref (L.2.1 50 0)), (4, .ref (L.2.1 51 0)), (5, .int i)] [] v) {v : gMem} (h : TC_30 s1 s2 s3 v Q) : gS p l e room_1 s m args below meth c 8 L sz Q0 ce sl 1983 [(0, .ref b), (1, .ref (L.2.1 6 0)), (2, .ref (L.2.1 7 0)), (3, .ref (L.2.1 50 0)), (4, .ref (L.2.1 51 0)), (5, .int i)] [] v := by
  unfold TC_30 at h
  refine g_aload_n C 1 rfl 1 rfl dL_law_1983 ?_
  refine g_aload_n C 0 rfl 0 rfl dL_law_1984 ?_
  refine g_iload C 5 rfl dL_law_1985 ?_
  refine g_iconst C 1 (by decide) dL_law_1987 ?_
  refine g_iadd C dL_law_1988 ?_
  refine g_sld C hX hbl hbA s1 h1 e1 dL_law_1989 ?_
  refine g_aload_n C 3 rfl 3 rfl dL_law_1990 ?_
  refine g_gcallSXi C [.ref (L.2.1 6 0), .int s1, .ref (L.2.1 50 0)] (fun sz9 => kL_personByRounds l C.2.2.2.2.2.2.1 L C.2.2.2.2.2.2.2.1 s1 v _ _ h sz9) wml_RL_253 wstat_L_personByRounds wini_RL wcw_L_personByRounds rfl rfl (n := 3) (by decide +kernel) rfl ⟨(Nat.le_of_ble_eq_true rfl), (Nat.le_of_ble_eq_true rfl)⟩ ⟨(by omega : ce + 1 ≤ 602775), (by omega : sl + 6 ≤ 7287779)⟩ (Nat.le_of_ble_eq_true rfl) dL_law_1991 (fun _ _ hx => hx.elim) (fun r1991 v1991 h => ?_)
  refine g_istore C [(6, .int r1991), (0, .ref b), (1, .ref (L.2.1 6 0)), (2, .ref (L.2.1 7 0)), (3, .ref (L.2.1 50 0)), (4, .ref (L.2.1 51 0)), (5, .int i)] (Nat.le_of_ble_eq_true rfl) rfl dL_law_1994 ?_
  refine g_aload_n C 2 rfl 3 rfl dL_law_1996 ?_
  refine g_aload_n C 0 rfl 1 rfl dL_law_1997 ?_
  refine g_iload C 6 rfl dL_law_1998 ?_
  refine g_iconst C 1 (by decide) dL_law_2000 ?_
  refine g_iadd C dL_law_2001 ?_
  refine g_sld C hX hbl hbA s1 h1 e1 dL_law_2002 ?_
  refine g_gcallVi C gok_7 rfl rfl [.int s1] (fun sz9 => kX7_personByRounds l C.2.2.2.2.2.2.1 L C.2.2.2.2.2.2.2.1 s1 v1991 _ _ h sz9) wml_RL_255 winst_X7_personByRounds wsel_X7_personByRounds wini_RX7 wcode_X7_personByRounds rfl rfl (n := 1) (by decide +kernel) rfl ⟨(Nat.le_of_ble_eq_true rfl), (Nat.le_of_ble_eq_true rfl)⟩ ⟨(by omega : ce + 1 + 0 ≤ 602775), (by omega : sl + 6 + 0 ≤ 7287779)⟩ (Nat.le_of_ble_eq_true rfl) dL_law_2003 (fun _ _ hx => hx.elim) (fun r2003 v2003 h => ?_)
  refine g_istore C [(7, .int r2003), (6, .int r1991), (0, .ref b), (1, .ref (L.2.1 6 0)), (2, .ref (L.2.1 7 0)), (3, .ref (L.2.1 50 0)), (4, .ref (L.2.1 51 0)), (5, .int i)] (Nat.le_of_ble_eq_true rfl) rfl dL_law_2006 ?_
  refine g_aload_n C 2 rfl 4 rfl dL_law_2008 ?_
  refine g_gcallVi C gok_7 rfl rfl [] (fun sz9 => kX7_thrown l C.2.2.2.2.2.2.1 L C.2.2.2.2.2.2.2.1 v2003 _ _ h sz9) wml_RL_157 winst_X7_thrown wsel_X7_thrown wini_RX7 wcode_X7_thrown rfl rfl (n := 0) (by decide +kernel) rfl ⟨(Nat.le_of_ble_eq_true rfl), (Nat.le_of_ble_eq_true rfl)⟩ ⟨(by omega : ce + 1 + 0 + 0 ≤ 602775), (by omega : sl + 6 + 0 + 0 ≤ 7287779)⟩ (Nat.le_of_ble_eq_true rfl) dL_law_2009 (fun _ _ hx => hx.elim) (fun r2009 v2009 h => ?_)
  refine g_iload C 1 rfl dL_law_2012 ?_
  refine g_icmp_eq C 2019 (by decide) dL_law_2014 (fun hc => ?_) (fun hc => ?_)
  · replace h := h.1 hc
    refine g_iload C 1 rfl dL_law_2019 ?_
    refine g_if_ne C 2036 (by decide) dL_law_2021 (fun hc => ?_) (fun hc => ?_)
    · replace h := h.1 hc
      refine g_goto C 2761 (by decide) dL_law_2036 ?_
      refine g_widen (ce + 60) (sl + 360) (by omega) (by omega) ?_
      refine g_sub [(0, .ref b), (1, .ref (L.2.1 6 0)), (2, .ref (L.2.1 7 0)), (3, .ref (L.2.1 50 0)), (4, .ref (L.2.1 51 0)), (5, .int i)] [2, 3, 4, 5, 6, 7] rfl ?_
      exact hK _ h
    · replace h := h.2 hc
      refine g_aload_n C 3 rfl 5 rfl dL_law_2024 ?_
      refine g_iconst C 0 (by decide) dL_law_2025 ?_
      refine g_laload C dL_law_2026 ?_
      refine g_iload C 0 rfl dL_law_2027 ?_
      refine g_i2l C dL_law_2029 ?_
      refine g_lcmp C dL_law_2030 ?_
      refine g_if_eq C 2036 (by decide) dL_law_2031 (fun hc => ?_) (fun hc => ?_)
      · replace h := h.1 hc
        refine g_goto C 2761 (by decide) dL_law_2036 ?_
        refine g_widen (ce + 60) (sl + 360) (by omega) (by omega) ?_
        refine g_sub [(0, .ref b), (1, .ref (L.2.1 6 0)), (2, .ref (L.2.1 7 0)), (3, .ref (L.2.1 50 0)), (4, .ref (L.2.1 51 0)), (5, .int i)] [2, 3, 4, 5, 6, 7] rfl ?_
        exact hK _ h
      · replace h := h.2 hc
        refine g_iconst C 0 (by decide) dL_law_2034 ?_
        exact h.elim
  · replace h := h.2 hc
    refine g_iconst C 0 (by decide) dL_law_2017 ?_
    exact h.elim
def TC_31 (s1 s2 s3 : Int32) (v : gMem) (Q : gMem → Prop) : Prop := (TX6_persons v (fun r2040 v2040 => (TX7_persons v2040 (fun r2044 v2044 => ((r2040 = r2044 → (Q v2044)) ∧ (¬ r2040 = r2044 → False))) (fun _ _ => False))) (fun _ _ => False))
theorem kC_31 (C : gC p l s m args meth c cL_law 8 RL L sz) {b Ln : Nat} {xs : Nat → Int32} (hX : va_X b Ln xs s s.heap) (hbl : b < s.heap.size) (hbA : ¬ gA L sz b) {i s1 s2 s3 : Int32} (h1 : vp_in (i + 1) Ln) (h2 : vp_in (i + 2) Ln) (h3 : vp_in (i + 3) Ln) (e1 : xs (i + 1).toNatClampNeg = s1) (e2 : xs (i + 2).toNatClampNeg = s2) (e3 : xs (i + 3).toNatClampNeg = s3) {ce sl : Nat} (hce : ce + 60 ≤ 602775) (hsl : sl + 360 ≤ 7287779) {Q0 : State → Prop} {Q : gMem → Prop} (hK : ∀ v, Q v → gS p l e room_1 s m args below meth c 8 L sz Q0 (ce + 60) (sl + 360) 2761 [(0, .ref b), (1, .ref (L.2.1 6 0)), (2, .ref (L.2.1 7 0)), (3, .ref (L.2.1 50 0)), (4, .ref (L.2.1 51 0)), (5, .int i)] [] v) {v : gMem} (h : TC_31 s1 s2 s3 v Q) : gS p l e room_1 s m args below meth c 8 L sz Q0 ce sl 2039 [(0, .ref b), (1, .ref (L.2.1 6 0)), (2, .ref (L.2.1 7 0)), (3, .ref (L.2.1 50 0)), (4, .ref (L.2.1 51 0)), (5, .int i)] [] v := by
  unfold TC_31 at h
  refine g_aload_n C 1 rfl 1 rfl dL_law_2039 ?_
  refine g_gcallVi C gok_6 rfl rfl [] (fun sz9 => kX6_persons l C.2.2.2.2.2.2.1 L C.2.2.2.2.2.2.2.1 v _ _ h sz9) wml_RL_256 winst_X6_persons wsel_X6_persons wini_RX6 wcode_X6_persons rfl rfl (n := 0) (by decide +kernel) rfl ⟨(Nat.le_of_ble_eq_true rfl), (Nat.le_of_ble_eq_true rfl)⟩ ⟨(by omega : ce + 0 ≤ 602775), (by omega : sl + 0 ≤ 7287779)⟩ (Nat.le_of_ble_eq_true rfl) dL_law_2040 (fun _ _ hx => hx.elim) (fun r2040 v2040 h => ?_)
  refine g_aload_n C 2 rfl 2 rfl dL_law_2043 ?_
  refine g_gcallVi C gok_7 rfl rfl [] (fun sz9 => kX7_persons l C.2.2.2.2.2.2.1 L C.2.2.2.2.2.2.2.1 v2040 _ _ h sz9) wml_RL_259 winst_X7_persons wsel_X7_persons wini_RX7 wcode_X7_persons rfl rfl (n := 0) (by decide +kernel) rfl ⟨(Nat.le_of_ble_eq_true rfl), (Nat.le_of_ble_eq_true rfl)⟩ ⟨(by omega : ce + 0 + 0 ≤ 602775), (by omega : sl + 0 + 0 ≤ 7287779)⟩ (Nat.le_of_ble_eq_true rfl) dL_law_2044 (fun _ _ hx => hx.elim) (fun r2044 v2044 h => ?_)
  refine g_icmp_eq C 2761 (by decide) dL_law_2047 (fun hc => ?_) (fun hc => ?_)
  · replace h := h.1 hc
    refine g_widen (ce + 60) (sl + 360) (by omega) (by omega) ?_
    exact hK _ h
  · replace h := h.2 hc
    refine g_iconst C 0 (by decide) dL_law_2050 ?_
    exact h.elim
def TC_32 (s1 s2 s3 : Int32) (v : gMem) (Q : gMem → Prop) : Prop := (TL_size s1 v (fun r2060 v2060 => (TX7_size s1 v2060 (fun r2072 v2072 => (TX7_thrown v2072 (fun r2078 v2078 => ((r2078 = r2060 → ((¬ r2060 = 0 → (Q v2078)) ∧ (r2060 = 0 → (((lg_cmp (Int32.toInt64 (v2078 50 0 0)) (Int32.toInt64 r2072)) = 0 → (Q v2078)) ∧ (¬ (lg_cmp (Int32.toInt64 (v2078 50 0 0)) (Int32.toInt64 r2072)) = 0 → False))))) ∧ (¬ r2078 = r2060 → False))) (fun _ _ => False))) (fun _ _ => False))) (fun _ _ => False))
theorem kC_32 (C : gC p l s m args meth c cL_law 8 RL L sz) {b Ln : Nat} {xs : Nat → Int32} (hX : va_X b Ln xs s s.heap) (hbl : b < s.heap.size) (hbA : ¬ gA L sz b) {i s1 s2 s3 : Int32} (h1 : vp_in (i + 1) Ln) (h2 : vp_in (i + 2) Ln) (h3 : vp_in (i + 3) Ln) (e1 : xs (i + 1).toNatClampNeg = s1) (e2 : xs (i + 2).toNatClampNeg = s2) (e3 : xs (i + 3).toNatClampNeg = s3) {ce sl : Nat} (hce : ce + 60 ≤ 602775) (hsl : sl + 360 ≤ 7287779) {Q0 : State → Prop} {Q : gMem → Prop} (hK : ∀ v, Q v → gS p l e room_1 s m args below meth c 8 L sz Q0 (ce + 60) (sl + 360) 2761 [(0, .ref b), (1, .ref (L.2.1 6 0)), (2, .ref (L.2.1 7 0)), (3, .ref (L.2.1 50 0)), (4, .ref (L.2.1 51 0)), (5, .int i)] [] v) {v : gMem} (h : TC_32 s1 s2 s3 v Q) : gS p l e room_1 s m args below meth c 8 L sz Q0 ce sl 2052 [(0, .ref b), (1, .ref (L.2.1 6 0)), (2, .ref (L.2.1 7 0)), (3, .ref (L.2.1 50 0)), (4, .ref (L.2.1 51 0)), (5, .int i)] [] v := by
  unfold TC_32 at h
  refine g_aload_n C 1 rfl 1 rfl dL_law_2052 ?_
  refine g_aload_n C 0 rfl 0 rfl dL_law_2053 ?_
  refine g_iload C 5 rfl dL_law_2054 ?_
  refine g_iconst C 1 (by decide) dL_law_2056 ?_
  refine g_iadd C dL_law_2057 ?_
  refine g_sld C hX hbl hbA s1 h1 e1 dL_law_2058 ?_
  refine g_aload_n C 3 rfl 3 rfl dL_law_2059 ?_
  refine g_gcallSXi C [.ref (L.2.1 6 0), .int s1, .ref (L.2.1 50 0)] (fun sz9 => kL_size l C.2.2.2.2.2.2.1 L C.2.2.2.2.2.2.2.1 s1 v _ _ h sz9) wml_RL_260 wstat_L_size wini_RL wcw_L_size rfl rfl (n := 3) (by decide +kernel) rfl ⟨(Nat.le_of_ble_eq_true rfl), (Nat.le_of_ble_eq_true rfl)⟩ ⟨(by omega : ce + 1 ≤ 602775), (by omega : sl + 6 ≤ 7287779)⟩ (Nat.le_of_ble_eq_true rfl) dL_law_2060 (fun _ _ hx => hx.elim) (fun r2060 v2060 h => ?_)
  refine g_istore C [(6, .int r2060), (0, .ref b), (1, .ref (L.2.1 6 0)), (2, .ref (L.2.1 7 0)), (3, .ref (L.2.1 50 0)), (4, .ref (L.2.1 51 0)), (5, .int i)] (Nat.le_of_ble_eq_true rfl) rfl dL_law_2063 ?_
  refine g_aload_n C 2 rfl 3 rfl dL_law_2065 ?_
  refine g_aload_n C 0 rfl 1 rfl dL_law_2066 ?_
  refine g_iload C 6 rfl dL_law_2067 ?_
  refine g_iconst C 1 (by decide) dL_law_2069 ?_
  refine g_iadd C dL_law_2070 ?_
  refine g_sld C hX hbl hbA s1 h1 e1 dL_law_2071 ?_
  refine g_gcallVi C gok_7 rfl rfl [.int s1] (fun sz9 => kX7_size l C.2.2.2.2.2.2.1 L C.2.2.2.2.2.2.2.1 s1 v2060 _ _ h sz9) wml_RL_262 winst_X7_size wsel_X7_size wini_RX7 wcode_X7_size rfl rfl (n := 1) (by decide +kernel) rfl ⟨(Nat.le_of_ble_eq_true rfl), (Nat.le_of_ble_eq_true rfl)⟩ ⟨(by omega : ce + 1 + 0 ≤ 602775), (by omega : sl + 6 + 0 ≤ 7287779)⟩ (Nat.le_of_ble_eq_true rfl) dL_law_2072 (fun _ _ hx => hx.elim) (fun r2072 v2072 h => ?_)
  refine g_istore C [(7, .int r2072), (6, .int r2060), (0, .ref b), (1, .ref (L.2.1 6 0)), (2, .ref (L.2.1 7 0)), (3, .ref (L.2.1 50 0)), (4, .ref (L.2.1 51 0)), (5, .int i)] (Nat.le_of_ble_eq_true rfl) rfl dL_law_2075 ?_
  refine g_aload_n C 2 rfl 4 rfl dL_law_2077 ?_
  refine g_gcallVi C gok_7 rfl rfl [] (fun sz9 => kX7_thrown l C.2.2.2.2.2.2.1 L C.2.2.2.2.2.2.2.1 v2072 _ _ h sz9) wml_RL_157 winst_X7_thrown wsel_X7_thrown wini_RX7 wcode_X7_thrown rfl rfl (n := 0) (by decide +kernel) rfl ⟨(Nat.le_of_ble_eq_true rfl), (Nat.le_of_ble_eq_true rfl)⟩ ⟨(by omega : ce + 1 + 0 + 0 ≤ 602775), (by omega : sl + 6 + 0 + 0 ≤ 7287779)⟩ (Nat.le_of_ble_eq_true rfl) dL_law_2078 (fun _ _ hx => hx.elim) (fun r2078 v2078 h => ?_)
  refine g_iload C 1 rfl dL_law_2081 ?_
  refine g_icmp_eq C 2088 (by decide) dL_law_2083 (fun hc => ?_) (fun hc => ?_)
  · replace h := h.1 hc
    refine g_iload C 1 rfl dL_law_2088 ?_
    refine g_if_ne C 2105 (by decide) dL_law_2090 (fun hc => ?_) (fun hc => ?_)
    · replace h := h.1 hc
      refine g_goto C 2761 (by decide) dL_law_2105 ?_
      refine g_widen (ce + 60) (sl + 360) (by omega) (by omega) ?_
      refine g_sub [(0, .ref b), (1, .ref (L.2.1 6 0)), (2, .ref (L.2.1 7 0)), (3, .ref (L.2.1 50 0)), (4, .ref (L.2.1 51 0)), (5, .int i)] [2, 3, 4, 5, 6, 7] rfl ?_
      exact hK _ h
    · replace h := h.2 hc
      refine g_aload_n C 3 rfl 5 rfl dL_law_2093 ?_
      refine g_iconst C 0 (by decide) dL_law_2094 ?_
      refine g_laload C dL_law_2095 ?_
      refine g_iload C 0 rfl dL_law_2096 ?_
      refine g_i2l C dL_law_2098 ?_
      refine g_lcmp C dL_law_2099 ?_
      refine g_if_eq C 2105 (by decide) dL_law_2100 (fun hc => ?_) (fun hc => ?_)
      · replace h := h.1 hc
        refine g_goto C 2761 (by decide) dL_law_2105 ?_
        refine g_widen (ce + 60) (sl + 360) (by omega) (by omega) ?_
        refine g_sub [(0, .ref b), (1, .ref (L.2.1 6 0)), (2, .ref (L.2.1 7 0)), (3, .ref (L.2.1 50 0)), (4, .ref (L.2.1 51 0)), (5, .int i)] [2, 3, 4, 5, 6, 7] rfl ?_
        exact hK _ h
      · replace h := h.2 hc
        refine g_iconst C 0 (by decide) dL_law_2103 ?_
        exact h.elim
  · replace h := h.2 hc
    refine g_iconst C 0 (by decide) dL_law_2086 ?_
    exact h.elim
def TC_33 (s1 s2 s3 : Int32) (v : gMem) (Q : gMem → Prop) : Prop := (TL_fieldFrom s1 s2 v (fun r2122 v2122 => (TX7_fieldFrom s1 s2 v2122 (fun r2140 v2140 => (TX7_thrown v2140 (fun r2146 v2146 => ((r2146 = r2122 → ((¬ r2122 = 0 → (Q v2146)) ∧ (r2122 = 0 → (((lg_cmp (Int32.toInt64 (v2146 50 0 0)) (Int32.toInt64 r2140)) = 0 → (Q v2146)) ∧ (¬ (lg_cmp (Int32.toInt64 (v2146 50 0 0)) (Int32.toInt64 r2140)) = 0 → False))))) ∧ (¬ r2146 = r2122 → False))) (fun _ _ => False))) (fun _ _ => False))) (fun _ _ => False))
theorem kC_33 (C : gC p l s m args meth c cL_law 8 RL L sz) {b Ln : Nat} {xs : Nat → Int32} (hX : va_X b Ln xs s s.heap) (hbl : b < s.heap.size) (hbA : ¬ gA L sz b) {i s1 s2 s3 : Int32} (h1 : vp_in (i + 1) Ln) (h2 : vp_in (i + 2) Ln) (h3 : vp_in (i + 3) Ln) (e1 : xs (i + 1).toNatClampNeg = s1) (e2 : xs (i + 2).toNatClampNeg = s2) (e3 : xs (i + 3).toNatClampNeg = s3) {ce sl : Nat} (hce : ce + 60 ≤ 602775) (hsl : sl + 360 ≤ 7287779) {Q0 : State → Prop} {Q : gMem → Prop} (hK : ∀ v, Q v → gS p l e room_1 s m args below meth c 8 L sz Q0 (ce + 60) (sl + 360) 2761 [(0, .ref b), (1, .ref (L.2.1 6 0)), (2, .ref (L.2.1 7 0)), (3, .ref (L.2.1 50 0)), (4, .ref (L.2.1 51 0)), (5, .int i)] [] v) {v : gMem} (h : TC_33 s1 s2 s3 v Q) : gS p l e room_1 s m args below meth c 8 L sz Q0 ce sl 2108 [(0, .ref b), (1, .ref (L.2.1 6 0)), (2, .ref (L.2.1 7 0)), (3, .ref (L.2.1 50 0)), (4, .ref (L.2.1 51 0)), (5, .int i)] [] v := by
  unfold TC_33 at h
  refine g_aload_n C 1 rfl 1 rfl dL_law_2108 ?_
  refine g_aload_n C 0 rfl 0 rfl dL_law_2109 ?_
  refine g_iload C 5 rfl dL_law_2110 ?_
  refine g_iconst C 1 (by decide) dL_law_2112 ?_
  refine g_iadd C dL_law_2113 ?_
  refine g_sld C hX hbl hbA s1 h1 e1 dL_law_2114 ?_
  refine g_aload_n C 0 rfl 0 rfl dL_law_2115 ?_
  refine g_iload C 5 rfl dL_law_2116 ?_
  refine g_iconst C 2 (by decide) dL_law_2118 ?_
  refine g_iadd C dL_law_2119 ?_
  refine g_sld C hX hbl hbA s2 h2 e2 dL_law_2120 ?_
  refine g_aload_n C 3 rfl 3 rfl dL_law_2121 ?_
  refine g_gcallSXi C [.ref (L.2.1 6 0), .int s1, .int s2, .ref (L.2.1 50 0)] (fun sz9 => kL_fieldFrom l C.2.2.2.2.2.2.1 L C.2.2.2.2.2.2.2.1 s1 s2 v _ _ h sz9) wml_RL_263 wstat_L_fieldFrom wini_RL wcw_L_fieldFrom rfl rfl (n := 4) (by decide +kernel) rfl ⟨(Nat.le_of_ble_eq_true rfl), (Nat.le_of_ble_eq_true rfl)⟩ ⟨(by omega : ce + 3 ≤ 602775), (by omega : sl + 18 ≤ 7287779)⟩ (Nat.le_of_ble_eq_true rfl) dL_law_2122 (fun _ _ hx => hx.elim) (fun r2122 v2122 h => ?_)
  refine g_istore C [(6, .int r2122), (0, .ref b), (1, .ref (L.2.1 6 0)), (2, .ref (L.2.1 7 0)), (3, .ref (L.2.1 50 0)), (4, .ref (L.2.1 51 0)), (5, .int i)] (Nat.le_of_ble_eq_true rfl) rfl dL_law_2125 ?_
  refine g_aload_n C 2 rfl 3 rfl dL_law_2127 ?_
  refine g_aload_n C 0 rfl 1 rfl dL_law_2128 ?_
  refine g_iload C 6 rfl dL_law_2129 ?_
  refine g_iconst C 1 (by decide) dL_law_2131 ?_
  refine g_iadd C dL_law_2132 ?_
  refine g_sld C hX hbl hbA s1 h1 e1 dL_law_2133 ?_
  refine g_aload_n C 0 rfl 1 rfl dL_law_2134 ?_
  refine g_iload C 6 rfl dL_law_2135 ?_
  refine g_iconst C 2 (by decide) dL_law_2137 ?_
  refine g_iadd C dL_law_2138 ?_
  refine g_sld C hX hbl hbA s2 h2 e2 dL_law_2139 ?_
  refine g_gcallVi C gok_7 rfl rfl [.int s1, .int s2] (fun sz9 => kX7_fieldFrom l C.2.2.2.2.2.2.1 L C.2.2.2.2.2.2.2.1 s1 s2 v2122 _ _ h sz9) wml_RL_265 winst_X7_fieldFrom wsel_X7_fieldFrom wini_RX7 wcode_X7_fieldFrom rfl rfl (n := 2) (by decide +kernel) rfl ⟨(Nat.le_of_ble_eq_true rfl), (Nat.le_of_ble_eq_true rfl)⟩ ⟨(by omega : ce + 3 + 0 ≤ 602775), (by omega : sl + 18 + 0 ≤ 7287779)⟩ (Nat.le_of_ble_eq_true rfl) dL_law_2140 (fun _ _ hx => hx.elim) (fun r2140 v2140 h => ?_)
  refine g_istore C [(7, .int r2140), (6, .int r2122), (0, .ref b), (1, .ref (L.2.1 6 0)), (2, .ref (L.2.1 7 0)), (3, .ref (L.2.1 50 0)), (4, .ref (L.2.1 51 0)), (5, .int i)] (Nat.le_of_ble_eq_true rfl) rfl dL_law_2143 ?_
  refine g_aload_n C 2 rfl 4 rfl dL_law_2145 ?_
  refine g_gcallVi C gok_7 rfl rfl [] (fun sz9 => kX7_thrown l C.2.2.2.2.2.2.1 L C.2.2.2.2.2.2.2.1 v2140 _ _ h sz9) wml_RL_157 winst_X7_thrown wsel_X7_thrown wini_RX7 wcode_X7_thrown rfl rfl (n := 0) (by decide +kernel) rfl ⟨(Nat.le_of_ble_eq_true rfl), (Nat.le_of_ble_eq_true rfl)⟩ ⟨(by omega : ce + 3 + 0 + 0 ≤ 602775), (by omega : sl + 18 + 0 + 0 ≤ 7287779)⟩ (Nat.le_of_ble_eq_true rfl) dL_law_2146 (fun _ _ hx => hx.elim) (fun r2146 v2146 h => ?_)
  refine g_iload C 1 rfl dL_law_2149 ?_
  refine g_icmp_eq C 2156 (by decide) dL_law_2151 (fun hc => ?_) (fun hc => ?_)
  · replace h := h.1 hc
    refine g_iload C 1 rfl dL_law_2156 ?_
    refine g_if_ne C 2173 (by decide) dL_law_2158 (fun hc => ?_) (fun hc => ?_)
    · replace h := h.1 hc
      refine g_goto C 2761 (by decide) dL_law_2173 ?_
      refine g_widen (ce + 60) (sl + 360) (by omega) (by omega) ?_
      refine g_sub [(0, .ref b), (1, .ref (L.2.1 6 0)), (2, .ref (L.2.1 7 0)), (3, .ref (L.2.1 50 0)), (4, .ref (L.2.1 51 0)), (5, .int i)] [2, 3, 4, 5, 6, 7] rfl ?_
      exact hK _ h
    · replace h := h.2 hc
      refine g_aload_n C 3 rfl 5 rfl dL_law_2161 ?_
      refine g_iconst C 0 (by decide) dL_law_2162 ?_
      refine g_laload C dL_law_2163 ?_
      refine g_iload C 0 rfl dL_law_2164 ?_
      refine g_i2l C dL_law_2166 ?_
      refine g_lcmp C dL_law_2167 ?_
      refine g_if_eq C 2173 (by decide) dL_law_2168 (fun hc => ?_) (fun hc => ?_)
      · replace h := h.1 hc
        refine g_goto C 2761 (by decide) dL_law_2173 ?_
        refine g_widen (ce + 60) (sl + 360) (by omega) (by omega) ?_
        refine g_sub [(0, .ref b), (1, .ref (L.2.1 6 0)), (2, .ref (L.2.1 7 0)), (3, .ref (L.2.1 50 0)), (4, .ref (L.2.1 51 0)), (5, .int i)] [2, 3, 4, 5, 6, 7] rfl ?_
        exact hK _ h
      · replace h := h.2 hc
        refine g_iconst C 0 (by decide) dL_law_2171 ?_
        exact h.elim
  · replace h := h.2 hc
    refine g_iconst C 0 (by decide) dL_law_2154 ?_
    exact h.elim
def TC_34 (s1 s2 s3 : Int32) (v : gMem) (Q : gMem → Prop) : Prop := (TL_conflicts s1 v (fun r2184 v2184 => (TX7_conflicts s1 v2184 (fun r2196 v2196 => (TX7_thrown v2196 (fun r2202 v2202 => ((r2202 = r2184 → ((¬ r2184 = 0 → (Q v2202)) ∧ (r2184 = 0 → (((lg_cmp (Int32.toInt64 (v2202 50 0 0)) (Int32.toInt64 r2196)) = 0 → (Q v2202)) ∧ (¬ (lg_cmp (Int32.toInt64 (v2202 50 0 0)) (Int32.toInt64 r2196)) = 0 → False))))) ∧ (¬ r2202 = r2184 → False))) (fun _ _ => False))) (fun _ _ => False))) (fun _ _ => False))
theorem kC_34 (C : gC p l s m args meth c cL_law 8 RL L sz) {b Ln : Nat} {xs : Nat → Int32} (hX : va_X b Ln xs s s.heap) (hbl : b < s.heap.size) (hbA : ¬ gA L sz b) {i s1 s2 s3 : Int32} (h1 : vp_in (i + 1) Ln) (h2 : vp_in (i + 2) Ln) (h3 : vp_in (i + 3) Ln) (e1 : xs (i + 1).toNatClampNeg = s1) (e2 : xs (i + 2).toNatClampNeg = s2) (e3 : xs (i + 3).toNatClampNeg = s3) {ce sl : Nat} (hce : ce + 60 ≤ 602775) (hsl : sl + 360 ≤ 7287779) {Q0 : State → Prop} {Q : gMem → Prop} (hK : ∀ v, Q v → gS p l e room_1 s m args below meth c 8 L sz Q0 (ce + 60) (sl + 360) 2761 [(0, .ref b), (1, .ref (L.2.1 6 0)), (2, .ref (L.2.1 7 0)), (3, .ref (L.2.1 50 0)), (4, .ref (L.2.1 51 0)), (5, .int i)] [] v) {v : gMem} (h : TC_34 s1 s2 s3 v Q) : gS p l e room_1 s m args below meth c 8 L sz Q0 ce sl 2176 [(0, .ref b), (1, .ref (L.2.1 6 0)), (2, .ref (L.2.1 7 0)), (3, .ref (L.2.1 50 0)), (4, .ref (L.2.1 51 0)), (5, .int i)] [] v := by
  unfold TC_34 at h
  refine g_aload_n C 1 rfl 1 rfl dL_law_2176 ?_
  refine g_aload_n C 0 rfl 0 rfl dL_law_2177 ?_
  refine g_iload C 5 rfl dL_law_2178 ?_
  refine g_iconst C 1 (by decide) dL_law_2180 ?_
  refine g_iadd C dL_law_2181 ?_
  refine g_sld C hX hbl hbA s1 h1 e1 dL_law_2182 ?_
  refine g_aload_n C 3 rfl 3 rfl dL_law_2183 ?_
  refine g_gcallSXi C [.ref (L.2.1 6 0), .int s1, .ref (L.2.1 50 0)] (fun sz9 => kL_conflicts l C.2.2.2.2.2.2.1 L C.2.2.2.2.2.2.2.1 s1 v _ _ h sz9) wml_RL_266 wstat_L_conflicts wini_RL wcw_L_conflicts rfl rfl (n := 3) (by decide +kernel) rfl ⟨(Nat.le_of_ble_eq_true rfl), (Nat.le_of_ble_eq_true rfl)⟩ ⟨(by omega : ce + 1 ≤ 602775), (by omega : sl + 6 ≤ 7287779)⟩ (Nat.le_of_ble_eq_true rfl) dL_law_2184 (fun _ _ hx => hx.elim) (fun r2184 v2184 h => ?_)
  refine g_istore C [(6, .int r2184), (0, .ref b), (1, .ref (L.2.1 6 0)), (2, .ref (L.2.1 7 0)), (3, .ref (L.2.1 50 0)), (4, .ref (L.2.1 51 0)), (5, .int i)] (Nat.le_of_ble_eq_true rfl) rfl dL_law_2187 ?_
  refine g_aload_n C 2 rfl 3 rfl dL_law_2189 ?_
  refine g_aload_n C 0 rfl 1 rfl dL_law_2190 ?_
  refine g_iload C 6 rfl dL_law_2191 ?_
  refine g_iconst C 1 (by decide) dL_law_2193 ?_
  refine g_iadd C dL_law_2194 ?_
  refine g_sld C hX hbl hbA s1 h1 e1 dL_law_2195 ?_
  refine g_gcallVi C gok_7 rfl rfl [.int s1] (fun sz9 => kX7_conflicts l C.2.2.2.2.2.2.1 L C.2.2.2.2.2.2.2.1 s1 v2184 _ _ h sz9) wml_RL_268 winst_X7_conflicts wsel_X7_conflicts wini_RX7 wcode_X7_conflicts rfl rfl (n := 1) (by decide +kernel) rfl ⟨(Nat.le_of_ble_eq_true rfl), (Nat.le_of_ble_eq_true rfl)⟩ ⟨(by omega : ce + 1 + 0 ≤ 602775), (by omega : sl + 6 + 0 ≤ 7287779)⟩ (Nat.le_of_ble_eq_true rfl) dL_law_2196 (fun _ _ hx => hx.elim) (fun r2196 v2196 h => ?_)
  refine g_istore C [(7, .int r2196), (6, .int r2184), (0, .ref b), (1, .ref (L.2.1 6 0)), (2, .ref (L.2.1 7 0)), (3, .ref (L.2.1 50 0)), (4, .ref (L.2.1 51 0)), (5, .int i)] (Nat.le_of_ble_eq_true rfl) rfl dL_law_2199 ?_
  refine g_aload_n C 2 rfl 4 rfl dL_law_2201 ?_
  refine g_gcallVi C gok_7 rfl rfl [] (fun sz9 => kX7_thrown l C.2.2.2.2.2.2.1 L C.2.2.2.2.2.2.2.1 v2196 _ _ h sz9) wml_RL_157 winst_X7_thrown wsel_X7_thrown wini_RX7 wcode_X7_thrown rfl rfl (n := 0) (by decide +kernel) rfl ⟨(Nat.le_of_ble_eq_true rfl), (Nat.le_of_ble_eq_true rfl)⟩ ⟨(by omega : ce + 1 + 0 + 0 ≤ 602775), (by omega : sl + 6 + 0 + 0 ≤ 7287779)⟩ (Nat.le_of_ble_eq_true rfl) dL_law_2202 (fun _ _ hx => hx.elim) (fun r2202 v2202 h => ?_)
  refine g_iload C 1 rfl dL_law_2205 ?_
  refine g_icmp_eq C 2212 (by decide) dL_law_2207 (fun hc => ?_) (fun hc => ?_)
  · replace h := h.1 hc
    refine g_iload C 1 rfl dL_law_2212 ?_
    refine g_if_ne C 2229 (by decide) dL_law_2214 (fun hc => ?_) (fun hc => ?_)
    · replace h := h.1 hc
      refine g_goto C 2761 (by decide) dL_law_2229 ?_
      refine g_widen (ce + 60) (sl + 360) (by omega) (by omega) ?_
      refine g_sub [(0, .ref b), (1, .ref (L.2.1 6 0)), (2, .ref (L.2.1 7 0)), (3, .ref (L.2.1 50 0)), (4, .ref (L.2.1 51 0)), (5, .int i)] [2, 3, 4, 5, 6, 7] rfl ?_
      exact hK _ h
    · replace h := h.2 hc
      refine g_aload_n C 3 rfl 5 rfl dL_law_2217 ?_
      refine g_iconst C 0 (by decide) dL_law_2218 ?_
      refine g_laload C dL_law_2219 ?_
      refine g_iload C 0 rfl dL_law_2220 ?_
      refine g_i2l C dL_law_2222 ?_
      refine g_lcmp C dL_law_2223 ?_
      refine g_if_eq C 2229 (by decide) dL_law_2224 (fun hc => ?_) (fun hc => ?_)
      · replace h := h.1 hc
        refine g_goto C 2761 (by decide) dL_law_2229 ?_
        refine g_widen (ce + 60) (sl + 360) (by omega) (by omega) ?_
        refine g_sub [(0, .ref b), (1, .ref (L.2.1 6 0)), (2, .ref (L.2.1 7 0)), (3, .ref (L.2.1 50 0)), (4, .ref (L.2.1 51 0)), (5, .int i)] [2, 3, 4, 5, 6, 7] rfl ?_
        exact hK _ h
      · replace h := h.2 hc
        refine g_iconst C 0 (by decide) dL_law_2227 ?_
        exact h.elim
  · replace h := h.2 hc
    refine g_iconst C 0 (by decide) dL_law_2210 ?_
    exact h.elim
def TC_35 (s1 s2 s3 : Int32) (v : gMem) (Q : gMem → Prop) : Prop := (TL_join s1 s2 v (fun r2246 v2246 => (TX7_join s1 s2 v2246 (fun r2264 v2264 => (TX7_thrown v2264 (fun r2270 v2270 => ((r2270 = r2246 → ((¬ r2246 = 0 → (Q v2270)) ∧ (r2246 = 0 → (((lg_cmp (Int32.toInt64 (v2270 50 0 0)) (Int32.toInt64 r2264)) = 0 → (Q v2270)) ∧ (¬ (lg_cmp (Int32.toInt64 (v2270 50 0 0)) (Int32.toInt64 r2264)) = 0 → False))))) ∧ (¬ r2270 = r2246 → False))) (fun _ _ => False))) (fun _ _ => False))) (fun _ _ => False))
theorem kC_35 (C : gC p l s m args meth c cL_law 8 RL L sz) {b Ln : Nat} {xs : Nat → Int32} (hX : va_X b Ln xs s s.heap) (hbl : b < s.heap.size) (hbA : ¬ gA L sz b) {i s1 s2 s3 : Int32} (h1 : vp_in (i + 1) Ln) (h2 : vp_in (i + 2) Ln) (h3 : vp_in (i + 3) Ln) (e1 : xs (i + 1).toNatClampNeg = s1) (e2 : xs (i + 2).toNatClampNeg = s2) (e3 : xs (i + 3).toNatClampNeg = s3) {ce sl : Nat} (hce : ce + 60 ≤ 602775) (hsl : sl + 360 ≤ 7287779) {Q0 : State → Prop} {Q : gMem → Prop} (hK : ∀ v, Q v → gS p l e room_1 s m args below meth c 8 L sz Q0 (ce + 60) (sl + 360) 2761 [(0, .ref b), (1, .ref (L.2.1 6 0)), (2, .ref (L.2.1 7 0)), (3, .ref (L.2.1 50 0)), (4, .ref (L.2.1 51 0)), (5, .int i)] [] v) {v : gMem} (h : TC_35 s1 s2 s3 v Q) : gS p l e room_1 s m args below meth c 8 L sz Q0 ce sl 2232 [(0, .ref b), (1, .ref (L.2.1 6 0)), (2, .ref (L.2.1 7 0)), (3, .ref (L.2.1 50 0)), (4, .ref (L.2.1 51 0)), (5, .int i)] [] v := by
  unfold TC_35 at h
  refine g_aload_n C 1 rfl 1 rfl dL_law_2232 ?_
  refine g_aload_n C 0 rfl 0 rfl dL_law_2233 ?_
  refine g_iload C 5 rfl dL_law_2234 ?_
  refine g_iconst C 1 (by decide) dL_law_2236 ?_
  refine g_iadd C dL_law_2237 ?_
  refine g_sld C hX hbl hbA s1 h1 e1 dL_law_2238 ?_
  refine g_aload_n C 0 rfl 0 rfl dL_law_2239 ?_
  refine g_iload C 5 rfl dL_law_2240 ?_
  refine g_iconst C 2 (by decide) dL_law_2242 ?_
  refine g_iadd C dL_law_2243 ?_
  refine g_sld C hX hbl hbA s2 h2 e2 dL_law_2244 ?_
  refine g_aload_n C 3 rfl 3 rfl dL_law_2245 ?_
  refine g_gcallSXi C [.ref (L.2.1 6 0), .int s1, .int s2, .ref (L.2.1 50 0)] (fun sz9 => kL_join l C.2.2.2.2.2.2.1 L C.2.2.2.2.2.2.2.1 s1 s2 v _ _ h sz9) wml_RL_269 wstat_L_join wini_RL wcw_L_join rfl rfl (n := 4) (by decide +kernel) rfl ⟨(Nat.le_of_ble_eq_true rfl), (Nat.le_of_ble_eq_true rfl)⟩ ⟨(by omega : ce + 3 ≤ 602775), (by omega : sl + 18 ≤ 7287779)⟩ (Nat.le_of_ble_eq_true rfl) dL_law_2246 (fun _ _ hx => hx.elim) (fun r2246 v2246 h => ?_)
  refine g_istore C [(6, .int r2246), (0, .ref b), (1, .ref (L.2.1 6 0)), (2, .ref (L.2.1 7 0)), (3, .ref (L.2.1 50 0)), (4, .ref (L.2.1 51 0)), (5, .int i)] (Nat.le_of_ble_eq_true rfl) rfl dL_law_2249 ?_
  refine g_aload_n C 2 rfl 3 rfl dL_law_2251 ?_
  refine g_aload_n C 0 rfl 1 rfl dL_law_2252 ?_
  refine g_iload C 6 rfl dL_law_2253 ?_
  refine g_iconst C 1 (by decide) dL_law_2255 ?_
  refine g_iadd C dL_law_2256 ?_
  refine g_sld C hX hbl hbA s1 h1 e1 dL_law_2257 ?_
  refine g_aload_n C 0 rfl 1 rfl dL_law_2258 ?_
  refine g_iload C 6 rfl dL_law_2259 ?_
  refine g_iconst C 2 (by decide) dL_law_2261 ?_
  refine g_iadd C dL_law_2262 ?_
  refine g_sld C hX hbl hbA s2 h2 e2 dL_law_2263 ?_
  refine g_gcallVi C gok_7 rfl rfl [.int s1, .int s2] (fun sz9 => kX7_join l C.2.2.2.2.2.2.1 L C.2.2.2.2.2.2.2.1 s1 s2 v2246 _ _ h sz9) wml_RL_271 winst_X7_join wsel_X7_join wini_RX7 wcode_X7_join rfl rfl (n := 2) (by decide +kernel) rfl ⟨(Nat.le_of_ble_eq_true rfl), (Nat.le_of_ble_eq_true rfl)⟩ ⟨(by omega : ce + 3 + 0 ≤ 602775), (by omega : sl + 18 + 0 ≤ 7287779)⟩ (Nat.le_of_ble_eq_true rfl) dL_law_2264 (fun _ _ hx => hx.elim) (fun r2264 v2264 h => ?_)
  refine g_istore C [(7, .int r2264), (6, .int r2246), (0, .ref b), (1, .ref (L.2.1 6 0)), (2, .ref (L.2.1 7 0)), (3, .ref (L.2.1 50 0)), (4, .ref (L.2.1 51 0)), (5, .int i)] (Nat.le_of_ble_eq_true rfl) rfl dL_law_2267 ?_
  refine g_aload_n C 2 rfl 4 rfl dL_law_2269 ?_
  refine g_gcallVi C gok_7 rfl rfl [] (fun sz9 => kX7_thrown l C.2.2.2.2.2.2.1 L C.2.2.2.2.2.2.2.1 v2264 _ _ h sz9) wml_RL_157 winst_X7_thrown wsel_X7_thrown wini_RX7 wcode_X7_thrown rfl rfl (n := 0) (by decide +kernel) rfl ⟨(Nat.le_of_ble_eq_true rfl), (Nat.le_of_ble_eq_true rfl)⟩ ⟨(by omega : ce + 3 + 0 + 0 ≤ 602775), (by omega : sl + 18 + 0 + 0 ≤ 7287779)⟩ (Nat.le_of_ble_eq_true rfl) dL_law_2270 (fun _ _ hx => hx.elim) (fun r2270 v2270 h => ?_)
  refine g_iload C 1 rfl dL_law_2273 ?_
  refine g_icmp_eq C 2280 (by decide) dL_law_2275 (fun hc => ?_) (fun hc => ?_)
  · replace h := h.1 hc
    refine g_iload C 1 rfl dL_law_2280 ?_
    refine g_if_ne C 2297 (by decide) dL_law_2282 (fun hc => ?_) (fun hc => ?_)
    · replace h := h.1 hc
      refine g_goto C 2761 (by decide) dL_law_2297 ?_
      refine g_widen (ce + 60) (sl + 360) (by omega) (by omega) ?_
      refine g_sub [(0, .ref b), (1, .ref (L.2.1 6 0)), (2, .ref (L.2.1 7 0)), (3, .ref (L.2.1 50 0)), (4, .ref (L.2.1 51 0)), (5, .int i)] [2, 3, 4, 5, 6, 7] rfl ?_
      exact hK _ h
    · replace h := h.2 hc
      refine g_aload_n C 3 rfl 5 rfl dL_law_2285 ?_
      refine g_iconst C 0 (by decide) dL_law_2286 ?_
      refine g_laload C dL_law_2287 ?_
      refine g_iload C 0 rfl dL_law_2288 ?_
      refine g_i2l C dL_law_2290 ?_
      refine g_lcmp C dL_law_2291 ?_
      refine g_if_eq C 2297 (by decide) dL_law_2292 (fun hc => ?_) (fun hc => ?_)
      · replace h := h.1 hc
        refine g_goto C 2761 (by decide) dL_law_2297 ?_
        refine g_widen (ce + 60) (sl + 360) (by omega) (by omega) ?_
        refine g_sub [(0, .ref b), (1, .ref (L.2.1 6 0)), (2, .ref (L.2.1 7 0)), (3, .ref (L.2.1 50 0)), (4, .ref (L.2.1 51 0)), (5, .int i)] [2, 3, 4, 5, 6, 7] rfl ?_
        exact hK _ h
      · replace h := h.2 hc
        refine g_iconst C 0 (by decide) dL_law_2295 ?_
        exact h.elim
  · replace h := h.2 hc
    refine g_iconst C 0 (by decide) dL_law_2278 ?_
    exact h.elim
def TC_36 (s1 s2 s3 : Int32) (v : gMem) (Q : gMem → Prop) : Prop := (TL_leave s1 s2 v (fun r2314 v2314 => (TX7_leave s1 s2 v2314 (fun r2332 v2332 => (TX7_thrown v2332 (fun r2338 v2338 => ((r2338 = r2314 → ((¬ r2314 = 0 → (Q v2338)) ∧ (r2314 = 0 → (((lg_cmp (Int32.toInt64 (v2338 50 0 0)) (Int32.toInt64 r2332)) = 0 → (Q v2338)) ∧ (¬ (lg_cmp (Int32.toInt64 (v2338 50 0 0)) (Int32.toInt64 r2332)) = 0 → False))))) ∧ (¬ r2338 = r2314 → False))) (fun _ _ => False))) (fun _ _ => False))) (fun _ _ => False))
theorem kC_36 (C : gC p l s m args meth c cL_law 8 RL L sz) {b Ln : Nat} {xs : Nat → Int32} (hX : va_X b Ln xs s s.heap) (hbl : b < s.heap.size) (hbA : ¬ gA L sz b) {i s1 s2 s3 : Int32} (h1 : vp_in (i + 1) Ln) (h2 : vp_in (i + 2) Ln) (h3 : vp_in (i + 3) Ln) (e1 : xs (i + 1).toNatClampNeg = s1) (e2 : xs (i + 2).toNatClampNeg = s2) (e3 : xs (i + 3).toNatClampNeg = s3) {ce sl : Nat} (hce : ce + 60 ≤ 602775) (hsl : sl + 360 ≤ 7287779) {Q0 : State → Prop} {Q : gMem → Prop} (hK : ∀ v, Q v → gS p l e room_1 s m args below meth c 8 L sz Q0 (ce + 60) (sl + 360) 2761 [(0, .ref b), (1, .ref (L.2.1 6 0)), (2, .ref (L.2.1 7 0)), (3, .ref (L.2.1 50 0)), (4, .ref (L.2.1 51 0)), (5, .int i)] [] v) {v : gMem} (h : TC_36 s1 s2 s3 v Q) : gS p l e room_1 s m args below meth c 8 L sz Q0 ce sl 2300 [(0, .ref b), (1, .ref (L.2.1 6 0)), (2, .ref (L.2.1 7 0)), (3, .ref (L.2.1 50 0)), (4, .ref (L.2.1 51 0)), (5, .int i)] [] v := by
  unfold TC_36 at h
  refine g_aload_n C 1 rfl 1 rfl dL_law_2300 ?_
  refine g_aload_n C 0 rfl 0 rfl dL_law_2301 ?_
  refine g_iload C 5 rfl dL_law_2302 ?_
  refine g_iconst C 1 (by decide) dL_law_2304 ?_
  refine g_iadd C dL_law_2305 ?_
  refine g_sld C hX hbl hbA s1 h1 e1 dL_law_2306 ?_
  refine g_aload_n C 0 rfl 0 rfl dL_law_2307 ?_
  refine g_iload C 5 rfl dL_law_2308 ?_
  refine g_iconst C 2 (by decide) dL_law_2310 ?_
  refine g_iadd C dL_law_2311 ?_
  refine g_sld C hX hbl hbA s2 h2 e2 dL_law_2312 ?_
  refine g_aload_n C 3 rfl 3 rfl dL_law_2313 ?_
  refine g_gcallSXi C [.ref (L.2.1 6 0), .int s1, .int s2, .ref (L.2.1 50 0)] (fun sz9 => kL_leave l C.2.2.2.2.2.2.1 L C.2.2.2.2.2.2.2.1 s1 s2 v _ _ h sz9) wml_RL_272 wstat_L_leave wini_RL wcw_L_leave rfl rfl (n := 4) (by decide +kernel) rfl ⟨(Nat.le_of_ble_eq_true rfl), (Nat.le_of_ble_eq_true rfl)⟩ ⟨(by omega : ce + 3 ≤ 602775), (by omega : sl + 18 ≤ 7287779)⟩ (Nat.le_of_ble_eq_true rfl) dL_law_2314 (fun _ _ hx => hx.elim) (fun r2314 v2314 h => ?_)
  refine g_istore C [(6, .int r2314), (0, .ref b), (1, .ref (L.2.1 6 0)), (2, .ref (L.2.1 7 0)), (3, .ref (L.2.1 50 0)), (4, .ref (L.2.1 51 0)), (5, .int i)] (Nat.le_of_ble_eq_true rfl) rfl dL_law_2317 ?_
  refine g_aload_n C 2 rfl 3 rfl dL_law_2319 ?_
  refine g_aload_n C 0 rfl 1 rfl dL_law_2320 ?_
  refine g_iload C 6 rfl dL_law_2321 ?_
  refine g_iconst C 1 (by decide) dL_law_2323 ?_
  refine g_iadd C dL_law_2324 ?_
  refine g_sld C hX hbl hbA s1 h1 e1 dL_law_2325 ?_
  refine g_aload_n C 0 rfl 1 rfl dL_law_2326 ?_
  refine g_iload C 6 rfl dL_law_2327 ?_
  refine g_iconst C 2 (by decide) dL_law_2329 ?_
  refine g_iadd C dL_law_2330 ?_
  refine g_sld C hX hbl hbA s2 h2 e2 dL_law_2331 ?_
  refine g_gcallVi C gok_7 rfl rfl [.int s1, .int s2] (fun sz9 => kX7_leave l C.2.2.2.2.2.2.1 L C.2.2.2.2.2.2.2.1 s1 s2 v2314 _ _ h sz9) wml_RL_274 winst_X7_leave wsel_X7_leave wini_RX7 wcode_X7_leave rfl rfl (n := 2) (by decide +kernel) rfl ⟨(Nat.le_of_ble_eq_true rfl), (Nat.le_of_ble_eq_true rfl)⟩ ⟨(by omega : ce + 3 + 0 ≤ 602775), (by omega : sl + 18 + 0 ≤ 7287779)⟩ (Nat.le_of_ble_eq_true rfl) dL_law_2332 (fun _ _ hx => hx.elim) (fun r2332 v2332 h => ?_)
  refine g_istore C [(7, .int r2332), (6, .int r2314), (0, .ref b), (1, .ref (L.2.1 6 0)), (2, .ref (L.2.1 7 0)), (3, .ref (L.2.1 50 0)), (4, .ref (L.2.1 51 0)), (5, .int i)] (Nat.le_of_ble_eq_true rfl) rfl dL_law_2335 ?_
  refine g_aload_n C 2 rfl 4 rfl dL_law_2337 ?_
  refine g_gcallVi C gok_7 rfl rfl [] (fun sz9 => kX7_thrown l C.2.2.2.2.2.2.1 L C.2.2.2.2.2.2.2.1 v2332 _ _ h sz9) wml_RL_157 winst_X7_thrown wsel_X7_thrown wini_RX7 wcode_X7_thrown rfl rfl (n := 0) (by decide +kernel) rfl ⟨(Nat.le_of_ble_eq_true rfl), (Nat.le_of_ble_eq_true rfl)⟩ ⟨(by omega : ce + 3 + 0 + 0 ≤ 602775), (by omega : sl + 18 + 0 + 0 ≤ 7287779)⟩ (Nat.le_of_ble_eq_true rfl) dL_law_2338 (fun _ _ hx => hx.elim) (fun r2338 v2338 h => ?_)
  refine g_iload C 1 rfl dL_law_2341 ?_
  refine g_icmp_eq C 2348 (by decide) dL_law_2343 (fun hc => ?_) (fun hc => ?_)
  · replace h := h.1 hc
    refine g_iload C 1 rfl dL_law_2348 ?_
    refine g_if_ne C 2365 (by decide) dL_law_2350 (fun hc => ?_) (fun hc => ?_)
    · replace h := h.1 hc
      refine g_goto C 2761 (by decide) dL_law_2365 ?_
      refine g_widen (ce + 60) (sl + 360) (by omega) (by omega) ?_
      refine g_sub [(0, .ref b), (1, .ref (L.2.1 6 0)), (2, .ref (L.2.1 7 0)), (3, .ref (L.2.1 50 0)), (4, .ref (L.2.1 51 0)), (5, .int i)] [2, 3, 4, 5, 6, 7] rfl ?_
      exact hK _ h
    · replace h := h.2 hc
      refine g_aload_n C 3 rfl 5 rfl dL_law_2353 ?_
      refine g_iconst C 0 (by decide) dL_law_2354 ?_
      refine g_laload C dL_law_2355 ?_
      refine g_iload C 0 rfl dL_law_2356 ?_
      refine g_i2l C dL_law_2358 ?_
      refine g_lcmp C dL_law_2359 ?_
      refine g_if_eq C 2365 (by decide) dL_law_2360 (fun hc => ?_) (fun hc => ?_)
      · replace h := h.1 hc
        refine g_goto C 2761 (by decide) dL_law_2365 ?_
        refine g_widen (ce + 60) (sl + 360) (by omega) (by omega) ?_
        refine g_sub [(0, .ref b), (1, .ref (L.2.1 6 0)), (2, .ref (L.2.1 7 0)), (3, .ref (L.2.1 50 0)), (4, .ref (L.2.1 51 0)), (5, .int i)] [2, 3, 4, 5, 6, 7] rfl ?_
        exact hK _ h
      · replace h := h.2 hc
        refine g_iconst C 0 (by decide) dL_law_2363 ?_
        exact h.elim
  · replace h := h.2 hc
    refine g_iconst C 0 (by decide) dL_law_2346 ?_
    exact h.elim
def TC_37 (s1 s2 s3 : Int32) (v : gMem) (Q : gMem → Prop) : Prop := (TL_isIn s1 s2 v (fun r2382 v2382 => (TX7_isIn s1 s2 v2382 (fun r2400 v2400 => (TX7_thrown v2400 (fun r2406 v2406 => ((r2406 = r2382 → ((¬ r2382 = 0 → (Q v2406)) ∧ (r2382 = 0 → ((r2400 = 0 → (((lg_cmp (Int32.toInt64 (v2406 50 0 0)) (Int32.toInt64 0)) = 0 → (Q v2406)) ∧ (¬ (lg_cmp (Int32.toInt64 (v2406 50 0 0)) (Int32.toInt64 0)) = 0 → False))) ∧ (¬ r2400 = 0 → (((lg_cmp (Int32.toInt64 (v2406 50 0 0)) (Int32.toInt64 1)) = 0 → (Q v2406)) ∧ (¬ (lg_cmp (Int32.toInt64 (v2406 50 0 0)) (Int32.toInt64 1)) = 0 → False))))))) ∧ (¬ r2406 = r2382 → False))) (fun _ _ => False))) (fun _ _ => False))) (fun _ _ => False))
theorem kC_37 (C : gC p l s m args meth c cL_law 8 RL L sz) {b Ln : Nat} {xs : Nat → Int32} (hX : va_X b Ln xs s s.heap) (hbl : b < s.heap.size) (hbA : ¬ gA L sz b) {i s1 s2 s3 : Int32} (h1 : vp_in (i + 1) Ln) (h2 : vp_in (i + 2) Ln) (h3 : vp_in (i + 3) Ln) (e1 : xs (i + 1).toNatClampNeg = s1) (e2 : xs (i + 2).toNatClampNeg = s2) (e3 : xs (i + 3).toNatClampNeg = s3) {ce sl : Nat} (hce : ce + 60 ≤ 602775) (hsl : sl + 360 ≤ 7287779) {Q0 : State → Prop} {Q : gMem → Prop} (hK : ∀ v, Q v → gS p l e room_1 s m args below meth c 8 L sz Q0 (ce + 60) (sl + 360) 2761 [(0, .ref b), (1, .ref (L.2.1 6 0)), (2, .ref (L.2.1 7 0)), (3, .ref (L.2.1 50 0)), (4, .ref (L.2.1 51 0)), (5, .int i)] [] v) {v : gMem} (h : TC_37 s1 s2 s3 v Q) : gS p l e room_1 s m args below meth c 8 L sz Q0 ce sl 2368 [(0, .ref b), (1, .ref (L.2.1 6 0)), (2, .ref (L.2.1 7 0)), (3, .ref (L.2.1 50 0)), (4, .ref (L.2.1 51 0)), (5, .int i)] [] v := by
  unfold TC_37 at h
  refine g_aload_n C 1 rfl 1 rfl dL_law_2368 ?_
  refine g_aload_n C 0 rfl 0 rfl dL_law_2369 ?_
  refine g_iload C 5 rfl dL_law_2370 ?_
  refine g_iconst C 1 (by decide) dL_law_2372 ?_
  refine g_iadd C dL_law_2373 ?_
  refine g_sld C hX hbl hbA s1 h1 e1 dL_law_2374 ?_
  refine g_aload_n C 0 rfl 0 rfl dL_law_2375 ?_
  refine g_iload C 5 rfl dL_law_2376 ?_
  refine g_iconst C 2 (by decide) dL_law_2378 ?_
  refine g_iadd C dL_law_2379 ?_
  refine g_sld C hX hbl hbA s2 h2 e2 dL_law_2380 ?_
  refine g_aload_n C 3 rfl 3 rfl dL_law_2381 ?_
  refine g_gcallSXi C [.ref (L.2.1 6 0), .int s1, .int s2, .ref (L.2.1 50 0)] (fun sz9 => kL_isIn l C.2.2.2.2.2.2.1 L C.2.2.2.2.2.2.2.1 s1 s2 v _ _ h sz9) wml_RL_275 wstat_L_isIn wini_RL wcw_L_isIn rfl rfl (n := 4) (by decide +kernel) rfl ⟨(Nat.le_of_ble_eq_true rfl), (Nat.le_of_ble_eq_true rfl)⟩ ⟨(by omega : ce + 2 ≤ 602775), (by omega : sl + 12 ≤ 7287779)⟩ (Nat.le_of_ble_eq_true rfl) dL_law_2382 (fun _ _ hx => hx.elim) (fun r2382 v2382 h => ?_)
  refine g_istore C [(6, .int r2382), (0, .ref b), (1, .ref (L.2.1 6 0)), (2, .ref (L.2.1 7 0)), (3, .ref (L.2.1 50 0)), (4, .ref (L.2.1 51 0)), (5, .int i)] (Nat.le_of_ble_eq_true rfl) rfl dL_law_2385 ?_
  refine g_aload_n C 2 rfl 3 rfl dL_law_2387 ?_
  refine g_aload_n C 0 rfl 1 rfl dL_law_2388 ?_
  refine g_iload C 6 rfl dL_law_2389 ?_
  refine g_iconst C 1 (by decide) dL_law_2391 ?_
  refine g_iadd C dL_law_2392 ?_
  refine g_sld C hX hbl hbA s1 h1 e1 dL_law_2393 ?_
  refine g_aload_n C 0 rfl 1 rfl dL_law_2394 ?_
  refine g_iload C 6 rfl dL_law_2395 ?_
  refine g_iconst C 2 (by decide) dL_law_2397 ?_
  refine g_iadd C dL_law_2398 ?_
  refine g_sld C hX hbl hbA s2 h2 e2 dL_law_2399 ?_
  refine g_gcallVi C gok_7 rfl rfl [.int s1, .int s2] (fun sz9 => kX7_isIn l C.2.2.2.2.2.2.1 L C.2.2.2.2.2.2.2.1 s1 s2 v2382 _ _ h sz9) wml_RL_277 winst_X7_isIn wsel_X7_isIn wini_RX7 wcode_X7_isIn rfl rfl (n := 2) (by decide +kernel) rfl ⟨(Nat.le_of_ble_eq_true rfl), (Nat.le_of_ble_eq_true rfl)⟩ ⟨(by omega : ce + 2 + 0 ≤ 602775), (by omega : sl + 12 + 0 ≤ 7287779)⟩ (Nat.le_of_ble_eq_true rfl) dL_law_2400 (fun _ _ hx => hx.elim) (fun r2400 v2400 h => ?_)
  refine g_istore C [(7, .int r2400), (6, .int r2382), (0, .ref b), (1, .ref (L.2.1 6 0)), (2, .ref (L.2.1 7 0)), (3, .ref (L.2.1 50 0)), (4, .ref (L.2.1 51 0)), (5, .int i)] (Nat.le_of_ble_eq_true rfl) rfl dL_law_2403 ?_
  refine g_aload_n C 2 rfl 4 rfl dL_law_2405 ?_
  refine g_gcallVi C gok_7 rfl rfl [] (fun sz9 => kX7_thrown l C.2.2.2.2.2.2.1 L C.2.2.2.2.2.2.2.1 v2400 _ _ h sz9) wml_RL_157 winst_X7_thrown wsel_X7_thrown wini_RX7 wcode_X7_thrown rfl rfl (n := 0) (by decide +kernel) rfl ⟨(Nat.le_of_ble_eq_true rfl), (Nat.le_of_ble_eq_true rfl)⟩ ⟨(by omega : ce + 2 + 0 + 0 ≤ 602775), (by omega : sl + 12 + 0 + 0 ≤ 7287779)⟩ (Nat.le_of_ble_eq_true rfl) dL_law_2406 (fun _ _ hx => hx.elim) (fun r2406 v2406 h => ?_)
  refine g_iload C 1 rfl dL_law_2409 ?_
  refine g_icmp_eq C 2416 (by decide) dL_law_2411 (fun hc => ?_) (fun hc => ?_)
  · replace h := h.1 hc
    refine g_iload C 1 rfl dL_law_2416 ?_
    refine g_if_ne C 2440 (by decide) dL_law_2418 (fun hc => ?_) (fun hc => ?_)
    · replace h := h.1 hc
      refine g_goto C 2761 (by decide) dL_law_2440 ?_
      refine g_widen (ce + 60) (sl + 360) (by omega) (by omega) ?_
      refine g_sub [(0, .ref b), (1, .ref (L.2.1 6 0)), (2, .ref (L.2.1 7 0)), (3, .ref (L.2.1 50 0)), (4, .ref (L.2.1 51 0)), (5, .int i)] [2, 3, 4, 5, 6, 7] rfl ?_
      exact hK _ h
    · replace h := h.2 hc
      refine g_aload_n C 3 rfl 5 rfl dL_law_2421 ?_
      refine g_iconst C 0 (by decide) dL_law_2422 ?_
      refine g_laload C dL_law_2423 ?_
      refine g_iload C 0 rfl dL_law_2424 ?_
      refine g_if_eq C 2433 (by decide) dL_law_2426 (fun hc => ?_) (fun hc => ?_)
      · replace h := h.1 hc
        refine g_lconst C 0 (by decide) dL_law_2433 ?_
        refine g_lcmp C dL_law_2434 ?_
        refine g_if_eq C 2440 (by decide) dL_law_2435 (fun hc => ?_) (fun hc => ?_)
        · replace h := h.1 hc
          refine g_goto C 2761 (by decide) dL_law_2440 ?_
          refine g_widen (ce + 60) (sl + 360) (by omega) (by omega) ?_
          refine g_sub [(0, .ref b), (1, .ref (L.2.1 6 0)), (2, .ref (L.2.1 7 0)), (3, .ref (L.2.1 50 0)), (4, .ref (L.2.1 51 0)), (5, .int i)] [2, 3, 4, 5, 6, 7] rfl ?_
          exact hK _ h
        · replace h := h.2 hc
          refine g_iconst C 0 (by decide) dL_law_2438 ?_
          exact h.elim
      · replace h := h.2 hc
        refine g_lconst C 1 (by decide) dL_law_2429 ?_
        refine g_goto C 2434 (by decide) dL_law_2430 ?_
        refine g_lcmp C dL_law_2434 ?_
        refine g_if_eq C 2440 (by decide) dL_law_2435 (fun hc => ?_) (fun hc => ?_)
        · replace h := h.1 hc
          refine g_goto C 2761 (by decide) dL_law_2440 ?_
          refine g_widen (ce + 60) (sl + 360) (by omega) (by omega) ?_
          refine g_sub [(0, .ref b), (1, .ref (L.2.1 6 0)), (2, .ref (L.2.1 7 0)), (3, .ref (L.2.1 50 0)), (4, .ref (L.2.1 51 0)), (5, .int i)] [2, 3, 4, 5, 6, 7] rfl ?_
          exact hK _ h
        · replace h := h.2 hc
          refine g_iconst C 0 (by decide) dL_law_2438 ?_
          exact h.elim
  · replace h := h.2 hc
    refine g_iconst C 0 (by decide) dL_law_2414 ?_
    exact h.elim
def TC_38 (s1 s2 s3 : Int32) (v : gMem) (Q : gMem → Prop) : Prop := (TL_personsIn s1 v (fun r2451 v2451 => (TX7_personsIn s1 v2451 (fun r2463 v2463 => (TX7_thrown v2463 (fun r2469 v2469 => ((r2469 = r2451 → ((¬ r2451 = 0 → (Q v2469)) ∧ (r2451 = 0 → (((lg_cmp (Int32.toInt64 (v2469 50 0 0)) (Int32.toInt64 r2463)) = 0 → (Q v2469)) ∧ (¬ (lg_cmp (Int32.toInt64 (v2469 50 0 0)) (Int32.toInt64 r2463)) = 0 → False))))) ∧ (¬ r2469 = r2451 → False))) (fun _ _ => False))) (fun _ _ => False))) (fun _ _ => False))
theorem kC_38 (C : gC p l s m args meth c cL_law 8 RL L sz) {b Ln : Nat} {xs : Nat → Int32} (hX : va_X b Ln xs s s.heap) (hbl : b < s.heap.size) (hbA : ¬ gA L sz b) {i s1 s2 s3 : Int32} (h1 : vp_in (i + 1) Ln) (h2 : vp_in (i + 2) Ln) (h3 : vp_in (i + 3) Ln) (e1 : xs (i + 1).toNatClampNeg = s1) (e2 : xs (i + 2).toNatClampNeg = s2) (e3 : xs (i + 3).toNatClampNeg = s3) {ce sl : Nat} (hce : ce + 60 ≤ 602775) (hsl : sl + 360 ≤ 7287779) {Q0 : State → Prop} {Q : gMem → Prop} (hK : ∀ v, Q v → gS p l e room_1 s m args below meth c 8 L sz Q0 (ce + 60) (sl + 360) 2761 [(0, .ref b), (1, .ref (L.2.1 6 0)), (2, .ref (L.2.1 7 0)), (3, .ref (L.2.1 50 0)), (4, .ref (L.2.1 51 0)), (5, .int i)] [] v) {v : gMem} (h : TC_38 s1 s2 s3 v Q) : gS p l e room_1 s m args below meth c 8 L sz Q0 ce sl 2443 [(0, .ref b), (1, .ref (L.2.1 6 0)), (2, .ref (L.2.1 7 0)), (3, .ref (L.2.1 50 0)), (4, .ref (L.2.1 51 0)), (5, .int i)] [] v := by
  unfold TC_38 at h
  refine g_aload_n C 1 rfl 1 rfl dL_law_2443 ?_
  refine g_aload_n C 0 rfl 0 rfl dL_law_2444 ?_
  refine g_iload C 5 rfl dL_law_2445 ?_
  refine g_iconst C 1 (by decide) dL_law_2447 ?_
  refine g_iadd C dL_law_2448 ?_
  refine g_sld C hX hbl hbA s1 h1 e1 dL_law_2449 ?_
  refine g_aload_n C 3 rfl 3 rfl dL_law_2450 ?_
  refine g_gcallSXi C [.ref (L.2.1 6 0), .int s1, .ref (L.2.1 50 0)] (fun sz9 => kL_personsIn l C.2.2.2.2.2.2.1 L C.2.2.2.2.2.2.2.1 s1 v _ _ h sz9) wml_RL_278 wstat_L_personsIn wini_RL wcw_L_personsIn rfl rfl (n := 3) (by decide +kernel) rfl ⟨(Nat.le_of_ble_eq_true rfl), (Nat.le_of_ble_eq_true rfl)⟩ ⟨(by omega : ce + 1 ≤ 602775), (by omega : sl + 6 ≤ 7287779)⟩ (Nat.le_of_ble_eq_true rfl) dL_law_2451 (fun _ _ hx => hx.elim) (fun r2451 v2451 h => ?_)
  refine g_istore C [(6, .int r2451), (0, .ref b), (1, .ref (L.2.1 6 0)), (2, .ref (L.2.1 7 0)), (3, .ref (L.2.1 50 0)), (4, .ref (L.2.1 51 0)), (5, .int i)] (Nat.le_of_ble_eq_true rfl) rfl dL_law_2454 ?_
  refine g_aload_n C 2 rfl 3 rfl dL_law_2456 ?_
  refine g_aload_n C 0 rfl 1 rfl dL_law_2457 ?_
  refine g_iload C 6 rfl dL_law_2458 ?_
  refine g_iconst C 1 (by decide) dL_law_2460 ?_
  refine g_iadd C dL_law_2461 ?_
  refine g_sld C hX hbl hbA s1 h1 e1 dL_law_2462 ?_
  refine g_gcallVi C gok_7 rfl rfl [.int s1] (fun sz9 => kX7_personsIn l C.2.2.2.2.2.2.1 L C.2.2.2.2.2.2.2.1 s1 v2451 _ _ h sz9) wml_RL_280 winst_X7_personsIn wsel_X7_personsIn wini_RX7 wcode_X7_personsIn rfl rfl (n := 1) (by decide +kernel) rfl ⟨(Nat.le_of_ble_eq_true rfl), (Nat.le_of_ble_eq_true rfl)⟩ ⟨(by omega : ce + 1 + 0 ≤ 602775), (by omega : sl + 6 + 0 ≤ 7287779)⟩ (Nat.le_of_ble_eq_true rfl) dL_law_2463 (fun _ _ hx => hx.elim) (fun r2463 v2463 h => ?_)
  refine g_istore C [(7, .int r2463), (6, .int r2451), (0, .ref b), (1, .ref (L.2.1 6 0)), (2, .ref (L.2.1 7 0)), (3, .ref (L.2.1 50 0)), (4, .ref (L.2.1 51 0)), (5, .int i)] (Nat.le_of_ble_eq_true rfl) rfl dL_law_2466 ?_
  refine g_aload_n C 2 rfl 4 rfl dL_law_2468 ?_
  refine g_gcallVi C gok_7 rfl rfl [] (fun sz9 => kX7_thrown l C.2.2.2.2.2.2.1 L C.2.2.2.2.2.2.2.1 v2463 _ _ h sz9) wml_RL_157 winst_X7_thrown wsel_X7_thrown wini_RX7 wcode_X7_thrown rfl rfl (n := 0) (by decide +kernel) rfl ⟨(Nat.le_of_ble_eq_true rfl), (Nat.le_of_ble_eq_true rfl)⟩ ⟨(by omega : ce + 1 + 0 + 0 ≤ 602775), (by omega : sl + 6 + 0 + 0 ≤ 7287779)⟩ (Nat.le_of_ble_eq_true rfl) dL_law_2469 (fun _ _ hx => hx.elim) (fun r2469 v2469 h => ?_)
  refine g_iload C 1 rfl dL_law_2472 ?_
  refine g_icmp_eq C 2479 (by decide) dL_law_2474 (fun hc => ?_) (fun hc => ?_)
  · replace h := h.1 hc
    refine g_iload C 1 rfl dL_law_2479 ?_
    refine g_if_ne C 2496 (by decide) dL_law_2481 (fun hc => ?_) (fun hc => ?_)
    · replace h := h.1 hc
      refine g_goto C 2761 (by decide) dL_law_2496 ?_
      refine g_widen (ce + 60) (sl + 360) (by omega) (by omega) ?_
      refine g_sub [(0, .ref b), (1, .ref (L.2.1 6 0)), (2, .ref (L.2.1 7 0)), (3, .ref (L.2.1 50 0)), (4, .ref (L.2.1 51 0)), (5, .int i)] [2, 3, 4, 5, 6, 7] rfl ?_
      exact hK _ h
    · replace h := h.2 hc
      refine g_aload_n C 3 rfl 5 rfl dL_law_2484 ?_
      refine g_iconst C 0 (by decide) dL_law_2485 ?_
      refine g_laload C dL_law_2486 ?_
      refine g_iload C 0 rfl dL_law_2487 ?_
      refine g_i2l C dL_law_2489 ?_
      refine g_lcmp C dL_law_2490 ?_
      refine g_if_eq C 2496 (by decide) dL_law_2491 (fun hc => ?_) (fun hc => ?_)
      · replace h := h.1 hc
        refine g_goto C 2761 (by decide) dL_law_2496 ?_
        refine g_widen (ce + 60) (sl + 360) (by omega) (by omega) ?_
        refine g_sub [(0, .ref b), (1, .ref (L.2.1 6 0)), (2, .ref (L.2.1 7 0)), (3, .ref (L.2.1 50 0)), (4, .ref (L.2.1 51 0)), (5, .int i)] [2, 3, 4, 5, 6, 7] rfl ?_
        exact hK _ h
      · replace h := h.2 hc
        refine g_iconst C 0 (by decide) dL_law_2494 ?_
        exact h.elim
  · replace h := h.2 hc
    refine g_iconst C 0 (by decide) dL_law_2477 ?_
    exact h.elim
def TC_39 (s1 s2 s3 : Int32) (v : gMem) (Q : gMem → Prop) : Prop := (TL_type (UInt32.toInt32 ((Int32.toUInt32 s1) % 65536)) v (fun r2508 v2508 => (TX7_type (UInt32.toInt32 ((Int32.toUInt32 s1) % 65536)) v2508 (fun r2521 v2521 => (TX7_thrown v2521 (fun r2527 v2527 => ((r2527 = r2508 → ((¬ r2508 = 0 → (Q v2527)) ∧ (r2508 = 0 → (((lg_cmp (Int32.toInt64 (v2527 50 0 0)) (Int32.toInt64 r2521)) = 0 → (Q v2527)) ∧ (¬ (lg_cmp (Int32.toInt64 (v2527 50 0 0)) (Int32.toInt64 r2521)) = 0 → False))))) ∧ (¬ r2527 = r2508 → False))) (fun _ _ => False))) (fun _ _ => False))) (fun _ _ => False))
theorem kC_39 (C : gC p l s m args meth c cL_law 8 RL L sz) {b Ln : Nat} {xs : Nat → Int32} (hX : va_X b Ln xs s s.heap) (hbl : b < s.heap.size) (hbA : ¬ gA L sz b) {i s1 s2 s3 : Int32} (h1 : vp_in (i + 1) Ln) (h2 : vp_in (i + 2) Ln) (h3 : vp_in (i + 3) Ln) (e1 : xs (i + 1).toNatClampNeg = s1) (e2 : xs (i + 2).toNatClampNeg = s2) (e3 : xs (i + 3).toNatClampNeg = s3) {ce sl : Nat} (hce : ce + 60 ≤ 602775) (hsl : sl + 360 ≤ 7287779) {Q0 : State → Prop} {Q : gMem → Prop} (hK : ∀ v, Q v → gS p l e room_1 s m args below meth c 8 L sz Q0 (ce + 60) (sl + 360) 2761 [(0, .ref b), (1, .ref (L.2.1 6 0)), (2, .ref (L.2.1 7 0)), (3, .ref (L.2.1 50 0)), (4, .ref (L.2.1 51 0)), (5, .int i)] [] v) {v : gMem} (h : TC_39 s1 s2 s3 v Q) : gS p l e room_1 s m args below meth c 8 L sz Q0 ce sl 2499 [(0, .ref b), (1, .ref (L.2.1 6 0)), (2, .ref (L.2.1 7 0)), (3, .ref (L.2.1 50 0)), (4, .ref (L.2.1 51 0)), (5, .int i)] [] v := by
  unfold TC_39 at h
  refine g_aload_n C 1 rfl 1 rfl dL_law_2499 ?_
  refine g_aload_n C 0 rfl 0 rfl dL_law_2500 ?_
  refine g_iload C 5 rfl dL_law_2501 ?_
  refine g_iconst C 1 (by decide) dL_law_2503 ?_
  refine g_iadd C dL_law_2504 ?_
  refine g_sld C hX hbl hbA s1 h1 e1 dL_law_2505 ?_
  refine g_i2c C dL_law_2506 ?_
  refine g_aload_n C 3 rfl 3 rfl dL_law_2507 ?_
  refine g_gcallSXi C [.ref (L.2.1 6 0), .int (UInt32.toInt32 ((Int32.toUInt32 s1) % 65536)), .ref (L.2.1 50 0)] (fun sz9 => kL_type l C.2.2.2.2.2.2.1 L C.2.2.2.2.2.2.2.1 (UInt32.toInt32 ((Int32.toUInt32 s1) % 65536)) v _ _ h sz9) wml_RL_281 wstat_L_type wini_RL wcw_L_type rfl rfl (n := 3) (by decide +kernel) rfl ⟨(Nat.le_of_ble_eq_true rfl), (Nat.le_of_ble_eq_true rfl)⟩ ⟨(by omega : ce + 2 ≤ 602775), (by omega : sl + 12 ≤ 7287779)⟩ (Nat.le_of_ble_eq_true rfl) dL_law_2508 (fun _ _ hx => hx.elim) (fun r2508 v2508 h => ?_)
  refine g_istore C [(6, .int r2508), (0, .ref b), (1, .ref (L.2.1 6 0)), (2, .ref (L.2.1 7 0)), (3, .ref (L.2.1 50 0)), (4, .ref (L.2.1 51 0)), (5, .int i)] (Nat.le_of_ble_eq_true rfl) rfl dL_law_2511 ?_
  refine g_aload_n C 2 rfl 3 rfl dL_law_2513 ?_
  refine g_aload_n C 0 rfl 1 rfl dL_law_2514 ?_
  refine g_iload C 6 rfl dL_law_2515 ?_
  refine g_iconst C 1 (by decide) dL_law_2517 ?_
  refine g_iadd C dL_law_2518 ?_
  refine g_sld C hX hbl hbA s1 h1 e1 dL_law_2519 ?_
  refine g_i2c C dL_law_2520 ?_
  refine g_gcallVi C gok_7 rfl rfl [.int (UInt32.toInt32 ((Int32.toUInt32 s1) % 65536))] (fun sz9 => kX7_type l C.2.2.2.2.2.2.1 L C.2.2.2.2.2.2.2.1 (UInt32.toInt32 ((Int32.toUInt32 s1) % 65536)) v2508 _ _ h sz9) wml_RL_284 winst_X7_type wsel_X7_type wini_RX7 wcode_X7_type rfl rfl (n := 1) (by decide +kernel) rfl ⟨(Nat.le_of_ble_eq_true rfl), (Nat.le_of_ble_eq_true rfl)⟩ ⟨(by omega : ce + 2 + 0 ≤ 602775), (by omega : sl + 12 + 0 ≤ 7287779)⟩ (Nat.le_of_ble_eq_true rfl) dL_law_2521 (fun _ _ hx => hx.elim) (fun r2521 v2521 h => ?_)
  refine g_istore C [(7, .int r2521), (6, .int r2508), (0, .ref b), (1, .ref (L.2.1 6 0)), (2, .ref (L.2.1 7 0)), (3, .ref (L.2.1 50 0)), (4, .ref (L.2.1 51 0)), (5, .int i)] (Nat.le_of_ble_eq_true rfl) rfl dL_law_2524 ?_
  refine g_aload_n C 2 rfl 4 rfl dL_law_2526 ?_
  refine g_gcallVi C gok_7 rfl rfl [] (fun sz9 => kX7_thrown l C.2.2.2.2.2.2.1 L C.2.2.2.2.2.2.2.1 v2521 _ _ h sz9) wml_RL_157 winst_X7_thrown wsel_X7_thrown wini_RX7 wcode_X7_thrown rfl rfl (n := 0) (by decide +kernel) rfl ⟨(Nat.le_of_ble_eq_true rfl), (Nat.le_of_ble_eq_true rfl)⟩ ⟨(by omega : ce + 2 + 0 + 0 ≤ 602775), (by omega : sl + 12 + 0 + 0 ≤ 7287779)⟩ (Nat.le_of_ble_eq_true rfl) dL_law_2527 (fun _ _ hx => hx.elim) (fun r2527 v2527 h => ?_)
  refine g_iload C 1 rfl dL_law_2530 ?_
  refine g_icmp_eq C 2537 (by decide) dL_law_2532 (fun hc => ?_) (fun hc => ?_)
  · replace h := h.1 hc
    refine g_iload C 1 rfl dL_law_2537 ?_
    refine g_if_ne C 2554 (by decide) dL_law_2539 (fun hc => ?_) (fun hc => ?_)
    · replace h := h.1 hc
      refine g_goto C 2761 (by decide) dL_law_2554 ?_
      refine g_widen (ce + 60) (sl + 360) (by omega) (by omega) ?_
      refine g_sub [(0, .ref b), (1, .ref (L.2.1 6 0)), (2, .ref (L.2.1 7 0)), (3, .ref (L.2.1 50 0)), (4, .ref (L.2.1 51 0)), (5, .int i)] [2, 3, 4, 5, 6, 7] rfl ?_
      exact hK _ h
    · replace h := h.2 hc
      refine g_aload_n C 3 rfl 5 rfl dL_law_2542 ?_
      refine g_iconst C 0 (by decide) dL_law_2543 ?_
      refine g_laload C dL_law_2544 ?_
      refine g_iload C 0 rfl dL_law_2545 ?_
      refine g_i2l C dL_law_2547 ?_
      refine g_lcmp C dL_law_2548 ?_
      refine g_if_eq C 2554 (by decide) dL_law_2549 (fun hc => ?_) (fun hc => ?_)
      · replace h := h.1 hc
        refine g_goto C 2761 (by decide) dL_law_2554 ?_
        refine g_widen (ce + 60) (sl + 360) (by omega) (by omega) ?_
        refine g_sub [(0, .ref b), (1, .ref (L.2.1 6 0)), (2, .ref (L.2.1 7 0)), (3, .ref (L.2.1 50 0)), (4, .ref (L.2.1 51 0)), (5, .int i)] [2, 3, 4, 5, 6, 7] rfl ?_
        exact hK _ h
      · replace h := h.2 hc
        refine g_iconst C 0 (by decide) dL_law_2552 ?_
        exact h.elim
  · replace h := h.2 hc
    refine g_iconst C 0 (by decide) dL_law_2535 ?_
    exact h.elim
def TC_40 (s1 s2 s3 : Int32) (v : gMem) (Q : gMem → Prop) : Prop := (TX6_clearQuery v (fun r2558 v2558 => (TX7_clearQuery v2558 (fun r2562 v2562 => ((r2558 = r2562 → (Q v2562)) ∧ (¬ r2558 = r2562 → False))) (fun _ _ => False))) (fun _ _ => False))
theorem kC_40 (C : gC p l s m args meth c cL_law 8 RL L sz) {b Ln : Nat} {xs : Nat → Int32} (hX : va_X b Ln xs s s.heap) (hbl : b < s.heap.size) (hbA : ¬ gA L sz b) {i s1 s2 s3 : Int32} (h1 : vp_in (i + 1) Ln) (h2 : vp_in (i + 2) Ln) (h3 : vp_in (i + 3) Ln) (e1 : xs (i + 1).toNatClampNeg = s1) (e2 : xs (i + 2).toNatClampNeg = s2) (e3 : xs (i + 3).toNatClampNeg = s3) {ce sl : Nat} (hce : ce + 60 ≤ 602775) (hsl : sl + 360 ≤ 7287779) {Q0 : State → Prop} {Q : gMem → Prop} (hK : ∀ v, Q v → gS p l e room_1 s m args below meth c 8 L sz Q0 (ce + 60) (sl + 360) 2761 [(0, .ref b), (1, .ref (L.2.1 6 0)), (2, .ref (L.2.1 7 0)), (3, .ref (L.2.1 50 0)), (4, .ref (L.2.1 51 0)), (5, .int i)] [] v) {v : gMem} (h : TC_40 s1 s2 s3 v Q) : gS p l e room_1 s m args below meth c 8 L sz Q0 ce sl 2557 [(0, .ref b), (1, .ref (L.2.1 6 0)), (2, .ref (L.2.1 7 0)), (3, .ref (L.2.1 50 0)), (4, .ref (L.2.1 51 0)), (5, .int i)] [] v := by
  unfold TC_40 at h
  refine g_aload_n C 1 rfl 1 rfl dL_law_2557 ?_
  refine g_gcallVi C gok_6 rfl rfl [] (fun sz9 => kX6_clearQuery l C.2.2.2.2.2.2.1 L C.2.2.2.2.2.2.2.1 v _ _ h sz9) wml_RL_285 winst_X6_clearQuery wsel_X6_clearQuery wini_RX6 wcode_X6_clearQuery rfl rfl (n := 0) (by decide +kernel) rfl ⟨(Nat.le_of_ble_eq_true rfl), (Nat.le_of_ble_eq_true rfl)⟩ ⟨(by omega : ce + 0 ≤ 602775), (by omega : sl + 0 ≤ 7287779)⟩ (Nat.le_of_ble_eq_true rfl) dL_law_2558 (fun _ _ hx => hx.elim) (fun r2558 v2558 h => ?_)
  refine g_aload_n C 2 rfl 2 rfl dL_law_2561 ?_
  refine g_gcallVi C gok_7 rfl rfl [] (fun sz9 => kX7_clearQuery l C.2.2.2.2.2.2.1 L C.2.2.2.2.2.2.2.1 v2558 _ _ h sz9) wml_RL_288 winst_X7_clearQuery wsel_X7_clearQuery wini_RX7 wcode_X7_clearQuery rfl rfl (n := 0) (by decide +kernel) rfl ⟨(Nat.le_of_ble_eq_true rfl), (Nat.le_of_ble_eq_true rfl)⟩ ⟨(by omega : ce + 0 + 0 ≤ 602775), (by omega : sl + 0 + 0 ≤ 7287779)⟩ (Nat.le_of_ble_eq_true rfl) dL_law_2562 (fun _ _ hx => hx.elim) (fun r2562 v2562 h => ?_)
  refine g_icmp_eq C 2761 (by decide) dL_law_2565 (fun hc => ?_) (fun hc => ?_)
  · replace h := h.1 hc
    refine g_widen (ce + 60) (sl + 360) (by omega) (by omega) ?_
    exact hK _ h
  · replace h := h.2 hc
    refine g_iconst C 0 (by decide) dL_law_2568 ?_
    exact h.elim
def TC_41 (s1 s2 s3 : Int32) (v : gMem) (Q : gMem → Prop) : Prop := ((s1 = 0 → (TX6_found 0 v (fun r2585 v2585 => ((s1 = 0 → (TX7_found 0 v2585 (fun r2603 v2603 => ((r2585 = r2603 → (Q v2603)) ∧ (¬ r2585 = r2603 → False))) (fun _ _ => False))) ∧ (¬ s1 = 0 → (TX7_found 1 v2585 (fun r2603 v2603 => ((r2585 = r2603 → (Q v2603)) ∧ (¬ r2585 = r2603 → False))) (fun _ _ => False))))) (fun _ _ => False))) ∧ (¬ s1 = 0 → (TX6_found 1 v (fun r2585 v2585 => ((s1 = 0 → (TX7_found 0 v2585 (fun r2603 v2603 => ((r2585 = r2603 → (Q v2603)) ∧ (¬ r2585 = r2603 → False))) (fun _ _ => False))) ∧ (¬ s1 = 0 → (TX7_found 1 v2585 (fun r2603 v2603 => ((r2585 = r2603 → (Q v2603)) ∧ (¬ r2585 = r2603 → False))) (fun _ _ => False))))) (fun _ _ => False))))
theorem kC_41 (C : gC p l s m args meth c cL_law 8 RL L sz) {b Ln : Nat} {xs : Nat → Int32} (hX : va_X b Ln xs s s.heap) (hbl : b < s.heap.size) (hbA : ¬ gA L sz b) {i s1 s2 s3 : Int32} (h1 : vp_in (i + 1) Ln) (h2 : vp_in (i + 2) Ln) (h3 : vp_in (i + 3) Ln) (e1 : xs (i + 1).toNatClampNeg = s1) (e2 : xs (i + 2).toNatClampNeg = s2) (e3 : xs (i + 3).toNatClampNeg = s3) {ce sl : Nat} (hce : ce + 60 ≤ 602775) (hsl : sl + 360 ≤ 7287779) {Q0 : State → Prop} {Q : gMem → Prop} (hK : ∀ v, Q v → gS p l e room_1 s m args below meth c 8 L sz Q0 (ce + 60) (sl + 360) 2761 [(0, .ref b), (1, .ref (L.2.1 6 0)), (2, .ref (L.2.1 7 0)), (3, .ref (L.2.1 50 0)), (4, .ref (L.2.1 51 0)), (5, .int i)] [] v) {v : gMem} (h : TC_41 s1 s2 s3 v Q) : gS p l e room_1 s m args below meth c 8 L sz Q0 ce sl 2570 [(0, .ref b), (1, .ref (L.2.1 6 0)), (2, .ref (L.2.1 7 0)), (3, .ref (L.2.1 50 0)), (4, .ref (L.2.1 51 0)), (5, .int i)] [] v := by
  unfold TC_41 at h
  refine g_aload_n C 1 rfl 1 rfl dL_law_2570 ?_
  refine g_aload_n C 0 rfl 0 rfl dL_law_2571 ?_
  refine g_iload C 5 rfl dL_law_2572 ?_
  refine g_iconst C 1 (by decide) dL_law_2574 ?_
  refine g_iadd C dL_law_2575 ?_
  refine g_sld C hX hbl hbA s1 h1 e1 dL_law_2576 ?_
  refine g_if_eq C 2584 (by decide) dL_law_2577 (fun hc => ?_) (fun hc => ?_)
  · replace h := h.1 hc
    refine g_iconst C 0 (by decide) dL_law_2584 ?_
    refine g_gcallVi C gok_6 rfl rfl [.int 0] (fun sz9 => kX6_found l C.2.2.2.2.2.2.1 L C.2.2.2.2.2.2.2.1 0 v _ _ h sz9) wml_RL_289 winst_X6_found wsel_X6_found wini_RX6 wcode_X6_found rfl rfl (n := 1) (by decide +kernel) rfl ⟨(Nat.le_of_ble_eq_true rfl), (Nat.le_of_ble_eq_true rfl)⟩ ⟨(by omega : ce + 0 ≤ 602775), (by omega : sl + 0 ≤ 7287779)⟩ (Nat.le_of_ble_eq_true rfl) dL_law_2585 (fun _ _ hx => hx.elim) (fun r2585 v2585 h => ?_)
    refine g_aload_n C 2 rfl 2 rfl dL_law_2588 ?_
    refine g_aload_n C 0 rfl 0 rfl dL_law_2589 ?_
    refine g_iload C 5 rfl dL_law_2590 ?_
    refine g_iconst C 1 (by decide) dL_law_2592 ?_
    refine g_iadd C dL_law_2593 ?_
    refine g_sld C hX hbl hbA s1 h1 e1 dL_law_2594 ?_
    refine g_if_eq C 2602 (by decide) dL_law_2595 (fun hc => ?_) (fun hc => ?_)
    · replace h := h.1 hc
      refine g_iconst C 0 (by decide) dL_law_2602 ?_
      refine g_gcallVi C gok_7 rfl rfl [.int 0] (fun sz9 => kX7_found l C.2.2.2.2.2.2.1 L C.2.2.2.2.2.2.2.1 0 v2585 _ _ h sz9) wml_RL_293 winst_X7_found wsel_X7_found wini_RX7 wcode_X7_found rfl rfl (n := 1) (by decide +kernel) rfl ⟨(Nat.le_of_ble_eq_true rfl), (Nat.le_of_ble_eq_true rfl)⟩ ⟨(by omega : ce + 0 + 0 ≤ 602775), (by omega : sl + 0 + 0 ≤ 7287779)⟩ (Nat.le_of_ble_eq_true rfl) dL_law_2603 (fun _ _ hx => hx.elim) (fun r2603 v2603 h => ?_)
      refine g_icmp_eq C 2761 (by decide) dL_law_2606 (fun hc => ?_) (fun hc => ?_)
      · replace h := h.1 hc
        refine g_widen (ce + 60) (sl + 360) (by omega) (by omega) ?_
        exact hK _ h
      · replace h := h.2 hc
        refine g_iconst C 0 (by decide) dL_law_2609 ?_
        exact h.elim
    · replace h := h.2 hc
      refine g_iconst C 1 (by decide) dL_law_2598 ?_
      refine g_goto C 2603 (by decide) dL_law_2599 ?_
      refine g_gcallVi C gok_7 rfl rfl [.int 1] (fun sz9 => kX7_found l C.2.2.2.2.2.2.1 L C.2.2.2.2.2.2.2.1 1 v2585 _ _ h sz9) wml_RL_293 winst_X7_found wsel_X7_found wini_RX7 wcode_X7_found rfl rfl (n := 1) (by decide +kernel) rfl ⟨(Nat.le_of_ble_eq_true rfl), (Nat.le_of_ble_eq_true rfl)⟩ ⟨(by omega : ce + 0 + 0 ≤ 602775), (by omega : sl + 0 + 0 ≤ 7287779)⟩ (Nat.le_of_ble_eq_true rfl) dL_law_2603 (fun _ _ hx => hx.elim) (fun r2603 v2603 h => ?_)
      refine g_icmp_eq C 2761 (by decide) dL_law_2606 (fun hc => ?_) (fun hc => ?_)
      · replace h := h.1 hc
        refine g_widen (ce + 60) (sl + 360) (by omega) (by omega) ?_
        exact hK _ h
      · replace h := h.2 hc
        refine g_iconst C 0 (by decide) dL_law_2609 ?_
        exact h.elim
  · replace h := h.2 hc
    refine g_iconst C 1 (by decide) dL_law_2580 ?_
    refine g_goto C 2585 (by decide) dL_law_2581 ?_
    refine g_gcallVi C gok_6 rfl rfl [.int 1] (fun sz9 => kX6_found l C.2.2.2.2.2.2.1 L C.2.2.2.2.2.2.2.1 1 v _ _ h sz9) wml_RL_289 winst_X6_found wsel_X6_found wini_RX6 wcode_X6_found rfl rfl (n := 1) (by decide +kernel) rfl ⟨(Nat.le_of_ble_eq_true rfl), (Nat.le_of_ble_eq_true rfl)⟩ ⟨(by omega : ce + 0 ≤ 602775), (by omega : sl + 0 ≤ 7287779)⟩ (Nat.le_of_ble_eq_true rfl) dL_law_2585 (fun _ _ hx => hx.elim) (fun r2585 v2585 h => ?_)
    refine g_aload_n C 2 rfl 2 rfl dL_law_2588 ?_
    refine g_aload_n C 0 rfl 0 rfl dL_law_2589 ?_
    refine g_iload C 5 rfl dL_law_2590 ?_
    refine g_iconst C 1 (by decide) dL_law_2592 ?_
    refine g_iadd C dL_law_2593 ?_
    refine g_sld C hX hbl hbA s1 h1 e1 dL_law_2594 ?_
    refine g_if_eq C 2602 (by decide) dL_law_2595 (fun hc => ?_) (fun hc => ?_)
    · replace h := h.1 hc
      refine g_iconst C 0 (by decide) dL_law_2602 ?_
      refine g_gcallVi C gok_7 rfl rfl [.int 0] (fun sz9 => kX7_found l C.2.2.2.2.2.2.1 L C.2.2.2.2.2.2.2.1 0 v2585 _ _ h sz9) wml_RL_293 winst_X7_found wsel_X7_found wini_RX7 wcode_X7_found rfl rfl (n := 1) (by decide +kernel) rfl ⟨(Nat.le_of_ble_eq_true rfl), (Nat.le_of_ble_eq_true rfl)⟩ ⟨(by omega : ce + 0 + 0 ≤ 602775), (by omega : sl + 0 + 0 ≤ 7287779)⟩ (Nat.le_of_ble_eq_true rfl) dL_law_2603 (fun _ _ hx => hx.elim) (fun r2603 v2603 h => ?_)
      refine g_icmp_eq C 2761 (by decide) dL_law_2606 (fun hc => ?_) (fun hc => ?_)
      · replace h := h.1 hc
        refine g_widen (ce + 60) (sl + 360) (by omega) (by omega) ?_
        exact hK _ h
      · replace h := h.2 hc
        refine g_iconst C 0 (by decide) dL_law_2609 ?_
        exact h.elim
    · replace h := h.2 hc
      refine g_iconst C 1 (by decide) dL_law_2598 ?_
      refine g_goto C 2603 (by decide) dL_law_2599 ?_
      refine g_gcallVi C gok_7 rfl rfl [.int 1] (fun sz9 => kX7_found l C.2.2.2.2.2.2.1 L C.2.2.2.2.2.2.2.1 1 v2585 _ _ h sz9) wml_RL_293 winst_X7_found wsel_X7_found wini_RX7 wcode_X7_found rfl rfl (n := 1) (by decide +kernel) rfl ⟨(Nat.le_of_ble_eq_true rfl), (Nat.le_of_ble_eq_true rfl)⟩ ⟨(by omega : ce + 0 + 0 ≤ 602775), (by omega : sl + 0 + 0 ≤ 7287779)⟩ (Nat.le_of_ble_eq_true rfl) dL_law_2603 (fun _ _ hx => hx.elim) (fun r2603 v2603 h => ?_)
      refine g_icmp_eq C 2761 (by decide) dL_law_2606 (fun hc => ?_) (fun hc => ?_)
      · replace h := h.1 hc
        refine g_widen (ce + 60) (sl + 360) (by omega) (by omega) ?_
        exact hK _ h
      · replace h := h.2 hc
        refine g_iconst C 0 (by decide) dL_law_2609 ?_
        exact h.elim
def TC_42 (s1 s2 s3 : Int32) (v : gMem) (Q : gMem → Prop) : Prop := ((s1 = 0 → (TL_foundAt 0 s2 v (fun r2633 v2633 => ((s1 = 0 → (TX7_foundAt 0 s2 v2633 (fun r2659 v2659 => (TX7_thrown v2659 (fun r2665 v2665 => ((r2665 = r2633 → ((¬ r2633 = 0 → (Q v2665)) ∧ (r2633 = 0 → (((lg_cmp (Int32.toInt64 (v2665 50 0 0)) (Int32.toInt64 r2659)) = 0 → (Q v2665)) ∧ (¬ (lg_cmp (Int32.toInt64 (v2665 50 0 0)) (Int32.toInt64 r2659)) = 0 → False))))) ∧ (¬ r2665 = r2633 → False))) (fun _ _ => False))) (fun _ _ => False))) ∧ (¬ s1 = 0 → (TX7_foundAt 1 s2 v2633 (fun r2659 v2659 => (TX7_thrown v2659 (fun r2665 v2665 => ((r2665 = r2633 → ((¬ r2633 = 0 → (Q v2665)) ∧ (r2633 = 0 → (((lg_cmp (Int32.toInt64 (v2665 50 0 0)) (Int32.toInt64 r2659)) = 0 → (Q v2665)) ∧ (¬ (lg_cmp (Int32.toInt64 (v2665 50 0 0)) (Int32.toInt64 r2659)) = 0 → False))))) ∧ (¬ r2665 = r2633 → False))) (fun _ _ => False))) (fun _ _ => False))))) (fun _ _ => False))) ∧ (¬ s1 = 0 → (TL_foundAt 1 s2 v (fun r2633 v2633 => ((s1 = 0 → (TX7_foundAt 0 s2 v2633 (fun r2659 v2659 => (TX7_thrown v2659 (fun r2665 v2665 => ((r2665 = r2633 → ((¬ r2633 = 0 → (Q v2665)) ∧ (r2633 = 0 → (((lg_cmp (Int32.toInt64 (v2665 50 0 0)) (Int32.toInt64 r2659)) = 0 → (Q v2665)) ∧ (¬ (lg_cmp (Int32.toInt64 (v2665 50 0 0)) (Int32.toInt64 r2659)) = 0 → False))))) ∧ (¬ r2665 = r2633 → False))) (fun _ _ => False))) (fun _ _ => False))) ∧ (¬ s1 = 0 → (TX7_foundAt 1 s2 v2633 (fun r2659 v2659 => (TX7_thrown v2659 (fun r2665 v2665 => ((r2665 = r2633 → ((¬ r2633 = 0 → (Q v2665)) ∧ (r2633 = 0 → (((lg_cmp (Int32.toInt64 (v2665 50 0 0)) (Int32.toInt64 r2659)) = 0 → (Q v2665)) ∧ (¬ (lg_cmp (Int32.toInt64 (v2665 50 0 0)) (Int32.toInt64 r2659)) = 0 → False))))) ∧ (¬ r2665 = r2633 → False))) (fun _ _ => False))) (fun _ _ => False))))) (fun _ _ => False))))
theorem kC_42 (C : gC p l s m args meth c cL_law 8 RL L sz) {b Ln : Nat} {xs : Nat → Int32} (hX : va_X b Ln xs s s.heap) (hbl : b < s.heap.size) (hbA : ¬ gA L sz b) {i s1 s2 s3 : Int32} (h1 : vp_in (i + 1) Ln) (h2 : vp_in (i + 2) Ln) (h3 : vp_in (i + 3) Ln) (e1 : xs (i + 1).toNatClampNeg = s1) (e2 : xs (i + 2).toNatClampNeg = s2) (e3 : xs (i + 3).toNatClampNeg = s3) {ce sl : Nat} (hce : ce + 60 ≤ 602775) (hsl : sl + 360 ≤ 7287779) {Q0 : State → Prop} {Q : gMem → Prop} (hK : ∀ v, Q v → gS p l e room_1 s m args below meth c 8 L sz Q0 (ce + 60) (sl + 360) 2761 [(0, .ref b), (1, .ref (L.2.1 6 0)), (2, .ref (L.2.1 7 0)), (3, .ref (L.2.1 50 0)), (4, .ref (L.2.1 51 0)), (5, .int i)] [] v) {v : gMem} (h : TC_42 s1 s2 s3 v Q) : gS p l e room_1 s m args below meth c 8 L sz Q0 ce sl 2611 [(0, .ref b), (1, .ref (L.2.1 6 0)), (2, .ref (L.2.1 7 0)), (3, .ref (L.2.1 50 0)), (4, .ref (L.2.1 51 0)), (5, .int i)] [] v := by
  unfold TC_42 at h
  refine g_aload_n C 1 rfl 1 rfl dL_law_2611 ?_
  refine g_aload_n C 0 rfl 0 rfl dL_law_2612 ?_
  refine g_iload C 5 rfl dL_law_2613 ?_
  refine g_iconst C 1 (by decide) dL_law_2615 ?_
  refine g_iadd C dL_law_2616 ?_
  refine g_sld C hX hbl hbA s1 h1 e1 dL_law_2617 ?_
  refine g_if_eq C 2625 (by decide) dL_law_2618 (fun hc => ?_) (fun hc => ?_)
  · replace h := h.1 hc
    refine g_iconst C 0 (by decide) dL_law_2625 ?_
    refine g_aload_n C 0 rfl 0 rfl dL_law_2626 ?_
    refine g_iload C 5 rfl dL_law_2627 ?_
    refine g_iconst C 2 (by decide) dL_law_2629 ?_
    refine g_iadd C dL_law_2630 ?_
    refine g_sld C hX hbl hbA s2 h2 e2 dL_law_2631 ?_
    refine g_aload_n C 3 rfl 3 rfl dL_law_2632 ?_
    refine g_gcallSXi C [.ref (L.2.1 6 0), .int 0, .int s2, .ref (L.2.1 50 0)] (fun sz9 => kL_foundAt l C.2.2.2.2.2.2.1 L C.2.2.2.2.2.2.2.1 0 s2 v _ _ h sz9) wml_RL_294 wstat_L_foundAt wini_RL wcw_L_foundAt rfl rfl (n := 4) (by decide +kernel) rfl ⟨(Nat.le_of_ble_eq_true rfl), (Nat.le_of_ble_eq_true rfl)⟩ ⟨(by omega : ce + 1 ≤ 602775), (by omega : sl + 6 ≤ 7287779)⟩ (Nat.le_of_ble_eq_true rfl) dL_law_2633 (fun _ _ hx => hx.elim) (fun r2633 v2633 h => ?_)
    refine g_istore C [(6, .int r2633), (0, .ref b), (1, .ref (L.2.1 6 0)), (2, .ref (L.2.1 7 0)), (3, .ref (L.2.1 50 0)), (4, .ref (L.2.1 51 0)), (5, .int i)] (Nat.le_of_ble_eq_true rfl) rfl dL_law_2636 ?_
    refine g_aload_n C 2 rfl 3 rfl dL_law_2638 ?_
    refine g_aload_n C 0 rfl 1 rfl dL_law_2639 ?_
    refine g_iload C 6 rfl dL_law_2640 ?_
    refine g_iconst C 1 (by decide) dL_law_2642 ?_
    refine g_iadd C dL_law_2643 ?_
    refine g_sld C hX hbl hbA s1 h1 e1 dL_law_2644 ?_
    refine g_if_eq C 2652 (by decide) dL_law_2645 (fun hc => ?_) (fun hc => ?_)
    · replace h := h.1 hc
      refine g_iconst C 0 (by decide) dL_law_2652 ?_
      refine g_aload_n C 0 rfl 1 rfl dL_law_2653 ?_
      refine g_iload C 6 rfl dL_law_2654 ?_
      refine g_iconst C 2 (by decide) dL_law_2656 ?_
      refine g_iadd C dL_law_2657 ?_
      refine g_sld C hX hbl hbA s2 h2 e2 dL_law_2658 ?_
      refine g_gcallVi C gok_7 rfl rfl [.int 0, .int s2] (fun sz9 => kX7_foundAt l C.2.2.2.2.2.2.1 L C.2.2.2.2.2.2.2.1 0 s2 v2633 _ _ h sz9) wml_RL_297 winst_X7_foundAt wsel_X7_foundAt wini_RX7 wcode_X7_foundAt rfl rfl (n := 2) (by decide +kernel) rfl ⟨(Nat.le_of_ble_eq_true rfl), (Nat.le_of_ble_eq_true rfl)⟩ ⟨(by omega : ce + 1 + 0 ≤ 602775), (by omega : sl + 6 + 0 ≤ 7287779)⟩ (Nat.le_of_ble_eq_true rfl) dL_law_2659 (fun _ _ hx => hx.elim) (fun r2659 v2659 h => ?_)
      refine g_istore C [(7, .int r2659), (6, .int r2633), (0, .ref b), (1, .ref (L.2.1 6 0)), (2, .ref (L.2.1 7 0)), (3, .ref (L.2.1 50 0)), (4, .ref (L.2.1 51 0)), (5, .int i)] (Nat.le_of_ble_eq_true rfl) rfl dL_law_2662 ?_
      refine g_aload_n C 2 rfl 4 rfl dL_law_2664 ?_
      refine g_gcallVi C gok_7 rfl rfl [] (fun sz9 => kX7_thrown l C.2.2.2.2.2.2.1 L C.2.2.2.2.2.2.2.1 v2659 _ _ h sz9) wml_RL_157 winst_X7_thrown wsel_X7_thrown wini_RX7 wcode_X7_thrown rfl rfl (n := 0) (by decide +kernel) rfl ⟨(Nat.le_of_ble_eq_true rfl), (Nat.le_of_ble_eq_true rfl)⟩ ⟨(by omega : ce + 1 + 0 + 0 ≤ 602775), (by omega : sl + 6 + 0 + 0 ≤ 7287779)⟩ (Nat.le_of_ble_eq_true rfl) dL_law_2665 (fun _ _ hx => hx.elim) (fun r2665 v2665 h => ?_)
      refine g_iload C 1 rfl dL_law_2668 ?_
      refine g_icmp_eq C 2675 (by decide) dL_law_2670 (fun hc => ?_) (fun hc => ?_)
      · replace h := h.1 hc
        refine g_iload C 1 rfl dL_law_2675 ?_
        refine g_if_ne C 2692 (by decide) dL_law_2677 (fun hc => ?_) (fun hc => ?_)
        · replace h := h.1 hc
          refine g_goto C 2761 (by decide) dL_law_2692 ?_
          refine g_widen (ce + 60) (sl + 360) (by omega) (by omega) ?_
          refine g_sub [(0, .ref b), (1, .ref (L.2.1 6 0)), (2, .ref (L.2.1 7 0)), (3, .ref (L.2.1 50 0)), (4, .ref (L.2.1 51 0)), (5, .int i)] [2, 3, 4, 5, 6, 7] rfl ?_
          exact hK _ h
        · replace h := h.2 hc
          refine g_aload_n C 3 rfl 5 rfl dL_law_2680 ?_
          refine g_iconst C 0 (by decide) dL_law_2681 ?_
          refine g_laload C dL_law_2682 ?_
          refine g_iload C 0 rfl dL_law_2683 ?_
          refine g_i2l C dL_law_2685 ?_
          refine g_lcmp C dL_law_2686 ?_
          refine g_if_eq C 2692 (by decide) dL_law_2687 (fun hc => ?_) (fun hc => ?_)
          · replace h := h.1 hc
            refine g_goto C 2761 (by decide) dL_law_2692 ?_
            refine g_widen (ce + 60) (sl + 360) (by omega) (by omega) ?_
            refine g_sub [(0, .ref b), (1, .ref (L.2.1 6 0)), (2, .ref (L.2.1 7 0)), (3, .ref (L.2.1 50 0)), (4, .ref (L.2.1 51 0)), (5, .int i)] [2, 3, 4, 5, 6, 7] rfl ?_
            exact hK _ h
          · replace h := h.2 hc
            refine g_iconst C 0 (by decide) dL_law_2690 ?_
            exact h.elim
      · replace h := h.2 hc
        refine g_iconst C 0 (by decide) dL_law_2673 ?_
        exact h.elim
    · replace h := h.2 hc
      refine g_iconst C 1 (by decide) dL_law_2648 ?_
      refine g_goto C 2653 (by decide) dL_law_2649 ?_
      refine g_aload_n C 0 rfl 1 rfl dL_law_2653 ?_
      refine g_iload C 6 rfl dL_law_2654 ?_
      refine g_iconst C 2 (by decide) dL_law_2656 ?_
      refine g_iadd C dL_law_2657 ?_
      refine g_sld C hX hbl hbA s2 h2 e2 dL_law_2658 ?_
      refine g_gcallVi C gok_7 rfl rfl [.int 1, .int s2] (fun sz9 => kX7_foundAt l C.2.2.2.2.2.2.1 L C.2.2.2.2.2.2.2.1 1 s2 v2633 _ _ h sz9) wml_RL_297 winst_X7_foundAt wsel_X7_foundAt wini_RX7 wcode_X7_foundAt rfl rfl (n := 2) (by decide +kernel) rfl ⟨(Nat.le_of_ble_eq_true rfl), (Nat.le_of_ble_eq_true rfl)⟩ ⟨(by omega : ce + 1 + 0 ≤ 602775), (by omega : sl + 6 + 0 ≤ 7287779)⟩ (Nat.le_of_ble_eq_true rfl) dL_law_2659 (fun _ _ hx => hx.elim) (fun r2659 v2659 h => ?_)
      refine g_istore C [(7, .int r2659), (6, .int r2633), (0, .ref b), (1, .ref (L.2.1 6 0)), (2, .ref (L.2.1 7 0)), (3, .ref (L.2.1 50 0)), (4, .ref (L.2.1 51 0)), (5, .int i)] (Nat.le_of_ble_eq_true rfl) rfl dL_law_2662 ?_
      refine g_aload_n C 2 rfl 4 rfl dL_law_2664 ?_
      refine g_gcallVi C gok_7 rfl rfl [] (fun sz9 => kX7_thrown l C.2.2.2.2.2.2.1 L C.2.2.2.2.2.2.2.1 v2659 _ _ h sz9) wml_RL_157 winst_X7_thrown wsel_X7_thrown wini_RX7 wcode_X7_thrown rfl rfl (n := 0) (by decide +kernel) rfl ⟨(Nat.le_of_ble_eq_true rfl), (Nat.le_of_ble_eq_true rfl)⟩ ⟨(by omega : ce + 1 + 0 + 0 ≤ 602775), (by omega : sl + 6 + 0 + 0 ≤ 7287779)⟩ (Nat.le_of_ble_eq_true rfl) dL_law_2665 (fun _ _ hx => hx.elim) (fun r2665 v2665 h => ?_)
      refine g_iload C 1 rfl dL_law_2668 ?_
      refine g_icmp_eq C 2675 (by decide) dL_law_2670 (fun hc => ?_) (fun hc => ?_)
      · replace h := h.1 hc
        refine g_iload C 1 rfl dL_law_2675 ?_
        refine g_if_ne C 2692 (by decide) dL_law_2677 (fun hc => ?_) (fun hc => ?_)
        · replace h := h.1 hc
          refine g_goto C 2761 (by decide) dL_law_2692 ?_
          refine g_widen (ce + 60) (sl + 360) (by omega) (by omega) ?_
          refine g_sub [(0, .ref b), (1, .ref (L.2.1 6 0)), (2, .ref (L.2.1 7 0)), (3, .ref (L.2.1 50 0)), (4, .ref (L.2.1 51 0)), (5, .int i)] [2, 3, 4, 5, 6, 7] rfl ?_
          exact hK _ h
        · replace h := h.2 hc
          refine g_aload_n C 3 rfl 5 rfl dL_law_2680 ?_
          refine g_iconst C 0 (by decide) dL_law_2681 ?_
          refine g_laload C dL_law_2682 ?_
          refine g_iload C 0 rfl dL_law_2683 ?_
          refine g_i2l C dL_law_2685 ?_
          refine g_lcmp C dL_law_2686 ?_
          refine g_if_eq C 2692 (by decide) dL_law_2687 (fun hc => ?_) (fun hc => ?_)
          · replace h := h.1 hc
            refine g_goto C 2761 (by decide) dL_law_2692 ?_
            refine g_widen (ce + 60) (sl + 360) (by omega) (by omega) ?_
            refine g_sub [(0, .ref b), (1, .ref (L.2.1 6 0)), (2, .ref (L.2.1 7 0)), (3, .ref (L.2.1 50 0)), (4, .ref (L.2.1 51 0)), (5, .int i)] [2, 3, 4, 5, 6, 7] rfl ?_
            exact hK _ h
          · replace h := h.2 hc
            refine g_iconst C 0 (by decide) dL_law_2690 ?_
            exact h.elim
      · replace h := h.2 hc
        refine g_iconst C 0 (by decide) dL_law_2673 ?_
        exact h.elim
  · replace h := h.2 hc
    refine g_iconst C 1 (by decide) dL_law_2621 ?_
    refine g_goto C 2626 (by decide) dL_law_2622 ?_
    refine g_aload_n C 0 rfl 0 rfl dL_law_2626 ?_
    refine g_iload C 5 rfl dL_law_2627 ?_
    refine g_iconst C 2 (by decide) dL_law_2629 ?_
    refine g_iadd C dL_law_2630 ?_
    refine g_sld C hX hbl hbA s2 h2 e2 dL_law_2631 ?_
    refine g_aload_n C 3 rfl 3 rfl dL_law_2632 ?_
    refine g_gcallSXi C [.ref (L.2.1 6 0), .int 1, .int s2, .ref (L.2.1 50 0)] (fun sz9 => kL_foundAt l C.2.2.2.2.2.2.1 L C.2.2.2.2.2.2.2.1 1 s2 v _ _ h sz9) wml_RL_294 wstat_L_foundAt wini_RL wcw_L_foundAt rfl rfl (n := 4) (by decide +kernel) rfl ⟨(Nat.le_of_ble_eq_true rfl), (Nat.le_of_ble_eq_true rfl)⟩ ⟨(by omega : ce + 1 ≤ 602775), (by omega : sl + 6 ≤ 7287779)⟩ (Nat.le_of_ble_eq_true rfl) dL_law_2633 (fun _ _ hx => hx.elim) (fun r2633 v2633 h => ?_)
    refine g_istore C [(6, .int r2633), (0, .ref b), (1, .ref (L.2.1 6 0)), (2, .ref (L.2.1 7 0)), (3, .ref (L.2.1 50 0)), (4, .ref (L.2.1 51 0)), (5, .int i)] (Nat.le_of_ble_eq_true rfl) rfl dL_law_2636 ?_
    refine g_aload_n C 2 rfl 3 rfl dL_law_2638 ?_
    refine g_aload_n C 0 rfl 1 rfl dL_law_2639 ?_
    refine g_iload C 6 rfl dL_law_2640 ?_
    refine g_iconst C 1 (by decide) dL_law_2642 ?_
    refine g_iadd C dL_law_2643 ?_
    refine g_sld C hX hbl hbA s1 h1 e1 dL_law_2644 ?_
    refine g_if_eq C 2652 (by decide) dL_law_2645 (fun hc => ?_) (fun hc => ?_)
    · replace h := h.1 hc
      refine g_iconst C 0 (by decide) dL_law_2652 ?_
      refine g_aload_n C 0 rfl 1 rfl dL_law_2653 ?_
      refine g_iload C 6 rfl dL_law_2654 ?_
      refine g_iconst C 2 (by decide) dL_law_2656 ?_
      refine g_iadd C dL_law_2657 ?_
      refine g_sld C hX hbl hbA s2 h2 e2 dL_law_2658 ?_
      refine g_gcallVi C gok_7 rfl rfl [.int 0, .int s2] (fun sz9 => kX7_foundAt l C.2.2.2.2.2.2.1 L C.2.2.2.2.2.2.2.1 0 s2 v2633 _ _ h sz9) wml_RL_297 winst_X7_foundAt wsel_X7_foundAt wini_RX7 wcode_X7_foundAt rfl rfl (n := 2) (by decide +kernel) rfl ⟨(Nat.le_of_ble_eq_true rfl), (Nat.le_of_ble_eq_true rfl)⟩ ⟨(by omega : ce + 1 + 0 ≤ 602775), (by omega : sl + 6 + 0 ≤ 7287779)⟩ (Nat.le_of_ble_eq_true rfl) dL_law_2659 (fun _ _ hx => hx.elim) (fun r2659 v2659 h => ?_)
      refine g_istore C [(7, .int r2659), (6, .int r2633), (0, .ref b), (1, .ref (L.2.1 6 0)), (2, .ref (L.2.1 7 0)), (3, .ref (L.2.1 50 0)), (4, .ref (L.2.1 51 0)), (5, .int i)] (Nat.le_of_ble_eq_true rfl) rfl dL_law_2662 ?_
      refine g_aload_n C 2 rfl 4 rfl dL_law_2664 ?_
      refine g_gcallVi C gok_7 rfl rfl [] (fun sz9 => kX7_thrown l C.2.2.2.2.2.2.1 L C.2.2.2.2.2.2.2.1 v2659 _ _ h sz9) wml_RL_157 winst_X7_thrown wsel_X7_thrown wini_RX7 wcode_X7_thrown rfl rfl (n := 0) (by decide +kernel) rfl ⟨(Nat.le_of_ble_eq_true rfl), (Nat.le_of_ble_eq_true rfl)⟩ ⟨(by omega : ce + 1 + 0 + 0 ≤ 602775), (by omega : sl + 6 + 0 + 0 ≤ 7287779)⟩ (Nat.le_of_ble_eq_true rfl) dL_law_2665 (fun _ _ hx => hx.elim) (fun r2665 v2665 h => ?_)
      refine g_iload C 1 rfl dL_law_2668 ?_
      refine g_icmp_eq C 2675 (by decide) dL_law_2670 (fun hc => ?_) (fun hc => ?_)
      · replace h := h.1 hc
        refine g_iload C 1 rfl dL_law_2675 ?_
        refine g_if_ne C 2692 (by decide) dL_law_2677 (fun hc => ?_) (fun hc => ?_)
        · replace h := h.1 hc
          refine g_goto C 2761 (by decide) dL_law_2692 ?_
          refine g_widen (ce + 60) (sl + 360) (by omega) (by omega) ?_
          refine g_sub [(0, .ref b), (1, .ref (L.2.1 6 0)), (2, .ref (L.2.1 7 0)), (3, .ref (L.2.1 50 0)), (4, .ref (L.2.1 51 0)), (5, .int i)] [2, 3, 4, 5, 6, 7] rfl ?_
          exact hK _ h
        · replace h := h.2 hc
          refine g_aload_n C 3 rfl 5 rfl dL_law_2680 ?_
          refine g_iconst C 0 (by decide) dL_law_2681 ?_
          refine g_laload C dL_law_2682 ?_
          refine g_iload C 0 rfl dL_law_2683 ?_
          refine g_i2l C dL_law_2685 ?_
          refine g_lcmp C dL_law_2686 ?_
          refine g_if_eq C 2692 (by decide) dL_law_2687 (fun hc => ?_) (fun hc => ?_)
          · replace h := h.1 hc
            refine g_goto C 2761 (by decide) dL_law_2692 ?_
            refine g_widen (ce + 60) (sl + 360) (by omega) (by omega) ?_
            refine g_sub [(0, .ref b), (1, .ref (L.2.1 6 0)), (2, .ref (L.2.1 7 0)), (3, .ref (L.2.1 50 0)), (4, .ref (L.2.1 51 0)), (5, .int i)] [2, 3, 4, 5, 6, 7] rfl ?_
            exact hK _ h
          · replace h := h.2 hc
            refine g_iconst C 0 (by decide) dL_law_2690 ?_
            exact h.elim
      · replace h := h.2 hc
        refine g_iconst C 0 (by decide) dL_law_2673 ?_
        exact h.elim
    · replace h := h.2 hc
      refine g_iconst C 1 (by decide) dL_law_2648 ?_
      refine g_goto C 2653 (by decide) dL_law_2649 ?_
      refine g_aload_n C 0 rfl 1 rfl dL_law_2653 ?_
      refine g_iload C 6 rfl dL_law_2654 ?_
      refine g_iconst C 2 (by decide) dL_law_2656 ?_
      refine g_iadd C dL_law_2657 ?_
      refine g_sld C hX hbl hbA s2 h2 e2 dL_law_2658 ?_
      refine g_gcallVi C gok_7 rfl rfl [.int 1, .int s2] (fun sz9 => kX7_foundAt l C.2.2.2.2.2.2.1 L C.2.2.2.2.2.2.2.1 1 s2 v2633 _ _ h sz9) wml_RL_297 winst_X7_foundAt wsel_X7_foundAt wini_RX7 wcode_X7_foundAt rfl rfl (n := 2) (by decide +kernel) rfl ⟨(Nat.le_of_ble_eq_true rfl), (Nat.le_of_ble_eq_true rfl)⟩ ⟨(by omega : ce + 1 + 0 ≤ 602775), (by omega : sl + 6 + 0 ≤ 7287779)⟩ (Nat.le_of_ble_eq_true rfl) dL_law_2659 (fun _ _ hx => hx.elim) (fun r2659 v2659 h => ?_)
      refine g_istore C [(7, .int r2659), (6, .int r2633), (0, .ref b), (1, .ref (L.2.1 6 0)), (2, .ref (L.2.1 7 0)), (3, .ref (L.2.1 50 0)), (4, .ref (L.2.1 51 0)), (5, .int i)] (Nat.le_of_ble_eq_true rfl) rfl dL_law_2662 ?_
      refine g_aload_n C 2 rfl 4 rfl dL_law_2664 ?_
      refine g_gcallVi C gok_7 rfl rfl [] (fun sz9 => kX7_thrown l C.2.2.2.2.2.2.1 L C.2.2.2.2.2.2.2.1 v2659 _ _ h sz9) wml_RL_157 winst_X7_thrown wsel_X7_thrown wini_RX7 wcode_X7_thrown rfl rfl (n := 0) (by decide +kernel) rfl ⟨(Nat.le_of_ble_eq_true rfl), (Nat.le_of_ble_eq_true rfl)⟩ ⟨(by omega : ce + 1 + 0 + 0 ≤ 602775), (by omega : sl + 6 + 0 + 0 ≤ 7287779)⟩ (Nat.le_of_ble_eq_true rfl) dL_law_2665 (fun _ _ hx => hx.elim) (fun r2665 v2665 h => ?_)
      refine g_iload C 1 rfl dL_law_2668 ?_
      refine g_icmp_eq C 2675 (by decide) dL_law_2670 (fun hc => ?_) (fun hc => ?_)
      · replace h := h.1 hc
        refine g_iload C 1 rfl dL_law_2675 ?_
        refine g_if_ne C 2692 (by decide) dL_law_2677 (fun hc => ?_) (fun hc => ?_)
        · replace h := h.1 hc
          refine g_goto C 2761 (by decide) dL_law_2692 ?_
          refine g_widen (ce + 60) (sl + 360) (by omega) (by omega) ?_
          refine g_sub [(0, .ref b), (1, .ref (L.2.1 6 0)), (2, .ref (L.2.1 7 0)), (3, .ref (L.2.1 50 0)), (4, .ref (L.2.1 51 0)), (5, .int i)] [2, 3, 4, 5, 6, 7] rfl ?_
          exact hK _ h
        · replace h := h.2 hc
          refine g_aload_n C 3 rfl 5 rfl dL_law_2680 ?_
          refine g_iconst C 0 (by decide) dL_law_2681 ?_
          refine g_laload C dL_law_2682 ?_
          refine g_iload C 0 rfl dL_law_2683 ?_
          refine g_i2l C dL_law_2685 ?_
          refine g_lcmp C dL_law_2686 ?_
          refine g_if_eq C 2692 (by decide) dL_law_2687 (fun hc => ?_) (fun hc => ?_)
          · replace h := h.1 hc
            refine g_goto C 2761 (by decide) dL_law_2692 ?_
            refine g_widen (ce + 60) (sl + 360) (by omega) (by omega) ?_
            refine g_sub [(0, .ref b), (1, .ref (L.2.1 6 0)), (2, .ref (L.2.1 7 0)), (3, .ref (L.2.1 50 0)), (4, .ref (L.2.1 51 0)), (5, .int i)] [2, 3, 4, 5, 6, 7] rfl ?_
            exact hK _ h
          · replace h := h.2 hc
            refine g_iconst C 0 (by decide) dL_law_2690 ?_
            exact h.elim
      · replace h := h.2 hc
        refine g_iconst C 0 (by decide) dL_law_2673 ?_
        exact h.elim
def TC_43 (s1 s2 s3 : Int32) (v : gMem) (Q : gMem → Prop) : Prop := (TL_mergedShare v (fun r2698 v2698 => (TX7_mergedShare v2698 (fun r2704 v2704 => (TX7_thrown v2704 (fun r2710 v2710 => ((r2710 = r2698 → ((¬ r2698 = 0 → (Q v2710)) ∧ (r2698 = 0 → (vf_n64 (FP.f2d r2704) ∧ (((Op.cmpValue (FP.dcmp (FP.f2d (Int32.toUInt32 (v2710 51 0 0))) (FP.f2d r2704)) CmpOp.l) = 0 → (Q v2710)) ∧ (¬ (Op.cmpValue (FP.dcmp (FP.f2d (Int32.toUInt32 (v2710 51 0 0))) (FP.f2d r2704)) CmpOp.l) = 0 → (((Op.cmpValue (FP.dcmp (FP.f2d (Int32.toUInt32 (v2710 51 0 0))) (FP.f2d (Int32.toUInt32 (v2710 51 0 0)))) CmpOp.l) = 0 → False) ∧ (¬ (Op.cmpValue (FP.dcmp (FP.f2d (Int32.toUInt32 (v2710 51 0 0))) (FP.f2d (Int32.toUInt32 (v2710 51 0 0)))) CmpOp.l) = 0 → ((¬ (Op.cmpValue (FP.fcmp r2704 r2704) CmpOp.l) = 0 → (Q v2710)) ∧ ((Op.cmpValue (FP.fcmp r2704 r2704) CmpOp.l) = 0 → False)))))))))) ∧ (¬ r2710 = r2698 → False))) (fun _ _ => False))) (fun _ _ => False))) (fun _ _ => False))
theorem kC_43 (C : gC p l s m args meth c cL_law 8 RL L sz) {b Ln : Nat} {xs : Nat → Int32} (hX : va_X b Ln xs s s.heap) (hbl : b < s.heap.size) (hbA : ¬ gA L sz b) {i s1 s2 s3 : Int32} (h1 : vp_in (i + 1) Ln) (h2 : vp_in (i + 2) Ln) (h3 : vp_in (i + 3) Ln) (e1 : xs (i + 1).toNatClampNeg = s1) (e2 : xs (i + 2).toNatClampNeg = s2) (e3 : xs (i + 3).toNatClampNeg = s3) {ce sl : Nat} (hce : ce + 60 ≤ 602775) (hsl : sl + 360 ≤ 7287779) {Q0 : State → Prop} {Q : gMem → Prop} (hK : ∀ v, Q v → gS p l e room_1 s m args below meth c 8 L sz Q0 (ce + 60) (sl + 360) 2761 [(0, .ref b), (1, .ref (L.2.1 6 0)), (2, .ref (L.2.1 7 0)), (3, .ref (L.2.1 50 0)), (4, .ref (L.2.1 51 0)), (5, .int i)] [] v) {v : gMem} (h : TC_43 s1 s2 s3 v Q) : gS p l e room_1 s m args below meth c 8 L sz Q0 ce sl 2695 [(0, .ref b), (1, .ref (L.2.1 6 0)), (2, .ref (L.2.1 7 0)), (3, .ref (L.2.1 50 0)), (4, .ref (L.2.1 51 0)), (5, .int i)] [] v := by
  unfold TC_43 at h
  refine g_aload_n C 1 rfl 1 rfl dL_law_2695 ?_
  refine g_aload C 4 rfl dL_law_2696 ?_
  refine g_gcallSXi C [.ref (L.2.1 6 0), .ref (L.2.1 51 0)] (fun sz9 => kL_mergedShare l C.2.2.2.2.2.2.1 L C.2.2.2.2.2.2.2.1 v _ _ h sz9) wml_RL_298 wstat_L_mergedShare wini_RL wcw_L_mergedShare rfl rfl (n := 2) (by decide +kernel) rfl ⟨(Nat.le_of_ble_eq_true rfl), (Nat.le_of_ble_eq_true rfl)⟩ ⟨(by omega : ce + 1 ≤ 602775), (by omega : sl + 6 ≤ 7287779)⟩ (Nat.le_of_ble_eq_true rfl) dL_law_2698 (fun _ _ hx => hx.elim) (fun r2698 v2698 h => ?_)
  refine g_istore C [(6, .int r2698), (0, .ref b), (1, .ref (L.2.1 6 0)), (2, .ref (L.2.1 7 0)), (3, .ref (L.2.1 50 0)), (4, .ref (L.2.1 51 0)), (5, .int i)] (Nat.le_of_ble_eq_true rfl) rfl dL_law_2701 ?_
  refine g_aload_n C 2 rfl 3 rfl dL_law_2703 ?_
  refine g_gcallVf C gok_7 rfl rfl [] (fun sz9 => kX7_mergedShare l C.2.2.2.2.2.2.1 L C.2.2.2.2.2.2.2.1 v2698 _ _ h sz9) wml_RL_301 winst_X7_mergedShare wsel_X7_mergedShare wini_RX7 wcode_X7_mergedShare rfl rfl (n := 0) (by decide +kernel) rfl ⟨(Nat.le_of_ble_eq_true rfl), (Nat.le_of_ble_eq_true rfl)⟩ ⟨(by omega : ce + 1 + 0 ≤ 602775), (by omega : sl + 6 + 0 ≤ 7287779)⟩ (Nat.le_of_ble_eq_true rfl) dL_law_2704 (fun _ _ hx => hx.elim) (fun r2704 v2704 h => ?_)
  refine g_fstore C [(7, .float r2704), (6, .int r2698), (0, .ref b), (1, .ref (L.2.1 6 0)), (2, .ref (L.2.1 7 0)), (3, .ref (L.2.1 50 0)), (4, .ref (L.2.1 51 0)), (5, .int i)] (Nat.le_of_ble_eq_true rfl) rfl dL_law_2707 ?_
  refine g_aload_n C 2 rfl 4 rfl dL_law_2709 ?_
  refine g_gcallVi C gok_7 rfl rfl [] (fun sz9 => kX7_thrown l C.2.2.2.2.2.2.1 L C.2.2.2.2.2.2.2.1 v2704 _ _ h sz9) wml_RL_157 winst_X7_thrown wsel_X7_thrown wini_RX7 wcode_X7_thrown rfl rfl (n := 0) (by decide +kernel) rfl ⟨(Nat.le_of_ble_eq_true rfl), (Nat.le_of_ble_eq_true rfl)⟩ ⟨(by omega : ce + 1 + 0 + 0 ≤ 602775), (by omega : sl + 6 + 0 + 0 ≤ 7287779)⟩ (Nat.le_of_ble_eq_true rfl) dL_law_2710 (fun _ _ hx => hx.elim) (fun r2710 v2710 h => ?_)
  refine g_iload C 1 rfl dL_law_2713 ?_
  refine g_icmp_eq C 2720 (by decide) dL_law_2715 (fun hc => ?_) (fun hc => ?_)
  · replace h := h.1 hc
    refine g_iload C 1 rfl dL_law_2720 ?_
    refine g_if_ne C 2758 (by decide) dL_law_2722 (fun hc => ?_) (fun hc => ?_)
    · replace h := h.1 hc
      refine g_goto C 2761 (by decide) dL_law_2758 ?_
      refine g_widen (ce + 60) (sl + 360) (by omega) (by omega) ?_
      refine g_sub [(0, .ref b), (1, .ref (L.2.1 6 0)), (2, .ref (L.2.1 7 0)), (3, .ref (L.2.1 50 0)), (4, .ref (L.2.1 51 0)), (5, .int i)] [2, 3, 4, 5, 6, 7] rfl ?_
      exact hK _ h
    · replace h := h.2 hc
      refine g_aload C 6 rfl dL_law_2725 ?_
      refine g_iconst C 0 (by decide) dL_law_2727 ?_
      refine g_daload C dL_law_2728 ?_
      refine g_fload C 0 rfl dL_law_2729 ?_
      obtain ⟨hb2731, h⟩ := h
      refine g_f2d C hb2731 dL_law_2731 ?_
      refine g_dcmp C dL_law_2732 ?_
      refine g_if_eq C 2758 (by decide) dL_law_2733 (fun hc => ?_) (fun hc => ?_)
      · replace h := h.1 hc
        refine g_goto C 2761 (by decide) dL_law_2758 ?_
        refine g_widen (ce + 60) (sl + 360) (by omega) (by omega) ?_
        refine g_sub [(0, .ref b), (1, .ref (L.2.1 6 0)), (2, .ref (L.2.1 7 0)), (3, .ref (L.2.1 50 0)), (4, .ref (L.2.1 51 0)), (5, .int i)] [2, 3, 4, 5, 6, 7] rfl ?_
        exact hK _ h
      · replace h := h.2 hc
        refine g_aload C 6 rfl dL_law_2736 ?_
        refine g_iconst C 0 (by decide) dL_law_2738 ?_
        refine g_daload C dL_law_2739 ?_
        refine g_aload C 6 rfl dL_law_2740 ?_
        refine g_iconst C 0 (by decide) dL_law_2742 ?_
        refine g_daload C dL_law_2743 ?_
        refine g_dcmp C dL_law_2744 ?_
        refine g_if_eq C 2756 (by decide) dL_law_2745 (fun hc => ?_) (fun hc => ?_)
        · replace h := h.1 hc
          refine g_iconst C 0 (by decide) dL_law_2756 ?_
          exact h.elim
        · replace h := h.2 hc
          refine g_fload C 0 rfl dL_law_2748 ?_
          refine g_fload C 0 rfl dL_law_2750 ?_
          refine g_fcmp C dL_law_2752 ?_
          refine g_if_ne C 2758 (by decide) dL_law_2753 (fun hc => ?_) (fun hc => ?_)
          · replace h := h.1 hc
            refine g_goto C 2761 (by decide) dL_law_2758 ?_
            refine g_widen (ce + 60) (sl + 360) (by omega) (by omega) ?_
            refine g_sub [(0, .ref b), (1, .ref (L.2.1 6 0)), (2, .ref (L.2.1 7 0)), (3, .ref (L.2.1 50 0)), (4, .ref (L.2.1 51 0)), (5, .int i)] [2, 3, 4, 5, 6, 7] rfl ?_
            exact hK _ h
          · replace h := h.2 hc
            refine g_iconst C 0 (by decide) dL_law_2756 ?_
            exact h.elim
  · replace h := h.2 hc
    refine g_iconst C 0 (by decide) dL_law_2718 ?_
    exact h.elim
end
