/-! ===== The fresh objects, and every call ===== -/
theorem z_nc : nc gv0 = 0 := rfl
theorem z_nm : nm gv0 = 0 := rfl
theorem z_ns : ns gv0 = 0 := rfl
theorem z_np : np gv0 = 0 := rfl
theorem z_ty : ty gv0 = 0 := rfl
theorem z_ln (i : Nat) : ln gv0 i = 0 := by
  unfold ln
  split <;> rfl
theorem z_ed : ed gv0 = fun _ _ => false := by
  funext x y
  unfold ed
  rw [z_nm]
  exact an_0 _
theorem z_fb : fb gv0 = fun _ _ => false := rfl
theorem z_gr : gr gv0 = fun _ _ => false := rfl
theorem z_W : WF gv0 := by
  refine ⟨⟨rfl, by decide, rfl, by decide, rfl, by decide, rfl, by decide, rfl, by decide⟩, ?_, ?_, ?_, ?_, ?_, ?_, ?_, ?_, ?_, ?_, ?_⟩
  · intro i hi; rw [z_ns] at hi; omega
  · intro c hc; rw [z_nc] at hc; omega
  · intro c _; exact ⟨rfl, by show (0 : Int32).toNatClampNeg ≤ 10; decide⟩
  · intro i _ k hk; rw [z_ln] at hk; omega
  · intro c hc; rw [z_nc] at hc; omega
  · intro f hf
    rcases (show f = 0 ∨ f = 1 ∨ f = 2 ∨ f = 3 by omega) with r | r | r | r <;> subst r <;> decide
  · intro m hm; rw [z_nm] at hm; omega
  · intro m l _ hl; rw [z_nm] at hl; omega
  · intro c d _ _
    exact ⟨rfl, rfl, fun q => by rw [z_fb] at q; cases q⟩
  · intro g c _ _
    exact ⟨rfl, fun q => by rw [z_gr] at q; cases q⟩
  · rw [z_fb, z_np]; decide
theorem z_R : RC gv0 gv0 := by
  refine ⟨⟨rfl, rfl, rfl, rfl, rfl, rfl⟩, ?_, ?_, ?_, ?_, ?_, ?_, ?_, ?_⟩
  · intro i _; exact ⟨rfl, rfl, rfl⟩
  · intro c _; exact ⟨rfl, rfl⟩
  · intro c _ f h1 h4
    rw [z_nc, if_neg (by omega)]
    rcases (show f = 1 ∨ f = 2 ∨ f = 3 by omega) with r | r | r <;> subst r <;> rfl
  · intro i _ k _; rfl
  · intro i _
    rw [z_ln]
    exact ⟨rfl, fun k hk => absurd hk (by unfold sn; omega)⟩
  · intro m _; exact ⟨rfl, rfl, rfl⟩
  · intro c _
    rw [z_ed, z_fb, st_none]
    exact ⟨rfl, rfl⟩
  · intro g _
    rw [z_gr, st_none]
    rfl
theorem inv0 : Inv gv0 := ⟨gv0, z_R, ⟨fun _ _ _ => rfl, fun _ _ _ => rfl⟩, z_W⟩
theorem law_step : LawStep Inv := ⟨t0, t1, t2, t3, t4, t5, t6, t7, t8, t9, t10, t11, t12, t13, t14, t15, t16, t17, t18, t19, t20, t21, t22, t23, t24, t25, t26, t27, t28, t29, t30, t31, t32, t33, t34, t35, t36, t37, t38, t39, t40, t41, t42, t43⟩
