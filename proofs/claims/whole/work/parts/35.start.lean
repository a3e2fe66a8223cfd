def gadr (q0 q8 q17 q21 : Nat) (a am : Nat → Nat) : Nat → Nat → Nat := fun k i => match k with
  | 0 => (a 17)
  | 1 => (a 18)
  | 2 => (a (100 + 10 * i))
  | 3 => (a 6)
  | 4 => if i = 16 then (a 14) else (a (101 + 10 * i + 0))
  | 5 => if i = 0 then (a 4) else (a 10)
  | 6 => q0
  | 7 => q8
  | 10 => (a 0)
  | 11 => (a 1)
  | 12 => (a 2)
  | 13 => (a 3)
  | 14 => (a 13)
  | 15 => (a 21)
  | 16 => if i = 0 then (a 5) else (a 11)
  | 17 => (a 7)
  | 18 => (a 8)
  | 19 => (a 9)
  | 20 => (a 12)
  | 21 => if i = 16 then (a 15) else (a (101 + 10 * i + 1))
  | 22 => if i = 16 then (a 16) else (a (101 + 10 * i + 2))
  | 23 => (a (101 + 10 * i + 3))
  | 24 => (a 19)
  | 25 => (a 20)
  | 30 => (am 0)
  | 31 => (am 1)
  | 32 => (am 2)
  | 33 => (am 3)
  | 34 => (am 4)
  | 35 => (am 5)
  | 36 => (am 6)
  | 37 => (am 7)
  | 38 => (am 8)
  | 39 => (am 9)
  | 40 => if i = 0 then (am 10) else (am 11)
  | 42 => (am 12)
  | 43 => (am 13)
  | 44 => (am 14)
  | 45 => (am 15)
  | 50 => q17
  | 51 => q21
  | _ => 0
def gv0 : gMem := fun k i => match k with
  | 0 => fun j => if j = 0 then (-1) else if j = 1 then (-1) else 0
  | 6 => fun j => if j = 6 then 5 else 0
  | 7 => fun j => if j = 5 then 5 else 0
  | 12 => (upd (upd (upd (upd (fun _ => 0) 0 4) 1 5) 2 6) 3 1)
  | 13 => (upd (upd (upd (upd (fun _ => 0) 0 (-2)) 1 (-3)) 2 (-1)) 3 (-1))
  | 23 => (upd (upd (upd (upd (fun _ => 0) 0 (-1)) 1 (-1)) 2 (-1)) 3 (-1))
  | 34 => (upd (upd (upd (upd (fun _ => 0) 0 4) 1 5) 2 6) 3 1)
  | 35 => (upd (upd (upd (upd (fun _ => 0) 0 (-2)) 1 (-3)) 2 (-1)) 3 (-1))
  | _ => fun _ => 0
def gWL (cA : Nat → ClassId) (q0 q8 q17 q21 : Nat) (a am : Nat → Nat) : va_W := ((([(q0, .inr (6, [.ref (a 0), .int 0, .ref (a 1), .int 0, .ref (a 2), .ref (a 3), .int 5, .ref (a 4), .int 0, .ref (a 6), .ref (a 13), .ref (a 14), .ref (a 17), .ref (a 18), .ref (a 21)])), ((a 0), .inl (cA 1, 4, .inl (fun _ => 0))), ((a 1), .inl (cA 3, 16, .inr (.inr (.inr (.inr (fun j => some (a (100 + 10 * j)))))))), ((a 2), .inl (cA 1, 4, .inl (upd (upd (upd (upd (fun _ => 0) 0 4) 1 5) 2 6) 3 1))), ((a 3), .inl (cA 1, 4, .inl (upd (upd (upd (upd (fun _ => 0) 0 (-2)) 1 (-3)) 2 (-1)) 3 (-1)))), ((a 4), .inr (5, [.ref (a 5)])), ((a 5), .inl (cA 1, 16, .inl (fun _ => 0))), ((a 6), .inr (3, [.ref (a 7), .ref (a 8), .ref (a 9), .int 0, .ref (a 10), .ref (a 12)])), ((a 7), .inl (cA 1, 30, .inl (fun _ => 0))), ((a 8), .inl (cA 1, 30, .inl (fun _ => 0))), ((a 9), .inl (cA 2, 30, .inl (fun _ => 0))), ((a 10), .inr (5, [.ref (a 11)])), ((a 11), .inl (cA 1, 16, .inl (fun _ => 0))), ((a 12), .inl (cA 1, 16, .inl (fun _ => 0))), ((a 13), .inl (cA 1, 4, .inl (fun _ => 0))), ((a 14), .inr (4, [.ref (a 15), .int 0, .ref (a 16), .int 0])), ((a 15), .inl (cA 0, 10, .inl (fun _ => 0))), ((a 16), .inl (cA 0, 4, .inl (fun _ => 0))), ((a 17), .inr (0, [.int (-1), .int (-1), .int 0])), ((a 18), .inr (1, [.ref (a 19), .ref (a 20), .int 0])), ((a 19), .inl (cA 1, 16, .inl (fun _ => 0))), ((a 20), .inl (cA 1, 16, .inl (fun _ => 0))), ((a 21), .inl (cA 1, 16, .inl (fun _ => 0)))] ++ (List.range 16).flatMap (fun i => wCd cA (a (100 + 10 * i)) (fun j => a (101 + 10 * i + j)))) ++ [(q8, .inr (7, [.int 0, .int 0, .int 0, .int 0, .int 0, .int 5, .int 0, .int 0, .int 0, .ref (am 0), .ref (am 1), .ref (am 2), .ref (am 3), .ref (am 4), .ref (am 5), .ref (am 6), .ref (am 7), .ref (am 8), .ref (am 9), .ref (am 10), .ref (am 11), .ref (am 12), .ref (am 13), .ref (am 14), .ref (am 15)])), ((am 0), .inl (cA 1, 4, .inl (fun _ => 0))), ((am 1), .inl (cA 1, 16, .inl (fun _ => 0))), ((am 2), .inl (cA 1, 16, .inl (fun _ => 0))), ((am 3), .inl (cA 1, 64, .inl (fun _ => 0))), ((am 4), .inl (cA 1, 4, .inl (upd (upd (upd (upd (fun _ => 0) 0 4) 1 5) 2 6) 3 1))), ((am 5), .inl (cA 1, 4, .inl (upd (upd (upd (upd (fun _ => 0) 0 (-2)) 1 (-3)) 2 (-1)) 3 (-1)))), ((am 6), .inl (cA 1, 30, .inl (fun _ => 0))), ((am 7), .inl (cA 1, 30, .inl (fun _ => 0))), ((am 8), .inl (cA 1, 16, .inl (fun _ => 0))), ((am 9), .inl (cA 1, 16, .inl (fun _ => 0))), ((am 10), .inl (cA 1, 4, .inl (fun _ => 0))), ((am 11), .inl (cA 1, 4, .inl (fun _ => 0))), ((am 12), .inl (cA 0, 176, .inl (fun _ => 0))), ((am 13), .inl (cA 2, 30, .inl (fun _ => 0))), ((am 14), .inl (cA 2, 256, .inl (fun _ => 0))), ((am 15), .inl (cA 2, 64, .inl (fun _ => 0)))]) ++ [(q17, .inl (cA 4, 1, .inr (.inl (fun _ => (0 : Int32).toInt64))))]) ++ [(q21, .inl (cA 5, 1, .inr (.inr (.inr (.inl (fun _ => FP.f2d (0 : Int32).toUInt32))))))]
def gpl : List Nat := [18, 19, 7, 5, 11, 0, 103, 1, 2, 3, 4, 14, 22, 6, 12, 8, 9, 10, 13, 20, 21, 104, 105, 106, 107, 108, 109, 110, 111, 112, 113, 114, 115, 116, 117, 118, 119, 120, 121, 23, 28, 33, 38, 43, 48, 53, 58, 63, 68, 73, 78, 83, 88, 93, 98, 24, 29, 34, 39, 44, 49, 54, 59, 64, 69, 74, 79, 84, 89, 94, 99, 15, 25, 30, 35, 40, 45, 50, 55, 60, 65, 70, 75, 80, 85, 90, 95, 100, 16, 26, 31, 36, 41, 46, 51, 56, 61, 66, 71, 76, 81, 86, 91, 96, 101, 17, 27, 32, 37, 42, 47, 52, 57, 62, 67, 72, 77, 82, 87, 92, 97, 102]
set_option maxRecDepth 100000 in
set_option maxHeartbeats 4000000 in
theorem gWL_all (D : va_G) (cA : Nat → ClassId) (q0 q8 q17 q21 : Nat) (a am : Nat → Nat) : gpl.map (fun i => (gWL cA q0 q8 q17 q21 a am)[i]?) = (gW (D, gadr q0 q8 q17 q21 a am, cA) gv0).map some := by rfl
theorem gpl_nd : va_nd gpl = true := by decide +kernel
theorem fm_of_map {ws ws' : va_W} {is : List Nat} (h : is.map (fun i => ws[i]?) = ws'.map some) : is.filterMap (fun i => ws[i]?) = ws' := by
  have h1 : ∀ (is : List Nat) (ws' : va_W), is.map (fun i => ws[i]?) = ws'.map some → is.filterMap (fun i => ws[i]?) = ws' := by
    intro is
    induction is with
    | nil => intro ws' h; cases ws' with
      | nil => rfl
      | cons x r => cases h
    | cons i r ih => intro ws' h; cases ws' with
      | nil => cases h
      | cons x t =>
        rw [List.map_cons, List.map_cons] at h
        injection h with e1 e2
        rw [List.filterMap_cons, e1]
        exact congrArg (fun l => x :: l) (ih t e2)
  exact h1 is ws' h
