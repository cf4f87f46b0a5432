/-! THE TWO CONSTRUCTORS, whole (by program) -/
set_option maxRecDepth 100000 in
theorem gq0 (I : Nat → Nat → Int32) (J : Nat → Nat → Int64) (R : Nat → Nat → Nat) : fX11_init [.ref 0] (1, shX, I, J, R) = callK (fX10_init [.ref 1] (2, (up1 shX 1 (20, 0)), (zrI I 1), (zrJ J 1), (zrR R 1))) (fun r h' => run mX11_init (12, 2, 122, [.ref 0, .null], r.toList ++ [.ref 1, .ref 0], h')) := (mth_eq (M := mX11_init) (n := 2) rfl).trans ((exK_eq mX11_init [12] 60 _).symm.trans rfl)
set_option maxRecDepth 100000 in
theorem gq1 (I : Nat → Nat → Int32) (J : Nat → Nat → Int64) (R : Nat → Nat → Nat) : run mX11_init (12, 2, 122, [.ref 0, .null], [.ref 1, .ref 0], (3, shX, I, J, R)) = callK (fX5_init [.ref 3] (4, (up1 shX 3 (15, 0)), (zrI I 3), (zrJ J 3), (zrR (up2 R 0 0 1) 3))) (fun r h' => run mX11_init (23, 3, 125, [.ref 0, .null], r.toList ++ [.ref 3, .ref 0], h')) := (exK_eq mX11_init [23] 60 _).symm.trans rfl
set_option maxRecDepth 100000 in
theorem gq2 (I : Nat → Nat → Int32) (J : Nat → Nat → Int64) (R : Nat → Nat → Nat) : run mX11_init (23, 3, 125, [.ref 0, .null], [.ref 3, .ref 0], (4, shX, I, J, R)) = callK (fX6_init [.ref 4] (5, (up1 shX 4 (16, 0)), (zrI I 4), (zrJ J 4), (zrR (up2 R 0 1 3) 4))) (fun r h' => run mX11_init (34, 6, 147, [.ref 0, .null], r.toList ++ [.ref 4, .ref 0], h')) := (exK_eq mX11_init [34] 60 _).symm.trans rfl
set_option maxRecDepth 100000 in
theorem gq3 (I : Nat → Nat → Int32) (J : Nat → Nat → Int64) (R : Nat → Nat → Nat) : run mX11_init (34, 6, 147, [.ref 0, .null], [.ref 4, .ref 0], (7, shX, I, J, R)) = callK (fX6_init [.ref 7] (8, (up1 shX 7 (16, 0)), (zrI I 7), (zrJ J 7), (zrR (up2 R 0 2 4) 7))) (fun r h' => run mX11_init (45, 9, 169, [.ref 0, .null], r.toList ++ [.ref 7, .ref 0], h')) := (exK_eq mX11_init [45] 60 _).symm.trans rfl
set_option maxRecDepth 100000 in
theorem gq4 (I : Nat → Nat → Int32) (J : Nat → Nat → Int64) (R : Nat → Nat → Nat) : run mX11_init (45, 9, 169, [.ref 0, .null], [.ref 7, .ref 0], (10, shX, I, J, R)) = callK (fX8_init [.ref 10] (11, (up1 shX 10 (18, 0)), (zrI I 10), (zrJ J 10), (zrR (up2 R 0 3 7) 10))) (fun r h' => run mX11_init (56, 12, 273, [.ref 0, .null], r.toList ++ [.ref 10, .ref 0], h')) := (exK_eq mX11_init [56] 60 _).symm.trans rfl
set_option maxRecDepth 100000 in
theorem gq5 (I : Nat → Nat → Int32) (J : Nat → Nat → Int64) (R : Nat → Nat → Nat) : run mX11_init (56, 12, 273, [.ref 0, .null], [.ref 10, .ref 0], (13, shX, I, J, R)) = callK (fX3_init [.ref 13] (14, (up1 shX 13 (13, 0)), (zrI I 13), (zrJ J 13), (zrR (up2 R 0 4 10) 13))) (fun r h' => run mX11_init (67, 14, 303, [.ref 0, .null], r.toList ++ [.ref 13, .ref 0], h')) := (exK_eq mX11_init [67] 60 _).symm.trans rfl
set_option maxRecDepth 100000 in
theorem gq6 (I : Nat → Nat → Int32) (J : Nat → Nat → Int64) (R : Nat → Nat → Nat) : run mX11_init (67, 14, 303, [.ref 0, .null], [.ref 13, .ref 0], (15, shX, I, J, R)) = callK (fX9_init [.ref 15] (16, (up1 shX 15 (19, 0)), (zrI I 15), (zrJ J 15), (zrR (up2 R 0 5 13) 15))) (fun r h' => run mX11_init (78, 16, 314, [.ref 0, .null], r.toList ++ [.ref 15, .ref 0], h')) := (exK_eq mX11_init [78] 60 _).symm.trans rfl
set_option maxRecDepth 100000 in
theorem gq7 (I : Nat → Nat → Int32) (J : Nat → Nat → Int64) (R : Nat → Nat → Nat) : run mX11_init (78, 16, 314, [.ref 0, .null], [.ref 15, .ref 0], (17, shX, I, J, R)) = callK (fX1_init [.ref 17] (18, (up1 shX 17 (11, 0)), (zrI I 17), (zrJ J 17), (zrR (up2 R 0 6 15) 17))) (fun r h' => run mX11_init (89, 58, 557, [.ref 0, .null], r.toList ++ [.ref 17, .ref 0], h')) := (exK_eq mX11_init [89] 60 _).symm.trans rfl
set_option maxRecDepth 100000 in
theorem gq8 (I : Nat → Nat → Int32) (J : Nat → Nat → Int64) (R : Nat → Nat → Nat) : run mX11_init (89, 58, 557, [.ref 0, .null], [.ref 17, .ref 0], (59, shX, I, J, R)) = callK (fX2_init [.ref 60] (61, (up1 (up1 shX 59 (3, 2)) 60 (12, 0)), (zrI (zrI I 59) 60), (zrJ (zrJ J 59) 60), (zrR (up2 (zrR (up2 R 0 7 17) 59) 0 8 59) 60))) (fun r h' => run mX11_init (123, 62, 573, [.ref 0, .int (nI 0)], r.toList ++ [.ref 60, .int (nI 0), .ref 59], h')) := (exK_eq mX11_init [123] 60 _).symm.trans rfl
set_option maxRecDepth 100000 in
theorem gq9 (I : Nat → Nat → Int32) (J : Nat → Nat → Int64) (R : Nat → Nat → Nat) : run mX11_init (123, 62, 573, [.ref 0, .int (nI 0)], [.ref 60, .int (nI 0), .ref 59], (63, shX, I, J, up2 R 0 8 59)) = callK (fX2_init [.ref 63] (64, (up1 shX 63 (12, 0)), (zrI I 63), (zrJ J 63), (zrR (up2 (up2 R 0 8 59) 59 0 60) 63))) (fun r h' => run mX11_init (123, 65, 587, [.ref 0, .int (nI 1)], r.toList ++ [.ref 63, .int (nI 1), .ref 59], h')) := (exK_eq mX11_init [123] 60 _).symm.trans rfl
set_option maxRecDepth 100000 in
theorem gq10 (I : Nat → Nat → Int32) (J : Nat → Nat → Int64) (R : Nat → Nat → Nat) : run mX11_init (123, 65, 587, [.ref 0, .int (nI 1)], [.ref 63, .int (nI 1), .ref 59], (66, shX, I, J, up2 R 0 8 59)) = callK (fX0_init [.ref 66] (67, (up1 shX 66 (10, 0)), (zrI I 66), (zrJ J 66), (zrR (up2 (up2 R 0 8 59) 59 1 63) 66))) (fun r h' => run mX11_init (138, 67, 610, [.ref 0, .int (nI 2)], r.toList ++ [.ref 66, .ref 0], h')) := (exK_eq mX11_init [138] 60 _).symm.trans rfl
set_option maxRecDepth 100000 in
theorem gq11 (I : Nat → Nat → Int32) (J : Nat → Nat → Int64) (R : Nat → Nat → Nat) : run mX11_init (138, 67, 610, [.ref 0, .int (nI 2)], [.ref 66, .ref 0], (68, shX, I, J, R)) = callK (fX4_init [.ref 68] (69, (up1 shX 68 (14, 0)), (zrI I 68), (zrJ J 68), (zrR (up2 R 0 9 66) 68))) (fun r h' => run mX11_init (149, 73, 2681, [.ref 0, .null], r.toList ++ [.ref 68, .ref 0], h')) := (exK_eq mX11_init [149] 60 _).symm.trans rfl
set_option maxRecDepth 100000 in
theorem gq12 (I : Nat → Nat → Int32) (J : Nat → Nat → Int64) (R : Nat → Nat → Nat) : run mX11_init (149, 73, 2681, [.ref 0, .null], [.ref 68, .ref 0], (74, shX, I, J, R)) = callK (fX7_init [.ref 74] (75, (up1 shX 74 (17, 0)), (zrI I 74), (zrJ J 74), (zrR (up2 R 0 10 68) 74))) (fun r h' => run mX11_init (160, 75, 2939, [.ref 0, .null], r.toList ++ [.ref 74, .ref 0], h')) := (exK_eq mX11_init [160] 60 _).symm.trans rfl
set_option maxRecDepth 100000 in
theorem gq13 (I : Nat → Nat → Int32) (J : Nat → Nat → Int64) (R : Nat → Nat → Nat) : run mX11_init (160, 75, 2939, [.ref 0, .null], [.ref 74, .ref 0], (76, shX, I, J, R)) = callK (fX7_init [.ref 76] (77, (up1 shX 76 (17, 0)), (zrI I 76), (zrJ J 76), (zrR (up2 R 0 11 74) 76))) (fun r h' => run mX11_init (171, 77, 3197, [.ref 0, .null], r.toList ++ [.ref 76, .ref 0], h')) := (exK_eq mX11_init [171] 60 _).symm.trans rfl
set_option maxRecDepth 100000 in
theorem gq14 (I : Nat → Nat → Int32) (J : Nat → Nat → Int64) (R : Nat → Nat → Nat) : run mX11_init (171, 77, 3197, [.ref 0, .null], [.ref 76, .ref 0], (78, shX, I, J, R)) = some (none, (78, shX, (up2 (up2 (up2 (up2 (up2 (up2 I 0 13 (nI 0)) 0 14 (nI 0)) 0 15 (nI 0)) 0 16 (nI 0)) 0 17 (nI 0)) 0 18 (Int32.ofInt (-1))), J, (up2 R 0 12 76))) := (exK_eq mX11_init [] 60 _).symm.trans rfl
def xI1 (I : Nat → Nat → Int32) : Nat → Nat → Int32 := (up2 (zrI (zrI I 1) 2) 1 1 (nI 0))
def xJ1 (J : Nat → Nat → Int64) : Nat → Nat → Int64 := (zrJ (zrJ J 1) 2)
def xR1 (R : Nat → Nat → Nat) : Nat → Nat → Nat := (up2 (zrR (zrR R 1) 2) 1 0 2)
def xI2 (I : Nat → Nat → Int32) : Nat → Nat → Int32 := (up2 (up2 (up2 (zrI (xI1 I) 3) 3 0 (Int32.ofInt (-1))) 3 1 (nI 0)) 3 2 (nI 0))
def xJ2 (J : Nat → Nat → Int64) : Nat → Nat → Int64 := (zrJ (xJ1 J) 3)
def xR2 (R : Nat → Nat → Nat) : Nat → Nat → Nat := (zrR (up2 (xR1 R) 0 0 1) 3)
def xI3 (I : Nat → Nat → Int32) : Nat → Nat → Int32 := (up2 (up2 (up2 (up2 (zrI (zrI (zrI (xI2 I) 4) 5) 6) 4 2 (nI 0)) 4 3 (nI 0)) 4 4 (nI 0)) 4 5 (nI 0))
def xJ3 (J : Nat → Nat → Int64) : Nat → Nat → Int64 := (zrJ (zrJ (zrJ (xJ2 J) 4) 5) 6)
def xR3 (R : Nat → Nat → Nat) : Nat → Nat → Nat := (up2 (zrR (up2 (zrR (zrR (up2 (xR2 R) 0 1 3) 4) 5) 4 0 5) 6) 4 1 6)
def xI4 (I : Nat → Nat → Int32) : Nat → Nat → Int32 := (up2 (up2 (up2 (up2 (zrI (zrI (zrI (xI3 I) 7) 8) 9) 7 2 (nI 0)) 7 3 (nI 0)) 7 4 (nI 0)) 7 5 (nI 0))
def xJ4 (J : Nat → Nat → Int64) : Nat → Nat → Int64 := (zrJ (zrJ (zrJ (xJ3 J) 7) 8) 9)
def xR4 (R : Nat → Nat → Nat) : Nat → Nat → Nat := (up2 (zrR (up2 (zrR (zrR (up2 (xR3 R) 0 2 4) 7) 8) 7 0 8) 9) 7 1 9)
def xI5 (I : Nat → Nat → Int32) : Nat → Nat → Int32 := (up2 (up2 (zrI (zrI (zrI (xI4 I) 10) 11) 12) 10 2 (nI 0)) 10 3 (nI 0))
def xJ5 (J : Nat → Nat → Int64) : Nat → Nat → Int64 := (zrJ (zrJ (zrJ (xJ4 J) 10) 11) 12)
def xR5 (R : Nat → Nat → Nat) : Nat → Nat → Nat := (up2 (zrR (up2 (zrR (zrR (up2 (xR4 R) 0 3 7) 10) 11) 10 0 11) 12) 10 1 12)
def xI6 (I : Nat → Nat → Int32) : Nat → Nat → Int32 := (up2 (zrI (zrI (xI5 I) 13) 14) 13 1 (nI 0))
def xJ6 (J : Nat → Nat → Int64) : Nat → Nat → Int64 := (zrJ (zrJ (xJ5 J) 13) 14)
def xR6 (R : Nat → Nat → Nat) : Nat → Nat → Nat := (up2 (zrR (zrR (up2 (xR5 R) 0 4 10) 13) 14) 13 0 14)
def xI7 (I : Nat → Nat → Int32) : Nat → Nat → Int32 := (stI (zrI (xI6 I) 15) 15)
def xJ7 (J : Nat → Nat → Int64) : Nat → Nat → Int64 := (zrJ (zrJ (xJ6 J) 15) 16)
def xR7 (R : Nat → Nat → Nat) : Nat → Nat → Nat := (stR (zrR (up2 (xR6 R) 0 5 13) 15) 15)
def xI8 (I : Nat → Nat → Int32) : Nat → Nat → Int32 := (up2 (up2 (hsI (zrI (zrI (xI7 I) 17) 18) 20) 17 1 (nI 0)) 17 2 (nI 0))
def xJ8 (J : Nat → Nat → Int64) : Nat → Nat → Int64 := (hsJ (zrJ (zrJ (xJ7 J) 17) 18) 20)
def xR8 (R : Nat → Nat → Nat) : Nat → Nat → Nat := (hsR (up2 (zrR (zrR (up2 (xR7 R) 0 6 15) 17) 18) 17 0 18) 20)
def xI9 (I : Nat → Nat → Int32) : Nat → Nat → Int32 := (up2 (up2 (stI (zrI (zrI (zrI (xI8 I) 59) 60) 61) 61) 60 1 (nI 0)) 60 2 (nI 0))
def xJ9 (J : Nat → Nat → Int64) : Nat → Nat → Int64 := (zrJ (zrJ (zrJ (zrJ (xJ8 J) 59) 60) 61) 62)
def xR9 (R : Nat → Nat → Nat) : Nat → Nat → Nat := (up2 (stR (zrR (zrR (up2 (zrR (up2 (xR8 R) 0 7 17) 59) 0 8 59) 60) 61) 61) 60 0 61)
def xI10 (I : Nat → Nat → Int32) : Nat → Nat → Int32 := (up2 (up2 (stI (zrI (zrI (xI9 I) 63) 64) 64) 63 1 (nI 0)) 63 2 (nI 0))
def xJ10 (J : Nat → Nat → Int64) : Nat → Nat → Int64 := (zrJ (zrJ (zrJ (xJ9 J) 63) 64) 65)
def xR10 (R : Nat → Nat → Nat) : Nat → Nat → Nat := (up2 (stR (zrR (zrR (up2 (up2 (xR9 R) 0 8 59) 59 0 60) 63) 64) 64) 63 0 64)
def xI11 (I : Nat → Nat → Int32) : Nat → Nat → Int32 := (up2 (up2 (zrI (zrI (xI10 I) 66) 67) 66 1 (nI 0)) 66 2 (nI 0))
def xJ11 (J : Nat → Nat → Int64) : Nat → Nat → Int64 := (zrJ (zrJ (xJ10 J) 66) 67)
def xR11 (R : Nat → Nat → Nat) : Nat → Nat → Nat := (up2 (zrR (zrR (up2 (up2 (xR10 R) 0 8 59) 59 1 63) 66) 67) 66 0 67)
def xI12 (I : Nat → Nat → Int32) : Nat → Nat → Int32 := (up2 (up2 (zrI (zrI (zrI (zrI (zrI (zrI (xI11 I) 68) 69) 70) 71) 72) 73) 68 5 (nI 0)) 68 6 (nI 0))
def xJ12 (J : Nat → Nat → Int64) : Nat → Nat → Int64 := (zrJ (zrJ (zrJ (zrJ (zrJ (zrJ (xJ11 J) 68) 69) 70) 71) 72) 73)
def xR12 (R : Nat → Nat → Nat) : Nat → Nat → Nat := (up2 (zrR (up2 (zrR (up2 (zrR (up2 (zrR (up2 (zrR (zrR (up2 (xR11 R) 0 9 66) 68) 69) 68 0 69) 70) 68 1 70) 71) 68 2 71) 72) 68 3 72) 73) 68 4 73)
def xI13 (I : Nat → Nat → Int32) : Nat → Nat → Int32 := (up2 (zrI (zrI (xI12 I) 74) 75) 74 1 (nI 0))
def xJ13 (J : Nat → Nat → Int64) : Nat → Nat → Int64 := (zrJ (zrJ (xJ12 J) 74) 75)
def xR13 (R : Nat → Nat → Nat) : Nat → Nat → Nat := (up2 (zrR (zrR (up2 (xR12 R) 0 10 68) 74) 75) 74 0 75)
def xI14 (I : Nat → Nat → Int32) : Nat → Nat → Int32 := (up2 (zrI (zrI (xI13 I) 76) 77) 76 1 (nI 0))
def xJ14 (J : Nat → Nat → Int64) : Nat → Nat → Int64 := (zrJ (zrJ (xJ13 J) 76) 77)
def xR14 (R : Nat → Nat → Nat) : Nat → Nat → Nat := (up2 (zrR (zrR (up2 (xR13 R) 0 11 74) 76) 77) 76 0 77)
def xIf (I : Nat → Nat → Int32) : Nat → Nat → Int32 := (up2 (up2 (up2 (up2 (up2 (up2 (xI14 I) 0 13 (nI 0)) 0 14 (nI 0)) 0 15 (nI 0)) 0 16 (nI 0)) 0 17 (nI 0)) 0 18 (Int32.ofInt (-1)))
def xJf (J : Nat → Nat → Int64) : Nat → Nat → Int64 := (xJ14 J)
def xRf (R : Nat → Nat → Nat) : Nat → Nat → Nat := (up2 (xR14 R) 0 12 76)
set_option maxRecDepth 100000 in
set_option maxHeartbeats 4000000 in
theorem jX11 (I : Nat → Nat → Int32) (J : Nat → Nat → Int64) (R : Nat → Nat → Nat) : fX11_init [.ref 0] (1, shX, I, J, R) = some (none, (78, shX, xIf I, xJf J, xRf R)) := by
  refine (gq0 I J R).trans ?_
  rw [upsh (n := 1) (v := (20, 0)) rfl]
  refine (congrArg (fun x => callK x _) (jX10_init_1 _ _ _)).trans ?_
  show run mX11_init (12, 2, 122, [.ref 0, .null], [.ref 1, .ref 0], (3, shX, xI1 I, xJ1 J, xR1 R)) = _
  refine (gq1 (xI1 I) (xJ1 J) (xR1 R)).trans ?_
  rw [upsh (n := 3) (v := (15, 0)) rfl]
  refine (congrArg (fun x => callK x _) (jX5_init_3 _ _ _)).trans ?_
  show run mX11_init (23, 3, 125, [.ref 0, .null], [.ref 3, .ref 0], (4, shX, xI2 I, xJ2 J, xR2 R)) = _
  refine (gq2 (xI2 I) (xJ2 J) (xR2 R)).trans ?_
  rw [upsh (n := 4) (v := (16, 0)) rfl]
  refine (congrArg (fun x => callK x _) (jX6_init_4 _ _ _)).trans ?_
  show run mX11_init (34, 6, 147, [.ref 0, .null], [.ref 4, .ref 0], (7, shX, xI3 I, xJ3 J, xR3 R)) = _
  refine (gq3 (xI3 I) (xJ3 J) (xR3 R)).trans ?_
  rw [upsh (n := 7) (v := (16, 0)) rfl]
  refine (congrArg (fun x => callK x _) (jX6_init_7 _ _ _)).trans ?_
  show run mX11_init (45, 9, 169, [.ref 0, .null], [.ref 7, .ref 0], (10, shX, xI4 I, xJ4 J, xR4 R)) = _
  refine (gq4 (xI4 I) (xJ4 J) (xR4 R)).trans ?_
  rw [upsh (n := 10) (v := (18, 0)) rfl]
  refine (congrArg (fun x => callK x _) (jX8_init_10 _ _ _)).trans ?_
  show run mX11_init (56, 12, 273, [.ref 0, .null], [.ref 10, .ref 0], (13, shX, xI5 I, xJ5 J, xR5 R)) = _
  refine (gq5 (xI5 I) (xJ5 J) (xR5 R)).trans ?_
  rw [upsh (n := 13) (v := (13, 0)) rfl]
  refine (congrArg (fun x => callK x _) (jX3_init_13 _ _ _)).trans ?_
  show run mX11_init (67, 14, 303, [.ref 0, .null], [.ref 13, .ref 0], (15, shX, xI6 I, xJ6 J, xR6 R)) = _
  refine (gq6 (xI6 I) (xJ6 J) (xR6 R)).trans ?_
  rw [upsh (n := 15) (v := (19, 0)) rfl]
  refine (congrArg (fun x => callK x _) (ji (P := 15) (by decide) _ _ _)).trans ?_
  show run mX11_init (78, 16, 314, [.ref 0, .null], [.ref 15, .ref 0], (17, shX, xI7 I, xJ7 J, xR7 R)) = _
  refine (gq7 (xI7 I) (xJ7 J) (xR7 R)).trans ?_
  rw [upsh (n := 17) (v := (11, 0)) rfl]
  refine (congrArg (fun x => callK x _) (jX1 _ _ _)).trans ?_
  show run mX11_init (89, 58, 557, [.ref 0, .null], [.ref 17, .ref 0], (59, shX, xI8 I, xJ8 J, xR8 R)) = _
  refine (gq8 (xI8 I) (xJ8 J) (xR8 R)).trans ?_
  rw [upsh (n := 59) (v := (3, 2)) rfl, upsh (n := 60) (v := (12, 0)) rfl]
  refine (congrArg (fun x => callK x _) (jX2_60 _ _ _)).trans ?_
  show run mX11_init (123, 62, 573, [.ref 0, .int (nI 0)], [.ref 60, .int (nI 0), .ref 59], (63, shX, xI9 I, xJ9 J, xR9 R)) = _
  refine (congrArg (fun x => run mX11_init (123, 62, 573, [.ref 0, .int (nI 0)], [.ref 60, .int (nI 0), .ref 59], (63, shX, (xI9 I), (xJ9 J), x))) (up2_same (show (xR9 R) 0 8 = 59 from rfl)).symm).trans ?_
  refine (gq9 (xI9 I) (xJ9 J) (xR9 R)).trans ?_
  rw [upsh (n := 63) (v := (12, 0)) rfl]
  refine (congrArg (fun x => callK x _) (jX2_63 _ _ _)).trans ?_
  show run mX11_init (123, 65, 587, [.ref 0, .int (nI 1)], [.ref 63, .int (nI 1), .ref 59], (66, shX, xI10 I, xJ10 J, xR10 R)) = _
  refine (congrArg (fun x => run mX11_init (123, 65, 587, [.ref 0, .int (nI 1)], [.ref 63, .int (nI 1), .ref 59], (66, shX, (xI10 I), (xJ10 J), x))) (up2_same (show (xR10 R) 0 8 = 59 from rfl)).symm).trans ?_
  refine (gq10 (xI10 I) (xJ10 J) (xR10 R)).trans ?_
  rw [upsh (n := 66) (v := (10, 0)) rfl]
  refine (congrArg (fun x => callK x _) (jX0_init_66 _ _ _)).trans ?_
  show run mX11_init (138, 67, 610, [.ref 0, .int (nI 2)], [.ref 66, .ref 0], (68, shX, xI11 I, xJ11 J, xR11 R)) = _
  refine (gq11 (xI11 I) (xJ11 J) (xR11 R)).trans ?_
  rw [upsh (n := 68) (v := (14, 0)) rfl]
  refine (congrArg (fun x => callK x _) (jX4_init_68 _ _ _)).trans ?_
  show run mX11_init (149, 73, 2681, [.ref 0, .null], [.ref 68, .ref 0], (74, shX, xI12 I, xJ12 J, xR12 R)) = _
  refine (gq12 (xI12 I) (xJ12 J) (xR12 R)).trans ?_
  rw [upsh (n := 74) (v := (17, 0)) rfl]
  refine (congrArg (fun x => callK x _) (jX7_init_74 _ _ _)).trans ?_
  show run mX11_init (160, 75, 2939, [.ref 0, .null], [.ref 74, .ref 0], (76, shX, xI13 I, xJ13 J, xR13 R)) = _
  refine (gq13 (xI13 I) (xJ13 J) (xR13 R)).trans ?_
  rw [upsh (n := 76) (v := (17, 0)) rfl]
  refine (congrArg (fun x => callK x _) (jX7_init_76 _ _ _)).trans ?_
  show run mX11_init (171, 77, 3197, [.ref 0, .null], [.ref 76, .ref 0], (78, shX, xI14 I, xJ14 J, xR14 R)) = _
  exact gq14 (xI14 I) (xJ14 J) (xR14 R)
def xR0 : Nat → Nat → Nat := zrR (fun _ _ => mNul) 0
set_option maxRecDepth 100000 in
theorem xr_0 : xRf xR0 0 = RX false false 0 := by
  funext k
  match k with
  | 0 => rfl
  | 1 => rfl
  | 2 => rfl
  | 3 => rfl
  | 4 => rfl
  | 5 => rfl
  | 6 => rfl
  | 7 => rfl
  | 8 => rfl
  | 9 => rfl
  | 10 => rfl
  | 11 => rfl
  | 12 => rfl
  | k + 13 => rfl
set_option maxRecDepth 100000 in
theorem xr_1 : xRf xR0 1 = RX false false 1 := by
  funext k
  match k with
  | 0 => rfl
  | k + 1 => rfl
set_option maxRecDepth 100000 in
theorem xr_2 : xRf xR0 2 = RX false false 2 := by
  funext k
  match k with
  | 0 => rfl
  | k + 1 => rfl
set_option maxRecDepth 100000 in
theorem xr_3 : xRf xR0 3 = RX false false 3 := by
  funext k
  match k with
  | 0 => rfl
  | k + 1 => rfl
set_option maxRecDepth 100000 in
theorem xr_4 : xRf xR0 4 = RX false false 4 := by
  funext k
  match k with
  | 0 => rfl
  | 1 => rfl
  | k + 2 => rfl
set_option maxRecDepth 100000 in
theorem xr_5 : xRf xR0 5 = RX false false 5 := by
  funext k
  match k with
  | 0 => rfl
  | k + 1 => rfl
set_option maxRecDepth 100000 in
theorem xr_6 : xRf xR0 6 = RX false false 6 := by
  funext k
  match k with
  | 0 => rfl
  | k + 1 => rfl
set_option maxRecDepth 100000 in
theorem xr_7 : xRf xR0 7 = RX false false 7 := by
  funext k
  match k with
  | 0 => rfl
  | 1 => rfl
  | k + 2 => rfl
set_option maxRecDepth 100000 in
theorem xr_8 : xRf xR0 8 = RX false false 8 := by
  funext k
  match k with
  | 0 => rfl
  | k + 1 => rfl
set_option maxRecDepth 100000 in
theorem xr_9 : xRf xR0 9 = RX false false 9 := by
  funext k
  match k with
  | 0 => rfl
  | k + 1 => rfl
set_option maxRecDepth 100000 in
theorem xr_10 : xRf xR0 10 = RX false false 10 := by
  funext k
  match k with
  | 0 => rfl
  | 1 => rfl
  | k + 2 => rfl
set_option maxRecDepth 100000 in
theorem xr_11 : xRf xR0 11 = RX false false 11 := by
  funext k
  match k with
  | 0 => rfl
  | k + 1 => rfl
set_option maxRecDepth 100000 in
theorem xr_12 : xRf xR0 12 = RX false false 12 := by
  funext k
  match k with
  | 0 => rfl
  | k + 1 => rfl
set_option maxRecDepth 100000 in
theorem xr_13 : xRf xR0 13 = RX false false 13 := by
  funext k
  match k with
  | 0 => rfl
  | k + 1 => rfl
set_option maxRecDepth 100000 in
theorem xr_14 : xRf xR0 14 = RX false false 14 := by
  funext k
  match k with
  | 0 => rfl
  | k + 1 => rfl
set_option maxRecDepth 100000 in
theorem xr_15 : xRf xR0 15 = RX false false 15 := by
  funext k
  match k with
  | 0 => rfl
  | k + 1 => rfl
set_option maxRecDepth 100000 in
theorem xr_16 : xRf xR0 16 = RX false false 16 := by
  funext k
  match k with
  | 0 => rfl
  | k + 1 => rfl
set_option maxRecDepth 100000 in
theorem xr_17 : xRf xR0 17 = RX false false 17 := by
  funext k
  match k with
  | 0 => rfl
  | k + 1 => rfl
set_option maxRecDepth 100000 in
theorem xr_18 : xRf xR0 18 = RX false false 18 := by
  funext k
  match k with
  | 0 => rfl
  | 1 => rfl
  | 2 => rfl
  | 3 => rfl
  | 4 => rfl
  | 5 => rfl
  | 6 => rfl
  | 7 => rfl
  | 8 => rfl
  | 9 => rfl
  | 10 => rfl
  | 11 => rfl
  | 12 => rfl
  | 13 => rfl
  | 14 => rfl
  | 15 => rfl
  | 16 => rfl
  | 17 => rfl
  | 18 => rfl
  | 19 => rfl
  | k + 20 => rfl
set_option maxRecDepth 100000 in
theorem xr_19 : xRf xR0 19 = RX false false 19 := by
  funext k
  match k with
  | 0 => rfl
  | k + 1 => rfl
set_option maxRecDepth 100000 in
theorem xr_20 : xRf xR0 20 = RX false false 20 := by
  funext k
  match k with
  | 0 => rfl
  | k + 1 => rfl
set_option maxRecDepth 100000 in
theorem xr_21 : xRf xR0 21 = RX false false 21 := by
  funext k
  match k with
  | 0 => rfl
  | k + 1 => rfl
set_option maxRecDepth 100000 in
theorem xr_22 : xRf xR0 22 = RX false false 22 := by
  funext k
  match k with
  | 0 => rfl
  | k + 1 => rfl
set_option maxRecDepth 100000 in
theorem xr_23 : xRf xR0 23 = RX false false 23 := by
  funext k
  match k with
  | 0 => rfl
  | k + 1 => rfl
set_option maxRecDepth 100000 in
theorem xr_24 : xRf xR0 24 = RX false false 24 := by
  funext k
  match k with
  | 0 => rfl
  | k + 1 => rfl
set_option maxRecDepth 100000 in
theorem xr_25 : xRf xR0 25 = RX false false 25 := by
  funext k
  match k with
  | 0 => rfl
  | k + 1 => rfl
set_option maxRecDepth 100000 in
theorem xr_26 : xRf xR0 26 = RX false false 26 := by
  funext k
  match k with
  | 0 => rfl
  | k + 1 => rfl
set_option maxRecDepth 100000 in
theorem xr_27 : xRf xR0 27 = RX false false 27 := by
  funext k
  match k with
  | 0 => rfl
  | k + 1 => rfl
set_option maxRecDepth 100000 in
theorem xr_28 : xRf xR0 28 = RX false false 28 := by
  funext k
  match k with
  | 0 => rfl
  | k + 1 => rfl
set_option maxRecDepth 100000 in
theorem xr_29 : xRf xR0 29 = RX false false 29 := by
  funext k
  match k with
  | 0 => rfl
  | k + 1 => rfl
set_option maxRecDepth 100000 in
theorem xr_30 : xRf xR0 30 = RX false false 30 := by
  funext k
  match k with
  | 0 => rfl
  | k + 1 => rfl
set_option maxRecDepth 100000 in
theorem xr_31 : xRf xR0 31 = RX false false 31 := by
  funext k
  match k with
  | 0 => rfl
  | k + 1 => rfl
set_option maxRecDepth 100000 in
theorem xr_32 : xRf xR0 32 = RX false false 32 := by
  funext k
  match k with
  | 0 => rfl
  | k + 1 => rfl
set_option maxRecDepth 100000 in
theorem xr_33 : xRf xR0 33 = RX false false 33 := by
  funext k
  match k with
  | 0 => rfl
  | k + 1 => rfl
set_option maxRecDepth 100000 in
theorem xr_34 : xRf xR0 34 = RX false false 34 := by
  funext k
  match k with
  | 0 => rfl
  | k + 1 => rfl
set_option maxRecDepth 100000 in
theorem xr_35 : xRf xR0 35 = RX false false 35 := by
  funext k
  match k with
  | 0 => rfl
  | k + 1 => rfl
set_option maxRecDepth 100000 in
theorem xr_36 : xRf xR0 36 = RX false false 36 := by
  funext k
  match k with
  | 0 => rfl
  | k + 1 => rfl
set_option maxRecDepth 100000 in
theorem xr_37 : xRf xR0 37 = RX false false 37 := by
  funext k
  match k with
  | 0 => rfl
  | k + 1 => rfl
set_option maxRecDepth 100000 in
theorem xr_38 : xRf xR0 38 = RX false false 38 := by
  funext k
  match k with
  | 0 => rfl
  | k + 1 => rfl
set_option maxRecDepth 100000 in
theorem xr_39 : xRf xR0 39 = RX false false 39 := by
  funext k
  match k with
  | 0 => rfl
  | k + 1 => rfl
set_option maxRecDepth 100000 in
theorem xr_40 : xRf xR0 40 = RX false false 40 := by
  funext k
  match k with
  | 0 => rfl
  | k + 1 => rfl
set_option maxRecDepth 100000 in
theorem xr_41 : xRf xR0 41 = RX false false 41 := by
  funext k
  match k with
  | 0 => rfl
  | k + 1 => rfl
set_option maxRecDepth 100000 in
theorem xr_42 : xRf xR0 42 = RX false false 42 := by
  funext k
  match k with
  | 0 => rfl
  | k + 1 => rfl
set_option maxRecDepth 100000 in
theorem xr_43 : xRf xR0 43 = RX false false 43 := by
  funext k
  match k with
  | 0 => rfl
  | k + 1 => rfl
set_option maxRecDepth 100000 in
theorem xr_44 : xRf xR0 44 = RX false false 44 := by
  funext k
  match k with
  | 0 => rfl
  | k + 1 => rfl
set_option maxRecDepth 100000 in
theorem xr_45 : xRf xR0 45 = RX false false 45 := by
  funext k
  match k with
  | 0 => rfl
  | k + 1 => rfl
set_option maxRecDepth 100000 in
theorem xr_46 : xRf xR0 46 = RX false false 46 := by
  funext k
  match k with
  | 0 => rfl
  | k + 1 => rfl
set_option maxRecDepth 100000 in
theorem xr_47 : xRf xR0 47 = RX false false 47 := by
  funext k
  match k with
  | 0 => rfl
  | k + 1 => rfl
set_option maxRecDepth 100000 in
theorem xr_48 : xRf xR0 48 = RX false false 48 := by
  funext k
  match k with
  | 0 => rfl
  | k + 1 => rfl
set_option maxRecDepth 100000 in
theorem xr_49 : xRf xR0 49 = RX false false 49 := by
  funext k
  match k with
  | 0 => rfl
  | k + 1 => rfl
set_option maxRecDepth 100000 in
theorem xr_50 : xRf xR0 50 = RX false false 50 := by
  funext k
  match k with
  | 0 => rfl
  | k + 1 => rfl
set_option maxRecDepth 100000 in
theorem xr_51 : xRf xR0 51 = RX false false 51 := by
  funext k
  match k with
  | 0 => rfl
  | k + 1 => rfl
set_option maxRecDepth 100000 in
theorem xr_52 : xRf xR0 52 = RX false false 52 := by
  funext k
  match k with
  | 0 => rfl
  | k + 1 => rfl
set_option maxRecDepth 100000 in
theorem xr_53 : xRf xR0 53 = RX false false 53 := by
  funext k
  match k with
  | 0 => rfl
  | k + 1 => rfl
set_option maxRecDepth 100000 in
theorem xr_54 : xRf xR0 54 = RX false false 54 := by
  funext k
  match k with
  | 0 => rfl
  | k + 1 => rfl
set_option maxRecDepth 100000 in
theorem xr_55 : xRf xR0 55 = RX false false 55 := by
  funext k
  match k with
  | 0 => rfl
  | k + 1 => rfl
set_option maxRecDepth 100000 in
theorem xr_56 : xRf xR0 56 = RX false false 56 := by
  funext k
  match k with
  | 0 => rfl
  | k + 1 => rfl
set_option maxRecDepth 100000 in
theorem xr_57 : xRf xR0 57 = RX false false 57 := by
  funext k
  match k with
  | 0 => rfl
  | k + 1 => rfl
set_option maxRecDepth 100000 in
theorem xr_58 : xRf xR0 58 = RX false false 58 := by
  funext k
  match k with
  | 0 => rfl
  | k + 1 => rfl
set_option maxRecDepth 100000 in
theorem xr_59 : xRf xR0 59 = RX false false 59 := by
  funext k
  match k with
  | 0 => rfl
  | 1 => rfl
  | k + 2 => rfl
set_option maxRecDepth 100000 in
theorem xr_60 : xRf xR0 60 = RX false false 60 := by
  funext k
  match k with
  | 0 => rfl
  | k + 1 => rfl
set_option maxRecDepth 100000 in
theorem xr_61 : xRf xR0 61 = RX false false 61 := by
  funext k
  match k with
  | 0 => rfl
  | k + 1 => rfl
set_option maxRecDepth 100000 in
theorem xr_62 : xRf xR0 62 = RX false false 62 := by
  funext k
  match k with
  | 0 => rfl
  | k + 1 => rfl
set_option maxRecDepth 100000 in
theorem xr_63 : xRf xR0 63 = RX false false 63 := by
  funext k
  match k with
  | 0 => rfl
  | k + 1 => rfl
set_option maxRecDepth 100000 in
theorem xr_64 : xRf xR0 64 = RX false false 64 := by
  funext k
  match k with
  | 0 => rfl
  | k + 1 => rfl
set_option maxRecDepth 100000 in
theorem xr_65 : xRf xR0 65 = RX false false 65 := by
  funext k
  match k with
  | 0 => rfl
  | k + 1 => rfl
set_option maxRecDepth 100000 in
theorem xr_66 : xRf xR0 66 = RX false false 66 := by
  funext k
  match k with
  | 0 => rfl
  | k + 1 => rfl
set_option maxRecDepth 100000 in
theorem xr_67 : xRf xR0 67 = RX false false 67 := by
  funext k
  match k with
  | 0 => rfl
  | k + 1 => rfl
set_option maxRecDepth 100000 in
theorem xr_68 : xRf xR0 68 = RX false false 68 := by
  funext k
  match k with
  | 0 => rfl
  | 1 => rfl
  | 2 => rfl
  | 3 => rfl
  | 4 => rfl
  | k + 5 => rfl
set_option maxRecDepth 100000 in
theorem xr_69 : xRf xR0 69 = RX false false 69 := by
  funext k
  match k with
  | 0 => rfl
  | k + 1 => rfl
set_option maxRecDepth 100000 in
theorem xr_70 : xRf xR0 70 = RX false false 70 := by
  funext k
  match k with
  | 0 => rfl
  | k + 1 => rfl
set_option maxRecDepth 100000 in
theorem xr_71 : xRf xR0 71 = RX false false 71 := by
  funext k
  match k with
  | 0 => rfl
  | k + 1 => rfl
set_option maxRecDepth 100000 in
theorem xr_72 : xRf xR0 72 = RX false false 72 := by
  funext k
  match k with
  | 0 => rfl
  | k + 1 => rfl
set_option maxRecDepth 100000 in
theorem xr_73 : xRf xR0 73 = RX false false 73 := by
  funext k
  match k with
  | 0 => rfl
  | k + 1 => rfl
set_option maxRecDepth 100000 in
theorem xr_74 : xRf xR0 74 = RX false false 74 := by
  funext k
  match k with
  | 0 => rfl
  | k + 1 => rfl
set_option maxRecDepth 100000 in
theorem xr_75 : xRf xR0 75 = RX false false 75 := by
  funext k
  match k with
  | 0 => rfl
  | k + 1 => rfl
set_option maxRecDepth 100000 in
theorem xr_76 : xRf xR0 76 = RX false false 76 := by
  funext k
  match k with
  | 0 => rfl
  | k + 1 => rfl
set_option maxRecDepth 100000 in
theorem xr_77 : xRf xR0 77 = RX false false 77 := by
  funext k
  match k with
  | 0 => rfl
  | k + 1 => rfl
set_option maxRecDepth 100000 in
theorem xr : xRf xR0 = RX false false := by
  funext p
  match p with
  | 0 => exact xr_0
  | 1 => exact xr_1
  | 2 => exact xr_2
  | 3 => exact xr_3
  | 4 => exact xr_4
  | 5 => exact xr_5
  | 6 => exact xr_6
  | 7 => exact xr_7
  | 8 => exact xr_8
  | 9 => exact xr_9
  | 10 => exact xr_10
  | 11 => exact xr_11
  | 12 => exact xr_12
  | 13 => exact xr_13
  | 14 => exact xr_14
  | 15 => exact xr_15
  | 16 => exact xr_16
  | 17 => exact xr_17
  | 18 => exact xr_18
  | 19 => exact xr_19
  | 20 => exact xr_20
  | 21 => exact xr_21
  | 22 => exact xr_22
  | 23 => exact xr_23
  | 24 => exact xr_24
  | 25 => exact xr_25
  | 26 => exact xr_26
  | 27 => exact xr_27
  | 28 => exact xr_28
  | 29 => exact xr_29
  | 30 => exact xr_30
  | 31 => exact xr_31
  | 32 => exact xr_32
  | 33 => exact xr_33
  | 34 => exact xr_34
  | 35 => exact xr_35
  | 36 => exact xr_36
  | 37 => exact xr_37
  | 38 => exact xr_38
  | 39 => exact xr_39
  | 40 => exact xr_40
  | 41 => exact xr_41
  | 42 => exact xr_42
  | 43 => exact xr_43
  | 44 => exact xr_44
  | 45 => exact xr_45
  | 46 => exact xr_46
  | 47 => exact xr_47
  | 48 => exact xr_48
  | 49 => exact xr_49
  | 50 => exact xr_50
  | 51 => exact xr_51
  | 52 => exact xr_52
  | 53 => exact xr_53
  | 54 => exact xr_54
  | 55 => exact xr_55
  | 56 => exact xr_56
  | 57 => exact xr_57
  | 58 => exact xr_58
  | 59 => exact xr_59
  | 60 => exact xr_60
  | 61 => exact xr_61
  | 62 => exact xr_62
  | 63 => exact xr_63
  | 64 => exact xr_64
  | 65 => exact xr_65
  | 66 => exact xr_66
  | 67 => exact xr_67
  | 68 => exact xr_68
  | 69 => exact xr_69
  | 70 => exact xr_70
  | 71 => exact xr_71
  | 72 => exact xr_72
  | 73 => exact xr_73
  | 74 => exact xr_74
  | 75 => exact xr_75
  | 76 => exact xr_76
  | 77 => exact xr_77
  | p + 78 => rfl
def yI (I : Nat → Nat → Int32) : Nat → Nat → Int32 := (zrI (zrI (zrI (zrI (zrI (zrI (zrI (zrI (zrI (zrI (zrI (zrI (zrI (up2 (zrI (zrI (zrI (zrI (zrI (zrI (zrI (zrI (zrI (zrI (zrI (up2 (zrI (zrI (zrI (zrI I 1) 2) 3) 4) 0 7 (nI 15)) 5) 6) 7) 8) 9) 10) 11) 12) 13) 14) 15) 0 25 (Int32.ofInt (-1))) 16) 17) 18) 19) 20) 21) 22) 23) 24) 25) 26) 27) 28)
def yJ (J : Nat → Nat → Int64) : Nat → Nat → Int64 := (zrJ (zrJ (zrJ (zrJ (zrJ (zrJ (zrJ (zrJ (zrJ (zrJ (zrJ (zrJ (zrJ (zrJ (zrJ (zrJ (zrJ (zrJ (zrJ (zrJ (zrJ (zrJ (zrJ (zrJ (zrJ (zrJ (zrJ (zrJ J 1) 2) 3) 4) 5) 6) 7) 8) 9) 10) 11) 12) 13) 14) 15) 16) 17) 18) 19) 20) 21) 22) 23) 24) 25) 26) 27) 28)
def yR (R : Nat → Nat → Nat) : Nat → Nat → Nat := (up2 (zrR (up2 (zrR (up2 (zrR (up2 (zrR (up2 (zrR (up2 (zrR (up2 (zrR (up2 (zrR (up2 (zrR (up2 (zrR (up2 (zrR (up2 (zrR (up2 (zrR (up2 (zrR (up2 (zrR (up2 (zrR (up2 (zrR (up2 (zrR (up2 (zrR (up2 (zrR (up2 (zrR (up2 (zrR (up2 (zrR (up2 (zrR (up2 (zrR (up2 (zrR (up2 (zrR (up2 (zrR R 1) 0 2 1) 2) 0 3 2) 3) 0 4 3) 4) 0 5 4) 5) 0 8 5) 6) 0 9 6) 7) 0 13 7) 8) 0 14 8) 9) 0 15 9) 10) 0 16 10) 11) 0 17 11) 12) 0 19 12) 13) 0 20 13) 14) 0 21 14) 15) 0 23 15) 16) 0 29 16) 17) 0 30 17) 18) 0 31 18) 19) 0 33 19) 20) 0 34 20) 21) 0 35 21) 22) 0 38 22) 23) 0 39 23) 24) 0 40 24) 25) 0 41 25) 26) 0 42 26) 27) 0 43 27) 28) 0 44 28)
set_option maxRecDepth 100000 in
set_option maxHeartbeats 4000000 in
theorem jm0 (I : Nat → Nat → Int32) (J : Nat → Nat → Int64) (R : Nat → Nat → Nat) : fX12_init [.ref 0] (1, shM, I, J, R) = callK (fX12_goes [.ref 0, .ref 5, .int (nI 1)] (29, (up1 (up1 (up1 (up1 (up1 (up1 (up1 (up1 (up1 (up1 (up1 (up1 (up1 (up1 (up1 (up1 (up1 (up1 (up1 (up1 (up1 (up1 (up1 (up1 (up1 (up1 (up1 (up1 shM 1 (0, 8)) 2 (0, 8)) 3 (1, 8)) 4 (0, 8)) 5 (0, 1024)) 6 (0, 1024)) 7 (0, 8)) 8 (0, 9)) 9 (0, 9)) 10 (0, 9)) 11 (0, 27)) 12 (0, 64)) 13 (0, 36)) 14 (0, 36)) 15 (0, 120)) 16 (0, 8)) 17 (0, 8)) 18 (1, 8)) 19 (0, 20)) 20 (0, 20)) 21 (0, 160)) 22 (0, 20)) 23 (1, 20)) 24 (1, 2)) 25 (0, 2)) 26 (0, 2)) 27 (0, 16)) 28 (2, 2)), yI I, yJ J, yR R)) (fun r h' => run mX12_init (248, 28, 2686, [.ref 0], r.toList ++ [.ref 0], h')) := (mth_eq (M := mX12_init) (n := 1) rfl).trans ((exK_eq mX12_init [248] 140 _).symm.trans rfl)
set_option maxRecDepth 100000 in
theorem jm1 (I : Nat → Nat → Int32) (J : Nat → Nat → Int64) (x : Int32) : run mX12_init (248, 28, 2686, [.ref 0], [.int x, .ref 0], mH I J) = some (none, mH (up2 I 0 10 x) J) := (exK_eq mX12_init [] 10 _).symm.trans rfl
def yR0 : Nat → Nat → Nat := zrR (fun _ _ => mNul) 0
set_option maxRecDepth 100000 in
theorem yr_0 : yR yR0 0 = RM 0 := by
  funext k
  match k with
  | 0 => rfl
  | 1 => rfl
  | 2 => rfl
  | 3 => rfl
  | 4 => rfl
  | 5 => rfl
  | 6 => rfl
  | 7 => rfl
  | 8 => rfl
  | 9 => rfl
  | 10 => rfl
  | 11 => rfl
  | 12 => rfl
  | 13 => rfl
  | 14 => rfl
  | 15 => rfl
  | 16 => rfl
  | 17 => rfl
  | 18 => rfl
  | 19 => rfl
  | 20 => rfl
  | 21 => rfl
  | 22 => rfl
  | 23 => rfl
  | 24 => rfl
  | 25 => rfl
  | 26 => rfl
  | 27 => rfl
  | 28 => rfl
  | 29 => rfl
  | 30 => rfl
  | 31 => rfl
  | 32 => rfl
  | 33 => rfl
  | 34 => rfl
  | 35 => rfl
  | 36 => rfl
  | 37 => rfl
  | 38 => rfl
  | 39 => rfl
  | 40 => rfl
  | 41 => rfl
  | 42 => rfl
  | 43 => rfl
  | 44 => rfl
  | k + 45 => rfl
set_option maxRecDepth 100000 in
theorem yr_1 : yR yR0 1 = RM 1 := by
  funext k
  match k with
  | 0 => rfl
  | k + 1 => rfl
set_option maxRecDepth 100000 in
theorem yr_2 : yR yR0 2 = RM 2 := by
  funext k
  match k with
  | 0 => rfl
  | k + 1 => rfl
set_option maxRecDepth 100000 in
theorem yr_3 : yR yR0 3 = RM 3 := by
  funext k
  match k with
  | 0 => rfl
  | k + 1 => rfl
set_option maxRecDepth 100000 in
theorem yr_4 : yR yR0 4 = RM 4 := by
  funext k
  match k with
  | 0 => rfl
  | k + 1 => rfl
set_option maxRecDepth 100000 in
theorem yr_5 : yR yR0 5 = RM 5 := by
  funext k
  match k with
  | 0 => rfl
  | k + 1 => rfl
set_option maxRecDepth 100000 in
theorem yr_6 : yR yR0 6 = RM 6 := by
  funext k
  match k with
  | 0 => rfl
  | k + 1 => rfl
set_option maxRecDepth 100000 in
theorem yr_7 : yR yR0 7 = RM 7 := by
  funext k
  match k with
  | 0 => rfl
  | k + 1 => rfl
set_option maxRecDepth 100000 in
theorem yr_8 : yR yR0 8 = RM 8 := by
  funext k
  match k with
  | 0 => rfl
  | k + 1 => rfl
set_option maxRecDepth 100000 in
theorem yr_9 : yR yR0 9 = RM 9 := by
  funext k
  match k with
  | 0 => rfl
  | k + 1 => rfl
set_option maxRecDepth 100000 in
theorem yr_10 : yR yR0 10 = RM 10 := by
  funext k
  match k with
  | 0 => rfl
  | k + 1 => rfl
set_option maxRecDepth 100000 in
theorem yr_11 : yR yR0 11 = RM 11 := by
  funext k
  match k with
  | 0 => rfl
  | k + 1 => rfl
set_option maxRecDepth 100000 in
theorem yr_12 : yR yR0 12 = RM 12 := by
  funext k
  match k with
  | 0 => rfl
  | k + 1 => rfl
set_option maxRecDepth 100000 in
theorem yr_13 : yR yR0 13 = RM 13 := by
  funext k
  match k with
  | 0 => rfl
  | k + 1 => rfl
set_option maxRecDepth 100000 in
theorem yr_14 : yR yR0 14 = RM 14 := by
  funext k
  match k with
  | 0 => rfl
  | k + 1 => rfl
set_option maxRecDepth 100000 in
theorem yr_15 : yR yR0 15 = RM 15 := by
  funext k
  match k with
  | 0 => rfl
  | k + 1 => rfl
set_option maxRecDepth 100000 in
theorem yr_16 : yR yR0 16 = RM 16 := by
  funext k
  match k with
  | 0 => rfl
  | k + 1 => rfl
set_option maxRecDepth 100000 in
theorem yr_17 : yR yR0 17 = RM 17 := by
  funext k
  match k with
  | 0 => rfl
  | k + 1 => rfl
set_option maxRecDepth 100000 in
theorem yr_18 : yR yR0 18 = RM 18 := by
  funext k
  match k with
  | 0 => rfl
  | k + 1 => rfl
set_option maxRecDepth 100000 in
theorem yr_19 : yR yR0 19 = RM 19 := by
  funext k
  match k with
  | 0 => rfl
  | k + 1 => rfl
set_option maxRecDepth 100000 in
theorem yr_20 : yR yR0 20 = RM 20 := by
  funext k
  match k with
  | 0 => rfl
  | k + 1 => rfl
set_option maxRecDepth 100000 in
theorem yr_21 : yR yR0 21 = RM 21 := by
  funext k
  match k with
  | 0 => rfl
  | k + 1 => rfl
set_option maxRecDepth 100000 in
theorem yr_22 : yR yR0 22 = RM 22 := by
  funext k
  match k with
  | 0 => rfl
  | k + 1 => rfl
set_option maxRecDepth 100000 in
theorem yr_23 : yR yR0 23 = RM 23 := by
  funext k
  match k with
  | 0 => rfl
  | k + 1 => rfl
set_option maxRecDepth 100000 in
theorem yr_24 : yR yR0 24 = RM 24 := by
  funext k
  match k with
  | 0 => rfl
  | k + 1 => rfl
set_option maxRecDepth 100000 in
theorem yr_25 : yR yR0 25 = RM 25 := by
  funext k
  match k with
  | 0 => rfl
  | k + 1 => rfl
set_option maxRecDepth 100000 in
theorem yr_26 : yR yR0 26 = RM 26 := by
  funext k
  match k with
  | 0 => rfl
  | k + 1 => rfl
set_option maxRecDepth 100000 in
theorem yr_27 : yR yR0 27 = RM 27 := by
  funext k
  match k with
  | 0 => rfl
  | k + 1 => rfl
set_option maxRecDepth 100000 in
theorem yr_28 : yR yR0 28 = RM 28 := by
  funext k
  match k with
  | 0 => rfl
  | k + 1 => rfl
set_option maxRecDepth 100000 in
theorem yr : yR yR0 = RM := by
  funext p
  match p with
  | 0 => exact yr_0
  | 1 => exact yr_1
  | 2 => exact yr_2
  | 3 => exact yr_3
  | 4 => exact yr_4
  | 5 => exact yr_5
  | 6 => exact yr_6
  | 7 => exact yr_7
  | 8 => exact yr_8
  | 9 => exact yr_9
  | 10 => exact yr_10
  | 11 => exact yr_11
  | 12 => exact yr_12
  | 13 => exact yr_13
  | 14 => exact yr_14
  | 15 => exact yr_15
  | 16 => exact yr_16
  | 17 => exact yr_17
  | 18 => exact yr_18
  | 19 => exact yr_19
  | 20 => exact yr_20
  | 21 => exact yr_21
  | 22 => exact yr_22
  | 23 => exact yr_23
  | 24 => exact yr_24
  | 25 => exact yr_25
  | 26 => exact yr_26
  | 27 => exact yr_27
  | 28 => exact yr_28
  | p + 29 => rfl
theorem jm2 (I : Nat → Nat → Int32) (J : Nat → Nat → Int64) : fX12_init [.ref 0] (1, shM, I, J, yR0) = callK (fX12_goes [.ref 0, .ref 5, .int (nI 1)] (mH (yI I) (yJ J))) (fun r h' => run mX12_init (248, 28, 2686, [.ref 0], r.toList ++ [.ref 0], h')) := by
  rw [jm0, upsm (n := 1) (v := (0, 8)) rfl, upsm (n := 2) (v := (0, 8)) rfl, upsm (n := 3) (v := (1, 8)) rfl, upsm (n := 4) (v := (0, 8)) rfl, upsm (n := 5) (v := (0, 1024)) rfl, upsm (n := 6) (v := (0, 1024)) rfl, upsm (n := 7) (v := (0, 8)) rfl, upsm (n := 8) (v := (0, 9)) rfl, upsm (n := 9) (v := (0, 9)) rfl, upsm (n := 10) (v := (0, 9)) rfl, upsm (n := 11) (v := (0, 27)) rfl, upsm (n := 12) (v := (0, 64)) rfl, upsm (n := 13) (v := (0, 36)) rfl, upsm (n := 14) (v := (0, 36)) rfl, upsm (n := 15) (v := (0, 120)) rfl, upsm (n := 16) (v := (0, 8)) rfl, upsm (n := 17) (v := (0, 8)) rfl, upsm (n := 18) (v := (1, 8)) rfl, upsm (n := 19) (v := (0, 20)) rfl, upsm (n := 20) (v := (0, 20)) rfl, upsm (n := 21) (v := (0, 160)) rfl, upsm (n := 22) (v := (0, 20)) rfl, upsm (n := 23) (v := (1, 20)) rfl, upsm (n := 24) (v := (1, 2)) rfl, upsm (n := 25) (v := (0, 2)) rfl, upsm (n := 26) (v := (0, 2)) rfl, upsm (n := 27) (v := (0, 16)) rfl, upsm (n := 28) (v := (2, 2)) rfl, yr]
  rfl
