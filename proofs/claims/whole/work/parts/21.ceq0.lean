/-! THE CLASS'S WORLD and its methods as equations (by program) -/
def shXL : List (Nat × Nat) := [(21, 0), (20, 0), (0, 120), (15, 0), (16, 0), (0, 8), (0, 8), (16, 0), (0, 8), (0, 8), (18, 0), (0, 36), (0, 64), (13, 0), (0, 28), (19, 0), (0, 8), (11, 0), (4, 20), (19, 0), (0, 8), (19, 0), (0, 8), (19, 0), (0, 8), (19, 0), (0, 8), (19, 0), (0, 8), (19, 0), (0, 8), (19, 0), (0, 8), (19, 0), (0, 8), (19, 0), (0, 8), (19, 0), (0, 8), (19, 0), (0, 8), (19, 0), (0, 8), (19, 0), (0, 8), (19, 0), (0, 8), (19, 0), (0, 8), (19, 0), (0, 8), (19, 0), (0, 8), (19, 0), (0, 8), (19, 0), (0, 8), (19, 0), (0, 8), (3, 2), (12, 0), (19, 0), (0, 8), (12, 0), (19, 0), (0, 8), (10, 0), (0, 20), (14, 0), (2, 512), (2, 512), (0, 1024), (0, 8), (0, 8), (17, 0), (0, 256), (17, 0), (0, 256)]
def shX : Nat → Nat × Nat := fun p => (shXL[p]?).getD (99, 0)
def RXL : List (List Nat) := [[1, 3, 4, 7, 10, 13, 15, 17, 59, 66, 68, 74, 76], [2], [], [], [5, 6], [], [], [8, 9], [], [], [11, 12], [], [], [14], [], [16], [], [18], [19, 21, 23, 25, 27, 29, 31, 33, 35, 37, 39, 41, 43, 45, 47, 49, 51, 53, 55, 57], [20], [], [22], [], [24], [], [26], [], [28], [], [30], [], [32], [], [34], [], [36], [], [38], [], [40], [], [42], [], [44], [], [46], [], [48], [], [50], [], [52], [], [54], [], [56], [], [58], [], [60, 63], [61], [62], [], [64], [65], [], [67], [], [69, 70, 71, 72, 73], [], [], [], [], [], [75], [], [77], []]
def plP (b : Bool) : Nat := bif b then 7 else 4
def stA (b : Bool) : Nat := bif b then 70 else 69
def RX (pl st : Bool) : Nat → Nat → Nat := fun p k => bif Nat.beq p 0 && Nat.beq k 2 then plP pl else bif Nat.beq p 0 && Nat.beq k 3 then plP (!pl) else bif Nat.beq p 68 && Nat.beq k 0 then stA st else bif Nat.beq p 68 && Nat.beq k 1 then stA (!st) else (((RXL[p]?).getD [])[k]?).getD mNul
def cH (I : Nat → Nat → Int32) (J : Nat → Nat → Int64) (pl st : Bool) : HP := (78, shX, I, J, RX pl st)
def setL : List Nat := [15, 19, 21, 23, 25, 27, 29, 31, 33, 35, 37, 39, 41, 43, 45, 47, 49, 51, 53, 55, 57, 61, 64]
def othL : List Nat := [19, 21, 23, 25, 27, 29, 31, 33, 35, 37, 39, 41, 43, 45, 47, 49, 51, 53, 55, 57, 61, 64]
def hisL : List Nat := [19, 21, 23, 25, 27, 29, 31, 33, 35, 37, 39, 41, 43, 45, 47, 49, 51, 53, 55, 57]
set_option maxRecDepth 100000 in
theorem eX0_clear (I : Nat → Nat → Int32) (J : Nat → Nat → Int64) (pl st : Bool)  : fX0_clear [.ref 66] (cH I J pl st) = some (none, (cH (up2 (up2 I 66 1 (nI 0)) 66 2 (nI 0)) J pl st)) := (mth_eq (M := mX0_clear) (n := 1) rfl).trans ((exK_eq mX0_clear [] 12 _).symm.trans rfl)
set_option maxRecDepth 100000 in
theorem eX0_add (I : Nat → Nat → Int32) (J : Nat → Nat → Int64) (pl st : Bool) (x1 : Int32) (x2 : Int32) : fX0_add [.ref 66, .int x1, .int x2] (cH I J pl st) = (if (I 66 2) < (nI 0) then some (some (.int (nI 0)), (cH I J pl st)) else (if (I 66 2) < (nI 20) then (bif inb (I 66 2) 20 then (if x2 = (nI 0) then some (some (.int (nI 1)), (cH (up2 (up2 I 67 ((I 66 2)).toNatClampNeg x1) 66 2 ((I 66 2) + (nI 1))) J pl st)) else some (some (.int (nI 1)), (cH (up2 (up2 (up2 I 67 ((I 66 2)).toNatClampNeg x1) 66 1 ((I 66 1) ||| ((nI 1) <<< ((I 66 2) &&& 31)))) 66 2 ((I 66 2) + (nI 1))) J pl st))) else none) else some (some (.int (nI 0)), (cH I J pl st)))) := (mth_eq (M := mX0_add) (n := 3) rfl).trans ((exK_eq mX0_add [] 41 _).symm.trans rfl)
set_option maxRecDepth 100000 in
theorem eX7_at (I : Nat → Nat → Int32) (J : Nat → Nat → Int64) (pl st : Bool) {P : Nat} (hP : P = 74 ∨ P = 76) (x1 : Int32) : fX7_at [.ref P, .int x1] (cH I J pl st) = (if x1 < (nI 0) then some (some (.int (Int32.ofInt (-1))), (cH I J pl st)) else (if (I P 1) ≤ x1 then some (some (.int (Int32.ofInt (-1))), (cH I J pl st)) else (if (nI 256) ≤ x1 then some (some (.int (Int32.ofInt (-1))), (cH I J pl st)) else (bif inb x1 256 then some (some (.int (I (P + 1) (x1).toNatClampNeg)), (cH I J pl st)) else none)))) := by
  rcases hP with rfl | rfl
  all_goals exact (mth_eq (M := mX7_at) (n := 2) rfl).trans ((exK_eq mX7_at [] 23 _).symm.trans rfl)
set_option maxRecDepth 100000 in
theorem eX7_placeOf (I : Nat → Nat → Int32) (J : Nat → Nat → Int64) (pl st : Bool) {P : Nat} (hP : P = 74 ∨ P = 76) (x1 : Int32) : fX7_placeOf [.ref P, .int x1] (cH I J pl st) = run mX7_placeOf (10, 0, 0, [.ref P, .int x1, .int (nI 0), .int (I P 1), .int (nI 0), .null], [], (cH I J pl st)) := by
  rcases hP with rfl | rfl
  all_goals exact (mth_eq (M := mX7_placeOf) (n := 6) rfl).trans ((exK_eq mX7_placeOf [10] 40 _).symm.trans rfl)
set_option maxRecDepth 100000 in
theorem bX7_placeOf_10 (I : Nat → Nat → Int32) (J : Nat → Nat → Int64) (pl st : Bool) {P : Nat} (hP : P = 74 ∨ P = 76) (x1 : Int32) (x2 : Int32) (x3 : Int32) (x4 : Int32) (z5 : Value) : run mX7_placeOf (10, 0, 0, [.ref P, .int x1, .int x2, .int x3, .int x4, z5], [], (cH I J pl st)) = (if x3 ≤ x2 then some (some (.int x2), (cH I J pl st)) else (if (nI 256) ≤ x4 then some (some (.int x2), (cH I J pl st)) else (callK (fX7_at [.ref P, .int ((x2 + x3) / (nI 2))] (cH I J pl st)) (fun r h' => run mX7_placeOf (36, 0, 0, [.ref P, .int x1, .int x2, .int x3, .int x4, .int ((x2 + x3) / (nI 2))], r.toList ++ [], h'))))) := by
  rcases hP with rfl | rfl
  all_goals exact (exK_eq mX7_placeOf [10, 36] 40 _).symm.trans rfl
set_option maxRecDepth 100000 in
theorem bX7_placeOf_36 (I : Nat → Nat → Int32) (J : Nat → Nat → Int64) (pl st : Bool) {P : Nat} (hP : P = 74 ∨ P = 76) (s0 : Int32) (x1 : Int32) (x2 : Int32) (x3 : Int32) (x4 : Int32) (x5 : Int32) : run mX7_placeOf (36, 0, 0, [.ref P, .int x1, .int x2, .int x3, .int x4, .int x5], [.int s0], (cH I J pl st)) = (if x1 ≤ s0 then run mX7_placeOf (10, 0, 0, [.ref P, .int x1, .int x2, .int x5, .int (x4 + (nI 1)), .int x5], [], (cH I J pl st)) else run mX7_placeOf (10, 0, 0, [.ref P, .int x1, .int (x5 + (nI 1)), .int x3, .int (x4 + (nI 1)), .int x5], [], (cH I J pl st))) := by
  rcases hP with rfl | rfl
  all_goals exact (exK_eq mX7_placeOf [10, 36] 40 _).symm.trans rfl
set_option maxRecDepth 100000 in
theorem eX7_holds (I : Nat → Nat → Int32) (J : Nat → Nat → Int64) (pl st : Bool) {P : Nat} (hP : P = 74 ∨ P = 76) (x1 : Int32) : fX7_holds [.ref P, .int x1] (cH I J pl st) = (if x1 < (nI 0) then some (some (.int (nI 0)), (cH I J pl st)) else (callK (fX7_placeOf [.ref P, .int x1] (cH I J pl st)) (fun r h' => run mX7_holds (10, 0, 0, [.ref P, .int x1], r.toList ++ [.ref P], h')))) := by
  rcases hP with rfl | rfl
  all_goals exact (mth_eq (M := mX7_holds) (n := 2) rfl).trans ((exK_eq mX7_holds [10] 18 _).symm.trans rfl)
set_option maxRecDepth 100000 in
theorem bX7_holds_10 (I : Nat → Nat → Int32) (J : Nat → Nat → Int64) (pl st : Bool) {P : Nat} (hP : P = 74 ∨ P = 76) (s1 : Int32) (x1 : Int32) (z0 : Value) : run mX7_holds (10, 0, 0, [z0, .int x1], [.int s1, .ref P], (cH I J pl st)) = (callK (fX7_at [.ref P, .int s1] (cH I J pl st)) (fun r h' => run mX7_holds (13, 0, 0, [.null, .int x1], r.toList ++ [], h'))) := by
  rcases hP with rfl | rfl
  all_goals exact (exK_eq mX7_holds [10, 13] 18 _).symm.trans rfl
set_option maxRecDepth 100000 in
theorem bX7_holds_13 (I : Nat → Nat → Int32) (J : Nat → Nat → Int64) (pl st : Bool) {P : Nat} (hP : P = 74 ∨ P = 76) (s0 : Int32) (x1 : Int32) (z0 : Value) : run mX7_holds (13, 0, 0, [z0, .int x1], [.int s0], (cH I J pl st)) = (if s0 = x1 then some (some (.int (nI 1)), (cH I J pl st)) else some (some (.int (nI 0)), (cH I J pl st))) := by
  rcases hP with rfl | rfl
  all_goals exact (exK_eq mX7_holds [10, 13] 18 _).symm.trans rfl
set_option maxRecDepth 100000 in
theorem eX11_has (I : Nat → Nat → Int32) (J : Nat → Nat → Int64) (pl st : Bool) (x0 : Int32) (x1 : Int32) : fX11_has [.int x0, .int x1] (cH I J pl st) = (if x1 < (nI 0) then some (some (.int (nI 0)), (cH I J pl st)) else (if (nI 31) ≤ x1 then some (some (.int (nI 0)), (cH I J pl st)) else (if (((Int32.toUInt32 x0 >>> (Int32.toUInt32 x1 &&& Int32.toUInt32 31)).toInt32) &&& (nI 1)) = (nI 0) then some (some (.int (nI 0)), (cH I J pl st)) else some (some (.int (nI 1)), (cH I J pl st))))) := (mth_eq (M := mX11_has) (n := 2) rfl).trans ((exK_eq mX11_has [] 20 _).symm.trans rfl)
set_option maxRecDepth 100000 in
theorem eX0_firstWrong (I : Nat → Nat → Int32) (J : Nat → Nat → Int64) (pl st : Bool)  : fX0_firstWrong [.ref 66, .ref 74] (cH I J pl st) = run mX0_firstWrong (2, 0, 0, [.ref 66, .ref 74, .int (nI 0)], [], (cH I J pl st)) := (mth_eq (M := mX0_firstWrong) (n := 3) rfl).trans ((exK_eq mX0_firstWrong [2] 33 _).symm.trans rfl)
set_option maxRecDepth 100000 in
theorem bX0_firstWrong_2 (I : Nat → Nat → Int32) (J : Nat → Nat → Int64) (pl st : Bool) (x2 : Int32) : run mX0_firstWrong (2, 0, 0, [.ref 66, .ref 74, .int x2], [], (cH I J pl st)) = (if (I 66 2) ≤ x2 then some (some (.int (Int32.ofInt (-1))), (cH I J pl st)) else (if (nI 20) ≤ x2 then some (some (.int (Int32.ofInt (-1))), (cH I J pl st)) else (bif inb x2 20 then (callK (fX7_holds [.ref 74, .int (I 67 (x2).toNatClampNeg)] (cH I J pl st)) (fun r h' => run mX0_firstWrong (29, 0, 0, [.ref 66, .ref 74, .int x2], r.toList ++ [], h'))) else none))) := (exK_eq mX0_firstWrong [2, 29] 33 _).symm.trans rfl
set_option maxRecDepth 100000 in
theorem bX0_firstWrong_29 (I : Nat → Nat → Int32) (J : Nat → Nat → Int64) (pl st : Bool) (s0 : Int32) (x2 : Int32) : run mX0_firstWrong (29, 0, 0, [.ref 66, .ref 74, .int x2], [.int s0], (cH I J pl st)) = (callK (fX11_has [.int (I 66 1), .int x2] (cH I J pl st)) (fun r h' => run mX0_firstWrong (37, 0, 0, [.ref 66, .ref 74, .int x2], r.toList ++ [.int s0], h'))) := (exK_eq mX0_firstWrong [2, 29, 37] 33 _).symm.trans rfl
set_option maxRecDepth 100000 in
theorem bX0_firstWrong_37 (I : Nat → Nat → Int32) (J : Nat → Nat → Int64) (pl st : Bool) (s0 : Int32) (s1 : Int32) (x2 : Int32) : run mX0_firstWrong (37, 0, 0, [.ref 66, .ref 74, .int x2], [.int s1, .int s0], (cH I J pl st)) = (if s0 = s1 then run mX0_firstWrong (2, 0, 0, [.ref 66, .ref 74, .int (x2 + (nI 1))], [], (cH I J pl st)) else some (some (.int x2), (cH I J pl st))) := (exK_eq mX0_firstWrong [2, 29, 37] 33 _).symm.trans rfl
set_option maxRecDepth 100000 in
theorem eJ7_fill_53178_o (I : Nat → Nat → Int32) (J : Nat → Nat → Int64) (pl st : Bool) (x1 : Int32) : fJ7_fill_53178 [.ref 71, .int x1] (cH I J pl st) = run mJ7_fill_53178 (5, 0, 0, [.ref 71, .int x1, .int (nI 0), .int (nI 1024)], [], (cH I J pl st)) := (mth_eq (M := mJ7_fill_53178) (n := 4) rfl).trans ((exK_eq mJ7_fill_53178 [5] 20 _).symm.trans rfl)
set_option maxRecDepth 100000 in
theorem bJ7_fill_53178_5_o (I : Nat → Nat → Int32) (J : Nat → Nat → Int64) (pl st : Bool) (x1 : Int32) (x2 : Int32) (x3 : Int32) : run mJ7_fill_53178 (5, 0, 0, [.ref 71, .int x1, .int x2, .int x3], [], (cH I J pl st)) = (if x3 ≤ x2 then some (none, (cH I J pl st)) else (bif inb x2 1024 then run mJ7_fill_53178 (5, 0, 0, [.ref 71, .int x1, .int (x2 + (nI 1)), .int x3], [], (cH (up2 I 71 (x2).toNatClampNeg x1) J pl st)) else none)) := (exK_eq mJ7_fill_53178 [5] 20 _).symm.trans rfl
set_option maxRecDepth 100000 in
theorem eJ7_fill_53178_r (I : Nat → Nat → Int32) (J : Nat → Nat → Int64) (pl st : Bool) (x1 : Int32) : fJ7_fill_53178 [.ref 12, .int x1] (cH I J pl st) = run mJ7_fill_53178 (5, 0, 0, [.ref 12, .int x1, .int (nI 0), .int (nI 64)], [], (cH I J pl st)) := (mth_eq (M := mJ7_fill_53178) (n := 4) rfl).trans ((exK_eq mJ7_fill_53178 [5] 20 _).symm.trans rfl)
set_option maxRecDepth 100000 in
theorem bJ7_fill_53178_5_r (I : Nat → Nat → Int32) (J : Nat → Nat → Int64) (pl st : Bool) (x1 : Int32) (x2 : Int32) (x3 : Int32) : run mJ7_fill_53178 (5, 0, 0, [.ref 12, .int x1, .int x2, .int x3], [], (cH I J pl st)) = (if x3 ≤ x2 then some (none, (cH I J pl st)) else (bif inb x2 64 then run mJ7_fill_53178 (5, 0, 0, [.ref 12, .int x1, .int (x2 + (nI 1)), .int x3], [], (cH (up2 I 12 (x2).toNatClampNeg x1) J pl st)) else none)) := (exK_eq mJ7_fill_53178 [5] 20 _).symm.trans rfl
set_option maxRecDepth 100000 in
theorem eJ7_fill_53178_s (I : Nat → Nat → Int32) (J : Nat → Nat → Int64) (pl st : Bool) (x1 : Int32) : fJ7_fill_53178 [.ref 16, .int x1] (cH I J pl st) = run mJ7_fill_53178 (5, 0, 0, [.ref 16, .int x1, .int (nI 0), .int (nI 8)], [], (cH I J pl st)) := (mth_eq (M := mJ7_fill_53178) (n := 4) rfl).trans ((exK_eq mJ7_fill_53178 [5] 20 _).symm.trans rfl)
set_option maxRecDepth 100000 in
theorem bJ7_fill_53178_5_s (I : Nat → Nat → Int32) (J : Nat → Nat → Int64) (pl st : Bool) (x1 : Int32) (x2 : Int32) (x3 : Int32) : run mJ7_fill_53178 (5, 0, 0, [.ref 16, .int x1, .int x2, .int x3], [], (cH I J pl st)) = (if x3 ≤ x2 then some (none, (cH I J pl st)) else (bif inb x2 8 then run mJ7_fill_53178 (5, 0, 0, [.ref 16, .int x1, .int (x2 + (nI 1)), .int x3], [], (cH (up2 I 16 (x2).toNatClampNeg x1) J pl st)) else none)) := (exK_eq mJ7_fill_53178 [5] 20 _).symm.trans rfl
set_option maxRecDepth 100000 in
theorem eX9_clear (I : Nat → Nat → Int32) (J : Nat → Nat → Int64) (pl st : Bool)  : fX9_clear [.ref 15] (cH I J pl st) = (callK (fJ7_fill_53178 [.ref 16, .int (nI 1)] (cH I J pl st)) (fun r h' => run mX9_clear (8, 0, 0, [.ref 15], r.toList ++ [], h'))) := (mth_eq (M := mX9_clear) (n := 1) rfl).trans ((exK_eq mX9_clear [8] 16 _).symm.trans rfl)
set_option maxRecDepth 100000 in
theorem bX9_clear_8 (I : Nat → Nat → Int32) (J : Nat → Nat → Int64) (pl st : Bool)  : run mX9_clear (8, 0, 0, [.ref 15], [], (cH I J pl st)) = some (none, (cH (up2 (up2 I 15 1 (nI 0)) 15 2 (nI 15)) J pl st)) := (exK_eq mX9_clear [8] 16 _).symm.trans rfl
set_option maxRecDepth 100000 in
theorem eX1_clear (I : Nat → Nat → Int32) (J : Nat → Nat → Int64) (pl st : Bool)  : fX1_clear [.ref 17] (cH I J pl st) = some (none, (cH (up2 (up2 I 17 1 (nI 0)) 17 2 (nI 0)) J pl st)) := (mth_eq (M := mX1_clear) (n := 1) rfl).trans ((exK_eq mX1_clear [] 12 _).symm.trans rfl)
set_option maxRecDepth 100000 in
theorem eX1_settingAt (I : Nat → Nat → Int32) (J : Nat → Nat → Int64) (pl st : Bool) (x1 : Int32) : fX1_settingAt [.ref 17, .int x1] (cH I J pl st) = (callK (fJ9_floorMod_7cf53 [.int ((I 17 1) + x1), .int (nI 20)] (cH I J pl st)) (fun r h' => run mX1_settingAt (11, 0, 0, [.ref 17, .int x1, .null], r.toList ++ [], h'))) := (mth_eq (M := mX1_settingAt) (n := 3) rfl).trans ((exK_eq mX1_settingAt [11] 24 _).symm.trans rfl)
set_option maxRecDepth 100000 in
theorem bX1_settingAt_11 (I : Nat → Nat → Int32) (J : Nat → Nat → Int64) (pl st : Bool) (s0 : Int32) (z1 : Value) (z2 : Value) : run mX1_settingAt (11, 0, 0, [.ref 17, z1, z2], [.int s0], (cH I J pl st)) = (if (nI 20) ≤ s0 then some (some (.ref 19), (cH I J pl st)) else (bif inb s0 20 then (if (RX pl st 18 (s0).toNatClampNeg) < 78 then some (some (.ref (RX pl st 18 (s0).toNatClampNeg)), (cH I J pl st)) else none) else none)) := (exK_eq mX1_settingAt [11] 24 _).symm.trans rfl
set_option maxRecDepth 100000 in
theorem eX9_costOf (I : Nat → Nat → Int32) (J : Nat → Nat → Int64) (pl st : Bool) {P : Nat} (hP : P ∈ setL) (x1 : Int32) : fX9_costOf [.ref P, .int x1] (cH I J pl st) = (if x1 < (nI 0) then some (some (.int (nI 0)), (cH I J pl st)) else (if (nI 8) ≤ x1 then some (some (.int (nI 0)), (cH I J pl st)) else (bif inb x1 8 then some (some (.int (I (P + 1) (x1).toNatClampNeg)), (cH I J pl st)) else none))) := by
  simp only [setL, List.mem_cons, List.not_mem_nil, or_false] at hP
  rcases hP with rfl | rfl | rfl | rfl | rfl | rfl | rfl | rfl | rfl | rfl | rfl | rfl | rfl | rfl | rfl | rfl | rfl | rfl | rfl | rfl | rfl | rfl | rfl
  all_goals exact (mth_eq (M := mX9_costOf) (n := 2) rfl).trans ((exK_eq mX9_costOf [] 19 _).symm.trans rfl)
set_option maxRecDepth 100000 in
theorem eX9_copy_to (I : Nat → Nat → Int32) (J : Nat → Nat → Int64) (pl st : Bool) {P : Nat} (hP : P ∈ othL)  : fX9_copy [.ref P, .ref 15] (cH I J pl st) = run mX9_copy (2, 0, 0, [.ref P, .ref 15, .int (nI 0)], [], (cH I J pl st)) := by
  simp only [othL, List.mem_cons, List.not_mem_nil, or_false] at hP
  rcases hP with rfl | rfl | rfl | rfl | rfl | rfl | rfl | rfl | rfl | rfl | rfl | rfl | rfl | rfl | rfl | rfl | rfl | rfl | rfl | rfl | rfl | rfl
  all_goals exact (mth_eq (M := mX9_copy) (n := 3) rfl).trans ((exK_eq mX9_copy [2] 30 _).symm.trans rfl)
set_option maxRecDepth 100000 in
theorem bX9_copy_2_to (I : Nat → Nat → Int32) (J : Nat → Nat → Int64) (pl st : Bool) {P : Nat} (hP : P ∈ othL) (x2 : Int32) : run mX9_copy (2, 0, 0, [.ref P, .ref 15, .int x2], [], (cH I J pl st)) = (if (nI 8) ≤ x2 then some (none, (cH (up2 (up2 I P 1 (I 15 1)) P 2 (I 15 2)) J pl st)) else (callK (fX9_costOf [.ref 15, .int x2] (cH I J pl st)) (fun r h' => run mX9_copy (21, 0, 0, [.ref P, .ref 15, .int x2], r.toList ++ [.int x2, .ref (P + 1)], h')))) := by
  simp only [othL, List.mem_cons, List.not_mem_nil, or_false] at hP
  rcases hP with rfl | rfl | rfl | rfl | rfl | rfl | rfl | rfl | rfl | rfl | rfl | rfl | rfl | rfl | rfl | rfl | rfl | rfl | rfl | rfl | rfl | rfl
  all_goals exact (exK_eq mX9_copy [2, 21] 30 _).symm.trans rfl
set_option maxRecDepth 100000 in
theorem bX9_copy_21_to (I : Nat → Nat → Int32) (J : Nat → Nat → Int64) (pl st : Bool) {P : Nat} (hP : P ∈ othL) (s1 : Int32) (s2 : Int32) (x2 : Int32) : run mX9_copy (21, 0, 0, [.ref P, .ref 15, .int x2], [.int s2, .int s1, .ref (P + 1)], (cH I J pl st)) = (bif inb s1 8 then run mX9_copy (2, 0, 0, [.ref P, .ref 15, .int (x2 + (nI 1))], [], (cH (up2 I (P + 1) (s1).toNatClampNeg s2) J pl st)) else none) := by
  simp only [othL, List.mem_cons, List.not_mem_nil, or_false] at hP
  rcases hP with rfl | rfl | rfl | rfl | rfl | rfl | rfl | rfl | rfl | rfl | rfl | rfl | rfl | rfl | rfl | rfl | rfl | rfl | rfl | rfl | rfl | rfl
  all_goals exact (exK_eq mX9_copy [2, 21] 30 _).symm.trans rfl
set_option maxRecDepth 100000 in
theorem eX9_copy_of (I : Nat → Nat → Int32) (J : Nat → Nat → Int64) (pl st : Bool) {P : Nat} (hP : P ∈ othL)  : fX9_copy [.ref 15, .ref P] (cH I J pl st) = run mX9_copy (2, 0, 0, [.ref 15, .ref P, .int (nI 0)], [], (cH I J pl st)) := by
  simp only [othL, List.mem_cons, List.not_mem_nil, or_false] at hP
  rcases hP with rfl | rfl | rfl | rfl | rfl | rfl | rfl | rfl | rfl | rfl | rfl | rfl | rfl | rfl | rfl | rfl | rfl | rfl | rfl | rfl | rfl | rfl
  all_goals exact (mth_eq (M := mX9_copy) (n := 3) rfl).trans ((exK_eq mX9_copy [2] 30 _).symm.trans rfl)
set_option maxRecDepth 100000 in
theorem bX9_copy_2_of (I : Nat → Nat → Int32) (J : Nat → Nat → Int64) (pl st : Bool) {P : Nat} (hP : P ∈ othL) (x2 : Int32) : run mX9_copy (2, 0, 0, [.ref 15, .ref P, .int x2], [], (cH I J pl st)) = (if (nI 8) ≤ x2 then some (none, (cH (up2 (up2 I 15 1 (I P 1)) 15 2 (I P 2)) J pl st)) else (callK (fX9_costOf [.ref P, .int x2] (cH I J pl st)) (fun r h' => run mX9_copy (21, 0, 0, [.ref 15, .ref P, .int x2], r.toList ++ [.int x2, .ref 16], h')))) := by
  simp only [othL, List.mem_cons, List.not_mem_nil, or_false] at hP
  rcases hP with rfl | rfl | rfl | rfl | rfl | rfl | rfl | rfl | rfl | rfl | rfl | rfl | rfl | rfl | rfl | rfl | rfl | rfl | rfl | rfl | rfl | rfl
  all_goals exact (exK_eq mX9_copy [2, 21] 30 _).symm.trans rfl
set_option maxRecDepth 100000 in
theorem bX9_copy_21_of (I : Nat → Nat → Int32) (J : Nat → Nat → Int64) (pl st : Bool) {P : Nat} (hP : P ∈ othL) (s1 : Int32) (s2 : Int32) (x2 : Int32) : run mX9_copy (21, 0, 0, [.ref 15, .ref P, .int x2], [.int s2, .int s1, .ref 16], (cH I J pl st)) = (bif inb s1 8 then run mX9_copy (2, 0, 0, [.ref 15, .ref P, .int (x2 + (nI 1))], [], (cH (up2 I 16 (s1).toNatClampNeg s2) J pl st)) else none) := by
  simp only [othL, List.mem_cons, List.not_mem_nil, or_false] at hP
  rcases hP with rfl | rfl | rfl | rfl | rfl | rfl | rfl | rfl | rfl | rfl | rfl | rfl | rfl | rfl | rfl | rfl | rfl | rfl | rfl | rfl | rfl | rfl
  all_goals exact (exK_eq mX9_copy [2, 21] 30 _).symm.trans rfl
set_option maxRecDepth 100000 in
theorem eX1_add (I : Nat → Nat → Int32) (J : Nat → Nat → Int64) (pl st : Bool) {P : Nat} (hP : P ∈ hisL)  : fX1_add [.ref 17, .ref 15] (cH I J pl st) = (callK (fX1_settingAt [.ref 17, .int (I 17 2)] (cH I J pl st)) (fun r h' => run mX1_add (8, 0, 0, [.ref 17, .ref 15], r.toList ++ [], h'))) := by
  simp only [hisL, List.mem_cons, List.not_mem_nil, or_false] at hP
  rcases hP with rfl | rfl | rfl | rfl | rfl | rfl | rfl | rfl | rfl | rfl | rfl | rfl | rfl | rfl | rfl | rfl | rfl | rfl | rfl | rfl
  all_goals exact (mth_eq (M := mX1_add) (n := 2) rfl).trans ((exK_eq mX1_add [8] 31 _).symm.trans rfl)
set_option maxRecDepth 100000 in
theorem bX1_add_8 (I : Nat → Nat → Int32) (J : Nat → Nat → Int64) (pl st : Bool) {P : Nat} (hP : P ∈ hisL)  : run mX1_add (8, 0, 0, [.ref 17, .ref 15], [.ref P], (cH I J pl st)) = (callK (fX9_copy [.ref P, .ref 15] (cH I J pl st)) (fun r h' => run mX1_add (12, 0, 0, [.ref 17, .ref 15], r.toList ++ [], h'))) := by
  simp only [hisL, List.mem_cons, List.not_mem_nil, or_false] at hP
  rcases hP with rfl | rfl | rfl | rfl | rfl | rfl | rfl | rfl | rfl | rfl | rfl | rfl | rfl | rfl | rfl | rfl | rfl | rfl | rfl | rfl
  all_goals exact (exK_eq mX1_add [8, 12] 31 _).symm.trans rfl
set_option maxRecDepth 100000 in
theorem bX1_add_12 (I : Nat → Nat → Int32) (J : Nat → Nat → Int64) (pl st : Bool) {P : Nat} (hP : P ∈ hisL) (z1 : Value) : run mX1_add (12, 0, 0, [.ref 17, z1], [], (cH I J pl st)) = (if (nI 20) ≤ (I 17 2) then some (none, (cH (up2 I 17 1 (((I 17 1) + (nI 1)) - ((I 17 1) + (nI 1)) / (nI 20) * (nI 20))) J pl st)) else some (none, (cH (up2 I 17 2 ((I 17 2) + (nI 1))) J pl st))) := by
  simp only [hisL, List.mem_cons, List.not_mem_nil, or_false] at hP
  rcases hP with rfl | rfl | rfl | rfl | rfl | rfl | rfl | rfl | rfl | rfl | rfl | rfl | rfl | rfl | rfl | rfl | rfl | rfl | rfl | rfl
  all_goals exact (exK_eq mX1_add [8, 12] 31 _).symm.trans rfl
set_option maxRecDepth 100000 in
theorem eX1_takeBack (I : Nat → Nat → Int32) (J : Nat → Nat → Int64) (pl st : Bool) {P : Nat} (hP : P ∈ hisL) (x1 : Int32) : fX1_takeBack [.ref 17, .int x1, .ref 15] (cH I J pl st) = (if x1 < (nI 1) then some (none, (cH I J pl st)) else (if x1 ≤ (I 17 2) then (callK (fX1_settingAt [.ref 17, .int ((I 17 2) - x1)] (cH (up2 I 17 2 ((I 17 2) - x1)) J pl st)) (fun r h' => run mX1_takeBack (33, 0, 0, [.ref 17, .int x1, .ref 15], r.toList ++ [.ref 15], h'))) else some (none, (cH I J pl st)))) := by
  simp only [hisL, List.mem_cons, List.not_mem_nil, or_false] at hP
  rcases hP with rfl | rfl | rfl | rfl | rfl | rfl | rfl | rfl | rfl | rfl | rfl | rfl | rfl | rfl | rfl | rfl | rfl | rfl | rfl | rfl
  all_goals exact (mth_eq (M := mX1_takeBack) (n := 3) rfl).trans ((exK_eq mX1_takeBack [33] 26 _).symm.trans rfl)
set_option maxRecDepth 100000 in
theorem bX1_takeBack_33 (I : Nat → Nat → Int32) (J : Nat → Nat → Int64) (pl st : Bool) {P : Nat} (hP : P ∈ hisL) (z0 : Value) (z1 : Value) (z2 : Value) : run mX1_takeBack (33, 0, 0, [z0, z1, z2], [.ref P, .ref 15], (cH I J pl st)) = (callK (fX9_copy [.ref 15, .ref P] (cH I J pl st)) (fun r h' => run mX1_takeBack (36, 0, 0, [.null, .null, .null], r.toList ++ [], h'))) := by
  simp only [hisL, List.mem_cons, List.not_mem_nil, or_false] at hP
  rcases hP with rfl | rfl | rfl | rfl | rfl | rfl | rfl | rfl | rfl | rfl | rfl | rfl | rfl | rfl | rfl | rfl | rfl | rfl | rfl | rfl
  all_goals exact (exK_eq mX1_takeBack [33, 36] 26 _).symm.trans rfl
set_option maxRecDepth 100000 in
theorem bX1_takeBack_36 (I : Nat → Nat → Int32) (J : Nat → Nat → Int64) (pl st : Bool) {P : Nat} (hP : P ∈ hisL) (z0 : Value) (z1 : Value) (z2 : Value) : run mX1_takeBack (36, 0, 0, [z0, z1, z2], [], (cH I J pl st)) = some (none, (cH I J pl st)) := by
  simp only [hisL, List.mem_cons, List.not_mem_nil, or_false] at hP
  rcases hP with rfl | rfl | rfl | rfl | rfl | rfl | rfl | rfl | rfl | rfl | rfl | rfl | rfl | rfl | rfl | rfl | rfl | rfl | rfl | rfl
  all_goals exact (exK_eq mX1_takeBack [33, 36] 26 _).symm.trans rfl
set_option maxRecDepth 100000 in
theorem eX2_hold (I : Nat → Nat → Int32) (J : Nat → Nat → Int64) (pl st : Bool) {P : Nat} (hP : P = 60 ∨ P = 63) (x2 : Int32) : fX2_hold [.ref P, .ref 15, .int x2] (cH I J pl st) = (callK (fX9_copy [.ref (P + 1), .ref 15] (cH I J pl st)) (fun r h' => run mX2_hold (8, 0, 0, [.ref P, .ref 15, .int x2], r.toList ++ [], h'))) := by
  rcases hP with rfl | rfl
  all_goals exact (mth_eq (M := mX2_hold) (n := 3) rfl).trans ((exK_eq mX2_hold [8] 16 _).symm.trans rfl)
set_option maxRecDepth 100000 in
theorem bX2_hold_8 (I : Nat → Nat → Int32) (J : Nat → Nat → Int64) (pl st : Bool) {P : Nat} (hP : P = 60 ∨ P = 63) (x2 : Int32) (z1 : Value) : run mX2_hold (8, 0, 0, [.ref P, z1, .int x2], [], (cH I J pl st)) = some (none, (cH (up2 (up2 I P 1 x2) P 2 (nI 1)) J pl st)) := by
  rcases hP with rfl | rfl
  all_goals exact (exK_eq mX2_hold [8] 16 _).symm.trans rfl
set_option maxRecDepth 100000 in
theorem eX8_giftOf (I : Nat → Nat → Int32) (J : Nat → Nat → Int64) (pl st : Bool) (x0 : Int32) (x1 : Int32) : fX8_giftOf [.int x0, .int x1] (cH I J pl st) = some (some (.int ((x0 * (nI 8)) + x1)), (cH I J pl st)) := (mth_eq (M := mX8_giftOf) (n := 2) rfl).trans ((exK_eq mX8_giftOf [] 11 _).symm.trans rfl)
set_option maxRecDepth 100000 in
theorem eX8_countWith (I : Nat → Nat → Int32) (J : Nat → Nat → Int64) (pl st : Bool) (x1 : Int32) (x2 : Int32) : fX8_countWith [.ref 10, .int x1, .int x2] (cH I J pl st) = (callK (fX8_giftOf [.int x1, .int x2] (cH I J pl st)) (fun r h' => run mX8_countWith (5, 0, 0, [.ref 10, .int x1, .int x2, .null], r.toList ++ [], h'))) := (mth_eq (M := mX8_countWith) (n := 4) rfl).trans ((exK_eq mX8_countWith [5] 23 _).symm.trans rfl)
set_option maxRecDepth 100000 in
theorem bX8_countWith_5 (I : Nat → Nat → Int32) (J : Nat → Nat → Int64) (pl st : Bool) (s0 : Int32) (z1 : Value) (z2 : Value) (z3 : Value) : run mX8_countWith (5, 0, 0, [.ref 10, z1, z2, z3], [.int s0], (cH I J pl st)) = (if s0 < (nI 0) then some (some (.int (nI 0)), (cH I J pl st)) else (if (nI 64) ≤ s0 then some (some (.int (nI 0)), (cH I J pl st)) else (bif inb s0 64 then some (some (.int (I 12 (s0).toNatClampNeg)), (cH I J pl st)) else none))) := (exK_eq mX8_countWith [5] 23 _).symm.trans rfl
set_option maxRecDepth 100000 in
theorem eX6_cellOf (I : Nat → Nat → Int32) (J : Nat → Nat → Int64) (pl st : Bool) {P : Nat} (hP : P = 4 ∨ P = 7) (x1 : Int32) : fX6_cellOf [.ref P, .int x1] (cH I J pl st) = (if x1 < (nI 0) then some (some (.int (Int32.ofInt (-1))), (cH I J pl st)) else (if (nI 8) ≤ x1 then some (some (.int (Int32.ofInt (-1))), (cH I J pl st)) else (bif inb x1 8 then some (some (.int (I (P + 2) (x1).toNatClampNeg)), (cH I J pl st)) else none))) := by
  rcases hP with rfl | rfl
  all_goals exact (mth_eq (M := mX6_cellOf) (n := 2) rfl).trans ((exK_eq mX6_cellOf [] 19 _).symm.trans rfl)
set_option maxRecDepth 100000 in
theorem eX6_isWriter (I : Nat → Nat → Int32) (J : Nat → Nat → Int64) (pl st : Bool) {P : Nat} (hP : P = 4 ∨ P = 7) (x1 : Int32) : fX6_isWriter [.ref P, .int x1] (cH I J pl st) = (if x1 < (nI 0) then some (some (.int (nI 0)), (cH I J pl st)) else (if (nI 8) ≤ x1 then some (some (.int (nI 0)), (cH I J pl st)) else (if (((Int32.toUInt32 (I P 4) >>> (Int32.toUInt32 x1 &&& Int32.toUInt32 31)).toInt32) &&& (nI 1)) = (nI 0) then some (some (.int (nI 0)), (cH I J pl st)) else some (some (.int (nI 1)), (cH I J pl st))))) := by
  rcases hP with rfl | rfl
  all_goals exact (mth_eq (M := mX6_isWriter) (n := 2) rfl).trans ((exK_eq mX6_isWriter [] 21 _).symm.trans rfl)
set_option maxRecDepth 100000 in
theorem eX6_kindOf (I : Nat → Nat → Int32) (J : Nat → Nat → Int64) (pl st : Bool) {P : Nat} (hP : P = 4 ∨ P = 7) (x1 : Int32) (x2 : Int32) : fX6_kindOf [.ref P, .int x1, .int x2] (cH I J pl st) = (callK (fX6_isWriter [.ref P, .int x1] (cH I J pl st)) (fun r h' => run mX6_kindOf (5, 0, 0, [.ref P, .int x1, .int x2], r.toList ++ [], h'))) := by
  rcases hP with rfl | rfl
  all_goals exact (mth_eq (M := mX6_kindOf) (n := 3) rfl).trans ((exK_eq mX6_kindOf [5] 25 _).symm.trans rfl)
set_option maxRecDepth 100000 in
theorem bX6_kindOf_5 (I : Nat → Nat → Int32) (J : Nat → Nat → Int64) (pl st : Bool) {P : Nat} (hP : P = 4 ∨ P = 7) (s0 : Int32) (x2 : Int32) (z1 : Value) : run mX6_kindOf (5, 0, 0, [.ref P, z1, .int x2], [.int s0], (cH I J pl st)) = (if s0 = (nI 0) then (callK (fX6_isWriter [.ref P, .int x2] (cH I J pl st)) (fun r h' => run mX6_kindOf (27, 0, 0, [.ref P, .null, .int x2], r.toList ++ [], h'))) else (callK (fX6_isWriter [.ref P, .int x2] (cH I J pl st)) (fun r h' => run mX6_kindOf (13, 0, 0, [.ref P, .null, .int x2], r.toList ++ [], h')))) := by
  rcases hP with rfl | rfl
  all_goals exact (exK_eq mX6_kindOf [5, 13, 27] 25 _).symm.trans rfl
set_option maxRecDepth 100000 in
theorem bX6_kindOf_27 (I : Nat → Nat → Int32) (J : Nat → Nat → Int64) (pl st : Bool) {P : Nat} (hP : P = 4 ∨ P = 7) (s0 : Int32) (z0 : Value) (z1 : Value) (z2 : Value) : run mX6_kindOf (27, 0, 0, [z0, z1, z2], [.int s0], (cH I J pl st)) = (if s0 = (nI 0) then some (some (.int (nI 2)), (cH I J pl st)) else some (some (.int (nI 3)), (cH I J pl st))) := by
  rcases hP with rfl | rfl
  all_goals exact (exK_eq mX6_kindOf [5, 13, 27] 25 _).symm.trans rfl
set_option maxRecDepth 100000 in
theorem bX6_kindOf_13 (I : Nat → Nat → Int32) (J : Nat → Nat → Int64) (pl st : Bool) {P : Nat} (hP : P = 4 ∨ P = 7) (s0 : Int32) (z0 : Value) (z1 : Value) (z2 : Value) : run mX6_kindOf (13, 0, 0, [z0, z1, z2], [.int s0], (cH I J pl st)) = (if s0 = (nI 0) then some (some (.int (nI 0)), (cH I J pl st)) else some (some (.int (nI 1)), (cH I J pl st))) := by
  rcases hP with rfl | rfl
  all_goals exact (exK_eq mX6_kindOf [5, 13, 27] 25 _).symm.trans rfl
set_option maxRecDepth 100000 in
theorem eX6_mayOvertake (I : Nat → Nat → Int32) (J : Nat → Nat → Int64) (pl st : Bool) {P : Nat} (hP : P = 4 ∨ P = 7) (x1 : Int32) (x2 : Int32) (x3 : Int32) : fX6_mayOvertake [.ref P, .int x1, .int x2, .int x3] (cH I J pl st) = (callK (fX6_cellOf [.ref P, .int x1] (cH I J pl st)) (fun r h' => run mX6_mayOvertake (5, 0, 0, [.ref P, .int x1, .int x2, .int x3], r.toList ++ [], h'))) := by
  rcases hP with rfl | rfl
  all_goals exact (mth_eq (M := mX6_mayOvertake) (n := 4) rfl).trans ((exK_eq mX6_mayOvertake [5] 23 _).symm.trans rfl)
set_option maxRecDepth 100000 in
theorem bX6_mayOvertake_5 (I : Nat → Nat → Int32) (J : Nat → Nat → Int64) (pl st : Bool) {P : Nat} (hP : P = 4 ∨ P = 7) (s0 : Int32) (x1 : Int32) (x2 : Int32) (x3 : Int32) : run mX6_mayOvertake (5, 0, 0, [.ref P, .int x1, .int x2, .int x3], [.int s0], (cH I J pl st)) = (callK (fX6_cellOf [.ref P, .int x2] (cH I J pl st)) (fun r h' => run mX6_mayOvertake (10, 0, 0, [.ref P, .int x1, .int x2, .int x3], r.toList ++ [.int s0], h'))) := by
  rcases hP with rfl | rfl
  all_goals exact (exK_eq mX6_mayOvertake [5, 10] 23 _).symm.trans rfl
set_option maxRecDepth 100000 in
theorem bX6_mayOvertake_10 (I : Nat → Nat → Int32) (J : Nat → Nat → Int64) (pl st : Bool) {P : Nat} (hP : P = 4 ∨ P = 7) (s0 : Int32) (s1 : Int32) (x1 : Int32) (x2 : Int32) (x3 : Int32) : run mX6_mayOvertake (10, 0, 0, [.ref P, .int x1, .int x2, .int x3], [.int s1, .int s0], (cH I J pl st)) = (if s0 = s1 then some (some (.int (nI 0)), (cH I J pl st)) else (callK (fX6_kindOf [.ref P, .int x1, .int x2] (cH I J pl st)) (fun r h' => run mX6_mayOvertake (20, 0, 0, [.ref P, .int x1, .int x2, .int x3], r.toList ++ [.int x3], h')))) := by
  rcases hP with rfl | rfl
  all_goals exact (exK_eq mX6_mayOvertake [5, 10, 20] 23 _).symm.trans rfl
set_option maxRecDepth 100000 in
theorem bX6_mayOvertake_20 (I : Nat → Nat → Int32) (J : Nat → Nat → Int64) (pl st : Bool) {P : Nat} (hP : P = 4 ∨ P = 7) (s0 : Int32) (s1 : Int32) (z0 : Value) (z1 : Value) (z2 : Value) (z3 : Value) : run mX6_mayOvertake (20, 0, 0, [z0, z1, z2, z3], [.int s1, .int s0], (cH I J pl st)) = (callK (fX11_has [.int s0, .int s1] (cH I J pl st)) (fun r h' => run mX6_mayOvertake (23, 0, 0, [.null, .null, .null, .null], r.toList ++ [], h'))) := by
  rcases hP with rfl | rfl
  all_goals exact (exK_eq mX6_mayOvertake [5, 10, 20, 23] 23 _).symm.trans rfl
set_option maxRecDepth 100000 in
theorem bX6_mayOvertake_23 (I : Nat → Nat → Int32) (J : Nat → Nat → Int64) (pl st : Bool) {P : Nat} (hP : P = 4 ∨ P = 7) (s0 : Int32) (z0 : Value) (z1 : Value) (z2 : Value) (z3 : Value) : run mX6_mayOvertake (23, 0, 0, [z0, z1, z2, z3], [.int s0], (cH I J pl st)) = (if s0 = (nI 0) then some (some (.int (nI 0)), (cH I J pl st)) else some (some (.int (nI 1)), (cH I J pl st))) := by
  rcases hP with rfl | rfl
  all_goals exact (exK_eq mX6_mayOvertake [5, 10, 20, 23] 23 _).symm.trans rfl
set_option maxRecDepth 100000 in
theorem eX11_gapsBetween (I : Nat → Nat → Int32) (J : Nat → Nat → Int64) (pl st : Bool) (x0 : Int32) (x1 : Int32) : fX11_gapsBetween [.int x0, .int x1] (cH I J pl st) = run mX11_gapsBetween (6, 0, 0, [.int x0, .int x1, .int (nI 0), .int (x0 + (nI 1))], [], (cH I J pl st)) := (mth_eq (M := mX11_gapsBetween) (n := 4) rfl).trans ((exK_eq mX11_gapsBetween [6] 27 _).symm.trans rfl)
set_option maxRecDepth 100000 in
theorem bX11_gapsBetween_6 (I : Nat → Nat → Int32) (J : Nat → Nat → Int64) (pl st : Bool) (x1 : Int32) (x2 : Int32) (x3 : Int32) (z0 : Value) : run mX11_gapsBetween (6, 0, 0, [z0, .int x1, .int x2, .int x3], [], (cH I J pl st)) = (if x1 < x3 then some (some (.int x2), (cH I J pl st)) else (if (nI 8) ≤ x3 then some (some (.int x2), (cH I J pl st)) else run mX11_gapsBetween (6, 0, 0, [.null, .int x1, .int (x2 ||| ((nI 1) <<< (x3 &&& 31))), .int (x3 + (nI 1))], [], (cH I J pl st)))) := (exK_eq mX11_gapsBetween [6] 27 _).symm.trans rfl
set_option maxRecDepth 100000 in
theorem eX3_add (I : Nat → Nat → Int32) (J : Nat → Nat → Int64) (pl st : Bool) (x1 : Int32) : fX3_add [.ref 13, .int x1] (cH I J pl st) = (if (I 13 1) < (nI 0) then some (none, (cH I J pl st)) else (if (nI 28) ≤ (I 13 1) then some (none, (cH I J pl st)) else (bif inb (I 13 1) 28 then some (none, (cH (up2 (up2 I 14 ((I 13 1)).toNatClampNeg x1) 13 1 ((I 13 1) + (nI 1))) J pl st)) else none))) := (mth_eq (M := mX3_add) (n := 2) rfl).trans ((exK_eq mX3_add [] 27 _).symm.trans rfl)
set_option maxRecDepth 100000 in
theorem eX3_gather (I : Nat → Nat → Int32) (J : Nat → Nat → Int64) (pl st : Bool) {P : Nat} (hP : P = 4 ∨ P = 7) (x3 : Int32) : fX3_gather [.ref 13, .ref P, .ref 10, .int x3] (cH I J pl st) = run mX3_gather (8, 0, 0, [.ref 13, .ref P, .ref 10, .int x3, .int (nI 0), .null], [], (cH (up2 I 13 1 (nI 0)) J pl st)) := by
  rcases hP with rfl | rfl
  all_goals exact (mth_eq (M := mX3_gather) (n := 6) rfl).trans ((exK_eq mX3_gather [8, 23] 43 _).symm.trans rfl)
set_option maxRecDepth 100000 in
theorem bX3_gather_8 (I : Nat → Nat → Int32) (J : Nat → Nat → Int64) (pl st : Bool) {P : Nat} (hP : P = 4 ∨ P = 7) (x3 : Int32) (x4 : Int32) (z5 : Value) : run mX3_gather (8, 0, 0, [.ref 13, .ref P, .ref 10, .int x3, .int x4, z5], [], (cH I J pl st)) = (if (I P 3) ≤ x4 then some (none, (cH I J pl st)) else run mX3_gather (23, 0, 0, [.ref 13, .ref P, .ref 10, .int x3, .int x4, .int (x4 + (nI 1))], [], (cH I J pl st))) := by
  rcases hP with rfl | rfl
  all_goals exact (exK_eq mX3_gather [8, 23] 43 _).symm.trans rfl
set_option maxRecDepth 100000 in
theorem bX3_gather_23 (I : Nat → Nat → Int32) (J : Nat → Nat → Int64) (pl st : Bool) {P : Nat} (hP : P = 4 ∨ P = 7) (x3 : Int32) (x4 : Int32) (x5 : Int32) : run mX3_gather (23, 0, 0, [.ref 13, .ref P, .ref 10, .int x3, .int x4, .int x5], [], (cH I J pl st)) = (if (I P 3) ≤ x5 then run mX3_gather (8, 0, 0, [.ref 13, .ref P, .ref 10, .int x3, .int (x4 + (nI 1)), .int x5], [], (cH I J pl st)) else (callK (fX8_countWith [.ref 10, .int x4, .int x5] (cH I J pl st)) (fun r h' => run mX3_gather (40, 0, 0, [.ref 13, .ref P, .ref 10, .int x3, .int x4, .int x5], r.toList ++ [], h')))) := by
  rcases hP with rfl | rfl
  all_goals exact (exK_eq mX3_gather [8, 23, 40] 43 _).symm.trans rfl
set_option maxRecDepth 100000 in
theorem bX3_gather_40 (I : Nat → Nat → Int32) (J : Nat → Nat → Int64) (pl st : Bool) {P : Nat} (hP : P = 4 ∨ P = 7) (s0 : Int32) (x3 : Int32) (x4 : Int32) (x5 : Int32) : run mX3_gather (40, 0, 0, [.ref 13, .ref P, .ref 10, .int x3, .int x4, .int x5], [.int s0], (cH I J pl st)) = (if s0 ≤ (nI 0) then run mX3_gather (23, 0, 0, [.ref 13, .ref P, .ref 10, .int x3, .int x4, .int (x5 + (nI 1))], [], (cH I J pl st)) else (callK (fX6_mayOvertake [.ref P, .int x4, .int x5, .int x3] (cH I J pl st)) (fun r h' => run mX3_gather (52, 0, 0, [.ref 13, .ref P, .ref 10, .int x3, .int x4, .int x5], r.toList ++ [], h')))) := by
  rcases hP with rfl | rfl
  all_goals exact (exK_eq mX3_gather [8, 23, 40, 52] 43 _).symm.trans rfl
set_option maxRecDepth 100000 in
theorem bX3_gather_52 (I : Nat → Nat → Int32) (J : Nat → Nat → Int64) (pl st : Bool) {P : Nat} (hP : P = 4 ∨ P = 7) (s0 : Int32) (x3 : Int32) (x4 : Int32) (x5 : Int32) : run mX3_gather (52, 0, 0, [.ref 13, .ref P, .ref 10, .int x3, .int x4, .int x5], [.int s0], (cH I J pl st)) = (if s0 = (nI 0) then run mX3_gather (23, 0, 0, [.ref 13, .ref P, .ref 10, .int x3, .int x4, .int (x5 + (nI 1))], [], (cH I J pl st)) else (callK (fX11_gapsBetween [.int x4, .int x5] (cH I J pl st)) (fun r h' => run mX3_gather (63, 0, 0, [.ref 13, .ref P, .ref 10, .int x3, .int x4, .int x5], r.toList ++ [.ref 13], h')))) := by
  rcases hP with rfl | rfl
  all_goals exact (exK_eq mX3_gather [8, 23, 40, 52, 63] 43 _).symm.trans rfl
set_option maxRecDepth 100000 in
theorem bX3_gather_63 (I : Nat → Nat → Int32) (J : Nat → Nat → Int64) (pl st : Bool) {P : Nat} (hP : P = 4 ∨ P = 7) (s1 : Int32) (x3 : Int32) (x4 : Int32) (x5 : Int32) : run mX3_gather (63, 0, 0, [.ref 13, .ref P, .ref 10, .int x3, .int x4, .int x5], [.int s1, .ref 13], (cH I J pl st)) = (callK (fX3_add [.ref 13, .int s1] (cH I J pl st)) (fun r h' => run mX3_gather (66, 0, 0, [.ref 13, .ref P, .ref 10, .int x3, .int x4, .int x5], r.toList ++ [], h'))) := by
  rcases hP with rfl | rfl
  all_goals exact (exK_eq mX3_gather [8, 23, 40, 52, 63, 66] 43 _).symm.trans rfl
set_option maxRecDepth 100000 in
theorem bX3_gather_66 (I : Nat → Nat → Int32) (J : Nat → Nat → Int64) (pl st : Bool) {P : Nat} (hP : P = 4 ∨ P = 7) (x3 : Int32) (x4 : Int32) (x5 : Int32) : run mX3_gather (66, 0, 0, [.ref 13, .ref P, .ref 10, .int x3, .int x4, .int x5], [], (cH I J pl st)) = run mX3_gather (23, 0, 0, [.ref 13, .ref P, .ref 10, .int x3, .int x4, .int (x5 + (nI 1))], [], (cH I J pl st)) := by
  rcases hP with rfl | rfl
  all_goals exact (exK_eq mX3_gather [8, 23, 40, 52, 63, 66] 43 _).symm.trans rfl
set_option maxRecDepth 100000 in
theorem eX3_holdersAt (I : Nat → Nat → Int32) (J : Nat → Nat → Int64) (pl st : Bool) (x1 : Int32) : fX3_holdersAt [.ref 13, .int x1] (cH I J pl st) = (if x1 < (nI 0) then some (some (.int (nI 0)), (cH I J pl st)) else (if (nI 28) ≤ x1 then some (some (.int (nI 0)), (cH I J pl st)) else (bif inb x1 28 then some (some (.int (I 14 (x1).toNatClampNeg)), (cH I J pl st)) else none))) := (mth_eq (M := mX3_holdersAt) (n := 2) rfl).trans ((exK_eq mX3_holdersAt [] 19 _).symm.trans rfl)
set_option maxRecDepth 100000 in
theorem eX3_countHeld (I : Nat → Nat → Int32) (J : Nat → Nat → Int64) (pl st : Bool) (x1 : Int32) : fX3_countHeld [.ref 13, .int x1] (cH I J pl st) = run mX3_countHeld (4, 0, 0, [.ref 13, .int x1, .int (nI 0), .int (nI 0)], [], (cH I J pl st)) := (mth_eq (M := mX3_countHeld) (n := 4) rfl).trans ((exK_eq mX3_countHeld [4] 24 _).symm.trans rfl)
set_option maxRecDepth 100000 in
theorem bX3_countHeld_4 (I : Nat → Nat → Int32) (J : Nat → Nat → Int64) (pl st : Bool) (x1 : Int32) (x2 : Int32) (x3 : Int32) : run mX3_countHeld (4, 0, 0, [.ref 13, .int x1, .int x2, .int x3], [], (cH I J pl st)) = (if (I 13 1) ≤ x3 then some (some (.int x2), (cH I J pl st)) else (callK (fX3_holdersAt [.ref 13, .int x3] (cH I J pl st)) (fun r h' => run mX3_countHeld (17, 0, 0, [.ref 13, .int x1, .int x2, .int x3], r.toList ++ [], h')))) := (exK_eq mX3_countHeld [4, 17] 24 _).symm.trans rfl
set_option maxRecDepth 100000 in
theorem bX3_countHeld_17 (I : Nat → Nat → Int32) (J : Nat → Nat → Int64) (pl st : Bool) (s0 : Int32) (x1 : Int32) (x2 : Int32) (x3 : Int32) : run mX3_countHeld (17, 0, 0, [.ref 13, .int x1, .int x2, .int x3], [.int s0], (cH I J pl st)) = (if (s0 &&& x1) = (nI 0) then run mX3_countHeld (4, 0, 0, [.ref 13, .int x1, .int x2, .int (x3 + (nI 1))], [], (cH I J pl st)) else run mX3_countHeld (4, 0, 0, [.ref 13, .int x1, .int (x2 + (nI 1)), .int (x3 + (nI 1))], [], (cH I J pl st))) := (exK_eq mX3_countHeld [4, 17] 24 _).symm.trans rfl
set_option maxRecDepth 100000 in
theorem eX3_areAllHeld (I : Nat → Nat → Int32) (J : Nat → Nat → Int64) (pl st : Bool) (x1 : Int32) : fX3_areAllHeld [.ref 13, .int x1] (cH I J pl st) = (callK (fX3_countHeld [.ref 13, .int x1] (cH I J pl st)) (fun r h' => run mX3_areAllHeld (5, 0, 0, [.ref 13, .int x1], r.toList ++ [], h'))) := (mth_eq (M := mX3_areAllHeld) (n := 2) rfl).trans ((exK_eq mX3_areAllHeld [5] 15 _).symm.trans rfl)
set_option maxRecDepth 100000 in
theorem bX3_areAllHeld_5 (I : Nat → Nat → Int32) (J : Nat → Nat → Int64) (pl st : Bool) (s0 : Int32) (z1 : Value) : run mX3_areAllHeld (5, 0, 0, [.ref 13, z1], [.int s0], (cH I J pl st)) = (if s0 = (I 13 1) then some (some (.int (nI 1)), (cH I J pl st)) else some (some (.int (nI 0)), (cH I J pl st))) := (exK_eq mX3_areAllHeld [5] 15 _).symm.trans rfl
set_option maxRecDepth 100000 in
theorem eJ6_bitCount_0f7a4 (I : Nat → Nat → Int32) (J : Nat → Nat → Int64) (pl st : Bool) (x0 : Int32) : fJ6_bitCount_0f7a4 [.int x0] (cH I J pl st) = some (some (.int ((((((((x0 - (((Int32.toUInt32 x0 >>> (Int32.toUInt32 (nI 1) &&& Int32.toUInt32 31)).toInt32) &&& (nI 1431655765))) &&& (nI 858993459)) + (((Int32.toUInt32 (x0 - (((Int32.toUInt32 x0 >>> (Int32.toUInt32 (nI 1) &&& Int32.toUInt32 31)).toInt32) &&& (nI 1431655765))) >>> (Int32.toUInt32 (nI 2) &&& Int32.toUInt32 31)).toInt32) &&& (nI 858993459))) + ((Int32.toUInt32 (((x0 - (((Int32.toUInt32 x0 >>> (Int32.toUInt32 (nI 1) &&& Int32.toUInt32 31)).toInt32) &&& (nI 1431655765))) &&& (nI 858993459)) + (((Int32.toUInt32 (x0 - (((Int32.toUInt32 x0 >>> (Int32.toUInt32 (nI 1) &&& Int32.toUInt32 31)).toInt32) &&& (nI 1431655765))) >>> (Int32.toUInt32 (nI 2) &&& Int32.toUInt32 31)).toInt32) &&& (nI 858993459))) >>> (Int32.toUInt32 (nI 4) &&& Int32.toUInt32 31)).toInt32)) &&& (nI 252645135)) + ((Int32.toUInt32 (((((x0 - (((Int32.toUInt32 x0 >>> (Int32.toUInt32 (nI 1) &&& Int32.toUInt32 31)).toInt32) &&& (nI 1431655765))) &&& (nI 858993459)) + (((Int32.toUInt32 (x0 - (((Int32.toUInt32 x0 >>> (Int32.toUInt32 (nI 1) &&& Int32.toUInt32 31)).toInt32) &&& (nI 1431655765))) >>> (Int32.toUInt32 (nI 2) &&& Int32.toUInt32 31)).toInt32) &&& (nI 858993459))) + ((Int32.toUInt32 (((x0 - (((Int32.toUInt32 x0 >>> (Int32.toUInt32 (nI 1) &&& Int32.toUInt32 31)).toInt32) &&& (nI 1431655765))) &&& (nI 858993459)) + (((Int32.toUInt32 (x0 - (((Int32.toUInt32 x0 >>> (Int32.toUInt32 (nI 1) &&& Int32.toUInt32 31)).toInt32) &&& (nI 1431655765))) >>> (Int32.toUInt32 (nI 2) &&& Int32.toUInt32 31)).toInt32) &&& (nI 858993459))) >>> (Int32.toUInt32 (nI 4) &&& Int32.toUInt32 31)).toInt32)) &&& (nI 252645135)) >>> (Int32.toUInt32 (nI 8) &&& Int32.toUInt32 31)).toInt32)) + ((Int32.toUInt32 ((((((x0 - (((Int32.toUInt32 x0 >>> (Int32.toUInt32 (nI 1) &&& Int32.toUInt32 31)).toInt32) &&& (nI 1431655765))) &&& (nI 858993459)) + (((Int32.toUInt32 (x0 - (((Int32.toUInt32 x0 >>> (Int32.toUInt32 (nI 1) &&& Int32.toUInt32 31)).toInt32) &&& (nI 1431655765))) >>> (Int32.toUInt32 (nI 2) &&& Int32.toUInt32 31)).toInt32) &&& (nI 858993459))) + ((Int32.toUInt32 (((x0 - (((Int32.toUInt32 x0 >>> (Int32.toUInt32 (nI 1) &&& Int32.toUInt32 31)).toInt32) &&& (nI 1431655765))) &&& (nI 858993459)) + (((Int32.toUInt32 (x0 - (((Int32.toUInt32 x0 >>> (Int32.toUInt32 (nI 1) &&& Int32.toUInt32 31)).toInt32) &&& (nI 1431655765))) >>> (Int32.toUInt32 (nI 2) &&& Int32.toUInt32 31)).toInt32) &&& (nI 858993459))) >>> (Int32.toUInt32 (nI 4) &&& Int32.toUInt32 31)).toInt32)) &&& (nI 252645135)) + ((Int32.toUInt32 (((((x0 - (((Int32.toUInt32 x0 >>> (Int32.toUInt32 (nI 1) &&& Int32.toUInt32 31)).toInt32) &&& (nI 1431655765))) &&& (nI 858993459)) + (((Int32.toUInt32 (x0 - (((Int32.toUInt32 x0 >>> (Int32.toUInt32 (nI 1) &&& Int32.toUInt32 31)).toInt32) &&& (nI 1431655765))) >>> (Int32.toUInt32 (nI 2) &&& Int32.toUInt32 31)).toInt32) &&& (nI 858993459))) + ((Int32.toUInt32 (((x0 - (((Int32.toUInt32 x0 >>> (Int32.toUInt32 (nI 1) &&& Int32.toUInt32 31)).toInt32) &&& (nI 1431655765))) &&& (nI 858993459)) + (((Int32.toUInt32 (x0 - (((Int32.toUInt32 x0 >>> (Int32.toUInt32 (nI 1) &&& Int32.toUInt32 31)).toInt32) &&& (nI 1431655765))) >>> (Int32.toUInt32 (nI 2) &&& Int32.toUInt32 31)).toInt32) &&& (nI 858993459))) >>> (Int32.toUInt32 (nI 4) &&& Int32.toUInt32 31)).toInt32)) &&& (nI 252645135)) >>> (Int32.toUInt32 (nI 8) &&& Int32.toUInt32 31)).toInt32)) >>> (Int32.toUInt32 (nI 16) &&& Int32.toUInt32 31)).toInt32)) &&& (nI 63))), (cH I J pl st)) := (mth_eq (M := mJ6_bitCount_0f7a4) (n := 1) rfl).trans ((exK_eq mJ6_bitCount_0f7a4 [] 47 _).symm.trans rfl)
set_option maxRecDepth 100000 in
theorem eX3_neededOf (I : Nat → Nat → Int32) (J : Nat → Nat → Int64) (pl st : Bool) (x1 : Int32) : fX3_neededOf [.ref 13, .int x1] (cH I J pl st) = run mX3_neededOf (4, 0, 0, [.ref 13, .int x1, .int (nI 0), .int (nI 0), .null], [], (cH I J pl st)) := (mth_eq (M := mX3_neededOf) (n := 5) rfl).trans ((exK_eq mX3_neededOf [4] 31 _).symm.trans rfl)
set_option maxRecDepth 100000 in
theorem bX3_neededOf_4 (I : Nat → Nat → Int32) (J : Nat → Nat → Int64) (pl st : Bool) (x1 : Int32) (x2 : Int32) (x3 : Int32) (z4 : Value) : run mX3_neededOf (4, 0, 0, [.ref 13, .int x1, .int x2, .int x3, z4], [], (cH I J pl st)) = (if (I 13 1) ≤ x3 then some (some (.int x2), (cH I J pl st)) else (callK (fX3_holdersAt [.ref 13, .int x3] (cH I J pl st)) (fun r h' => run mX3_neededOf (17, 0, 0, [.ref 13, .int x1, .int x2, .int x3, .null], r.toList ++ [], h')))) := (exK_eq mX3_neededOf [4, 17] 31 _).symm.trans rfl
set_option maxRecDepth 100000 in
theorem bX3_neededOf_17 (I : Nat → Nat → Int32) (J : Nat → Nat → Int64) (pl st : Bool) (s0 : Int32) (x1 : Int32) (x2 : Int32) (x3 : Int32) (z4 : Value) : run mX3_neededOf (17, 0, 0, [.ref 13, .int x1, .int x2, .int x3, z4], [.int s0], (cH I J pl st)) = (callK (fJ6_bitCount_0f7a4 [.int (s0 &&& x1)] (cH I J pl st)) (fun r h' => run mX3_neededOf (26, 0, 0, [.ref 13, .int x1, .int x2, .int x3, .int (s0 &&& x1)], r.toList ++ [], h'))) := (exK_eq mX3_neededOf [4, 17, 26] 31 _).symm.trans rfl
set_option maxRecDepth 100000 in
theorem bX3_neededOf_26 (I : Nat → Nat → Int32) (J : Nat → Nat → Int64) (pl st : Bool) (s0 : Int32) (x1 : Int32) (x2 : Int32) (x3 : Int32) (x4 : Int32) : run mX3_neededOf (26, 0, 0, [.ref 13, .int x1, .int x2, .int x3, .int x4], [.int s0], (cH I J pl st)) = (if s0 = (nI 1) then run mX3_neededOf (4, 0, 0, [.ref 13, .int x1, .int (x2 ||| x4), .int (x3 + (nI 1)), .int x4], [], (cH I J pl st)) else run mX3_neededOf (4, 0, 0, [.ref 13, .int x1, .int x2, .int (x3 + (nI 1)), .int x4], [], (cH I J pl st))) := (exK_eq mX3_neededOf [4, 17, 26] 31 _).symm.trans rfl
set_option maxRecDepth 100000 in
theorem eX9_costOfSet (I : Nat → Nat → Int32) (J : Nat → Nat → Int64) (pl st : Bool) (x1 : Int32) : fX9_costOfSet [.ref 15, .int x1] (cH I J pl st) = run mX9_costOfSet (4, 0, 0, [.ref 15, .int x1, .int (nI 0), .int (nI 0)], [], (cH I J pl st)) := (mth_eq (M := mX9_costOfSet) (n := 4) rfl).trans ((exK_eq mX9_costOfSet [4] 29 _).symm.trans rfl)
set_option maxRecDepth 100000 in
theorem bX9_costOfSet_4 (I : Nat → Nat → Int32) (J : Nat → Nat → Int64) (pl st : Bool) (x1 : Int32) (x2 : Int32) (x3 : Int32) : run mX9_costOfSet (4, 0, 0, [.ref 15, .int x1, .int x2, .int x3], [], (cH I J pl st)) = (if (nI 8) ≤ x3 then some (some (.int x2), (cH I J pl st)) else (callK (fX11_has [.int x1, .int x3] (cH I J pl st)) (fun r h' => run mX9_costOfSet (18, 0, 0, [.ref 15, .int x1, .int x2, .int x3], r.toList ++ [], h')))) := (exK_eq mX9_costOfSet [4, 18] 29 _).symm.trans rfl
set_option maxRecDepth 100000 in
theorem bX9_costOfSet_18 (I : Nat → Nat → Int32) (J : Nat → Nat → Int64) (pl st : Bool) (s0 : Int32) (x1 : Int32) (x2 : Int32) (x3 : Int32) : run mX9_costOfSet (18, 0, 0, [.ref 15, .int x1, .int x2, .int x3], [.int s0], (cH I J pl st)) = (if s0 = (nI 0) then run mX9_costOfSet (4, 0, 0, [.ref 15, .int x1, .int x2, .int (x3 + (nI 1))], [], (cH I J pl st)) else (bif inb x3 8 then run mX9_costOfSet (4, 0, 0, [.ref 15, .int x1, .int (x2 + (I 16 (x3).toNatClampNeg)), .int (x3 + (nI 1))], [], (cH I J pl st)) else none)) := (exK_eq mX9_costOfSet [4, 18] 29 _).symm.trans rfl
set_option maxRecDepth 100000 in
theorem eX3_cheapestSet (I : Nat → Nat → Int32) (J : Nat → Nat → Int64) (pl st : Bool) (x1 : Int32) : fX3_cheapestSet [.ref 13, .int x1, .ref 15] (cH I J pl st) = (callK (fX9_costOfSet [.ref 15, .int x1] (cH I J pl st)) (fun r h' => run mX3_cheapestSet (7, 0, 0, [.ref 13, .int x1, .ref 15, .int x1, .null, .null], r.toList ++ [], h'))) := (mth_eq (M := mX3_cheapestSet) (n := 6) rfl).trans ((exK_eq mX3_cheapestSet [7, 12] 41 _).symm.trans rfl)
set_option maxRecDepth 100000 in
theorem bX3_cheapestSet_7 (I : Nat → Nat → Int32) (J : Nat → Nat → Int64) (pl st : Bool) (s0 : Int32) (x1 : Int32) (x3 : Int32) (z4 : Value) (z5 : Value) : run mX3_cheapestSet (7, 0, 0, [.ref 13, .int x1, .ref 15, .int x3, z4, z5], [.int s0], (cH I J pl st)) = run mX3_cheapestSet (12, 0, 0, [.ref 13, .int x1, .ref 15, .int x3, .int s0, .int (nI 0)], [], (cH I J pl st)) := (exK_eq mX3_cheapestSet [7, 12] 41 _).symm.trans rfl
set_option maxRecDepth 100000 in
theorem bX3_cheapestSet_12 (I : Nat → Nat → Int32) (J : Nat → Nat → Int64) (pl st : Bool) (x1 : Int32) (x3 : Int32) (x4 : Int32) (x5 : Int32) : run mX3_cheapestSet (12, 0, 0, [.ref 13, .int x1, .ref 15, .int x3, .int x4, .int x5], [], (cH I J pl st)) = (if x1 < x5 then some (some (.int x3), (cH I J pl st)) else (if (x5 &&& (x1 ^^^ (Int32.ofInt (-1)))) = (nI 0) then (callK (fX9_costOfSet [.ref 15, .int x5] (cH I J pl st)) (fun r h' => run mX3_cheapestSet (33, 0, 0, [.ref 13, .int x1, .ref 15, .int x3, .int x4, .int x5], r.toList ++ [], h'))) else run mX3_cheapestSet (12, 0, 0, [.ref 13, .int x1, .ref 15, .int x3, .int x4, .int (x5 + (nI 1))], [], (cH I J pl st)))) := (exK_eq mX3_cheapestSet [7, 12, 33] 41 _).symm.trans rfl
set_option maxRecDepth 100000 in
theorem bX3_cheapestSet_33 (I : Nat → Nat → Int32) (J : Nat → Nat → Int64) (pl st : Bool) (s0 : Int32) (x1 : Int32) (x3 : Int32) (x4 : Int32) (x5 : Int32) : run mX3_cheapestSet (33, 0, 0, [.ref 13, .int x1, .ref 15, .int x3, .int x4, .int x5], [.int s0], (cH I J pl st)) = (if x4 ≤ s0 then run mX3_cheapestSet (12, 0, 0, [.ref 13, .int x1, .ref 15, .int x3, .int x4, .int (x5 + (nI 1))], [], (cH I J pl st)) else (callK (fX3_areAllHeld [.ref 13, .int x5] (cH I J pl st)) (fun r h' => run mX3_cheapestSet (44, 0, 0, [.ref 13, .int x1, .ref 15, .int x3, .int x4, .int x5], r.toList ++ [], h')))) := (exK_eq mX3_cheapestSet [7, 12, 33, 44] 41 _).symm.trans rfl
set_option maxRecDepth 100000 in
theorem bX3_cheapestSet_44 (I : Nat → Nat → Int32) (J : Nat → Nat → Int64) (pl st : Bool) (s0 : Int32) (x1 : Int32) (x3 : Int32) (x4 : Int32) (x5 : Int32) : run mX3_cheapestSet (44, 0, 0, [.ref 13, .int x1, .ref 15, .int x3, .int x4, .int x5], [.int s0], (cH I J pl st)) = (if s0 = (nI 0) then run mX3_cheapestSet (12, 0, 0, [.ref 13, .int x1, .ref 15, .int x3, .int x4, .int (x5 + (nI 1))], [], (cH I J pl st)) else (callK (fX9_costOfSet [.ref 15, .int x5] (cH I J pl st)) (fun r h' => run mX3_cheapestSet (56, 0, 0, [.ref 13, .int x1, .ref 15, .int x5, .int x4, .int x5], r.toList ++ [], h')))) := (exK_eq mX3_cheapestSet [7, 12, 33, 44, 56] 41 _).symm.trans rfl
set_option maxRecDepth 100000 in
theorem bX3_cheapestSet_56 (I : Nat → Nat → Int32) (J : Nat → Nat → Int64) (pl st : Bool) (s0 : Int32) (x1 : Int32) (x3 : Int32) (x5 : Int32) (z4 : Value) : run mX3_cheapestSet (56, 0, 0, [.ref 13, .int x1, .ref 15, .int x3, z4, .int x5], [.int s0], (cH I J pl st)) = run mX3_cheapestSet (12, 0, 0, [.ref 13, .int x1, .ref 15, .int x3, .int s0, .int (x5 + (nI 1))], [], (cH I J pl st)) := (exK_eq mX3_cheapestSet [7, 12, 33, 44, 56] 41 _).symm.trans rfl
set_option maxRecDepth 100000 in
theorem eX6_hasStep (I : Nat → Nat → Int32) (J : Nat → Nat → Int64) (pl st : Bool) {P : Nat} (hP : P = 4 ∨ P = 7) (x1 : Int32) : fX6_hasStep [.ref P, .int x1] (cH I J pl st) = (if x1 < (nI 0) then some (some (.int (nI 0)), (cH I J pl st)) else (if (I P 3) ≤ x1 then some (some (.int (nI 0)), (cH I J pl st)) else some (some (.int (nI 1)), (cH I J pl st)))) := by
  rcases hP with rfl | rfl
  all_goals exact (mth_eq (M := mX6_hasStep) (n := 2) rfl).trans ((exK_eq mX6_hasStep [] 15 _).symm.trans rfl)
set_option maxRecDepth 100000 in
theorem eX4_weigh (I : Nat → Nat → Int32) (J : Nat → Nat → Int64) (pl st : Bool) {P : Nat} (hP : P = 4 ∨ P = 7)  : fX4_weigh [.ref 68, .ref P] (cH I J pl st) = run mX4_weigh (10, 0, 0, [.ref 68, .ref P, .int (nI 1), .int ((nI 8) - (nI 1))], [], (cH I J pl st)) := by
  rcases hP with rfl | rfl
  all_goals exact (mth_eq (M := mX4_weigh) (n := 4) rfl).trans ((exK_eq mX4_weigh [10] 35 _).symm.trans rfl)
set_option maxRecDepth 100000 in
theorem bX4_weigh_10 (I : Nat → Nat → Int32) (J : Nat → Nat → Int64) (pl st : Bool) {P : Nat} (hP : P = 4 ∨ P = 7) (x2 : Int32) (x3 : Int32) : run mX4_weigh (10, 0, 0, [.ref 68, .ref P, .int x2, .int x3], [], (cH I J pl st)) = (if x3 < (nI 0) then some (none, (cH I J pl st)) else (bif inb x3 8 then (callK (fX6_hasStep [.ref P, .int x3] (cH (up2 I 73 (x3).toNatClampNeg x2) J pl st)) (fun r h' => run mX4_weigh (26, 0, 0, [.ref 68, .ref P, .int x2, .int x3], r.toList ++ [], h'))) else none)) := by
  rcases hP with rfl | rfl
  all_goals exact (exK_eq mX4_weigh [10, 26] 35 _).symm.trans rfl
set_option maxRecDepth 100000 in
theorem bX4_weigh_26 (I : Nat → Nat → Int32) (J : Nat → Nat → Int64) (pl st : Bool) {P : Nat} (hP : P = 4 ∨ P = 7) (s0 : Int32) (x2 : Int32) (x3 : Int32) : run mX4_weigh (26, 0, 0, [.ref 68, .ref P, .int x2, .int x3], [.int s0], (cH I J pl st)) = (if s0 = (nI 0) then run mX4_weigh (10, 0, 0, [.ref 68, .ref P, .int x2, .int (x3 + Int32.ofInt (-1))], [], (cH I J pl st)) else (callK (fX6_isWriter [.ref P, .int x3] (cH I J pl st)) (fun r h' => run mX4_weigh (34, 0, 0, [.ref 68, .ref P, .int x2, .int x3], r.toList ++ [], h')))) := by
  rcases hP with rfl | rfl
  all_goals exact (exK_eq mX4_weigh [10, 26, 34] 35 _).symm.trans rfl
set_option maxRecDepth 100000 in
theorem bX4_weigh_34 (I : Nat → Nat → Int32) (J : Nat → Nat → Int64) (pl st : Bool) {P : Nat} (hP : P = 4 ∨ P = 7) (s0 : Int32) (x2 : Int32) (x3 : Int32) : run mX4_weigh (34, 0, 0, [.ref 68, .ref P, .int x2, .int x3], [.int s0], (cH I J pl st)) = (if s0 = (nI 0) then run mX4_weigh (10, 0, 0, [.ref 68, .ref P, .int (x2 * (nI 9)), .int (x3 + Int32.ofInt (-1))], [], (cH I J pl st)) else run mX4_weigh (10, 0, 0, [.ref 68, .ref P, .int x2, .int (x3 + Int32.ofInt (-1))], [], (cH I J pl st))) := by
  rcases hP with rfl | rfl
  all_goals exact (exK_eq mX4_weigh [10, 26, 34] 35 _).symm.trans rfl
set_option maxRecDepth 100000 in
theorem eX6_threadOf (I : Nat → Nat → Int32) (J : Nat → Nat → Int64) (pl st : Bool) {P : Nat} (hP : P = 4 ∨ P = 7) (x1 : Int32) : fX6_threadOf [.ref P, .int x1] (cH I J pl st) = (if x1 < (nI 0) then some (some (.int (Int32.ofInt (-1))), (cH I J pl st)) else (if (nI 8) ≤ x1 then some (some (.int (Int32.ofInt (-1))), (cH I J pl st)) else (bif inb x1 8 then some (some (.int (I (P + 1) (x1).toNatClampNeg)), (cH I J pl st)) else none))) := by
  rcases hP with rfl | rfl
  all_goals exact (mth_eq (M := mX6_threadOf) (n := 2) rfl).trans ((exK_eq mX6_threadOf [] 19 _).symm.trans rfl)
set_option maxRecDepth 100000 in
theorem eX6_isAhead (I : Nat → Nat → Int32) (J : Nat → Nat → Int64) (pl st : Bool) {P : Nat} (hP : P = 4 ∨ P = 7) (x1 : Int32) (x2 : Int32) : fX6_isAhead [.ref P, .int x1, .int x2] (cH I J pl st) = (if x2 ≤ x1 then some (some (.int (nI 0)), (cH I J pl st)) else (callK (fX6_threadOf [.ref P, .int x1] (cH I J pl st)) (fun r h' => run mX6_isAhead (10, 0, 0, [.ref P, .int x1, .int x2], r.toList ++ [], h')))) := by
  rcases hP with rfl | rfl
  all_goals exact (mth_eq (M := mX6_isAhead) (n := 3) rfl).trans ((exK_eq mX6_isAhead [10] 19 _).symm.trans rfl)
set_option maxRecDepth 100000 in
theorem bX6_isAhead_10 (I : Nat → Nat → Int32) (J : Nat → Nat → Int64) (pl st : Bool) {P : Nat} (hP : P = 4 ∨ P = 7) (s0 : Int32) (x2 : Int32) (z1 : Value) : run mX6_isAhead (10, 0, 0, [.ref P, z1, .int x2], [.int s0], (cH I J pl st)) = (callK (fX6_threadOf [.ref P, .int x2] (cH I J pl st)) (fun r h' => run mX6_isAhead (15, 0, 0, [.ref P, .null, .int x2], r.toList ++ [.int s0], h'))) := by
  rcases hP with rfl | rfl
  all_goals exact (exK_eq mX6_isAhead [10, 15] 19 _).symm.trans rfl
set_option maxRecDepth 100000 in
theorem bX6_isAhead_15 (I : Nat → Nat → Int32) (J : Nat → Nat → Int64) (pl st : Bool) {P : Nat} (hP : P = 4 ∨ P = 7) (s0 : Int32) (s1 : Int32) (z0 : Value) (z1 : Value) (z2 : Value) : run mX6_isAhead (15, 0, 0, [z0, z1, z2], [.int s1, .int s0], (cH I J pl st)) = (if s0 = s1 then some (some (.int (nI 1)), (cH I J pl st)) else some (some (.int (nI 0)), (cH I J pl st))) := by
  rcases hP with rfl | rfl
  all_goals exact (exK_eq mX6_isAhead [10, 15] 19 _).symm.trans rfl
set_option maxRecDepth 100000 in
theorem eX6_waitsOf (I : Nat → Nat → Int32) (J : Nat → Nat → Int64) (pl st : Bool) {P : Nat} (hP : P = 4 ∨ P = 7) (x1 : Int32) (x2 : Int32) (x3 : Int32) : fX6_waitsOf [.ref P, .int x1, .int x2, .int x3] (cH I J pl st) = run mX6_waitsOf (6, 0, 0, [.ref P, .int x1, .int x2, .int x3, .int (nI 0), .int (nI 0), .null], [], (cH I J pl st)) := by
  rcases hP with rfl | rfl
  all_goals exact (mth_eq (M := mX6_waitsOf) (n := 7) rfl).trans ((exK_eq mX6_waitsOf [6] 49 _).symm.trans rfl)
set_option maxRecDepth 100000 in
theorem bX6_waitsOf_6 (I : Nat → Nat → Int32) (J : Nat → Nat → Int64) (pl st : Bool) {P : Nat} (hP : P = 4 ∨ P = 7) (x1 : Int32) (x2 : Int32) (x3 : Int32) (x4 : Int32) (x5 : Int32) (z6 : Value) : run mX6_waitsOf (6, 0, 0, [.ref P, .int x1, .int x2, .int x3, .int x4, .int x5, z6], [], (cH I J pl st)) = (if x1 ≤ x5 then some (some (.int x4), (cH I J pl st)) else (if (I P 3) ≤ x5 then some (some (.int x4), (cH I J pl st)) else (callK (fX11_gapsBetween [.int x5, .int x1] (cH I J pl st)) (fun r h' => run mX6_waitsOf (28, 0, 0, [.ref P, .int x1, .int x2, .int x3, .int x4, .int x5, .null], r.toList ++ [.int x2], h'))))) := by
  rcases hP with rfl | rfl
  all_goals exact (exK_eq mX6_waitsOf [6, 28] 49 _).symm.trans rfl
set_option maxRecDepth 100000 in
theorem bX6_waitsOf_28 (I : Nat → Nat → Int32) (J : Nat → Nat → Int64) (pl st : Bool) {P : Nat} (hP : P = 4 ∨ P = 7) (s0 : Int32) (s1 : Int32) (x1 : Int32) (x2 : Int32) (x3 : Int32) (x4 : Int32) (x5 : Int32) (z6 : Value) : run mX6_waitsOf (28, 0, 0, [.ref P, .int x1, .int x2, .int x3, .int x4, .int x5, z6], [.int s1, .int s0], (cH I J pl st)) = (if (s0 &&& s1) = (nI 0) then (callK (fX6_isAhead [.ref P, .int x5, .int x1] (cH I J pl st)) (fun r h' => run mX6_waitsOf (46, 0, 0, [.ref P, .int x1, .int x2, .int x3, .int x4, .int x5, .int (nI 0)], r.toList ++ [], h'))) else (callK (fX6_isAhead [.ref P, .int x5, .int x1] (cH I J pl st)) (fun r h' => run mX6_waitsOf (46, 0, 0, [.ref P, .int x1, .int x2, .int x3, .int x4, .int x5, .int (nI 1)], r.toList ++ [], h')))) := by
  rcases hP with rfl | rfl
  all_goals exact (exK_eq mX6_waitsOf [6, 28, 46] 49 _).symm.trans rfl
set_option maxRecDepth 100000 in
theorem bX6_waitsOf_46 (I : Nat → Nat → Int32) (J : Nat → Nat → Int64) (pl st : Bool) {P : Nat} (hP : P = 4 ∨ P = 7) (s0 : Int32) (x1 : Int32) (x2 : Int32) (x3 : Int32) (x4 : Int32) (x5 : Int32) (x6 : Int32) : run mX6_waitsOf (46, 0, 0, [.ref P, .int x1, .int x2, .int x3, .int x4, .int x5, .int x6], [.int s0], (cH I J pl st)) = (if s0 = (nI 0) then run mX6_waitsOf (6, 0, 0, [.ref P, .int x1, .int x2, .int x3, .int x4, .int (x5 + (nI 1)), .int x6], [], (cH I J pl st)) else (if x6 = (nI 0) then (callK (fX6_mayOvertake [.ref P, .int x5, .int x1, .int x3] (cH I J pl st)) (fun r h' => run mX6_waitsOf (62, 0, 0, [.ref P, .int x1, .int x2, .int x3, .int x4, .int x5, .int x6], r.toList ++ [], h'))) else run mX6_waitsOf (6, 0, 0, [.ref P, .int x1, .int x2, .int x3, .int (x4 ||| ((nI 1) <<< (x5 &&& 31))), .int (x5 + (nI 1)), .int x6], [], (cH I J pl st)))) := by
  rcases hP with rfl | rfl
  all_goals exact (exK_eq mX6_waitsOf [6, 28, 46, 62] 49 _).symm.trans rfl
set_option maxRecDepth 100000 in
theorem bX6_waitsOf_62 (I : Nat → Nat → Int32) (J : Nat → Nat → Int64) (pl st : Bool) {P : Nat} (hP : P = 4 ∨ P = 7) (s0 : Int32) (x1 : Int32) (x2 : Int32) (x3 : Int32) (x4 : Int32) (x5 : Int32) (z6 : Value) : run mX6_waitsOf (62, 0, 0, [.ref P, .int x1, .int x2, .int x3, .int x4, .int x5, z6], [.int s0], (cH I J pl st)) = (if s0 = (nI 0) then run mX6_waitsOf (6, 0, 0, [.ref P, .int x1, .int x2, .int x3, .int (x4 ||| ((nI 1) <<< (x5 &&& 31))), .int (x5 + (nI 1)), .null], [], (cH I J pl st)) else run mX6_waitsOf (6, 0, 0, [.ref P, .int x1, .int x2, .int x3, .int x4, .int (x5 + (nI 1)), .null], [], (cH I J pl st))) := by
  rcases hP with rfl | rfl
  all_goals exact (exK_eq mX6_waitsOf [6, 28, 46, 62] 49 _).symm.trans rfl
set_option maxRecDepth 100000 in
theorem eX4_behind (I : Nat → Nat → Int32) (J : Nat → Nat → Int64) (pl st : Bool) {P : Nat} (hP : P = 4 ∨ P = 7) (x2 : Int64) (x4 : Int32) : fX4_behind [.ref 68, .ref P, .long x2, .int x4] (cH I J pl st) = (callK (fX6_cellOf [.ref P, .int x4] (cH I J pl st)) (fun r h' => run mX4_behind (17, 0, 0, [.ref 68, .ref P, .long x2, .null, .int x4, .long (x2 ||| (1 <<< (Int32.toInt64 x4 &&& 63))), .null, .null, .null, .null, .null], r.toList ++ [.int (nI 4), .int (nI 8)], h'))) := by
  rcases hP with rfl | rfl
  all_goals exact (mth_eq (M := mX4_behind) (n := 11) rfl).trans ((exK_eq mX4_behind [17] 67 _).symm.trans rfl)
set_option maxRecDepth 100000 in
theorem bX4_behind_17 (I : Nat → Nat → Int32) (J : Nat → Nat → Int64) (pl st : Bool) {P : Nat} (hP : P = 4 ∨ P = 7) (s0 : Int32) (s1 : Int32) (s2 : Int32) (x2 : Int64) (x4 : Int32) (x5 : Int64) (z10 : Value) (z7 : Value) (z8 : Value) (z9 : Value) : run mX4_behind (17, 0, 0, [.ref 68, .ref P, .long x2, .null, .int x4, .long x5, .null, z7, z8, z9, z10], [.int s2, .int s1, .int s0], (cH I J pl st)) = (callK (fX6_isWriter [.ref P, .int x4] (cH I J pl st)) (fun r h' => run mX4_behind (27, 0, 0, [.ref 68, .ref P, .long x2, .null, .int x4, .long x5, .null, .int (s0 + (s1 * s2)), .null, .null, .null], r.toList ++ [], h'))) := by
  rcases hP with rfl | rfl
  all_goals exact (exK_eq mX4_behind [17, 27] 67 _).symm.trans rfl
set_option maxRecDepth 100000 in
theorem bX4_behind_27 (I : Nat → Nat → Int32) (J : Nat → Nat → Int64) (pl st : Bool) {P : Nat} (hP : P = 4 ∨ P = 7) (s0 : Int32) (x2 : Int64) (x4 : Int32) (x5 : Int64) (x7 : Int32) (z1 : Value) (z10 : Value) (z8 : Value) (z9 : Value) : run mX4_behind (27, 0, 0, [.ref 68, z1, .long x2, .null, .int x4, .long x5, .null, .int x7, z8, z9, z10], [.int s0], (cH I J pl st)) = (if s0 = (nI 0) then (if x4 < (nI 0) then some (some (.long (x5 + (((((Int64.toUInt64 x2 >>> ((Int32.toInt64 x7).toUInt64 &&& Int64.toUInt64 63)).toInt64) &&& (15)) * (Int32.toInt64 (nI 0))) <<< (Int32.toInt64 (nI 20) &&& 63)))), (cH I J pl st)) else (if (nI 8) ≤ x4 then some (some (.long (x5 + (((((Int64.toUInt64 x2 >>> ((Int32.toInt64 x7).toUInt64 &&& Int64.toUInt64 63)).toInt64) &&& (15)) * (Int32.toInt64 (nI 0))) <<< (Int32.toInt64 (nI 20) &&& 63)))), (cH I J pl st)) else (bif inb x4 8 then some (some (.long (x5 + (((((Int64.toUInt64 x2 >>> ((Int32.toInt64 x7).toUInt64 &&& Int64.toUInt64 63)).toInt64) &&& (15)) * (Int32.toInt64 (I 73 (x4).toNatClampNeg))) <<< (Int32.toInt64 (nI 20) &&& 63)))), (cH I J pl st)) else none))) else some (some (.long ((x5 &&& (((15) <<< (Int32.toInt64 x7 &&& 63)) ^^^ (-1))) ||| ((Int32.toInt64 (x4 + (nI 1))) <<< (Int32.toInt64 x7 &&& 63)))), (cH I J pl st))) := by
  rcases hP with rfl | rfl
  all_goals exact (exK_eq mX4_behind [17, 27] 67 _).symm.trans rfl
set_option maxRecDepth 100000 in
theorem eX4_putNext (I : Nat → Nat → Int32) (J : Nat → Nat → Int64) (pl st : Bool)  (x1 : Int32) (x2 : Int64) : fX4_putNext [.ref 68, .int x1, .long x2] (cH I J pl st) = (if (I 68 6) < (nI 0) then some (none, (cH I J pl st)) else (if (nI 512) ≤ (I 68 6) then some (none, (cH I J pl st)) else (if x1 < (nI 0) then some (none, (cH I J pl st)) else (if (nI 1024) ≤ x1 then some (none, (cH I J pl st)) else (bif inb (I 68 6) 512 then (bif inb x1 1024 then some (none, (cH (up2 (up2 I 68 6 ((I 68 6) + (nI 1))) 71 (x1).toNatClampNeg ((I 68 6) + (nI 1))) (up2 J (stA (!st)) ((I 68 6)).toNatClampNeg x2) pl st)) else none) else none))))) := by
  cases st
  all_goals exact (mth_eq (M := mX4_putNext) (n := 4) rfl).trans ((exK_eq mX4_putNext [] 40 _).symm.trans rfl)
set_option maxRecDepth 100000 in
theorem eX4_addNext (I : Nat → Nat → Int32) (J : Nat → Nat → Int64) (pl st : Bool)  (x1 : Int64) : fX4_addNext [.ref 68, .long x1] (cH I J pl st) = run mX4_addNext (13, 0, 0, [.ref 68, .long x1, .null, .int (Int64.toInt32 ((Int64.toUInt64 (x1 * (-7046029254386353131)) >>> ((Int32.toInt64 (nI 54)).toUInt64 &&& Int64.toUInt64 63)).toInt64)), .int (nI 0), .null, .null], [], (cH I J pl st)) := by
  cases st
  all_goals exact (mth_eq (M := mX4_addNext) (n := 7) rfl).trans ((exK_eq mX4_addNext [13] 53 _).symm.trans rfl)
set_option maxRecDepth 100000 in
theorem bX4_addNext_13 (I : Nat → Nat → Int32) (J : Nat → Nat → Int64) (pl st : Bool)  (x1 : Int64) (x3 : Int32) (x4 : Int32) (z5 : Value) (z6 : Value) : run mX4_addNext (13, 0, 0, [.ref 68, .long x1, .null, .int x3, .int x4, z5, z6], [], (cH I J pl st)) = (if (nI 1024) ≤ x4 then some (none, (cH I J pl st)) else (bif inb ((x3 + x4) &&& (nI 1023)) 1024 then (if ((I 71 (((x3 + x4) &&& (nI 1023))).toNatClampNeg) - (nI 1)) < (nI 0) then (callK (fX4_putNext [.ref 68, .int ((x3 + x4) &&& (nI 1023)), .long x1] (cH I J pl st)) (fun r h' => run mX4_addNext (64, 0, 0, [.ref 68, .long x1, .null, .int x3, .int x4, .int ((x3 + x4) &&& (nI 1023)), .int ((I 71 (((x3 + x4) &&& (nI 1023))).toNatClampNeg) - (nI 1))], r.toList ++ [], h'))) else (if ((I 71 (((x3 + x4) &&& (nI 1023))).toNatClampNeg) - (nI 1)) < (nI 512) then (bif inb ((I 71 (((x3 + x4) &&& (nI 1023))).toNatClampNeg) - (nI 1)) 512 then (if (lg_cmp (J (stA (!st)) (((I 71 (((x3 + x4) &&& (nI 1023))).toNatClampNeg) - (nI 1))).toNatClampNeg) x1) = (nI 0) then some (none, (cH I J pl st)) else run mX4_addNext (13, 0, 0, [.ref 68, .long x1, .null, .int x3, .int (x4 + (nI 1)), .int ((x3 + x4) &&& (nI 1023)), .int ((I 71 (((x3 + x4) &&& (nI 1023))).toNatClampNeg) - (nI 1))], [], (cH I J pl st))) else none) else (callK (fX4_putNext [.ref 68, .int ((x3 + x4) &&& (nI 1023)), .long x1] (cH I J pl st)) (fun r h' => run mX4_addNext (64, 0, 0, [.ref 68, .long x1, .null, .int x3, .int x4, .int ((x3 + x4) &&& (nI 1023)), .int ((I 71 (((x3 + x4) &&& (nI 1023))).toNatClampNeg) - (nI 1))], r.toList ++ [], h'))))) else none)) := by
  cases st
  all_goals exact (exK_eq mX4_addNext [13, 64] 53 _).symm.trans rfl
set_option maxRecDepth 100000 in
theorem bX4_addNext_64 (I : Nat → Nat → Int32) (J : Nat → Nat → Int64) (pl st : Bool)  (z0 : Value) (z1 : Value) (z2 : Value) (z3 : Value) (z4 : Value) (z5 : Value) (z6 : Value) : run mX4_addNext (64, 0, 0, [z0, z1, z2, z3, z4, z5, z6], [], (cH I J pl st)) = some (none, (cH I J pl st)) := by
  cases st
  all_goals exact (exK_eq mX4_addNext [13, 64] 53 _).symm.trans rfl
set_option maxRecDepth 100000 in
theorem eX4_doEach (I : Nat → Nat → Int32) (J : Nat → Nat → Int64) (pl st : Bool) {P : Nat} (hP : P = 4 ∨ P = 7) (x2 : Int64) : fX4_doEach [.ref 68, .ref P, .long x2] (cH I J pl st) = run mX4_doEach (13, 0, 0, [.ref 68, .ref P, .long x2, .null, .int (((Int64.toInt32 x2) ^^^ (Int32.ofInt (-1))) &&& (nI 255)), .int (nI 0)], [], (cH I J pl st)) := by
  rcases hP with rfl | rfl
  all_goals exact (mth_eq (M := mX4_doEach) (n := 6) rfl).trans ((exK_eq mX4_doEach [13] 44 _).symm.trans rfl)
set_option maxRecDepth 100000 in
theorem bX4_doEach_13 (I : Nat → Nat → Int32) (J : Nat → Nat → Int64) (pl st : Bool) {P : Nat} (hP : P = 4 ∨ P = 7) (x2 : Int64) (x4 : Int32) (x5 : Int32) : run mX4_doEach (13, 0, 0, [.ref 68, .ref P, .long x2, .null, .int x4, .int x5], [], (cH I J pl st)) = (if (I P 3) ≤ x5 then some (none, (cH I J pl st)) else (if (nI 8) ≤ x5 then some (none, (cH I J pl st)) else (callK (fX11_has [.int x4, .int x5] (cH I J pl st)) (fun r h' => run mX4_doEach (39, 0, 0, [.ref 68, .ref P, .long x2, .null, .int x4, .int x5], r.toList ++ [], h'))))) := by
  rcases hP with rfl | rfl
  all_goals exact (exK_eq mX4_doEach [13, 39] 44 _).symm.trans rfl
set_option maxRecDepth 100000 in
theorem bX4_doEach_39 (I : Nat → Nat → Int32) (J : Nat → Nat → Int64) (pl st : Bool) {P : Nat} (hP : P = 4 ∨ P = 7) (s0 : Int32) (x2 : Int64) (x4 : Int32) (x5 : Int32) : run mX4_doEach (39, 0, 0, [.ref 68, .ref P, .long x2, .null, .int x4, .int x5], [.int s0], (cH I J pl st)) = (if s0 = (nI 0) then run mX4_doEach (13, 0, 0, [.ref 68, .ref P, .long x2, .null, .int x4, .int (x5 + (nI 1))], [], (cH I J pl st)) else (bif inb x5 8 then (if ((I 72 (x5).toNatClampNeg) &&& x4) = (nI 0) then (callK (fX4_behind [.ref 68, .ref P, .long x2, .int x5] (cH I J pl st)) (fun r h' => run mX4_doEach (64, 0, 0, [.ref 68, .ref P, .long x2, .null, .int x4, .int x5], r.toList ++ [.ref 68], h'))) else run mX4_doEach (13, 0, 0, [.ref 68, .ref P, .long x2, .null, .int x4, .int (x5 + (nI 1))], [], (cH I J pl st))) else none)) := by
  rcases hP with rfl | rfl
  all_goals exact (exK_eq mX4_doEach [13, 39, 64] 44 _).symm.trans rfl
set_option maxRecDepth 100000 in
theorem bX4_doEach_64 (I : Nat → Nat → Int32) (J : Nat → Nat → Int64) (pl st : Bool) {P : Nat} (hP : P = 4 ∨ P = 7) (s1 : Int64) (x2 : Int64) (x4 : Int32) (x5 : Int32) : run mX4_doEach (64, 0, 0, [.ref 68, .ref P, .long x2, .null, .int x4, .int x5], [.long s1, .ref 68], (cH I J pl st)) = (callK (fX4_addNext [.ref 68, .long s1] (cH I J pl st)) (fun r h' => run mX4_doEach (67, 0, 0, [.ref 68, .ref P, .long x2, .null, .int x4, .int x5], r.toList ++ [], h'))) := by
  rcases hP with rfl | rfl
  all_goals exact (exK_eq mX4_doEach [13, 39, 64, 67] 44 _).symm.trans rfl
set_option maxRecDepth 100000 in
theorem bX4_doEach_67 (I : Nat → Nat → Int32) (J : Nat → Nat → Int64) (pl st : Bool) {P : Nat} (hP : P = 4 ∨ P = 7) (x2 : Int64) (x4 : Int32) (x5 : Int32) : run mX4_doEach (67, 0, 0, [.ref 68, .ref P, .long x2, .null, .int x4, .int x5], [], (cH I J pl st)) = run mX4_doEach (13, 0, 0, [.ref 68, .ref P, .long x2, .null, .int x4, .int (x5 + (nI 1))], [], (cH I J pl st)) := by
  rcases hP with rfl | rfl
  all_goals exact (exK_eq mX4_doEach [13, 39, 64, 67] 44 _).symm.trans rfl
