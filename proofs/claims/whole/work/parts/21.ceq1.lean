set_option maxRecDepth 100000 in
theorem eX4_doOneMore (I : Nat → Nat → Int32) (J : Nat → Nat → Int64) (pl st : Bool) {P : Nat} (hP : P = 4 ∨ P = 7)  : fX4_doOneMore [.ref 68, .ref P] (cH I J pl st) = (callK (fJ7_fill_53178 [.ref 71, .int (nI 0)] (cH I J pl st)) (fun r h' => run mX4_doOneMore (8, 0, 0, [.ref 68, .ref P, .null], r.toList ++ [], h'))) := by
  cases st <;> rcases hP with rfl | rfl
  all_goals exact (mth_eq (M := mX4_doOneMore) (n := 3) rfl).trans ((exK_eq mX4_doOneMore [8, 15] 47 _).symm.trans rfl)
set_option maxRecDepth 100000 in
theorem bX4_doOneMore_8 (I : Nat → Nat → Int32) (J : Nat → Nat → Int64) (pl st : Bool) {P : Nat} (hP : P = 4 ∨ P = 7) (z2 : Value) : run mX4_doOneMore (8, 0, 0, [.ref 68, .ref P, z2], [], (cH I J pl st)) = run mX4_doOneMore (15, 0, 0, [.ref 68, .ref P, .int (nI 0)], [], (cH (up2 I 68 6 (nI 0)) J pl st)) := by
  cases st <;> rcases hP with rfl | rfl
  all_goals exact (exK_eq mX4_doOneMore [8, 15] 47 _).symm.trans rfl
set_option maxRecDepth 100000 in
theorem bX4_doOneMore_15 (I : Nat → Nat → Int32) (J : Nat → Nat → Int64) (pl st : Bool) {P : Nat} (hP : P = 4 ∨ P = 7) (x2 : Int32) : run mX4_doOneMore (15, 0, 0, [.ref 68, .ref P, .int x2], [], (cH I J pl st)) = (if (I 68 5) ≤ x2 then some (none, (78, shX, (up2 I 68 5 (I 68 6)), J, (up2 (up2 (RX pl st) 68 0 (stA (!st))) 68 1 (stA st)))) else (if (nI 512) ≤ x2 then some (none, (78, shX, (up2 I 68 5 (I 68 6)), J, (up2 (up2 (RX pl st) 68 0 (stA (!st))) 68 1 (stA st)))) else (bif inb x2 512 then (callK (fX4_doEach [.ref 68, .ref P, .long (J (stA st) (x2).toNatClampNeg)] (cH I J pl st)) (fun r h' => run mX4_doOneMore (43, 0, 0, [.ref 68, .ref P, .int x2], r.toList ++ [], h'))) else none))) := by
  cases st <;> rcases hP with rfl | rfl
  all_goals exact (exK_eq mX4_doOneMore [8, 15, 43] 47 _).symm.trans rfl
set_option maxRecDepth 100000 in
theorem bX4_doOneMore_43 (I : Nat → Nat → Int32) (J : Nat → Nat → Int64) (pl st : Bool) {P : Nat} (hP : P = 4 ∨ P = 7) (x2 : Int32) : run mX4_doOneMore (43, 0, 0, [.ref 68, .ref P, .int x2], [], (cH I J pl st)) = run mX4_doOneMore (15, 0, 0, [.ref 68, .ref P, .int (x2 + (nI 1))], [], (cH I J pl st)) := by
  cases st <;> rcases hP with rfl | rfl
  all_goals exact (exK_eq mX4_doOneMore [8, 15, 43] 47 _).symm.trans rfl
set_option maxRecDepth 100000 in
theorem eX7_clear (I : Nat → Nat → Int32) (J : Nat → Nat → Int64) (pl st : Bool) {P : Nat} (hP : P = 74 ∨ P = 76)  : fX7_clear [.ref P] (cH I J pl st) = some (none, (cH (up2 I P 1 (nI 0)) J pl st)) := by
  rcases hP with rfl | rfl
  all_goals exact (mth_eq (M := mX7_clear) (n := 1) rfl).trans ((exK_eq mX7_clear [] 9 _).symm.trans rfl)
set_option maxRecDepth 100000 in
theorem eX7_add (I : Nat → Nat → Int32) (J : Nat → Nat → Int64) (pl st : Bool) {P : Nat} (hP : P = 74 ∨ P = 76) (x1 : Int32) : fX7_add [.ref P, .int x1] (cH I J pl st) = (callK (fX7_placeOf [.ref P, .int x1] (cH I J pl st)) (fun r h' => run mX7_add (5, 0, 0, [.ref P, .int x1, .null, .null], r.toList ++ [], h'))) := by
  rcases hP with rfl | rfl
  all_goals exact (mth_eq (M := mX7_add) (n := 4) rfl).trans ((exK_eq mX7_add [5, 45] 57 _).symm.trans rfl)
set_option maxRecDepth 100000 in
theorem bX7_add_5 (I : Nat → Nat → Int32) (J : Nat → Nat → Int64) (pl st : Bool) {P : Nat} (hP : P = 74 ∨ P = 76) (s0 : Int32) (x1 : Int32) (z2 : Value) (z3 : Value) : run mX7_add (5, 0, 0, [.ref P, .int x1, z2, z3], [.int s0], (cH I J pl st)) = (callK (fX7_at [.ref P, .int s0] (cH I J pl st)) (fun r h' => run mX7_add (11, 0, 0, [.ref P, .int x1, .int s0, .null], r.toList ++ [], h'))) := by
  rcases hP with rfl | rfl
  all_goals exact (exK_eq mX7_add [5, 11, 45] 57 _).symm.trans rfl
set_option maxRecDepth 100000 in
theorem bX7_add_11 (I : Nat → Nat → Int32) (J : Nat → Nat → Int64) (pl st : Bool) {P : Nat} (hP : P = 74 ∨ P = 76) (s0 : Int32) (x1 : Int32) (x2 : Int32) (z3 : Value) : run mX7_add (11, 0, 0, [.ref P, .int x1, .int x2, z3], [.int s0], (cH I J pl st)) = (if s0 = x1 then some (none, (cH I J pl st)) else (if x2 < (nI 0) then some (none, (cH I J pl st)) else (if (I P 1) < x2 then some (none, (cH I J pl st)) else (if (I P 1) < (nI 256) then run mX7_add (45, 0, 0, [.ref P, .int x1, .int x2, .int (I P 1)], [], (cH I J pl st)) else some (none, (cH I J pl st)))))) := by
  rcases hP with rfl | rfl
  all_goals exact (exK_eq mX7_add [5, 11, 45] 57 _).symm.trans rfl
set_option maxRecDepth 100000 in
theorem bX7_add_45 (I : Nat → Nat → Int32) (J : Nat → Nat → Int64) (pl st : Bool) {P : Nat} (hP : P = 74 ∨ P = 76) (x1 : Int32) (x2 : Int32) (x3 : Int32) : run mX7_add (45, 0, 0, [.ref P, .int x1, .int x2, .int x3], [], (cH I J pl st)) = (if x3 ≤ x2 then (bif inb x2 256 then some (none, (cH (up2 (up2 I (P + 1) (x2).toNatClampNeg x1) P 1 ((I P 1) + (nI 1))) J pl st)) else none) else (bif inb (x3 - (nI 1)) 256 then (bif inb x3 256 then run mX7_add (45, 0, 0, [.ref P, .int x1, .int x2, .int (x3 + Int32.ofInt (-1))], [], (cH (up2 I (P + 1) (x3).toNatClampNeg (I (P + 1) ((x3 - (nI 1))).toNatClampNeg)) J pl st)) else none) else none)) := by
  rcases hP with rfl | rfl
  all_goals exact (exK_eq mX7_add [5, 11, 45] 57 _).symm.trans rfl
set_option maxRecDepth 100000 in
theorem eX4_findReadings (I : Nat → Nat → Int32) (J : Nat → Nat → Int64) (pl st : Bool) {P : Nat} (hP : P = 4 ∨ P = 7) {Q : Nat} (hQ : Q = 74 ∨ Q = 76) (x2 : Int32) (x3 : Int32) : fX4_findReadings [.ref 68, .ref P, .int x2, .int x3, .ref Q] (cH I J pl st) = (callK (fX4_weigh [.ref 68, .ref P] (cH I J pl st)) (fun r h' => run mX4_findReadings (5, 0, 0, [.ref 68, .ref P, .int x2, .int x3, .ref Q, .null], r.toList ++ [], h'))) := by
  cases st <;> rcases hP with rfl | rfl <;> rcases hQ with rfl | rfl
  all_goals exact (mth_eq (M := mX4_findReadings) (n := 6) rfl).trans ((exK_eq mX4_findReadings [5, 8, 63, 91] 74 _).symm.trans rfl)
set_option maxRecDepth 100000 in
theorem bX4_findReadings_5 (I : Nat → Nat → Int32) (J : Nat → Nat → Int64) (pl st : Bool) {P : Nat} (hP : P = 4 ∨ P = 7) {Q : Nat} (hQ : Q = 74 ∨ Q = 76) (x2 : Int32) (x3 : Int32) (z5 : Value) : run mX4_findReadings (5, 0, 0, [.ref 68, .ref P, .int x2, .int x3, .ref Q, z5], [], (cH I J pl st)) = run mX4_findReadings (8, 0, 0, [.ref 68, .ref P, .int x2, .int x3, .ref Q, .int (nI 0)], [], (cH I J pl st)) := by
  cases st <;> rcases hP with rfl | rfl <;> rcases hQ with rfl | rfl
  all_goals exact (exK_eq mX4_findReadings [5, 8, 63, 91] 74 _).symm.trans rfl
set_option maxRecDepth 100000 in
theorem bX4_findReadings_8 (I : Nat → Nat → Int32) (J : Nat → Nat → Int64) (pl st : Bool) {P : Nat} (hP : P = 4 ∨ P = 7) {Q : Nat} (hQ : Q = 74 ∨ Q = 76) (x2 : Int32) (x3 : Int32) (x5 : Int32) : run mX4_findReadings (8, 0, 0, [.ref 68, .ref P, .int x2, .int x3, .ref Q, .int x5], [], (cH I J pl st)) = (if (I P 3) ≤ x5 then run mX4_findReadings (63, 0, 0, [.ref 68, .ref P, .int x2, .int x3, .ref Q, .int (nI 0)], [], (cH (up2 I 68 5 (nI 1)) (up2 J (stA st) 0 0) pl st)) else (if (nI 8) ≤ x5 then run mX4_findReadings (63, 0, 0, [.ref 68, .ref P, .int x2, .int x3, .ref Q, .int (nI 0)], [], (cH (up2 I 68 5 (nI 1)) (up2 J (stA st) 0 0) pl st)) else (callK (fX6_waitsOf [.ref P, .int x5, .int x2, .int x3] (cH I J pl st)) (fun r h' => run mX4_findReadings (41, 0, 0, [.ref 68, .ref P, .int x2, .int x3, .ref Q, .int x5], r.toList ++ [.int x5, .ref 72], h'))))) := by
  cases st <;> rcases hP with rfl | rfl <;> rcases hQ with rfl | rfl
  all_goals exact (exK_eq mX4_findReadings [5, 8, 41, 63, 91] 74 _).symm.trans rfl
set_option maxRecDepth 100000 in
theorem bX4_findReadings_63 (I : Nat → Nat → Int32) (J : Nat → Nat → Int64) (pl st : Bool) {P : Nat} (hP : P = 4 ∨ P = 7) {Q : Nat} (hQ : Q = 74 ∨ Q = 76) (x5 : Int32) (z2 : Value) (z3 : Value) : run mX4_findReadings (63, 0, 0, [.ref 68, .ref P, z2, z3, .ref Q, .int x5], [], (cH I J pl st)) = (if (I P 3) ≤ x5 then (callK (fX7_clear [.ref Q] (cH I J pl st)) (fun r h' => run mX4_findReadings (88, 0, 0, [.ref 68, .ref P, .null, .null, .ref Q, .int x5], r.toList ++ [], h'))) else (callK (fX4_doOneMore [.ref 68, .ref P] (cH I J pl st)) (fun r h' => run mX4_findReadings (77, 0, 0, [.ref 68, .ref P, .null, .null, .ref Q, .int x5], r.toList ++ [], h')))) := by
  cases st <;> rcases hP with rfl | rfl <;> rcases hQ with rfl | rfl
  all_goals exact (exK_eq mX4_findReadings [5, 8, 41, 63, 77, 88, 91] 74 _).symm.trans rfl
set_option maxRecDepth 100000 in
theorem bX4_findReadings_41 (I : Nat → Nat → Int32) (J : Nat → Nat → Int64) (pl st : Bool) {P : Nat} (hP : P = 4 ∨ P = 7) {Q : Nat} (hQ : Q = 74 ∨ Q = 76) (s1 : Int32) (s2 : Int32) (x2 : Int32) (x3 : Int32) (x5 : Int32) : run mX4_findReadings (41, 0, 0, [.ref 68, .ref P, .int x2, .int x3, .ref Q, .int x5], [.int s2, .int s1, .ref 72], (cH I J pl st)) = (bif inb s1 8 then run mX4_findReadings (8, 0, 0, [.ref 68, .ref P, .int x2, .int x3, .ref Q, .int (x5 + (nI 1))], [], (cH (up2 I 72 (s1).toNatClampNeg s2) J pl st)) else none) := by
  cases st <;> rcases hP with rfl | rfl <;> rcases hQ with rfl | rfl
  all_goals exact (exK_eq mX4_findReadings [5, 8, 41, 63, 77, 88, 91] 74 _).symm.trans rfl
set_option maxRecDepth 100000 in
theorem bX4_findReadings_88 (I : Nat → Nat → Int32) (J : Nat → Nat → Int64) (pl st : Bool) {P : Nat} (hP : P = 4 ∨ P = 7) {Q : Nat} (hQ : Q = 74 ∨ Q = 76) (z1 : Value) (z2 : Value) (z3 : Value) (z5 : Value) : run mX4_findReadings (88, 0, 0, [.ref 68, z1, z2, z3, .ref Q, z5], [], (cH I J pl st)) = run mX4_findReadings (91, 0, 0, [.ref 68, .null, .null, .null, .ref Q, .int (nI 0)], [], (cH I J pl st)) := by
  cases st <;> rcases hP with rfl | rfl <;> rcases hQ with rfl | rfl
  all_goals exact (exK_eq mX4_findReadings [5, 8, 41, 63, 77, 88, 91] 74 _).symm.trans rfl
set_option maxRecDepth 100000 in
theorem bX4_findReadings_77 (I : Nat → Nat → Int32) (J : Nat → Nat → Int64) (pl st : Bool) {P : Nat} (hP : P = 4 ∨ P = 7) {Q : Nat} (hQ : Q = 74 ∨ Q = 76) (x5 : Int32) (z2 : Value) (z3 : Value) : run mX4_findReadings (77, 0, 0, [.ref 68, .ref P, z2, z3, .ref Q, .int x5], [], (cH I J pl st)) = run mX4_findReadings (63, 0, 0, [.ref 68, .ref P, .null, .null, .ref Q, .int (x5 + (nI 1))], [], (cH I J pl st)) := by
  cases st <;> rcases hP with rfl | rfl <;> rcases hQ with rfl | rfl
  all_goals exact (exK_eq mX4_findReadings [5, 8, 41, 63, 77, 88, 91] 74 _).symm.trans rfl
set_option maxRecDepth 100000 in
theorem bX4_findReadings_91 (I : Nat → Nat → Int32) (J : Nat → Nat → Int64) (pl st : Bool) {P : Nat} (hP : P = 4 ∨ P = 7) {Q : Nat} (hQ : Q = 74 ∨ Q = 76) (x5 : Int32) (z1 : Value) (z2 : Value) (z3 : Value) : run mX4_findReadings (91, 0, 0, [.ref 68, z1, z2, z3, .ref Q, .int x5], [], (cH I J pl st)) = (if (I 68 5) ≤ x5 then some (none, (cH I J pl st)) else (if (nI 512) ≤ x5 then some (none, (cH I J pl st)) else (bif inb x5 512 then (callK (fX7_add [.ref Q, .int (Int64.toInt32 ((Int64.toUInt64 (J (stA st) (x5).toNatClampNeg) >>> ((Int32.toInt64 (nI 20)).toUInt64 &&& Int64.toUInt64 63)).toInt64))] (cH I J pl st)) (fun r h' => run mX4_findReadings (126, 0, 0, [.ref 68, .null, .null, .null, .ref Q, .int x5], r.toList ++ [], h'))) else none))) := by
  cases st <;> rcases hP with rfl | rfl <;> rcases hQ with rfl | rfl
  all_goals exact (exK_eq mX4_findReadings [5, 8, 41, 63, 77, 88, 91, 126] 74 _).symm.trans rfl
set_option maxRecDepth 100000 in
theorem bX4_findReadings_126 (I : Nat → Nat → Int32) (J : Nat → Nat → Int64) (pl st : Bool) {P : Nat} (hP : P = 4 ∨ P = 7) {Q : Nat} (hQ : Q = 74 ∨ Q = 76) (x5 : Int32) (z1 : Value) (z2 : Value) (z3 : Value) : run mX4_findReadings (126, 0, 0, [.ref 68, z1, z2, z3, .ref Q, .int x5], [], (cH I J pl st)) = run mX4_findReadings (91, 0, 0, [.ref 68, .null, .null, .null, .ref Q, .int (x5 + (nI 1))], [], (cH I J pl st)) := by
  cases st <;> rcases hP with rfl | rfl <;> rcases hQ with rfl | rfl
  all_goals exact (exK_eq mX4_findReadings [5, 8, 41, 63, 77, 88, 91, 126] 74 _).symm.trans rfl
set_option maxRecDepth 100000 in
theorem eX6_clear (I : Nat → Nat → Int32) (J : Nat → Nat → Int64) (pl st : Bool) {P : Nat} (hP : P = 4 ∨ P = 7)  : fX6_clear [.ref P] (cH I J pl st) = some (none, (cH (up2 (up2 (up2 (up2 I P 2 (nI 0)) P 3 (nI 0)) P 4 (nI 0)) P 5 (nI 0)) J pl st)) := by
  rcases hP with rfl | rfl
  all_goals exact (mth_eq (M := mX6_clear) (n := 1) rfl).trans ((exK_eq mX6_clear [] 18 _).symm.trans rfl)
set_option maxRecDepth 100000 in
theorem eX10_letterAt (I : Nat → Nat → Int32) (J : Nat → Nat → Int64) (pl st : Bool) (x1 : Int32) : fX10_letterAt [.ref 1, .int x1] (cH I J pl st) = (if x1 < (nI 0) then some (some (.int (Int32.ofInt (-1))), (cH I J pl st)) else (if (nI 120) ≤ x1 then some (some (.int (Int32.ofInt (-1))), (cH I J pl st)) else (bif inb x1 120 then some (some (.int (I 2 (x1).toNatClampNeg)), (cH I J pl st)) else none))) := (mth_eq (M := mX10_letterAt) (n := 2) rfl).trans ((exK_eq mX10_letterAt [] 19 _).symm.trans rfl)
set_option maxRecDepth 100000 in
theorem eX6_addThread (I : Nat → Nat → Int32) (J : Nat → Nat → Int64) (pl st : Bool) {P : Nat} (hP : P = 4 ∨ P = 7)  : fX6_addThread [.ref P] (cH I J pl st) = (if (I P 2) < (nI 3) then some (some (.int (nI 1)), (cH (up2 I P 2 ((I P 2) + (nI 1))) J pl st)) else some (some (.int (nI 0)), (cH I J pl st))) := by
  rcases hP with rfl | rfl
  all_goals exact (mth_eq (M := mX6_addThread) (n := 1) rfl).trans ((exK_eq mX6_addThread [] 19 _).symm.trans rfl)
set_option maxRecDepth 100000 in
theorem eX5_takeWord (I : Nat → Nat → Int32) (J : Nat → Nat → Int64) (pl st : Bool) {P : Nat} (hP : P = 4 ∨ P = 7) (x1 : Int32) : fX5_takeWord [.ref 3, .int x1, .ref P] (cH I J pl st) = (if x1 = (nI 116) then (callK (fX6_addThread [.ref P] (cH (up2 I 3 1 (nI 2)) J pl st)) (fun r h' => run mX5_takeWord (15, 0, 0, [.ref 3, .int x1, .ref P], r.toList ++ [], h'))) else (if x1 = (nI 114) then (if (I P 2) = (nI 0) then some (some (.int (nI 1)), (cH I J pl st)) else (if (I P 3) < (nI 8) then (if x1 = (nI 119) then some (some (.int (nI 0)), (cH (up2 (up2 I 3 2 (nI 1)) 3 1 (nI 1)) J pl st)) else some (some (.int (nI 0)), (cH (up2 (up2 I 3 2 (nI 0)) 3 1 (nI 1)) J pl st))) else some (some (.int (nI 3)), (cH I J pl st)))) else (if x1 = (nI 119) then (if (I P 2) = (nI 0) then some (some (.int (nI 1)), (cH I J pl st)) else (if (I P 3) < (nI 8) then (if x1 = (nI 119) then some (some (.int (nI 0)), (cH (up2 (up2 I 3 2 (nI 1)) 3 1 (nI 1)) J pl st)) else some (some (.int (nI 0)), (cH (up2 (up2 I 3 2 (nI 0)) 3 1 (nI 1)) J pl st))) else some (some (.int (nI 3)), (cH I J pl st)))) else some (some (.int (nI 1)), (cH I J pl st))))) := by
  rcases hP with rfl | rfl
  all_goals exact (mth_eq (M := mX5_takeWord) (n := 3) rfl).trans ((exK_eq mX5_takeWord [15] 48 _).symm.trans rfl)
set_option maxRecDepth 100000 in
theorem bX5_takeWord_15 (I : Nat → Nat → Int32) (J : Nat → Nat → Int64) (pl st : Bool) {P : Nat} (hP : P = 4 ∨ P = 7) (s0 : Int32) (z0 : Value) (z1 : Value) (z2 : Value) : run mX5_takeWord (15, 0, 0, [z0, z1, z2], [.int s0], (cH I J pl st)) = (if s0 = (nI 0) then some (some (.int (nI 3)), (cH I J pl st)) else some (some (.int (nI 0)), (cH I J pl st))) := by
  rcases hP with rfl | rfl
  all_goals exact (exK_eq mX5_takeWord [15] 48 _).symm.trans rfl
set_option maxRecDepth 100000 in
theorem eX6_addStep (I : Nat → Nat → Int32) (J : Nat → Nat → Int64) (pl st : Bool) {P : Nat} (hP : P = 4 ∨ P = 7) (x1 : Int32) (x2 : Int32) : fX6_addStep [.ref P, .int x1, .int x2] (cH I J pl st) = (if (I P 3) < (nI 0) then some (none, (cH I J pl st)) else (if (nI 8) ≤ (I P 3) then some (none, (cH I J pl st)) else (if (I P 3) < (nI 8) then (bif inb (I P 3) 8 then (bif inb (I P 3) 8 then (if x2 = (nI 0) then (if (I P 3) ≤ (nI 0) then some (none, (cH (up2 (up2 (up2 I (P + 1) ((I P 3)).toNatClampNeg ((I P 2) - (nI 1))) (P + 2) ((I P 3)).toNatClampNeg x1) P 3 ((I P 3) + (nI 1))) J pl st)) else (callK (fX6_threadOf [.ref P, .int ((I P 3) - (nI 1))] (cH (up2 (up2 (up2 I (P + 1) ((I P 3)).toNatClampNeg ((I P 2) - (nI 1))) (P + 2) ((I P 3)).toNatClampNeg x1) P 3 ((I P 3) + (nI 1))) J pl st)) (fun r h' => run mX6_addStep (84, 0, 0, [.ref P, .int x1, .int x2, .int (I P 3)], r.toList ++ [], h')))) else (if (I P 3) ≤ (nI 0) then some (none, (cH (up2 (up2 (up2 (up2 I (P + 1) ((I P 3)).toNatClampNeg ((I P 2) - (nI 1))) (P + 2) ((I P 3)).toNatClampNeg x1) P 3 ((I P 3) + (nI 1))) P 4 ((I P 4) ||| ((nI 1) <<< ((I P 3) &&& 31)))) J pl st)) else (callK (fX6_threadOf [.ref P, .int ((I P 3) - (nI 1))] (cH (up2 (up2 (up2 (up2 I (P + 1) ((I P 3)).toNatClampNeg ((I P 2) - (nI 1))) (P + 2) ((I P 3)).toNatClampNeg x1) P 3 ((I P 3) + (nI 1))) P 4 ((I P 4) ||| ((nI 1) <<< ((I P 3) &&& 31)))) J pl st)) (fun r h' => run mX6_addStep (84, 0, 0, [.ref P, .int x1, .int x2, .int (I P 3)], r.toList ++ [], h'))))) else none) else none) else some (none, (cH I J pl st))))) := by
  rcases hP with rfl | rfl
  all_goals exact (mth_eq (M := mX6_addStep) (n := 4) rfl).trans ((exK_eq mX6_addStep [84] 70 _).symm.trans rfl)
set_option maxRecDepth 100000 in
theorem bX6_addStep_84 (I : Nat → Nat → Int32) (J : Nat → Nat → Int64) (pl st : Bool) {P : Nat} (hP : P = 4 ∨ P = 7) (s0 : Int32) (x3 : Int32) (z1 : Value) (z2 : Value) : run mX6_addStep (84, 0, 0, [.ref P, z1, z2, .int x3], [.int s0], (cH I J pl st)) = (callK (fX6_threadOf [.ref P, .int x3] (cH I J pl st)) (fun r h' => run mX6_addStep (89, 0, 0, [.ref P, .null, .null, .int x3], r.toList ++ [.int s0], h'))) := by
  rcases hP with rfl | rfl
  all_goals exact (exK_eq mX6_addStep [84, 89] 70 _).symm.trans rfl
set_option maxRecDepth 100000 in
theorem bX6_addStep_89 (I : Nat → Nat → Int32) (J : Nat → Nat → Int64) (pl st : Bool) {P : Nat} (hP : P = 4 ∨ P = 7) (s0 : Int32) (s1 : Int32) (x3 : Int32) (z1 : Value) (z2 : Value) : run mX6_addStep (89, 0, 0, [.ref P, z1, z2, .int x3], [.int s1, .int s0], (cH I J pl st)) = (if s0 = s1 then some (none, (cH (up2 I P 5 ((I P 5) ||| ((nI 1) <<< (x3 &&& 31)))) J pl st)) else some (none, (cH I J pl st))) := by
  rcases hP with rfl | rfl
  all_goals exact (exK_eq mX6_addStep [84, 89] 70 _).symm.trans rfl
set_option maxRecDepth 100000 in
theorem eX5_takeCell (I : Nat → Nat → Int32) (J : Nat → Nat → Int64) (pl st : Bool) {P : Nat} (hP : P = 4 ∨ P = 7) (x1 : Int32) : fX5_takeCell [.ref 3, .int x1, .ref P] (cH I J pl st) = (if x1 < (nI 48) then some (some (.int (nI 1)), (cH I J pl st)) else (if x1 ≤ (nI 57) then (if (x1 - (nI 48)) ≤ (nI 2) then (callK (fX6_addStep [.ref P, .int (x1 - (nI 48)), .int (I 3 2)] (cH I J pl st)) (fun r h' => run mX5_takeCell (36, 0, 0, [.ref 3, .int x1, .ref P], r.toList ++ [], h'))) else some (some (.int (nI 2)), (cH I J pl st))) else some (some (.int (nI 1)), (cH I J pl st)))) := by
  rcases hP with rfl | rfl
  all_goals exact (mth_eq (M := mX5_takeCell) (n := 3) rfl).trans ((exK_eq mX5_takeCell [36] 32 _).symm.trans rfl)
set_option maxRecDepth 100000 in
theorem bX5_takeCell_36 (I : Nat → Nat → Int32) (J : Nat → Nat → Int64) (pl st : Bool) {P : Nat} (hP : P = 4 ∨ P = 7) (z1 : Value) (z2 : Value) : run mX5_takeCell (36, 0, 0, [.ref 3, z1, z2], [], (cH I J pl st)) = some (some (.int (nI 0)), (cH (up2 I 3 1 (nI 2)) J pl st)) := by
  rcases hP with rfl | rfl
  all_goals exact (exK_eq mX5_takeCell [36] 32 _).symm.trans rfl
set_option maxRecDepth 100000 in
theorem eX5_take (I : Nat → Nat → Int32) (J : Nat → Nat → Int64) (pl st : Bool) {P : Nat} (hP : P = 4 ∨ P = 7) (x1 : Int32) : fX5_take [.ref 3, .int x1, .ref P] (cH I J pl st) = (if (I 3 1) = (nI 0) then (callK (fX5_takeWord [.ref 3, .int x1, .ref P] (cH I J pl st)) (fun r h' => run mX5_take (13, 0, 0, [.ref 3, .int x1, .ref P], r.toList ++ [], h'))) else (if (I 3 1) = (nI 1) then (callK (fX5_takeCell [.ref 3, .int x1, .ref P] (cH I J pl st)) (fun r h' => run mX5_take (28, 0, 0, [.ref 3, .int x1, .ref P], r.toList ++ [], h'))) else (if x1 = (nI 59) then some (some (.int (nI 0)), (cH (up2 I 3 1 (nI 0)) J pl st)) else some (some (.int (nI 1)), (cH I J pl st))))) := by
  rcases hP with rfl | rfl
  all_goals exact (mth_eq (M := mX5_take) (n := 3) rfl).trans ((exK_eq mX5_take [13, 28] 32 _).symm.trans rfl)
set_option maxRecDepth 100000 in
theorem bX5_take_13 (I : Nat → Nat → Int32) (J : Nat → Nat → Int64) (pl st : Bool) {P : Nat} (hP : P = 4 ∨ P = 7) (s0 : Int32) (z0 : Value) (z1 : Value) (z2 : Value) : run mX5_take (13, 0, 0, [z0, z1, z2], [.int s0], (cH I J pl st)) = some (some (.int s0), (cH I J pl st)) := by
  rcases hP with rfl | rfl
  all_goals exact (exK_eq mX5_take [13, 28] 32 _).symm.trans rfl
set_option maxRecDepth 100000 in
theorem bX5_take_28 (I : Nat → Nat → Int32) (J : Nat → Nat → Int64) (pl st : Bool) {P : Nat} (hP : P = 4 ∨ P = 7) (s0 : Int32) (z0 : Value) (z1 : Value) (z2 : Value) : run mX5_take (28, 0, 0, [z0, z1, z2], [.int s0], (cH I J pl st)) = some (some (.int s0), (cH I J pl st)) := by
  rcases hP with rfl | rfl
  all_goals exact (exK_eq mX5_take [13, 28] 32 _).symm.trans rfl
set_option maxRecDepth 100000 in
theorem eX5_parse (I : Nat → Nat → Int32) (J : Nat → Nat → Int64) (pl st : Bool) {P : Nat} (hP : P = 4 ∨ P = 7)  : fX5_parse [.ref 3, .ref 1, .ref P] (cH I J pl st) = (callK (fX6_clear [.ref P] (cH I J pl st)) (fun r h' => run mX5_parse (4, 0, 0, [.ref 3, .ref 1, .ref P, .null, .null, .null], r.toList ++ [], h'))) := by
  rcases hP with rfl | rfl
  all_goals exact (mth_eq (M := mX5_parse) (n := 6) rfl).trans ((exK_eq mX5_parse [4, 11] 53 _).symm.trans rfl)
set_option maxRecDepth 100000 in
theorem bX5_parse_4 (I : Nat → Nat → Int32) (J : Nat → Nat → Int64) (pl st : Bool) {P : Nat} (hP : P = 4 ∨ P = 7) (z3 : Value) (z4 : Value) (z5 : Value) : run mX5_parse (4, 0, 0, [.ref 3, .ref 1, .ref P, z3, z4, z5], [], (cH I J pl st)) = run mX5_parse (11, 0, 0, [.ref 3, .ref 1, .ref P, .int (nI 0), .null, .null], [], (cH (up2 I 3 1 (nI 0)) J pl st)) := by
  rcases hP with rfl | rfl
  all_goals exact (exK_eq mX5_parse [4, 11] 53 _).symm.trans rfl
set_option maxRecDepth 100000 in
theorem bX5_parse_11 (I : Nat → Nat → Int32) (J : Nat → Nat → Int64) (pl st : Bool) {P : Nat} (hP : P = 4 ∨ P = 7) (x3 : Int32) (z4 : Value) (z5 : Value) : run mX5_parse (11, 0, 0, [.ref 3, .ref 1, .ref P, .int x3, z4, z5], [], (cH I J pl st)) = (if (I 1 1) ≤ x3 then (if (I 3 1) = (nI 0) then some (some (.int (nI 0)), (cH (up2 I 3 0 (Int32.ofInt (-1))) J pl st)) else some (some (.int (nI 1)), (cH (up2 I 3 0 (I 1 1)) J pl st))) else (callK (fX10_letterAt [.ref 1, .int x3] (cH I J pl st)) (fun r h' => run mX5_parse (24, 0, 0, [.ref 3, .ref 1, .ref P, .int x3, .null, .null], r.toList ++ [], h')))) := by
  rcases hP with rfl | rfl
  all_goals exact (exK_eq mX5_parse [4, 11, 24] 53 _).symm.trans rfl
set_option maxRecDepth 100000 in
theorem bX5_parse_24 (I : Nat → Nat → Int32) (J : Nat → Nat → Int64) (pl st : Bool) {P : Nat} (hP : P = 4 ∨ P = 7) (s0 : Int32) (x3 : Int32) (z4 : Value) (z5 : Value) : run mX5_parse (24, 0, 0, [.ref 3, .ref 1, .ref P, .int x3, z4, z5], [.int s0], (cH I J pl st)) = (if s0 = (nI 32) then run mX5_parse (44, 0, 0, [.ref 3, .ref 1, .ref P, .int x3, .int s0, .null], [.int (nI 0)], (cH I J pl st)) else (callK (fX5_take [.ref 3, .int s0, .ref P] (cH I J pl st)) (fun r h' => run mX5_parse (44, 0, 0, [.ref 3, .ref 1, .ref P, .int x3, .int s0, .null], r.toList ++ [], h')))) := by
  rcases hP with rfl | rfl
  all_goals exact (exK_eq mX5_parse [4, 11, 24, 44] 53 _).symm.trans rfl
set_option maxRecDepth 100000 in
theorem bX5_parse_44 (I : Nat → Nat → Int32) (J : Nat → Nat → Int64) (pl st : Bool) {P : Nat} (hP : P = 4 ∨ P = 7) (s0 : Int32) (x3 : Int32) (z4 : Value) (z5 : Value) : run mX5_parse (44, 0, 0, [.ref 3, .ref 1, .ref P, .int x3, z4, z5], [.int s0], (cH I J pl st)) = (if s0 = (nI 0) then run mX5_parse (11, 0, 0, [.ref 3, .ref 1, .ref P, .int (x3 + (nI 1)), .null, .int s0], [], (cH I J pl st)) else some (some (.int s0), (cH (up2 I 3 0 x3) J pl st))) := by
  rcases hP with rfl | rfl
  all_goals exact (exK_eq mX5_parse [4, 11, 24, 44] 53 _).symm.trans rfl
set_option maxRecDepth 100000 in
theorem eX6_hasGap (I : Nat → Nat → Int32) (J : Nat → Nat → Int64) (pl st : Bool) {P : Nat} (hP : P = 4 ∨ P = 7) (x1 : Int32) : fX6_hasGap [.ref P, .int x1] (cH I J pl st) = (callK (fX6_hasStep [.ref P, .int x1] (cH I J pl st)) (fun r h' => run mX6_hasGap (5, 0, 0, [.ref P, .int x1], r.toList ++ [], h'))) := by
  rcases hP with rfl | rfl
  all_goals exact (mth_eq (M := mX6_hasGap) (n := 2) rfl).trans ((exK_eq mX6_hasGap [5] 18 _).symm.trans rfl)
set_option maxRecDepth 100000 in
theorem bX6_hasGap_5 (I : Nat → Nat → Int32) (J : Nat → Nat → Int64) (pl st : Bool) {P : Nat} (hP : P = 4 ∨ P = 7) (s0 : Int32) (x1 : Int32) : run mX6_hasGap (5, 0, 0, [.ref P, .int x1], [.int s0], (cH I J pl st)) = (if s0 = (nI 0) then some (some (.int (nI 0)), (cH I J pl st)) else (callK (fX11_has [.int (I P 5), .int x1] (cH I J pl st)) (fun r h' => run mX6_hasGap (16, 0, 0, [.ref P, .int x1], r.toList ++ [], h')))) := by
  rcases hP with rfl | rfl
  all_goals exact (exK_eq mX6_hasGap [5, 16] 18 _).symm.trans rfl
set_option maxRecDepth 100000 in
theorem bX6_hasGap_16 (I : Nat → Nat → Int32) (J : Nat → Nat → Int64) (pl st : Bool) {P : Nat} (hP : P = 4 ∨ P = 7) (s0 : Int32) (z0 : Value) (z1 : Value) : run mX6_hasGap (16, 0, 0, [z0, z1], [.int s0], (cH I J pl st)) = (if s0 = (nI 0) then some (some (.int (nI 0)), (cH I J pl st)) else some (some (.int (nI 1)), (cH I J pl st))) := by
  rcases hP with rfl | rfl
  all_goals exact (exK_eq mX6_hasGap [5, 16] 18 _).symm.trans rfl
set_option maxRecDepth 100000 in
theorem eX6_areInConflict (I : Nat → Nat → Int32) (J : Nat → Nat → Int64) (pl st : Bool) {P : Nat} (hP : P = 4 ∨ P = 7) (x1 : Int32) (x2 : Int32) : fX6_areInConflict [.ref P, .int x1, .int x2] (cH I J pl st) = (callK (fX6_threadOf [.ref P, .int x1] (cH I J pl st)) (fun r h' => run mX6_areInConflict (5, 0, 0, [.ref P, .int x1, .int x2], r.toList ++ [], h'))) := by
  rcases hP with rfl | rfl
  all_goals exact (mth_eq (M := mX6_areInConflict) (n := 3) rfl).trans ((exK_eq mX6_areInConflict [5] 31 _).symm.trans rfl)
set_option maxRecDepth 100000 in
theorem bX6_areInConflict_5 (I : Nat → Nat → Int32) (J : Nat → Nat → Int64) (pl st : Bool) {P : Nat} (hP : P = 4 ∨ P = 7) (s0 : Int32) (x1 : Int32) (x2 : Int32) : run mX6_areInConflict (5, 0, 0, [.ref P, .int x1, .int x2], [.int s0], (cH I J pl st)) = (callK (fX6_threadOf [.ref P, .int x2] (cH I J pl st)) (fun r h' => run mX6_areInConflict (10, 0, 0, [.ref P, .int x1, .int x2], r.toList ++ [.int s0], h'))) := by
  rcases hP with rfl | rfl
  all_goals exact (exK_eq mX6_areInConflict [5, 10] 31 _).symm.trans rfl
set_option maxRecDepth 100000 in
theorem bX6_areInConflict_10 (I : Nat → Nat → Int32) (J : Nat → Nat → Int64) (pl st : Bool) {P : Nat} (hP : P = 4 ∨ P = 7) (s0 : Int32) (s1 : Int32) (x1 : Int32) (x2 : Int32) : run mX6_areInConflict (10, 0, 0, [.ref P, .int x1, .int x2], [.int s1, .int s0], (cH I J pl st)) = (if s0 = s1 then some (some (.int (nI 0)), (cH I J pl st)) else (callK (fX6_cellOf [.ref P, .int x1] (cH I J pl st)) (fun r h' => run mX6_areInConflict (18, 0, 0, [.ref P, .int x1, .int x2], r.toList ++ [], h')))) := by
  rcases hP with rfl | rfl
  all_goals exact (exK_eq mX6_areInConflict [5, 10, 18] 31 _).symm.trans rfl
set_option maxRecDepth 100000 in
theorem bX6_areInConflict_18 (I : Nat → Nat → Int32) (J : Nat → Nat → Int64) (pl st : Bool) {P : Nat} (hP : P = 4 ∨ P = 7) (s0 : Int32) (x1 : Int32) (x2 : Int32) : run mX6_areInConflict (18, 0, 0, [.ref P, .int x1, .int x2], [.int s0], (cH I J pl st)) = (callK (fX6_cellOf [.ref P, .int x2] (cH I J pl st)) (fun r h' => run mX6_areInConflict (23, 0, 0, [.ref P, .int x1, .int x2], r.toList ++ [.int s0], h'))) := by
  rcases hP with rfl | rfl
  all_goals exact (exK_eq mX6_areInConflict [5, 10, 18, 23] 31 _).symm.trans rfl
set_option maxRecDepth 100000 in
theorem bX6_areInConflict_23 (I : Nat → Nat → Int32) (J : Nat → Nat → Int64) (pl st : Bool) {P : Nat} (hP : P = 4 ∨ P = 7) (s0 : Int32) (s1 : Int32) (x1 : Int32) (x2 : Int32) : run mX6_areInConflict (23, 0, 0, [.ref P, .int x1, .int x2], [.int s1, .int s0], (cH I J pl st)) = (if s0 = s1 then (callK (fX6_isWriter [.ref P, .int x1] (cH I J pl st)) (fun r h' => run mX6_areInConflict (31, 0, 0, [.ref P, .int x1, .int x2], r.toList ++ [], h'))) else some (some (.int (nI 0)), (cH I J pl st))) := by
  rcases hP with rfl | rfl
  all_goals exact (exK_eq mX6_areInConflict [5, 10, 18, 23, 31] 31 _).symm.trans rfl
set_option maxRecDepth 100000 in
theorem bX6_areInConflict_31 (I : Nat → Nat → Int32) (J : Nat → Nat → Int64) (pl st : Bool) {P : Nat} (hP : P = 4 ∨ P = 7) (s0 : Int32) (x2 : Int32) (z1 : Value) : run mX6_areInConflict (31, 0, 0, [.ref P, z1, .int x2], [.int s0], (cH I J pl st)) = (if s0 = (nI 0) then (callK (fX6_isWriter [.ref P, .int x2] (cH I J pl st)) (fun r h' => run mX6_areInConflict (39, 0, 0, [.ref P, .null, .int x2], r.toList ++ [], h'))) else some (some (.int (nI 1)), (cH I J pl st))) := by
  rcases hP with rfl | rfl
  all_goals exact (exK_eq mX6_areInConflict [5, 10, 18, 23, 31, 39] 31 _).symm.trans rfl
set_option maxRecDepth 100000 in
theorem bX6_areInConflict_39 (I : Nat → Nat → Int32) (J : Nat → Nat → Int64) (pl st : Bool) {P : Nat} (hP : P = 4 ∨ P = 7) (s0 : Int32) (z0 : Value) (z1 : Value) (z2 : Value) : run mX6_areInConflict (39, 0, 0, [z0, z1, z2], [.int s0], (cH I J pl st)) = (if s0 = (nI 0) then some (some (.int (nI 0)), (cH I J pl st)) else some (some (.int (nI 1)), (cH I J pl st))) := by
  rcases hP with rfl | rfl
  all_goals exact (exK_eq mX6_areInConflict [5, 10, 18, 23, 31, 39] 31 _).symm.trans rfl
set_option maxRecDepth 100000 in
theorem eX6_conflictsOf (I : Nat → Nat → Int32) (J : Nat → Nat → Int64) (pl st : Bool) {P : Nat} (hP : P = 4 ∨ P = 7) (x1 : Int32) : fX6_conflictsOf [.ref P, .int x1] (cH I J pl st) = run mX6_conflictsOf (4, 0, 0, [.ref P, .int x1, .int (nI 0), .int (nI 0)], [], (cH I J pl st)) := by
  rcases hP with rfl | rfl
  all_goals exact (mth_eq (M := mX6_conflictsOf) (n := 4) rfl).trans ((exK_eq mX6_conflictsOf [4] 28 _).symm.trans rfl)
set_option maxRecDepth 100000 in
theorem bX6_conflictsOf_4 (I : Nat → Nat → Int32) (J : Nat → Nat → Int64) (pl st : Bool) {P : Nat} (hP : P = 4 ∨ P = 7) (x1 : Int32) (x2 : Int32) (x3 : Int32) : run mX6_conflictsOf (4, 0, 0, [.ref P, .int x1, .int x2, .int x3], [], (cH I J pl st)) = (if (I P 3) ≤ x3 then some (some (.int x2), (cH I J pl st)) else (callK (fX6_areInConflict [.ref P, .int x1, .int x3] (cH I J pl st)) (fun r h' => run mX6_conflictsOf (18, 0, 0, [.ref P, .int x1, .int x2, .int x3], r.toList ++ [], h')))) := by
  rcases hP with rfl | rfl
  all_goals exact (exK_eq mX6_conflictsOf [4, 18] 28 _).symm.trans rfl
set_option maxRecDepth 100000 in
theorem bX6_conflictsOf_18 (I : Nat → Nat → Int32) (J : Nat → Nat → Int64) (pl st : Bool) {P : Nat} (hP : P = 4 ∨ P = 7) (s0 : Int32) (x1 : Int32) (x2 : Int32) (x3 : Int32) : run mX6_conflictsOf (18, 0, 0, [.ref P, .int x1, .int x2, .int x3], [.int s0], (cH I J pl st)) = (if s0 = (nI 0) then run mX6_conflictsOf (4, 0, 0, [.ref P, .int x1, .int x2, .int (x3 + (nI 1))], [], (cH I J pl st)) else run mX6_conflictsOf (4, 0, 0, [.ref P, .int x1, .int (x2 ||| ((nI 1) <<< (x3 &&& 31))), .int (x3 + (nI 1))], [], (cH I J pl st))) := by
  rcases hP with rfl | rfl
  all_goals exact (exK_eq mX6_conflictsOf [4, 18] 28 _).symm.trans rfl
set_option maxRecDepth 100000 in
theorem eX7_countWithout (I : Nat → Nat → Int32) (J : Nat → Nat → Int64) (pl st : Bool)  : fX7_countWithout [.ref 74, .ref 76] (cH I J pl st) = run mX7_countWithout (4, 0, 0, [.ref 74, .ref 76, .int (nI 0), .int (nI 0)], [], (cH I J pl st)) := (mth_eq (M := mX7_countWithout) (n := 4) rfl).trans ((exK_eq mX7_countWithout [4] 24 _).symm.trans rfl)
set_option maxRecDepth 100000 in
theorem bX7_countWithout_4 (I : Nat → Nat → Int32) (J : Nat → Nat → Int64) (pl st : Bool) (x2 : Int32) (x3 : Int32) : run mX7_countWithout (4, 0, 0, [.ref 74, .ref 76, .int x2, .int x3], [], (cH I J pl st)) = (if (I 74 1) ≤ x3 then some (some (.int x2), (cH I J pl st)) else (callK (fX7_at [.ref 74, .int x3] (cH I J pl st)) (fun r h' => run mX7_countWithout (18, 0, 0, [.ref 74, .ref 76, .int x2, .int x3], r.toList ++ [.ref 76], h')))) := (exK_eq mX7_countWithout [4, 18] 24 _).symm.trans rfl
set_option maxRecDepth 100000 in
theorem bX7_countWithout_18 (I : Nat → Nat → Int32) (J : Nat → Nat → Int64) (pl st : Bool) (s1 : Int32) (x2 : Int32) (x3 : Int32) : run mX7_countWithout (18, 0, 0, [.ref 74, .ref 76, .int x2, .int x3], [.int s1, .ref 76], (cH I J pl st)) = (callK (fX7_holds [.ref 76, .int s1] (cH I J pl st)) (fun r h' => run mX7_countWithout (21, 0, 0, [.ref 74, .ref 76, .int x2, .int x3], r.toList ++ [], h'))) := (exK_eq mX7_countWithout [4, 18, 21] 24 _).symm.trans rfl
set_option maxRecDepth 100000 in
theorem bX7_countWithout_21 (I : Nat → Nat → Int32) (J : Nat → Nat → Int64) (pl st : Bool) (s0 : Int32) (x2 : Int32) (x3 : Int32) : run mX7_countWithout (21, 0, 0, [.ref 74, .ref 76, .int x2, .int x3], [.int s0], (cH I J pl st)) = (if s0 = (nI 0) then run mX7_countWithout (4, 0, 0, [.ref 74, .ref 76, .int (x2 + (nI 1)), .int (x3 + (nI 1))], [], (cH I J pl st)) else run mX7_countWithout (4, 0, 0, [.ref 74, .ref 76, .int x2, .int (x3 + (nI 1))], [], (cH I J pl st))) := (exK_eq mX7_countWithout [4, 18, 21] 24 _).symm.trans rfl
set_option maxRecDepth 100000 in
theorem eX7_atWithout (I : Nat → Nat → Int32) (J : Nat → Nat → Int64) (pl st : Bool) (x1 : Int32) : fX7_atWithout [.ref 74, .int x1, .ref 76] (cH I J pl st) = run mX7_atWithout (5, 0, 0, [.ref 74, .int x1, .ref 76, .int (nI 0), .int (nI 0)], [], (cH I J pl st)) := (mth_eq (M := mX7_atWithout) (n := 5) rfl).trans ((exK_eq mX7_atWithout [5] 31 _).symm.trans rfl)
set_option maxRecDepth 100000 in
theorem bX7_atWithout_5 (I : Nat → Nat → Int32) (J : Nat → Nat → Int64) (pl st : Bool) (x1 : Int32) (x3 : Int32) (x4 : Int32) : run mX7_atWithout (5, 0, 0, [.ref 74, .int x1, .ref 76, .int x3, .int x4], [], (cH I J pl st)) = (if (I 74 1) ≤ x4 then some (some (.int (Int32.ofInt (-1))), (cH I J pl st)) else (callK (fX7_at [.ref 74, .int x4] (cH I J pl st)) (fun r h' => run mX7_atWithout (21, 0, 0, [.ref 74, .int x1, .ref 76, .int x3, .int x4], r.toList ++ [.ref 76], h')))) := (exK_eq mX7_atWithout [5, 21] 31 _).symm.trans rfl
set_option maxRecDepth 100000 in
theorem bX7_atWithout_21 (I : Nat → Nat → Int32) (J : Nat → Nat → Int64) (pl st : Bool) (s1 : Int32) (x1 : Int32) (x3 : Int32) (x4 : Int32) : run mX7_atWithout (21, 0, 0, [.ref 74, .int x1, .ref 76, .int x3, .int x4], [.int s1, .ref 76], (cH I J pl st)) = (callK (fX7_holds [.ref 76, .int s1] (cH I J pl st)) (fun r h' => run mX7_atWithout (24, 0, 0, [.ref 74, .int x1, .ref 76, .int x3, .int x4], r.toList ++ [], h'))) := (exK_eq mX7_atWithout [5, 21, 24] 31 _).symm.trans rfl
set_option maxRecDepth 100000 in
theorem bX7_atWithout_24 (I : Nat → Nat → Int32) (J : Nat → Nat → Int64) (pl st : Bool) (s0 : Int32) (x1 : Int32) (x3 : Int32) (x4 : Int32) : run mX7_atWithout (24, 0, 0, [.ref 74, .int x1, .ref 76, .int x3, .int x4], [.int s0], (cH I J pl st)) = (if s0 = (nI 0) then (if x3 = x1 then (callK (fX7_at [.ref 74, .int x4] (cH I J pl st)) (fun r h' => run mX7_atWithout (38, 0, 0, [.ref 74, .int x1, .ref 76, .int x3, .int x4], r.toList ++ [], h'))) else run mX7_atWithout (5, 0, 0, [.ref 74, .int x1, .ref 76, .int (x3 + (nI 1)), .int (x4 + (nI 1))], [], (cH I J pl st))) else run mX7_atWithout (5, 0, 0, [.ref 74, .int x1, .ref 76, .int x3, .int (x4 + (nI 1))], [], (cH I J pl st))) := (exK_eq mX7_atWithout [5, 21, 24, 38] 31 _).symm.trans rfl
set_option maxRecDepth 100000 in
theorem bX7_atWithout_38 (I : Nat → Nat → Int32) (J : Nat → Nat → Int64) (pl st : Bool) (s0 : Int32) (z0 : Value) (z1 : Value) (z2 : Value) (z3 : Value) (z4 : Value) : run mX7_atWithout (38, 0, 0, [z0, z1, z2, z3, z4], [.int s0], (cH I J pl st)) = some (some (.int s0), (cH I J pl st)) := (exK_eq mX7_atWithout [5, 21, 24, 38] 31 _).symm.trans rfl
set_option maxRecDepth 100000 in
theorem eX8_addGift (I : Nat → Nat → Int32) (J : Nat → Nat → Int64) (pl st : Bool) (x1 : Int32) : fX8_addGift [.ref 10, .int x1] (cH I J pl st) = (if (I 10 2) < (nI 0) then some (none, (cH I J pl st)) else (if (nI 36) ≤ (I 10 2) then some (none, (cH I J pl st)) else (bif inb (I 10 2) 36 then some (none, (cH (up2 (up2 I 11 ((I 10 2)).toNatClampNeg x1) 10 2 ((I 10 2) + (nI 1))) J pl st)) else none))) := (mth_eq (M := mX8_addGift) (n := 2) rfl).trans ((exK_eq mX8_addGift [] 27 _).symm.trans rfl)
set_option maxRecDepth 100000 in
theorem eX8_gatherGifts (I : Nat → Nat → Int32) (J : Nat → Nat → Int64) (pl st : Bool) {P : Nat} (hP : P = 4 ∨ P = 7)  : fX8_gatherGifts [.ref 10, .ref P] (cH I J pl st) = run mX8_gatherGifts (7, 0, 0, [.ref 10, .ref P, .int (nI 0), .null], [], (cH (up2 I 10 2 (nI 0)) J pl st)) := by
  rcases hP with rfl | rfl
  all_goals exact (mth_eq (M := mX8_gatherGifts) (n := 4) rfl).trans ((exK_eq mX8_gatherGifts [7, 36] 53 _).symm.trans rfl)
set_option maxRecDepth 100000 in
theorem bX8_gatherGifts_7 (I : Nat → Nat → Int32) (J : Nat → Nat → Int64) (pl st : Bool) {P : Nat} (hP : P = 4 ∨ P = 7) (x2 : Int32) (z3 : Value) : run mX8_gatherGifts (7, 0, 0, [.ref 10, .ref P, .int x2, z3], [], (cH I J pl st)) = (if (I P 3) ≤ x2 then some (none, (cH I J pl st)) else (callK (fX6_isWriter [.ref P, .int x2] (cH I J pl st)) (fun r h' => run mX8_gatherGifts (20, 0, 0, [.ref 10, .ref P, .int x2, .null], r.toList ++ [], h')))) := by
  rcases hP with rfl | rfl
  all_goals exact (exK_eq mX8_gatherGifts [7, 20, 36] 53 _).symm.trans rfl
set_option maxRecDepth 100000 in
theorem bX8_gatherGifts_20 (I : Nat → Nat → Int32) (J : Nat → Nat → Int64) (pl st : Bool) {P : Nat} (hP : P = 4 ∨ P = 7) (s0 : Int32) (x2 : Int32) (z3 : Value) : run mX8_gatherGifts (20, 0, 0, [.ref 10, .ref P, .int x2, z3], [.int s0], (cH I J pl st)) = (if s0 = (nI 0) then run mX8_gatherGifts (36, 0, 0, [.ref 10, .ref P, .int x2, .int (x2 + (nI 1))], [], (cH I J pl st)) else (callK (fX8_giftOf [.int x2, .int x2] (cH I J pl st)) (fun r h' => run mX8_gatherGifts (29, 0, 0, [.ref 10, .ref P, .int x2, .null], r.toList ++ [.ref 10], h')))) := by
  rcases hP with rfl | rfl
  all_goals exact (exK_eq mX8_gatherGifts [7, 20, 29, 36] 53 _).symm.trans rfl
set_option maxRecDepth 100000 in
theorem bX8_gatherGifts_36 (I : Nat → Nat → Int32) (J : Nat → Nat → Int64) (pl st : Bool) {P : Nat} (hP : P = 4 ∨ P = 7) (x2 : Int32) (x3 : Int32) : run mX8_gatherGifts (36, 0, 0, [.ref 10, .ref P, .int x2, .int x3], [], (cH I J pl st)) = (if (I P 3) ≤ x3 then run mX8_gatherGifts (7, 0, 0, [.ref 10, .ref P, .int (x2 + (nI 1)), .int x3], [], (cH I J pl st)) else (callK (fX6_isAhead [.ref P, .int x2, .int x3] (cH I J pl st)) (fun r h' => run mX8_gatherGifts (50, 0, 0, [.ref 10, .ref P, .int x2, .int x3], r.toList ++ [], h')))) := by
  rcases hP with rfl | rfl
  all_goals exact (exK_eq mX8_gatherGifts [7, 20, 29, 36, 50] 53 _).symm.trans rfl
set_option maxRecDepth 100000 in
theorem bX8_gatherGifts_29 (I : Nat → Nat → Int32) (J : Nat → Nat → Int64) (pl st : Bool) {P : Nat} (hP : P = 4 ∨ P = 7) (s1 : Int32) (x2 : Int32) (z3 : Value) : run mX8_gatherGifts (29, 0, 0, [.ref 10, .ref P, .int x2, z3], [.int s1, .ref 10], (cH I J pl st)) = (callK (fX8_addGift [.ref 10, .int s1] (cH I J pl st)) (fun r h' => run mX8_gatherGifts (32, 0, 0, [.ref 10, .ref P, .int x2, .null], r.toList ++ [], h'))) := by
  rcases hP with rfl | rfl
  all_goals exact (exK_eq mX8_gatherGifts [7, 20, 29, 32, 36, 50] 53 _).symm.trans rfl
set_option maxRecDepth 100000 in
theorem bX8_gatherGifts_50 (I : Nat → Nat → Int32) (J : Nat → Nat → Int64) (pl st : Bool) {P : Nat} (hP : P = 4 ∨ P = 7) (s0 : Int32) (x2 : Int32) (x3 : Int32) : run mX8_gatherGifts (50, 0, 0, [.ref 10, .ref P, .int x2, .int x3], [.int s0], (cH I J pl st)) = (if s0 = (nI 0) then run mX8_gatherGifts (36, 0, 0, [.ref 10, .ref P, .int x2, .int (x3 + (nI 1))], [], (cH I J pl st)) else (callK (fX6_cellOf [.ref P, .int x2] (cH I J pl st)) (fun r h' => run mX8_gatherGifts (58, 0, 0, [.ref 10, .ref P, .int x2, .int x3], r.toList ++ [], h')))) := by
  rcases hP with rfl | rfl
  all_goals exact (exK_eq mX8_gatherGifts [7, 20, 29, 32, 36, 50, 58] 53 _).symm.trans rfl
set_option maxRecDepth 100000 in
theorem bX8_gatherGifts_32 (I : Nat → Nat → Int32) (J : Nat → Nat → Int64) (pl st : Bool) {P : Nat} (hP : P = 4 ∨ P = 7) (x2 : Int32) (z3 : Value) : run mX8_gatherGifts (32, 0, 0, [.ref 10, .ref P, .int x2, z3], [], (cH I J pl st)) = run mX8_gatherGifts (36, 0, 0, [.ref 10, .ref P, .int x2, .int (x2 + (nI 1))], [], (cH I J pl st)) := by
  rcases hP with rfl | rfl
  all_goals exact (exK_eq mX8_gatherGifts [7, 20, 29, 32, 36, 50, 58] 53 _).symm.trans rfl
set_option maxRecDepth 100000 in
theorem bX8_gatherGifts_58 (I : Nat → Nat → Int32) (J : Nat → Nat → Int64) (pl st : Bool) {P : Nat} (hP : P = 4 ∨ P = 7) (s0 : Int32) (x2 : Int32) (x3 : Int32) : run mX8_gatherGifts (58, 0, 0, [.ref 10, .ref P, .int x2, .int x3], [.int s0], (cH I J pl st)) = (callK (fX6_cellOf [.ref P, .int x3] (cH I J pl st)) (fun r h' => run mX8_gatherGifts (63, 0, 0, [.ref 10, .ref P, .int x2, .int x3], r.toList ++ [.int s0], h'))) := by
  rcases hP with rfl | rfl
  all_goals exact (exK_eq mX8_gatherGifts [7, 20, 29, 32, 36, 50, 58, 63] 53 _).symm.trans rfl
set_option maxRecDepth 100000 in
theorem bX8_gatherGifts_63 (I : Nat → Nat → Int32) (J : Nat → Nat → Int64) (pl st : Bool) {P : Nat} (hP : P = 4 ∨ P = 7) (s0 : Int32) (s1 : Int32) (x2 : Int32) (x3 : Int32) : run mX8_gatherGifts (63, 0, 0, [.ref 10, .ref P, .int x2, .int x3], [.int s1, .int s0], (cH I J pl st)) = (if s0 = s1 then run mX8_gatherGifts (36, 0, 0, [.ref 10, .ref P, .int x2, .int (x3 + (nI 1))], [], (cH I J pl st)) else (callK (fX8_giftOf [.int x2, .int x3] (cH I J pl st)) (fun r h' => run mX8_gatherGifts (72, 0, 0, [.ref 10, .ref P, .int x2, .int x3], r.toList ++ [.ref 10], h')))) := by
  rcases hP with rfl | rfl
  all_goals exact (exK_eq mX8_gatherGifts [7, 20, 29, 32, 36, 50, 58, 63, 72] 53 _).symm.trans rfl
set_option maxRecDepth 100000 in
theorem bX8_gatherGifts_72 (I : Nat → Nat → Int32) (J : Nat → Nat → Int64) (pl st : Bool) {P : Nat} (hP : P = 4 ∨ P = 7) (s1 : Int32) (x2 : Int32) (x3 : Int32) : run mX8_gatherGifts (72, 0, 0, [.ref 10, .ref P, .int x2, .int x3], [.int s1, .ref 10], (cH I J pl st)) = (callK (fX8_addGift [.ref 10, .int s1] (cH I J pl st)) (fun r h' => run mX8_gatherGifts (75, 0, 0, [.ref 10, .ref P, .int x2, .int x3], r.toList ++ [], h'))) := by
  rcases hP with rfl | rfl
  all_goals exact (exK_eq mX8_gatherGifts [7, 20, 29, 32, 36, 50, 58, 63, 72, 75] 53 _).symm.trans rfl
set_option maxRecDepth 100000 in
theorem bX8_gatherGifts_75 (I : Nat → Nat → Int32) (J : Nat → Nat → Int64) (pl st : Bool) {P : Nat} (hP : P = 4 ∨ P = 7) (x2 : Int32) (x3 : Int32) : run mX8_gatherGifts (75, 0, 0, [.ref 10, .ref P, .int x2, .int x3], [], (cH I J pl st)) = run mX8_gatherGifts (36, 0, 0, [.ref 10, .ref P, .int x2, .int (x3 + (nI 1))], [], (cH I J pl st)) := by
  rcases hP with rfl | rfl
  all_goals exact (exK_eq mX8_gatherGifts [7, 20, 29, 32, 36, 50, 58, 63, 72, 75] 53 _).symm.trans rfl
set_option maxRecDepth 100000 in
theorem eX8_giftAt (I : Nat → Nat → Int32) (J : Nat → Nat → Int64) (pl st : Bool) (x1 : Int32) : fX8_giftAt [.ref 10, .int x1] (cH I J pl st) = (if x1 < (nI 0) then some (some (.int (nI 0)), (cH I J pl st)) else (if (nI 36) ≤ x1 then some (some (.int (nI 0)), (cH I J pl st)) else (bif inb x1 36 then some (some (.int (I 11 (x1).toNatClampNeg)), (cH I J pl st)) else none))) := (mth_eq (M := mX8_giftAt) (n := 2) rfl).trans ((exK_eq mX8_giftAt [] 19 _).symm.trans rfl)
set_option maxRecDepth 100000 in
theorem eX8_firstOf (I : Nat → Nat → Int32) (J : Nat → Nat → Int64) (pl st : Bool) (x0 : Int32) : fX8_firstOf [.int x0] (cH I J pl st) = some (some (.int (x0 / (nI 8))), (cH I J pl st)) := (mth_eq (M := mX8_firstOf) (n := 1) rfl).trans ((exK_eq mX8_firstOf [] 9 _).symm.trans rfl)
set_option maxRecDepth 100000 in
theorem eX8_lastOf (I : Nat → Nat → Int32) (J : Nat → Nat → Int64) (pl st : Bool) (x0 : Int32) : fX8_lastOf [.int x0] (cH I J pl st) = some (some (.int (x0 - x0 / (nI 8) * (nI 8))), (cH I J pl st)) := (mth_eq (M := mX8_lastOf) (n := 1) rfl).trans ((exK_eq mX8_lastOf [] 9 _).symm.trans rfl)
set_option maxRecDepth 100000 in
theorem eX8_isAlone (I : Nat → Nat → Int32) (J : Nat → Nat → Int64) (pl st : Bool) (x0 : Int32) : fX8_isAlone [.int x0] (cH I J pl st) = (callK (fX8_firstOf [.int x0] (cH I J pl st)) (fun r h' => run mX8_isAlone (4, 0, 0, [.int x0], r.toList ++ [], h'))) := (mth_eq (M := mX8_isAlone) (n := 1) rfl).trans ((exK_eq mX8_isAlone [4] 14 _).symm.trans rfl)
set_option maxRecDepth 100000 in
theorem bX8_isAlone_4 (I : Nat → Nat → Int32) (J : Nat → Nat → Int64) (pl st : Bool) (s0 : Int32) (x0 : Int32) : run mX8_isAlone (4, 0, 0, [.int x0], [.int s0], (cH I J pl st)) = (callK (fX8_lastOf [.int x0] (cH I J pl st)) (fun r h' => run mX8_isAlone (8, 0, 0, [.int x0], r.toList ++ [.int s0], h'))) := (exK_eq mX8_isAlone [4, 8] 14 _).symm.trans rfl
set_option maxRecDepth 100000 in
theorem bX8_isAlone_8 (I : Nat → Nat → Int32) (J : Nat → Nat → Int64) (pl st : Bool) (s0 : Int32) (s1 : Int32) (z0 : Value) : run mX8_isAlone (8, 0, 0, [z0], [.int s1, .int s0], (cH I J pl st)) = (if s0 = s1 then some (some (.int (nI 1)), (cH I J pl st)) else some (some (.int (nI 0)), (cH I J pl st))) := (exK_eq mX8_isAlone [4, 8] 14 _).symm.trans rfl
set_option maxRecDepth 100000 in
theorem eX8_leadsTo (I : Nat → Nat → Int32) (J : Nat → Nat → Int64) (pl st : Bool) {P : Nat} (hP : P = 4 ∨ P = 7) (x2 : Int32) (x3 : Int32) : fX8_leadsTo [.ref 10, .ref P, .int x2, .int x3] (cH I J pl st) = (callK (fX8_lastOf [.int x2] (cH I J pl st)) (fun r h' => run mX8_leadsTo (4, 0, 0, [.ref 10, .ref P, .int x2, .int x3, .null, .null], r.toList ++ [], h'))) := by
  rcases hP with rfl | rfl
  all_goals exact (mth_eq (M := mX8_leadsTo) (n := 6) rfl).trans ((exK_eq mX8_leadsTo [4] 36 _).symm.trans rfl)
set_option maxRecDepth 100000 in
theorem bX8_leadsTo_4 (I : Nat → Nat → Int32) (J : Nat → Nat → Int64) (pl st : Bool) {P : Nat} (hP : P = 4 ∨ P = 7) (s0 : Int32) (x2 : Int32) (x3 : Int32) (z0 : Value) (z4 : Value) (z5 : Value) : run mX8_leadsTo (4, 0, 0, [z0, .ref P, .int x2, .int x3, z4, z5], [.int s0], (cH I J pl st)) = (callK (fX8_firstOf [.int x3] (cH I J pl st)) (fun r h' => run mX8_leadsTo (10, 0, 0, [.null, .ref P, .int x2, .int x3, .int s0, .null], r.toList ++ [], h'))) := by
  rcases hP with rfl | rfl
  all_goals exact (exK_eq mX8_leadsTo [4, 10] 36 _).symm.trans rfl
set_option maxRecDepth 100000 in
theorem bX8_leadsTo_10 (I : Nat → Nat → Int32) (J : Nat → Nat → Int64) (pl st : Bool) {P : Nat} (hP : P = 4 ∨ P = 7) (s0 : Int32) (x2 : Int32) (x3 : Int32) (x4 : Int32) (z0 : Value) (z5 : Value) : run mX8_leadsTo (10, 0, 0, [z0, .ref P, .int x2, .int x3, .int x4, z5], [.int s0], (cH I J pl st)) = (callK (fX6_areInConflict [.ref P, .int x4, .int s0] (cH I J pl st)) (fun r h' => run mX8_leadsTo (20, 0, 0, [.null, .ref P, .int x2, .int x3, .int x4, .int s0], r.toList ++ [], h'))) := by
  rcases hP with rfl | rfl
  all_goals exact (exK_eq mX8_leadsTo [4, 10, 20] 36 _).symm.trans rfl
set_option maxRecDepth 100000 in
theorem bX8_leadsTo_20 (I : Nat → Nat → Int32) (J : Nat → Nat → Int64) (pl st : Bool) {P : Nat} (hP : P = 4 ∨ P = 7) (s0 : Int32) (x2 : Int32) (x3 : Int32) (x4 : Int32) (x5 : Int32) (z0 : Value) : run mX8_leadsTo (20, 0, 0, [z0, .ref P, .int x2, .int x3, .int x4, .int x5], [.int s0], (cH I J pl st)) = (if s0 = (nI 0) then some (some (.int (nI 0)), (cH I J pl st)) else (callK (fX8_isAlone [.int x2] (cH I J pl st)) (fun r h' => run mX8_leadsTo (29, 0, 0, [.null, .ref P, .int x2, .int x3, .int x4, .int x5], r.toList ++ [], h')))) := by
  rcases hP with rfl | rfl
  all_goals exact (exK_eq mX8_leadsTo [4, 10, 20, 29] 36 _).symm.trans rfl
set_option maxRecDepth 100000 in
theorem bX8_leadsTo_29 (I : Nat → Nat → Int32) (J : Nat → Nat → Int64) (pl st : Bool) {P : Nat} (hP : P = 4 ∨ P = 7) (s0 : Int32) (x3 : Int32) (x4 : Int32) (x5 : Int32) (z0 : Value) (z2 : Value) : run mX8_leadsTo (29, 0, 0, [z0, .ref P, z2, .int x3, .int x4, .int x5], [.int s0], (cH I J pl st)) = (if s0 = (nI 0) then (callK (fX8_isAlone [.int x3] (cH I J pl st)) (fun r h' => run mX8_leadsTo (45, 0, 0, [.null, .ref P, .null, .int x3, .int x4, .int x5], r.toList ++ [], h'))) else (callK (fX6_isWriter [.ref P, .int x5] (cH I J pl st)) (fun r h' => run mX8_leadsTo (38, 0, 0, [.null, .ref P, .null, .int x3, .int x4, .int x5], r.toList ++ [], h')))) := by
  rcases hP with rfl | rfl
  all_goals exact (exK_eq mX8_leadsTo [4, 10, 20, 29, 38, 45] 36 _).symm.trans rfl
set_option maxRecDepth 100000 in
theorem bX8_leadsTo_45 (I : Nat → Nat → Int32) (J : Nat → Nat → Int64) (pl st : Bool) {P : Nat} (hP : P = 4 ∨ P = 7) (s0 : Int32) (x4 : Int32) (z0 : Value) (z2 : Value) (z3 : Value) (z5 : Value) : run mX8_leadsTo (45, 0, 0, [z0, .ref P, z2, z3, .int x4, z5], [.int s0], (cH I J pl st)) = (if s0 = (nI 0) then some (some (.int (nI 1)), (cH I J pl st)) else (callK (fX6_isWriter [.ref P, .int x4] (cH I J pl st)) (fun r h' => run mX8_leadsTo (54, 0, 0, [.null, .ref P, .null, .null, .int x4, .null], r.toList ++ [], h')))) := by
  rcases hP with rfl | rfl
  all_goals exact (exK_eq mX8_leadsTo [4, 10, 20, 29, 38, 45, 54] 36 _).symm.trans rfl
set_option maxRecDepth 100000 in
theorem bX8_leadsTo_38 (I : Nat → Nat → Int32) (J : Nat → Nat → Int64) (pl st : Bool) {P : Nat} (hP : P = 4 ∨ P = 7) (s0 : Int32) (x3 : Int32) (x4 : Int32) (z0 : Value) (z2 : Value) (z5 : Value) : run mX8_leadsTo (38, 0, 0, [z0, .ref P, z2, .int x3, .int x4, z5], [.int s0], (cH I J pl st)) = (if s0 = (nI 0) then (callK (fX8_isAlone [.int x3] (cH I J pl st)) (fun r h' => run mX8_leadsTo (45, 0, 0, [.null, .ref P, .null, .int x3, .int x4, .null], r.toList ++ [], h'))) else some (some (.int (nI 0)), (cH I J pl st))) := by
  rcases hP with rfl | rfl
  all_goals exact (exK_eq mX8_leadsTo [4, 10, 20, 29, 38, 45, 54] 36 _).symm.trans rfl
set_option maxRecDepth 100000 in
theorem bX8_leadsTo_54 (I : Nat → Nat → Int32) (J : Nat → Nat → Int64) (pl st : Bool) {P : Nat} (hP : P = 4 ∨ P = 7) (s0 : Int32) (z0 : Value) (z1 : Value) (z2 : Value) (z3 : Value) (z4 : Value) (z5 : Value) : run mX8_leadsTo (54, 0, 0, [z0, z1, z2, z3, z4, z5], [.int s0], (cH I J pl st)) = (if s0 = (nI 0) then some (some (.int (nI 1)), (cH I J pl st)) else some (some (.int (nI 0)), (cH I J pl st))) := by
  rcases hP with rfl | rfl
  all_goals exact (exK_eq mX8_leadsTo [4, 10, 20, 29, 38, 45, 54] 36 _).symm.trans rfl
set_option maxRecDepth 100000 in
theorem eX8_countGiven (I : Nat → Nat → Int32) (J : Nat → Nat → Int64) (pl st : Bool) (x1 : Int32) : fX8_countGiven [.ref 10, .int x1] (cH I J pl st) = (if x1 < (nI 0) then some (none, (cH I J pl st)) else (if (nI 64) ≤ x1 then some (none, (cH I J pl st)) else (bif inb x1 64 then (bif inb x1 64 then some (none, (cH (up2 I 12 (x1).toNatClampNeg ((I 12 (x1).toNatClampNeg) + (nI 1))) J pl st)) else none) else none))) := (mth_eq (M := mX8_countGiven) (n := 2) rfl).trans ((exK_eq mX8_countGiven [] 21 _).symm.trans rfl)
set_option maxRecDepth 100000 in
theorem eX8_findBegunWith (I : Nat → Nat → Int32) (J : Nat → Nat → Int64) (pl st : Bool) {P : Nat} (hP : P = 4 ∨ P = 7) (x2 : Int32) (x3 : Int32) : fX8_findBegunWith [.ref 10, .ref P, .int x2, .int x3] (cH I J pl st) = (callK (fX8_firstOf [.int x2] (cH I J pl st)) (fun r h' => run mX8_findBegunWith (5, 0, 0, [.ref 10, .ref P, .int x2, .int x3, .null, .null, .null, .null, .null], r.toList ++ [.ref P], h'))) := by
  rcases hP with rfl | rfl
  all_goals exact (mth_eq (M := mX8_findBegunWith) (n := 9) rfl).trans ((exK_eq mX8_findBegunWith [5, 85] 100 _).symm.trans rfl)
set_option maxRecDepth 100000 in
theorem bX8_findBegunWith_5 (I : Nat → Nat → Int32) (J : Nat → Nat → Int64) (pl st : Bool) {P : Nat} (hP : P = 4 ∨ P = 7) (s1 : Int32) (x2 : Int32) (x3 : Int32) (z4 : Value) (z5 : Value) (z6 : Value) (z7 : Value) (z8 : Value) : run mX8_findBegunWith (5, 0, 0, [.ref 10, .ref P, .int x2, .int x3, z4, z5, z6, z7, z8], [.int s1, .ref P], (cH I J pl st)) = (callK (fX6_threadOf [.ref P, .int s1] (cH I J pl st)) (fun r h' => run mX8_findBegunWith (8, 0, 0, [.ref 10, .ref P, .int x2, .int x3, .null, .null, .null, .null, .null], r.toList ++ [], h'))) := by
  rcases hP with rfl | rfl
  all_goals exact (exK_eq mX8_findBegunWith [5, 8, 85] 100 _).symm.trans rfl
set_option maxRecDepth 100000 in
theorem bX8_findBegunWith_8 (I : Nat → Nat → Int32) (J : Nat → Nat → Int64) (pl st : Bool) {P : Nat} (hP : P = 4 ∨ P = 7) (s0 : Int32) (x2 : Int32) (x3 : Int32) (z4 : Value) (z5 : Value) (z6 : Value) (z7 : Value) (z8 : Value) : run mX8_findBegunWith (8, 0, 0, [.ref 10, .ref P, .int x2, .int x3, z4, z5, z6, z7, z8], [.int s0], (cH I J pl st)) = (callK (fX8_firstOf [.int x3] (cH I J pl st)) (fun r h' => run mX8_findBegunWith (15, 0, 0, [.ref 10, .ref P, .int x2, .int x3, .int s0, .null, .null, .null, .null], r.toList ++ [.ref P], h'))) := by
  rcases hP with rfl | rfl
  all_goals exact (exK_eq mX8_findBegunWith [5, 8, 15, 85] 100 _).symm.trans rfl
set_option maxRecDepth 100000 in
theorem bX8_findBegunWith_15 (I : Nat → Nat → Int32) (J : Nat → Nat → Int64) (pl st : Bool) {P : Nat} (hP : P = 4 ∨ P = 7) (s1 : Int32) (x2 : Int32) (x3 : Int32) (x4 : Int32) (z5 : Value) (z6 : Value) (z7 : Value) (z8 : Value) : run mX8_findBegunWith (15, 0, 0, [.ref 10, .ref P, .int x2, .int x3, .int x4, z5, z6, z7, z8], [.int s1, .ref P], (cH I J pl st)) = (callK (fX6_threadOf [.ref P, .int s1] (cH I J pl st)) (fun r h' => run mX8_findBegunWith (18, 0, 0, [.ref 10, .ref P, .int x2, .int x3, .int x4, .null, .null, .null, .null], r.toList ++ [], h'))) := by
  rcases hP with rfl | rfl
  all_goals exact (exK_eq mX8_findBegunWith [5, 8, 15, 18, 85] 100 _).symm.trans rfl
set_option maxRecDepth 100000 in
theorem bX8_findBegunWith_18 (I : Nat → Nat → Int32) (J : Nat → Nat → Int64) (pl st : Bool) {P : Nat} (hP : P = 4 ∨ P = 7) (s0 : Int32) (x2 : Int32) (x3 : Int32) (x4 : Int32) (z5 : Value) (z6 : Value) (z7 : Value) (z8 : Value) : run mX8_findBegunWith (18, 0, 0, [.ref 10, .ref P, .int x2, .int x3, .int x4, z5, z6, z7, z8], [.int s0], (cH I J pl st)) = (if s0 ≤ x4 then some (none, (cH I J pl st)) else (callK (fX8_leadsTo [.ref 10, .ref P, .int x2, .int x3] (cH I J pl st)) (fun r h' => run mX8_findBegunWith (34, 0, 0, [.ref 10, .ref P, .int x2, .int x3, .int x4, .int s0, .null, .null, .null], r.toList ++ [], h')))) := by
  rcases hP with rfl | rfl
  all_goals exact (exK_eq mX8_findBegunWith [5, 8, 15, 18, 34, 85] 100 _).symm.trans rfl
set_option maxRecDepth 100000 in
theorem bX8_findBegunWith_34 (I : Nat → Nat → Int32) (J : Nat → Nat → Int64) (pl st : Bool) {P : Nat} (hP : P = 4 ∨ P = 7) (s0 : Int32) (x2 : Int32) (x3 : Int32) (x4 : Int32) (x5 : Int32) (z6 : Value) (z7 : Value) (z8 : Value) : run mX8_findBegunWith (34, 0, 0, [.ref 10, .ref P, .int x2, .int x3, .int x4, .int x5, z6, z7, z8], [.int s0], (cH I J pl st)) = (if s0 = (nI 0) then some (none, (cH I J pl st)) else (callK (fX8_isAlone [.int x2] (cH I J pl st)) (fun r h' => run mX8_findBegunWith (42, 0, 0, [.ref 10, .ref P, .int x2, .int x3, .int x4, .int x5, .null, .null, .null], r.toList ++ [], h')))) := by
  rcases hP with rfl | rfl
  all_goals exact (exK_eq mX8_findBegunWith [5, 8, 15, 18, 34, 42, 85] 100 _).symm.trans rfl
set_option maxRecDepth 100000 in
theorem bX8_findBegunWith_42 (I : Nat → Nat → Int32) (J : Nat → Nat → Int64) (pl st : Bool) {P : Nat} (hP : P = 4 ∨ P = 7) (s0 : Int32) (x2 : Int32) (x3 : Int32) (x4 : Int32) (x5 : Int32) (z6 : Value) (z7 : Value) (z8 : Value) : run mX8_findBegunWith (42, 0, 0, [.ref 10, .ref P, .int x2, .int x3, .int x4, .int x5, z6, z7, z8], [.int s0], (cH I J pl st)) = (if s0 = (nI 0) then (callK (fX8_isAlone [.int x3] (cH I J pl st)) (fun r h' => run mX8_findBegunWith (49, 0, 0, [.ref 10, .ref P, .int x2, .int x3, .int x4, .int x5, .null, .null, .null], r.toList ++ [], h'))) else run mX8_findBegunWith (85, 0, 0, [.ref 10, .ref P, .int x2, .int x3, .int x4, .int x5, .int (nI 0), .null, .null], [], (cH I J pl st))) := by
  rcases hP with rfl | rfl
  all_goals exact (exK_eq mX8_findBegunWith [5, 8, 15, 18, 34, 42, 49, 85] 100 _).symm.trans rfl
set_option maxRecDepth 100000 in
theorem bX8_findBegunWith_49 (I : Nat → Nat → Int32) (J : Nat → Nat → Int64) (pl st : Bool) {P : Nat} (hP : P = 4 ∨ P = 7) (s0 : Int32) (x2 : Int32) (x3 : Int32) (x4 : Int32) (x5 : Int32) (z6 : Value) (z7 : Value) (z8 : Value) : run mX8_findBegunWith (49, 0, 0, [.ref 10, .ref P, .int x2, .int x3, .int x4, .int x5, z6, z7, z8], [.int s0], (cH I J pl st)) = (if s0 = (nI 0) then (callK (fX8_leadsTo [.ref 10, .ref P, .int x3, .int x2] (cH I J pl st)) (fun r h' => run mX8_findBegunWith (59, 0, 0, [.ref 10, .ref P, .int x2, .int x3, .int x4, .int x5, .null, .null, .null], r.toList ++ [], h'))) else run mX8_findBegunWith (85, 0, 0, [.ref 10, .ref P, .int x2, .int x3, .int x4, .int x5, .int (nI 0), .null, .null], [], (cH I J pl st))) := by
  rcases hP with rfl | rfl
  all_goals exact (exK_eq mX8_findBegunWith [5, 8, 15, 18, 34, 42, 49, 59, 85] 100 _).symm.trans rfl
set_option maxRecDepth 100000 in
theorem bX8_findBegunWith_85 (I : Nat → Nat → Int32) (J : Nat → Nat → Int64) (pl st : Bool) {P : Nat} (hP : P = 4 ∨ P = 7) (x2 : Int32) (x3 : Int32) (x4 : Int32) (x5 : Int32) (x6 : Int32) (z7 : Value) (z8 : Value) : run mX8_findBegunWith (85, 0, 0, [.ref 10, .ref P, .int x2, .int x3, .int x4, .int x5, .int x6, z7, z8], [], (cH I J pl st)) = (if (I 10 2) ≤ x6 then some (none, (cH I J pl st)) else (callK (fX8_giftAt [.ref 10, .int x6] (cH I J pl st)) (fun r h' => run mX8_findBegunWith (100, 0, 0, [.ref 10, .ref P, .int x2, .int x3, .int x4, .int x5, .int x6, .null, .null], r.toList ++ [], h')))) := by
  rcases hP with rfl | rfl
  all_goals exact (exK_eq mX8_findBegunWith [5, 8, 15, 18, 34, 42, 49, 59, 85, 100] 100 _).symm.trans rfl
set_option maxRecDepth 100000 in
theorem bX8_findBegunWith_59 (I : Nat → Nat → Int32) (J : Nat → Nat → Int64) (pl st : Bool) {P : Nat} (hP : P = 4 ∨ P = 7) (s0 : Int32) (x2 : Int32) (x3 : Int32) (x4 : Int32) (x5 : Int32) (z6 : Value) (z7 : Value) (z8 : Value) : run mX8_findBegunWith (59, 0, 0, [.ref 10, .ref P, .int x2, .int x3, .int x4, .int x5, z6, z7, z8], [.int s0], (cH I J pl st)) = (if s0 = (nI 0) then run mX8_findBegunWith (85, 0, 0, [.ref 10, .ref P, .int x2, .int x3, .int x4, .int x5, .int (nI 0), .null, .null], [], (cH I J pl st)) else (callK (fX8_countGiven [.ref 10, .int x2] (cH (up2 I 10 3 ((I 10 3) + (nI 1))) J pl st)) (fun r h' => run mX8_findBegunWith (77, 0, 0, [.ref 10, .ref P, .int x2, .int x3, .int x4, .int x5, .null, .null, .null], r.toList ++ [], h')))) := by
  rcases hP with rfl | rfl
  all_goals exact (exK_eq mX8_findBegunWith [5, 8, 15, 18, 34, 42, 49, 59, 77, 85, 100] 100 _).symm.trans rfl
set_option maxRecDepth 100000 in
theorem bX8_findBegunWith_100 (I : Nat → Nat → Int32) (J : Nat → Nat → Int64) (pl st : Bool) {P : Nat} (hP : P = 4 ∨ P = 7) (s0 : Int32) (x2 : Int32) (x3 : Int32) (x4 : Int32) (x5 : Int32) (x6 : Int32) (z7 : Value) (z8 : Value) : run mX8_findBegunWith (100, 0, 0, [.ref 10, .ref P, .int x2, .int x3, .int x4, .int x5, .int x6, z7, z8], [.int s0], (cH I J pl st)) = (callK (fX8_firstOf [.int s0] (cH I J pl st)) (fun r h' => run mX8_findBegunWith (108, 0, 0, [.ref 10, .ref P, .int x2, .int x3, .int x4, .int x5, .int x6, .int s0, .null], r.toList ++ [.ref P], h'))) := by
  rcases hP with rfl | rfl
  all_goals exact (exK_eq mX8_findBegunWith [5, 8, 15, 18, 34, 42, 49, 59, 77, 85, 100, 108] 100 _).symm.trans rfl
set_option maxRecDepth 100000 in
theorem bX8_findBegunWith_77 (I : Nat → Nat → Int32) (J : Nat → Nat → Int64) (pl st : Bool) {P : Nat} (hP : P = 4 ∨ P = 7) (x2 : Int32) (x3 : Int32) (x4 : Int32) (x5 : Int32) (z6 : Value) (z7 : Value) (z8 : Value) : run mX8_findBegunWith (77, 0, 0, [.ref 10, .ref P, .int x2, .int x3, .int x4, .int x5, z6, z7, z8], [], (cH I J pl st)) = (callK (fX8_countGiven [.ref 10, .int x3] (cH I J pl st)) (fun r h' => run mX8_findBegunWith (82, 0, 0, [.ref 10, .ref P, .int x2, .int x3, .int x4, .int x5, .null, .null, .null], r.toList ++ [], h'))) := by
  rcases hP with rfl | rfl
  all_goals exact (exK_eq mX8_findBegunWith [5, 8, 15, 18, 34, 42, 49, 59, 77, 82, 85, 100, 108] 100 _).symm.trans rfl
set_option maxRecDepth 100000 in
theorem bX8_findBegunWith_108 (I : Nat → Nat → Int32) (J : Nat → Nat → Int64) (pl st : Bool) {P : Nat} (hP : P = 4 ∨ P = 7) (s1 : Int32) (x2 : Int32) (x3 : Int32) (x4 : Int32) (x5 : Int32) (x6 : Int32) (x7 : Int32) (z8 : Value) : run mX8_findBegunWith (108, 0, 0, [.ref 10, .ref P, .int x2, .int x3, .int x4, .int x5, .int x6, .int x7, z8], [.int s1, .ref P], (cH I J pl st)) = (callK (fX6_threadOf [.ref P, .int s1] (cH I J pl st)) (fun r h' => run mX8_findBegunWith (111, 0, 0, [.ref 10, .ref P, .int x2, .int x3, .int x4, .int x5, .int x6, .int x7, .null], r.toList ++ [], h'))) := by
  rcases hP with rfl | rfl
  all_goals exact (exK_eq mX8_findBegunWith [5, 8, 15, 18, 34, 42, 49, 59, 77, 82, 85, 100, 108, 111] 100 _).symm.trans rfl
set_option maxRecDepth 100000 in
theorem bX8_findBegunWith_82 (I : Nat → Nat → Int32) (J : Nat → Nat → Int64) (pl st : Bool) {P : Nat} (hP : P = 4 ∨ P = 7) (x2 : Int32) (x3 : Int32) (x4 : Int32) (x5 : Int32) (z6 : Value) (z7 : Value) (z8 : Value) : run mX8_findBegunWith (82, 0, 0, [.ref 10, .ref P, .int x2, .int x3, .int x4, .int x5, z6, z7, z8], [], (cH I J pl st)) = run mX8_findBegunWith (85, 0, 0, [.ref 10, .ref P, .int x2, .int x3, .int x4, .int x5, .int (nI 0), .null, .null], [], (cH I J pl st)) := by
  rcases hP with rfl | rfl
  all_goals exact (exK_eq mX8_findBegunWith [5, 8, 15, 18, 34, 42, 49, 59, 77, 82, 85, 100, 108, 111] 100 _).symm.trans rfl
set_option maxRecDepth 100000 in
theorem bX8_findBegunWith_111 (I : Nat → Nat → Int32) (J : Nat → Nat → Int64) (pl st : Bool) {P : Nat} (hP : P = 4 ∨ P = 7) (s0 : Int32) (x2 : Int32) (x3 : Int32) (x4 : Int32) (x5 : Int32) (x6 : Int32) (x7 : Int32) (z8 : Value) : run mX8_findBegunWith (111, 0, 0, [.ref 10, .ref P, .int x2, .int x3, .int x4, .int x5, .int x6, .int x7, z8], [.int s0], (cH I J pl st)) = (if s0 ≤ x4 then run mX8_findBegunWith (85, 0, 0, [.ref 10, .ref P, .int x2, .int x3, .int x4, .int x5, .int (x6 + (nI 1)), .null, .null], [], (cH I J pl st)) else (if x5 = s0 then run mX8_findBegunWith (85, 0, 0, [.ref 10, .ref P, .int x2, .int x3, .int x4, .int x5, .int (x6 + (nI 1)), .null, .null], [], (cH I J pl st)) else (callK (fX8_leadsTo [.ref 10, .ref P, .int x3, .int x7] (cH I J pl st)) (fun r h' => run mX8_findBegunWith (135, 0, 0, [.ref 10, .ref P, .int x2, .int x3, .int x4, .int x5, .int x6, .int x7, .int s0], r.toList ++ [], h'))))) := by
  rcases hP with rfl | rfl
  all_goals exact (exK_eq mX8_findBegunWith [5, 8, 15, 18, 34, 42, 49, 59, 77, 82, 85, 100, 108, 111, 135] 100 _).symm.trans rfl
set_option maxRecDepth 100000 in
theorem bX8_findBegunWith_135 (I : Nat → Nat → Int32) (J : Nat → Nat → Int64) (pl st : Bool) {P : Nat} (hP : P = 4 ∨ P = 7) (s0 : Int32) (x2 : Int32) (x3 : Int32) (x4 : Int32) (x5 : Int32) (x6 : Int32) (x7 : Int32) (z8 : Value) : run mX8_findBegunWith (135, 0, 0, [.ref 10, .ref P, .int x2, .int x3, .int x4, .int x5, .int x6, .int x7, z8], [.int s0], (cH I J pl st)) = (if s0 = (nI 0) then run mX8_findBegunWith (85, 0, 0, [.ref 10, .ref P, .int x2, .int x3, .int x4, .int x5, .int (x6 + (nI 1)), .null, .null], [], (cH I J pl st)) else (callK (fX8_leadsTo [.ref 10, .ref P, .int x7, .int x2] (cH I J pl st)) (fun r h' => run mX8_findBegunWith (146, 0, 0, [.ref 10, .ref P, .int x2, .int x3, .int x4, .int x5, .int x6, .int x7, .null], r.toList ++ [], h')))) := by
  rcases hP with rfl | rfl
  all_goals exact (exK_eq mX8_findBegunWith [5, 8, 15, 18, 34, 42, 49, 59, 77, 82, 85, 100, 108, 111, 135, 146] 100 _).symm.trans rfl
set_option maxRecDepth 100000 in
theorem bX8_findBegunWith_146 (I : Nat → Nat → Int32) (J : Nat → Nat → Int64) (pl st : Bool) {P : Nat} (hP : P = 4 ∨ P = 7) (s0 : Int32) (x2 : Int32) (x3 : Int32) (x4 : Int32) (x5 : Int32) (x6 : Int32) (x7 : Int32) (z8 : Value) : run mX8_findBegunWith (146, 0, 0, [.ref 10, .ref P, .int x2, .int x3, .int x4, .int x5, .int x6, .int x7, z8], [.int s0], (cH I J pl st)) = (if s0 = (nI 0) then run mX8_findBegunWith (85, 0, 0, [.ref 10, .ref P, .int x2, .int x3, .int x4, .int x5, .int (x6 + (nI 1)), .null, .null], [], (cH I J pl st)) else (callK (fX8_countGiven [.ref 10, .int x2] (cH (up2 I 10 3 ((I 10 3) + (nI 1))) J pl st)) (fun r h' => run mX8_findBegunWith (164, 0, 0, [.ref 10, .ref P, .int x2, .int x3, .int x4, .int x5, .int x6, .int x7, .null], r.toList ++ [], h')))) := by
  rcases hP with rfl | rfl
  all_goals exact (exK_eq mX8_findBegunWith [5, 8, 15, 18, 34, 42, 49, 59, 77, 82, 85, 100, 108, 111, 135, 146, 164] 100 _).symm.trans rfl
set_option maxRecDepth 100000 in
theorem bX8_findBegunWith_164 (I : Nat → Nat → Int32) (J : Nat → Nat → Int64) (pl st : Bool) {P : Nat} (hP : P = 4 ∨ P = 7) (x2 : Int32) (x3 : Int32) (x4 : Int32) (x5 : Int32) (x6 : Int32) (x7 : Int32) (z8 : Value) : run mX8_findBegunWith (164, 0, 0, [.ref 10, .ref P, .int x2, .int x3, .int x4, .int x5, .int x6, .int x7, z8], [], (cH I J pl st)) = (callK (fX8_countGiven [.ref 10, .int x3] (cH I J pl st)) (fun r h' => run mX8_findBegunWith (169, 0, 0, [.ref 10, .ref P, .int x2, .int x3, .int x4, .int x5, .int x6, .int x7, .null], r.toList ++ [], h'))) := by
  rcases hP with rfl | rfl
  all_goals exact (exK_eq mX8_findBegunWith [5, 8, 15, 18, 34, 42, 49, 59, 77, 82, 85, 100, 108, 111, 135, 146, 164, 169] 100 _).symm.trans rfl
set_option maxRecDepth 100000 in
theorem bX8_findBegunWith_169 (I : Nat → Nat → Int32) (J : Nat → Nat → Int64) (pl st : Bool) {P : Nat} (hP : P = 4 ∨ P = 7) (x2 : Int32) (x3 : Int32) (x4 : Int32) (x5 : Int32) (x6 : Int32) (x7 : Int32) (z8 : Value) : run mX8_findBegunWith (169, 0, 0, [.ref 10, .ref P, .int x2, .int x3, .int x4, .int x5, .int x6, .int x7, z8], [], (cH I J pl st)) = (callK (fX8_countGiven [.ref 10, .int x7] (cH I J pl st)) (fun r h' => run mX8_findBegunWith (175, 0, 0, [.ref 10, .ref P, .int x2, .int x3, .int x4, .int x5, .int x6, .int x7, .null], r.toList ++ [], h'))) := by
  rcases hP with rfl | rfl
  all_goals exact (exK_eq mX8_findBegunWith [5, 8, 15, 18, 34, 42, 49, 59, 77, 82, 85, 100, 108, 111, 135, 146, 164, 169, 175] 100 _).symm.trans rfl
set_option maxRecDepth 100000 in
theorem bX8_findBegunWith_175 (I : Nat → Nat → Int32) (J : Nat → Nat → Int64) (pl st : Bool) {P : Nat} (hP : P = 4 ∨ P = 7) (x2 : Int32) (x3 : Int32) (x4 : Int32) (x5 : Int32) (x6 : Int32) (z7 : Value) (z8 : Value) : run mX8_findBegunWith (175, 0, 0, [.ref 10, .ref P, .int x2, .int x3, .int x4, .int x5, .int x6, z7, z8], [], (cH I J pl st)) = run mX8_findBegunWith (85, 0, 0, [.ref 10, .ref P, .int x2, .int x3, .int x4, .int x5, .int (x6 + (nI 1)), .null, .null], [], (cH I J pl st)) := by
  rcases hP with rfl | rfl
  all_goals exact (exK_eq mX8_findBegunWith [5, 8, 15, 18, 34, 42, 49, 59, 77, 82, 85, 100, 108, 111, 135, 146, 164, 169, 175] 100 _).symm.trans rfl
