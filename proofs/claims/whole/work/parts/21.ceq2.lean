set_option maxRecDepth 100000 in
theorem eX8_find (I : Nat → Nat → Int32) (J : Nat → Nat → Int64) (pl st : Bool) {P : Nat} (hP : P = 4 ∨ P = 7)  : fX8_find [.ref 10, .ref P] (cH I J pl st) = (callK (fJ7_fill_53178 [.ref 12, .int (nI 0)] (cH I J pl st)) (fun r h' => run mX8_find (8, 0, 0, [.ref 10, .ref P, .null, .null], r.toList ++ [], h'))) := by
  rcases hP with rfl | rfl
  all_goals exact (mth_eq (M := mX8_find) (n := 4) rfl).trans ((exK_eq mX8_find [8, 20, 30] 41 _).symm.trans rfl)
set_option maxRecDepth 100000 in
theorem bX8_find_8 (I : Nat → Nat → Int32) (J : Nat → Nat → Int64) (pl st : Bool) {P : Nat} (hP : P = 4 ∨ P = 7) (z2 : Value) (z3 : Value) : run mX8_find (8, 0, 0, [.ref 10, .ref P, z2, z3], [], (cH I J pl st)) = (callK (fX8_gatherGifts [.ref 10, .ref P] (cH (up2 I 10 3 (nI 0)) J pl st)) (fun r h' => run mX8_find (18, 0, 0, [.ref 10, .ref P, .null, .null], r.toList ++ [], h'))) := by
  rcases hP with rfl | rfl
  all_goals exact (exK_eq mX8_find [8, 18, 20, 30] 41 _).symm.trans rfl
set_option maxRecDepth 100000 in
theorem bX8_find_18 (I : Nat → Nat → Int32) (J : Nat → Nat → Int64) (pl st : Bool) {P : Nat} (hP : P = 4 ∨ P = 7) (z2 : Value) (z3 : Value) : run mX8_find (18, 0, 0, [.ref 10, .ref P, z2, z3], [], (cH I J pl st)) = run mX8_find (20, 0, 0, [.ref 10, .ref P, .int (nI 0), .null], [], (cH I J pl st)) := by
  rcases hP with rfl | rfl
  all_goals exact (exK_eq mX8_find [8, 18, 20, 30] 41 _).symm.trans rfl
set_option maxRecDepth 100000 in
theorem bX8_find_20 (I : Nat → Nat → Int32) (J : Nat → Nat → Int64) (pl st : Bool) {P : Nat} (hP : P = 4 ∨ P = 7) (x2 : Int32) (z3 : Value) : run mX8_find (20, 0, 0, [.ref 10, .ref P, .int x2, z3], [], (cH I J pl st)) = (if (I 10 2) ≤ x2 then some (none, (cH I J pl st)) else run mX8_find (30, 0, 0, [.ref 10, .ref P, .int x2, .int (nI 0)], [], (cH I J pl st))) := by
  rcases hP with rfl | rfl
  all_goals exact (exK_eq mX8_find [8, 18, 20, 30] 41 _).symm.trans rfl
set_option maxRecDepth 100000 in
theorem bX8_find_30 (I : Nat → Nat → Int32) (J : Nat → Nat → Int64) (pl st : Bool) {P : Nat} (hP : P = 4 ∨ P = 7) (x2 : Int32) (x3 : Int32) : run mX8_find (30, 0, 0, [.ref 10, .ref P, .int x2, .int x3], [], (cH I J pl st)) = (if (I 10 2) ≤ x3 then run mX8_find (20, 0, 0, [.ref 10, .ref P, .int (x2 + (nI 1)), .int x3], [], (cH I J pl st)) else (callK (fX8_giftAt [.ref 10, .int x2] (cH I J pl st)) (fun r h' => run mX8_find (45, 0, 0, [.ref 10, .ref P, .int x2, .int x3], r.toList ++ [.ref P, .ref 10], h')))) := by
  rcases hP with rfl | rfl
  all_goals exact (exK_eq mX8_find [8, 18, 20, 30, 45] 41 _).symm.trans rfl
set_option maxRecDepth 100000 in
theorem bX8_find_45 (I : Nat → Nat → Int32) (J : Nat → Nat → Int64) (pl st : Bool) {P : Nat} (hP : P = 4 ∨ P = 7) (s2 : Int32) (x2 : Int32) (x3 : Int32) : run mX8_find (45, 0, 0, [.ref 10, .ref P, .int x2, .int x3], [.int s2, .ref P, .ref 10], (cH I J pl st)) = (callK (fX8_giftAt [.ref 10, .int x3] (cH I J pl st)) (fun r h' => run mX8_find (50, 0, 0, [.ref 10, .ref P, .int x2, .int x3], r.toList ++ [.int s2, .ref P, .ref 10], h'))) := by
  rcases hP with rfl | rfl
  all_goals exact (exK_eq mX8_find [8, 18, 20, 30, 45, 50] 41 _).symm.trans rfl
set_option maxRecDepth 100000 in
theorem bX8_find_50 (I : Nat → Nat → Int32) (J : Nat → Nat → Int64) (pl st : Bool) {P : Nat} (hP : P = 4 ∨ P = 7) (s2 : Int32) (s3 : Int32) (x2 : Int32) (x3 : Int32) : run mX8_find (50, 0, 0, [.ref 10, .ref P, .int x2, .int x3], [.int s3, .int s2, .ref P, .ref 10], (cH I J pl st)) = (callK (fX8_findBegunWith [.ref 10, .ref P, .int s2, .int s3] (cH I J pl st)) (fun r h' => run mX8_find (53, 0, 0, [.ref 10, .ref P, .int x2, .int x3], r.toList ++ [], h'))) := by
  rcases hP with rfl | rfl
  all_goals exact (exK_eq mX8_find [8, 18, 20, 30, 45, 50, 53] 41 _).symm.trans rfl
set_option maxRecDepth 100000 in
theorem bX8_find_53 (I : Nat → Nat → Int32) (J : Nat → Nat → Int64) (pl st : Bool) {P : Nat} (hP : P = 4 ∨ P = 7) (x2 : Int32) (x3 : Int32) : run mX8_find (53, 0, 0, [.ref 10, .ref P, .int x2, .int x3], [], (cH I J pl st)) = run mX8_find (30, 0, 0, [.ref 10, .ref P, .int x2, .int (x3 + (nI 1))], [], (cH I J pl st)) := by
  rcases hP with rfl | rfl
  all_goals exact (exK_eq mX8_find [8, 18, 20, 30, 45, 50, 53] 41 _).symm.trans rfl
set_option maxRecDepth 100000 in
theorem eX9_setFence (I : Nat → Nat → Int32) (J : Nat → Nat → Int64) (pl st : Bool) (x1 : Int32) (x2 : Int32) : fX9_setFence [.ref 15, .int x1, .int x2] (cH I J pl st) = (if x2 = (nI 0) then some (none, (cH (up2 I 15 1 ((I 15 1) &&& (((nI 1) <<< (x1 &&& 31)) ^^^ (Int32.ofInt (-1))))) J pl st)) else some (none, (cH (up2 I 15 1 ((I 15 1) ||| ((nI 1) <<< (x1 &&& 31)))) J pl st))) := (mth_eq (M := mX9_setFence) (n := 3) rfl).trans ((exK_eq mX9_setFence [] 25 _).symm.trans rfl)
set_option maxRecDepth 100000 in
theorem eX9_setCost (I : Nat → Nat → Int32) (J : Nat → Nat → Int64) (pl st : Bool) (x1 : Int32) (x2 : Int32) : fX9_setCost [.ref 15, .int x1, .int x2] (cH I J pl st) = (if x1 < (nI 0) then some (none, (cH I J pl st)) else (if (nI 8) ≤ x1 then some (none, (cH I J pl st)) else (bif inb x1 8 then some (none, (cH (up2 I 16 (x1).toNatClampNeg x2) J pl st)) else none))) := (mth_eq (M := mX9_setCost) (n := 3) rfl).trans ((exK_eq mX9_setCost [] 18 _).symm.trans rfl)
set_option maxRecDepth 100000 in
theorem eX10_add (I : Nat → Nat → Int32) (J : Nat → Nat → Int64) (pl st : Bool) (x1 : Int32) : fX10_add [.ref 1, .int x1] (cH I J pl st) = (if (I 1 1) < (nI 0) then some (some (.int (nI 0)), (cH I J pl st)) else (if (I 1 1) < (nI 120) then (bif inb (I 1 1) 120 then some (some (.int (nI 1)), (cH (up2 (up2 I 2 ((I 1 1)).toNatClampNeg x1) 1 1 ((I 1 1) + (nI 1))) J pl st)) else none) else some (some (.int (nI 0)), (cH I J pl st)))) := (mth_eq (M := mX10_add) (n := 2) rfl).trans ((exK_eq mX10_add [] 30 _).symm.trans rfl)
set_option maxRecDepth 100000 in
theorem eX10_clear (I : Nat → Nat → Int32) (J : Nat → Nat → Int64) (pl st : Bool)  : fX10_clear [.ref 1] (cH I J pl st) = some (none, (cH (up2 I 1 1 (nI 0)) J pl st)) := (mth_eq (M := mX10_clear) (n := 1) rfl).trans ((exK_eq mX10_clear [] 9 _).symm.trans rfl)
set_option maxRecDepth 100000 in
theorem eX11_feed (I : Nat → Nat → Int32) (J : Nat → Nat → Int64) (pl st : Bool)  (x1 : Int32) : fX11_feed [.ref 0, .int x1] (cH I J pl st) = (if x1 < (nI 0) then some (some (.int (-1000000002)), (cH I J pl st)) else (if x1 ≤ (nI 255) then (callK (fX10_add [.ref 1, .int x1] (cH I J pl st)) (fun r h' => run mX11_feed (22, 0, 0, [.ref 0, .int x1], r.toList ++ [], h'))) else some (some (.int (-1000000002)), (cH I J pl st)))) := by
  cases pl
  all_goals exact (mth_eq (M := mX11_feed) (n := 2) rfl).trans ((exK_eq mX11_feed [22] 23 _).symm.trans rfl)
set_option maxRecDepth 100000 in
theorem bX11_feed_22 (I : Nat → Nat → Int32) (J : Nat → Nat → Int64) (pl st : Bool)  (s0 : Int32) (z1 : Value) : run mX11_feed (22, 0, 0, [.ref 0, z1], [.int s0], (cH I J pl st)) = (if s0 = (nI 0) then some (some (.int (-1000000004)), (cH I J pl st)) else some (some (.int (I 1 1)), (cH I J pl st))) := by
  cases pl
  all_goals exact (exK_eq mX11_feed [22] 23 _).symm.trans rfl
set_option maxRecDepth 100000 in
theorem eX11_startAnew (I : Nat → Nat → Int32) (J : Nat → Nat → Int64) (pl st : Bool)   : fX11_startAnew [.ref 0] (cH I J pl st) = (callK (fX8_find [.ref 10, .ref (plP pl)] (cH I J pl st)) (fun r h' => run mX11_startAnew (11, 0, 0, [.ref 0, .null], r.toList ++ [], h'))) := by
  cases pl
  all_goals exact (mth_eq (M := mX11_startAnew) (n := 2) rfl).trans ((exK_eq mX11_startAnew [11] 41 _).symm.trans rfl)
set_option maxRecDepth 100000 in
theorem bX11_startAnew_11 (I : Nat → Nat → Int32) (J : Nat → Nat → Int64) (pl st : Bool)  (z1 : Value) : run mX11_startAnew (11, 0, 0, [.ref 0, z1], [], (cH I J pl st)) = (callK (fX9_clear [.ref 15] (cH I J pl st)) (fun r h' => run mX11_startAnew (18, 0, 0, [.ref 0, .null], r.toList ++ [], h'))) := by
  cases pl
  all_goals exact (exK_eq mX11_startAnew [11, 18] 41 _).symm.trans rfl
set_option maxRecDepth 100000 in
theorem bX11_startAnew_18 (I : Nat → Nat → Int32) (J : Nat → Nat → Int64) (pl st : Bool)  (z1 : Value) : run mX11_startAnew (18, 0, 0, [.ref 0, z1], [], (cH I J pl st)) = (callK (fX1_clear [.ref 17] (cH I J pl st)) (fun r h' => run mX11_startAnew (25, 0, 0, [.ref 0, .null], r.toList ++ [], h'))) := by
  cases pl
  all_goals exact (exK_eq mX11_startAnew [11, 18, 25] 41 _).symm.trans rfl
set_option maxRecDepth 100000 in
theorem bX11_startAnew_25 (I : Nat → Nat → Int32) (J : Nat → Nat → Int64) (pl st : Bool)  (z1 : Value) : run mX11_startAnew (25, 0, 0, [.ref 0, z1], [], (cH I J pl st)) = (callK (fX0_clear [.ref 66] (cH (up2 (up2 I 60 2 (nI 0)) 63 2 (nI 0)) J pl st)) (fun r h' => run mX11_startAnew (59, 0, 0, [.ref 0, .int (((nI 0) + (nI 1)) + (nI 1))], r.toList ++ [], h'))) := by
  cases pl
  all_goals exact (exK_eq mX11_startAnew [11, 18, 25, 59] 41 _).symm.trans rfl
set_option maxRecDepth 100000 in
theorem bX11_startAnew_59 (I : Nat → Nat → Int32) (J : Nat → Nat → Int64) (pl st : Bool)  (z1 : Value) : run mX11_startAnew (59, 0, 0, [.ref 0, z1], [], (cH I J pl st)) = some (none, (cH (up2 (up2 I 0 13 (nI 0)) 0 16 (nI 0)) J pl st)) := by
  cases pl
  all_goals exact (exK_eq mX11_startAnew [11, 18, 25, 59] 41 _).symm.trans rfl
set_option maxRecDepth 100000 in
theorem eX11_threads (I : Nat → Nat → Int32) (J : Nat → Nat → Int64) (pl st : Bool)   : fX11_threads [.ref 0] (cH I J pl st) = (callK (fX5_parse [.ref 3, .ref 1, .ref (plP (!pl))] (cH I J pl st)) (fun r h' => run mX11_threads (15, 0, 0, [.ref 0, .null, .null], r.toList ++ [], h'))) := by
  cases pl
  all_goals exact (mth_eq (M := mX11_threads) (n := 3) rfl).trans ((exK_eq mX11_threads [15] 43 _).symm.trans rfl)
set_option maxRecDepth 100000 in
theorem bX11_threads_15 (I : Nat → Nat → Int32) (J : Nat → Nat → Int64) (pl st : Bool)  (s0 : Int32) (z1 : Value) (z2 : Value) : run mX11_threads (15, 0, 0, [.ref 0, z1, z2], [.int s0], (cH I J pl st)) = (callK (fX10_clear [.ref 1] (cH (up2 I 0 18 (I 3 0)) J pl st)) (fun r h' => run mX11_threads (34, 0, 0, [.ref 0, .int s0, .null], r.toList ++ [], h'))) := by
  cases pl
  all_goals exact (exK_eq mX11_threads [15, 34] 43 _).symm.trans rfl
set_option maxRecDepth 100000 in
theorem bX11_threads_34 (I : Nat → Nat → Int32) (J : Nat → Nat → Int64) (pl st : Bool)  (x1 : Int32) (z2 : Value) : run mX11_threads (34, 0, 0, [.ref 0, .int x1, z2], [], (cH I J pl st)) = (if x1 = (nI 0) then (callK (fX11_startAnew [.ref 0] (78, shX, I, J, (up2 (up2 (RX pl st) 0 2 (plP (!pl))) 0 3 (plP pl)))) (fun r h' => run mX11_threads (65, 0, 0, [.ref 0, .int x1, .ref (plP pl)], r.toList ++ [], h'))) else some (some (.int ((Int32.ofInt (-10)) - x1)), (cH I J pl st))) := by
  cases pl
  all_goals exact (exK_eq mX11_threads [15, 34, 65] 43 _).symm.trans rfl
set_option maxRecDepth 100000 in
theorem bX11_threads_65 (I : Nat → Nat → Int32) (J : Nat → Nat → Int64) (pl st : Bool)  (z1 : Value) (z2 : Value) : run mX11_threads (65, 0, 0, [.ref 0, z1, z2], [], (cH I J pl st)) = some (some (.int (I (plP pl) 3)), (cH I J pl st)) := by
  cases pl
  all_goals exact (exK_eq mX11_threads [15, 34, 65] 43 _).symm.trans rfl
set_option maxRecDepth 100000 in
theorem eX11_fault (I : Nat → Nat → Int32) (J : Nat → Nat → Int64) (pl st : Bool)   : fX11_fault [.ref 0] (cH I J pl st) = some (some (.int (I 0 18)), (cH I J pl st)) := by
  cases pl
  all_goals exact (mth_eq (M := mX11_fault) (n := 1) rfl).trans ((exK_eq mX11_fault [] 8 _).symm.trans rfl)
set_option maxRecDepth 100000 in
theorem eX11_readingsNow (I : Nat → Nat → Int32) (J : Nat → Nat → Int64) (pl st : Bool)   : fX11_readingsNow [.ref 0] (cH I J pl st) = (if (I 0 13) = (nI 0) then (callK (fX4_findReadings [.ref 68, .ref (plP pl), .int (I 15 1), .int (I 15 2), .ref 74] (cH I J pl st)) (fun r h' => run mX11_readingsNow (64, 0, 0, [.ref 0], r.toList ++ [], h'))) else (if (I 0 14) = (I 15 1) then (if (I 0 15) = (I 15 2) then some (some (.ref 74), (cH I J pl st)) else (callK (fX4_findReadings [.ref 68, .ref (plP pl), .int (I 15 1), .int (I 15 2), .ref 74] (cH I J pl st)) (fun r h' => run mX11_readingsNow (64, 0, 0, [.ref 0], r.toList ++ [], h')))) else (callK (fX4_findReadings [.ref 68, .ref (plP pl), .int (I 15 1), .int (I 15 2), .ref 74] (cH I J pl st)) (fun r h' => run mX11_readingsNow (64, 0, 0, [.ref 0], r.toList ++ [], h'))))) := by
  cases pl
  all_goals exact (mth_eq (M := mX11_readingsNow) (n := 1) rfl).trans ((exK_eq mX11_readingsNow [64] 49 _).symm.trans rfl)
set_option maxRecDepth 100000 in
theorem bX11_readingsNow_64 (I : Nat → Nat → Int32) (J : Nat → Nat → Int64) (pl st : Bool)   : run mX11_readingsNow (64, 0, 0, [.ref 0], [], (cH I J pl st)) = some (some (.ref 74), (cH (up2 (up2 (up2 I 0 13 (nI 1)) 0 14 (I 15 1)) 0 15 (I 15 2)) J pl st)) := by
  cases pl
  all_goals exact (exK_eq mX11_readingsNow [64] 49 _).symm.trans rfl
set_option maxRecDepth 100000 in
theorem eX11_strictNow (I : Nat → Nat → Int32) (J : Nat → Nat → Int64) (pl st : Bool)   : fX11_strictNow [.ref 0] (cH I J pl st) = (if (I 0 16) = (nI 0) then (callK (fX4_findReadings [.ref 68, .ref (plP pl), .int (nI 0), .int (nI 0), .ref 76] (cH I J pl st)) (fun r h' => run mX11_strictNow (24, 0, 0, [.ref 0], r.toList ++ [], h'))) else some (some (.ref 76), (cH I J pl st))) := by
  cases pl
  all_goals exact (mth_eq (M := mX11_strictNow) (n := 1) rfl).trans ((exK_eq mX11_strictNow [24] 23 _).symm.trans rfl)
set_option maxRecDepth 100000 in
theorem bX11_strictNow_24 (I : Nat → Nat → Int32) (J : Nat → Nat → Int64) (pl st : Bool)   : run mX11_strictNow (24, 0, 0, [.ref 0], [], (cH I J pl st)) = some (some (.ref 76), (cH (up2 I 0 16 (nI 1)) J pl st)) := by
  cases pl
  all_goals exact (exK_eq mX11_strictNow [24] 23 _).symm.trans rfl
set_option maxRecDepth 100000 in
theorem eX11_looseNow (I : Nat → Nat → Int32) (J : Nat → Nat → Int64) (pl st : Bool)   : fX11_looseNow [.ref 0] (cH I J pl st) = (callK (fX3_gather [.ref 13, .ref (plP pl), .ref 10, .int (I 15 2)] (cH I J pl st)) (fun r h' => run mX11_looseNow (22, 0, 0, [.ref 0], r.toList ++ [], h'))) := by
  cases pl
  all_goals exact (mth_eq (M := mX11_looseNow) (n := 1) rfl).trans ((exK_eq mX11_looseNow [22] 18 _).symm.trans rfl)
set_option maxRecDepth 100000 in
theorem bX11_looseNow_22 (I : Nat → Nat → Int32) (J : Nat → Nat → Int64) (pl st : Bool)   : run mX11_looseNow (22, 0, 0, [.ref 0], [], (cH I J pl st)) = some (some (.ref 13), (cH I J pl st)) := by
  cases pl
  all_goals exact (exK_eq mX11_looseNow [22] 18 _).symm.trans rfl
set_option maxRecDepth 100000 in
theorem eX11_bestSet (I : Nat → Nat → Int32) (J : Nat → Nat → Int64) (pl st : Bool)   : fX11_bestSet [.ref 0] (cH I J pl st) = (callK (fX11_looseNow [.ref 0] (cH I J pl st)) (fun r h' => run mX11_bestSet (4, 0, 0, [.ref 0], r.toList ++ [], h'))) := by
  cases pl
  all_goals exact (mth_eq (M := mX11_bestSet) (n := 1) rfl).trans ((exK_eq mX11_bestSet [4] 14 _).symm.trans rfl)
set_option maxRecDepth 100000 in
theorem bX11_bestSet_4 (I : Nat → Nat → Int32) (J : Nat → Nat → Int64) (pl st : Bool)   : run mX11_bestSet (4, 0, 0, [.ref 0], [.ref 13], (cH I J pl st)) = (callK (fX3_cheapestSet [.ref 13, .int (I (plP pl) 5), .ref 15] (cH I J pl st)) (fun r h' => run mX11_bestSet (18, 0, 0, [.ref 0], r.toList ++ [], h'))) := by
  cases pl
  all_goals exact (exK_eq mX11_bestSet [4, 18] 14 _).symm.trans rfl
set_option maxRecDepth 100000 in
theorem bX11_bestSet_18 (I : Nat → Nat → Int32) (J : Nat → Nat → Int64) (pl st : Bool)  (s0 : Int32) (z0 : Value) : run mX11_bestSet (18, 0, 0, [z0], [.int s0], (cH I J pl st)) = some (some (.int s0), (cH I J pl st)) := by
  cases pl
  all_goals exact (exK_eq mX11_bestSet [4, 18] 14 _).symm.trans rfl
set_option maxRecDepth 100000 in
theorem eX11_told (I : Nat → Nat → Int32) (J : Nat → Nat → Int64) (pl st : Bool)  (x1 : Int32) : fX11_told [.ref 0, .int x1] (cH I J pl st) = (if x1 = (nI 0) then some (some (.int (I (plP pl) 2)), (cH I J pl st)) else (if x1 = (nI 1) then some (some (.int (I (plP pl) 3)), (cH I J pl st)) else (if x1 = (nI 2) then some (some (.int (I 1 1)), (cH I J pl st)) else (if x1 = (nI 3) then some (some (.int (I 15 2)), (cH I J pl st)) else (if x1 = (nI 4) then some (some (.int (I 15 1)), (cH I J pl st)) else (if x1 = (nI 5) then (callK (fX9_costOfSet [.ref 15, .int (I 15 1)] (cH I J pl st)) (fun r h' => run mX11_told (146, 0, 0, [.ref 0, .int x1], r.toList ++ [], h'))) else (if x1 = (nI 6) then (callK (fX11_readingsNow [.ref 0] (cH I J pl st)) (fun r h' => run mX11_told (151, 0, 0, [.ref 0, .int x1], r.toList ++ [], h'))) else (if x1 = (nI 7) then (callK (fX11_strictNow [.ref 0] (cH I J pl st)) (fun r h' => run mX11_told (159, 0, 0, [.ref 0, .int x1], r.toList ++ [], h'))) else (if x1 = (nI 8) then (callK (fX11_readingsNow [.ref 0] (cH I J pl st)) (fun r h' => run mX11_told (167, 0, 0, [.ref 0, .int x1], r.toList ++ [], h'))) else (if x1 = (nI 9) then some (some (.int (I 10 3)), (cH I J pl st)) else (if x1 = (nI 10) then (callK (fX11_looseNow [.ref 0] (cH I J pl st)) (fun r h' => run mX11_told (187, 0, 0, [.ref 0, .int x1], r.toList ++ [], h'))) else (if x1 = (nI 11) then (callK (fX11_looseNow [.ref 0] (cH I J pl st)) (fun r h' => run mX11_told (195, 0, 0, [.ref 0, .int x1], r.toList ++ [], h'))) else (if x1 = (nI 12) then (callK (fX11_looseNow [.ref 0] (cH I J pl st)) (fun r h' => run mX11_told (210, 0, 0, [.ref 0, .int x1], r.toList ++ [], h'))) else (if x1 = (nI 13) then (callK (fX11_bestSet [.ref 0] (cH I J pl st)) (fun r h' => run mX11_told (233, 0, 0, [.ref 0, .int x1], r.toList ++ [], h'))) else (if x1 = (nI 14) then (callK (fX11_bestSet [.ref 0] (cH I J pl st)) (fun r h' => run mX11_told (242, 0, 0, [.ref 0, .int x1], r.toList ++ [.ref 15], h'))) else (if x1 = (nI 15) then (callK (fX11_looseNow [.ref 0] (cH I J pl st)) (fun r h' => run mX11_told (250, 0, 0, [.ref 0, .int x1], r.toList ++ [], h'))) else (if x1 = (nI 16) then some (some (.int (I 66 2)), (cH I J pl st)) else (if x1 = (nI 17) then (callK (fX11_readingsNow [.ref 0] (cH I J pl st)) (fun r h' => run mX11_told (277, 0, 0, [.ref 0, .int x1], r.toList ++ [.ref 66], h'))) else (if x1 = (nI 18) then some (some (.int (I 17 2)), (cH I J pl st)) else some (some (.int (-1000000002)), (cH I J pl st))))))))))))))))))))) := by
  cases pl
  all_goals exact (mth_eq (M := mX11_told) (n := 2) rfl).trans ((exK_eq mX11_told [146, 151, 159, 167, 187, 195, 210, 233, 242, 250, 277] 106 _).symm.trans rfl)
set_option maxRecDepth 100000 in
theorem bX11_told_146 (I : Nat → Nat → Int32) (J : Nat → Nat → Int64) (pl st : Bool)  (s0 : Int32) (z0 : Value) (z1 : Value) : run mX11_told (146, 0, 0, [z0, z1], [.int s0], (cH I J pl st)) = some (some (.int s0), (cH I J pl st)) := by
  cases pl
  all_goals exact (exK_eq mX11_told [146, 151, 159, 167, 187, 195, 210, 233, 242, 250, 277] 106 _).symm.trans rfl
set_option maxRecDepth 100000 in
theorem bX11_told_151 (I : Nat → Nat → Int32) (J : Nat → Nat → Int64) (pl st : Bool)  (z0 : Value) (z1 : Value) : run mX11_told (151, 0, 0, [z0, z1], [.ref 74], (cH I J pl st)) = some (some (.int (I 74 1)), (cH I J pl st)) := by
  cases pl
  all_goals exact (exK_eq mX11_told [146, 151, 159, 167, 187, 195, 210, 233, 242, 250, 277] 106 _).symm.trans rfl
set_option maxRecDepth 100000 in
theorem bX11_told_159 (I : Nat → Nat → Int32) (J : Nat → Nat → Int64) (pl st : Bool)  (z0 : Value) (z1 : Value) : run mX11_told (159, 0, 0, [z0, z1], [.ref 76], (cH I J pl st)) = some (some (.int (I 76 1)), (cH I J pl st)) := by
  cases pl
  all_goals exact (exK_eq mX11_told [146, 151, 159, 167, 187, 195, 210, 233, 242, 250, 277] 106 _).symm.trans rfl
set_option maxRecDepth 100000 in
theorem bX11_told_167 (I : Nat → Nat → Int32) (J : Nat → Nat → Int64) (pl st : Bool)  (z1 : Value) : run mX11_told (167, 0, 0, [.ref 0, z1], [.ref 74], (cH I J pl st)) = (callK (fX11_strictNow [.ref 0] (cH I J pl st)) (fun r h' => run mX11_told (171, 0, 0, [.ref 0, .null], r.toList ++ [.ref 74], h'))) := by
  cases pl
  all_goals exact (exK_eq mX11_told [146, 151, 159, 167, 171, 187, 195, 210, 233, 242, 250, 277] 106 _).symm.trans rfl
set_option maxRecDepth 100000 in
theorem bX11_told_187 (I : Nat → Nat → Int32) (J : Nat → Nat → Int64) (pl st : Bool)  (z0 : Value) (z1 : Value) : run mX11_told (187, 0, 0, [z0, z1], [.ref 13], (cH I J pl st)) = some (some (.int (I 13 1)), (cH I J pl st)) := by
  cases pl
  all_goals exact (exK_eq mX11_told [146, 151, 159, 167, 171, 187, 195, 210, 233, 242, 250, 277] 106 _).symm.trans rfl
set_option maxRecDepth 100000 in
theorem bX11_told_195 (I : Nat → Nat → Int32) (J : Nat → Nat → Int64) (pl st : Bool)  (z1 : Value) : run mX11_told (195, 0, 0, [.ref 0, z1], [.ref 13], (cH I J pl st)) = (callK (fX3_countHeld [.ref 13, .int (I 15 1)] (cH I J pl st)) (fun r h' => run mX11_told (205, 0, 0, [.ref 0, .null], r.toList ++ [], h'))) := by
  cases pl
  all_goals exact (exK_eq mX11_told [146, 151, 159, 167, 171, 187, 195, 205, 210, 233, 242, 250, 277] 106 _).symm.trans rfl
set_option maxRecDepth 100000 in
theorem bX11_told_210 (I : Nat → Nat → Int32) (J : Nat → Nat → Int64) (pl st : Bool)  (z1 : Value) : run mX11_told (210, 0, 0, [.ref 0, z1], [.ref 13], (cH I J pl st)) = (callK (fX3_areAllHeld [.ref 13, .int (I 15 1)] (cH I J pl st)) (fun r h' => run mX11_told (220, 0, 0, [.ref 0, .null], r.toList ++ [], h'))) := by
  cases pl
  all_goals exact (exK_eq mX11_told [146, 151, 159, 167, 171, 187, 195, 205, 210, 220, 233, 242, 250, 277] 106 _).symm.trans rfl
set_option maxRecDepth 100000 in
theorem bX11_told_233 (I : Nat → Nat → Int32) (J : Nat → Nat → Int64) (pl st : Bool)  (s0 : Int32) (z0 : Value) (z1 : Value) : run mX11_told (233, 0, 0, [z0, z1], [.int s0], (cH I J pl st)) = some (some (.int s0), (cH I J pl st)) := by
  cases pl
  all_goals exact (exK_eq mX11_told [146, 151, 159, 167, 171, 187, 195, 205, 210, 220, 233, 242, 250, 277] 106 _).symm.trans rfl
set_option maxRecDepth 100000 in
theorem bX11_told_242 (I : Nat → Nat → Int32) (J : Nat → Nat → Int64) (pl st : Bool)  (s1 : Int32) (z0 : Value) (z1 : Value) : run mX11_told (242, 0, 0, [z0, z1], [.int s1, .ref 15], (cH I J pl st)) = (callK (fX9_costOfSet [.ref 15, .int s1] (cH I J pl st)) (fun r h' => run mX11_told (245, 0, 0, [.null, .null], r.toList ++ [], h'))) := by
  cases pl
  all_goals exact (exK_eq mX11_told [146, 151, 159, 167, 171, 187, 195, 205, 210, 220, 233, 242, 245, 250, 277] 106 _).symm.trans rfl
set_option maxRecDepth 100000 in
theorem bX11_told_250 (I : Nat → Nat → Int32) (J : Nat → Nat → Int64) (pl st : Bool)  (z1 : Value) : run mX11_told (250, 0, 0, [.ref 0, z1], [.ref 13], (cH I J pl st)) = (callK (fX3_neededOf [.ref 13, .int (I 15 1)] (cH I J pl st)) (fun r h' => run mX11_told (260, 0, 0, [.ref 0, .null], r.toList ++ [], h'))) := by
  cases pl
  all_goals exact (exK_eq mX11_told [146, 151, 159, 167, 171, 187, 195, 205, 210, 220, 233, 242, 245, 250, 260, 277] 106 _).symm.trans rfl
set_option maxRecDepth 100000 in
theorem bX11_told_277 (I : Nat → Nat → Int32) (J : Nat → Nat → Int64) (pl st : Bool)  (z0 : Value) (z1 : Value) : run mX11_told (277, 0, 0, [z0, z1], [.ref 74, .ref 66], (cH I J pl st)) = (callK (fX0_firstWrong [.ref 66, .ref 74] (cH I J pl st)) (fun r h' => run mX11_told (280, 0, 0, [.null, .null], r.toList ++ [], h'))) := by
  cases pl
  all_goals exact (exK_eq mX11_told [146, 151, 159, 167, 171, 187, 195, 205, 210, 220, 233, 242, 245, 250, 260, 277, 280] 106 _).symm.trans rfl
set_option maxRecDepth 100000 in
theorem bX11_told_171 (I : Nat → Nat → Int32) (J : Nat → Nat → Int64) (pl st : Bool)  (z0 : Value) (z1 : Value) : run mX11_told (171, 0, 0, [z0, z1], [.ref 76, .ref 74], (cH I J pl st)) = (callK (fX7_countWithout [.ref 74, .ref 76] (cH I J pl st)) (fun r h' => run mX11_told (174, 0, 0, [.null, .null], r.toList ++ [], h'))) := by
  cases pl
  all_goals exact (exK_eq mX11_told [146, 151, 159, 167, 171, 174, 187, 195, 205, 210, 220, 233, 242, 245, 250, 260, 277, 280] 106 _).symm.trans rfl
set_option maxRecDepth 100000 in
theorem bX11_told_205 (I : Nat → Nat → Int32) (J : Nat → Nat → Int64) (pl st : Bool)  (s0 : Int32) (z0 : Value) (z1 : Value) : run mX11_told (205, 0, 0, [z0, z1], [.int s0], (cH I J pl st)) = some (some (.int s0), (cH I J pl st)) := by
  cases pl
  all_goals exact (exK_eq mX11_told [146, 151, 159, 167, 171, 174, 187, 195, 205, 210, 220, 233, 242, 245, 250, 260, 277, 280] 106 _).symm.trans rfl
set_option maxRecDepth 100000 in
theorem bX11_told_220 (I : Nat → Nat → Int32) (J : Nat → Nat → Int64) (pl st : Bool)  (s0 : Int32) (z0 : Value) (z1 : Value) : run mX11_told (220, 0, 0, [z0, z1], [.int s0], (cH I J pl st)) = (if s0 = (nI 0) then some (some (.int (nI 0)), (cH I J pl st)) else some (some (.int (nI 1)), (cH I J pl st))) := by
  cases pl
  all_goals exact (exK_eq mX11_told [146, 151, 159, 167, 171, 174, 187, 195, 205, 210, 220, 233, 242, 245, 250, 260, 277, 280] 106 _).symm.trans rfl
set_option maxRecDepth 100000 in
theorem bX11_told_245 (I : Nat → Nat → Int32) (J : Nat → Nat → Int64) (pl st : Bool)  (s0 : Int32) (z0 : Value) (z1 : Value) : run mX11_told (245, 0, 0, [z0, z1], [.int s0], (cH I J pl st)) = some (some (.int s0), (cH I J pl st)) := by
  cases pl
  all_goals exact (exK_eq mX11_told [146, 151, 159, 167, 171, 174, 187, 195, 205, 210, 220, 233, 242, 245, 250, 260, 277, 280] 106 _).symm.trans rfl
set_option maxRecDepth 100000 in
theorem bX11_told_260 (I : Nat → Nat → Int32) (J : Nat → Nat → Int64) (pl st : Bool)  (s0 : Int32) (z0 : Value) (z1 : Value) : run mX11_told (260, 0, 0, [z0, z1], [.int s0], (cH I J pl st)) = some (some (.int s0), (cH I J pl st)) := by
  cases pl
  all_goals exact (exK_eq mX11_told [146, 151, 159, 167, 171, 174, 187, 195, 205, 210, 220, 233, 242, 245, 250, 260, 277, 280] 106 _).symm.trans rfl
set_option maxRecDepth 100000 in
theorem bX11_told_280 (I : Nat → Nat → Int32) (J : Nat → Nat → Int64) (pl st : Bool)  (s0 : Int32) (z0 : Value) (z1 : Value) : run mX11_told (280, 0, 0, [z0, z1], [.int s0], (cH I J pl st)) = some (some (.int s0), (cH I J pl st)) := by
  cases pl
  all_goals exact (exK_eq mX11_told [146, 151, 159, 167, 171, 174, 187, 195, 205, 210, 220, 233, 242, 245, 250, 260, 277, 280] 106 _).symm.trans rfl
set_option maxRecDepth 100000 in
theorem bX11_told_174 (I : Nat → Nat → Int32) (J : Nat → Nat → Int64) (pl st : Bool)  (s0 : Int32) (z0 : Value) (z1 : Value) : run mX11_told (174, 0, 0, [z0, z1], [.int s0], (cH I J pl st)) = some (some (.int s0), (cH I J pl st)) := by
  cases pl
  all_goals exact (exK_eq mX11_told [146, 151, 159, 167, 171, 174, 187, 195, 205, 210, 220, 233, 242, 245, 250, 260, 277, 280] 106 _).symm.trans rfl
set_option maxRecDepth 100000 in
theorem eX11_step (I : Nat → Nat → Int32) (J : Nat → Nat → Int64) (pl st : Bool)  (x1 : Int32) (x2 : Int32) : fX11_step [.ref 0, .int x1, .int x2] (cH I J pl st) = (callK (fX6_hasStep [.ref (plP pl), .int x1] (cH I J pl st)) (fun r h' => run mX11_step (8, 0, 0, [.ref 0, .int x1, .int x2], r.toList ++ [], h'))) := by
  cases pl
  all_goals exact (mth_eq (M := mX11_step) (n := 3) rfl).trans ((exK_eq mX11_step [8] 77 _).symm.trans rfl)
set_option maxRecDepth 100000 in
theorem bX11_step_8 (I : Nat → Nat → Int32) (J : Nat → Nat → Int64) (pl st : Bool)  (s0 : Int32) (x1 : Int32) (x2 : Int32) : run mX11_step (8, 0, 0, [.ref 0, .int x1, .int x2], [.int s0], (cH I J pl st)) = (if s0 = (nI 0) then some (some (.int (-1000000001)), (cH I J pl st)) else (if x2 = (nI 0) then (callK (fX6_threadOf [.ref (plP pl), .int x1] (cH I J pl st)) (fun r h' => run mX11_step (64, 0, 0, [.ref 0, .int x1, .int x2], r.toList ++ [], h'))) else (if x2 = (nI 1) then (callK (fX6_cellOf [.ref (plP pl), .int x1] (cH I J pl st)) (fun r h' => run mX11_step (73, 0, 0, [.ref 0, .int x1, .int x2], r.toList ++ [], h'))) else (if x2 = (nI 2) then (callK (fX6_isWriter [.ref (plP pl), .int x1] (cH I J pl st)) (fun r h' => run mX11_step (82, 0, 0, [.ref 0, .int x1, .int x2], r.toList ++ [], h'))) else (if x2 = (nI 3) then (callK (fX6_hasGap [.ref (plP pl), .int x1] (cH I J pl st)) (fun r h' => run mX11_step (99, 0, 0, [.ref 0, .int x1, .int x2], r.toList ++ [], h'))) else (if x2 = (nI 4) then (callK (fX6_hasGap [.ref (plP pl), .int x1] (cH I J pl st)) (fun r h' => run mX11_step (123, 0, 0, [.ref 0, .int x1, .int x2], r.toList ++ [], h'))) else (if x2 = (nI 5) then (callK (fX6_waitsOf [.ref (plP pl), .int x1, .int (I 15 1), .int (I 15 2)] (cH I J pl st)) (fun r h' => run mX11_step (163, 0, 0, [.ref 0, .int x1, .int x2], r.toList ++ [], h'))) else (if x2 = (nI 6) then (callK (fX6_conflictsOf [.ref (plP pl), .int x1] (cH I J pl st)) (fun r h' => run mX11_step (172, 0, 0, [.ref 0, .int x1, .int x2], r.toList ++ [], h'))) else some (some (.int (-1000000002)), (cH I J pl st)))))))))) := by
  cases pl
  all_goals exact (exK_eq mX11_step [8, 64, 73, 82, 99, 123, 163, 172] 77 _).symm.trans rfl
set_option maxRecDepth 100000 in
theorem bX11_step_64 (I : Nat → Nat → Int32) (J : Nat → Nat → Int64) (pl st : Bool)  (s0 : Int32) (z0 : Value) (z1 : Value) (z2 : Value) : run mX11_step (64, 0, 0, [z0, z1, z2], [.int s0], (cH I J pl st)) = some (some (.int s0), (cH I J pl st)) := by
  cases pl
  all_goals exact (exK_eq mX11_step [8, 64, 73, 82, 99, 123, 163, 172] 77 _).symm.trans rfl
set_option maxRecDepth 100000 in
theorem bX11_step_73 (I : Nat → Nat → Int32) (J : Nat → Nat → Int64) (pl st : Bool)  (s0 : Int32) (z0 : Value) (z1 : Value) (z2 : Value) : run mX11_step (73, 0, 0, [z0, z1, z2], [.int s0], (cH I J pl st)) = some (some (.int s0), (cH I J pl st)) := by
  cases pl
  all_goals exact (exK_eq mX11_step [8, 64, 73, 82, 99, 123, 163, 172] 77 _).symm.trans rfl
set_option maxRecDepth 100000 in
theorem bX11_step_82 (I : Nat → Nat → Int32) (J : Nat → Nat → Int64) (pl st : Bool)  (s0 : Int32) (z0 : Value) (z1 : Value) (z2 : Value) : run mX11_step (82, 0, 0, [z0, z1, z2], [.int s0], (cH I J pl st)) = (if s0 = (nI 0) then some (some (.int (nI 0)), (cH I J pl st)) else some (some (.int (nI 1)), (cH I J pl st))) := by
  cases pl
  all_goals exact (exK_eq mX11_step [8, 64, 73, 82, 99, 123, 163, 172] 77 _).symm.trans rfl
set_option maxRecDepth 100000 in
theorem bX11_step_99 (I : Nat → Nat → Int32) (J : Nat → Nat → Int64) (pl st : Bool)  (s0 : Int32) (x1 : Int32) (z2 : Value) : run mX11_step (99, 0, 0, [.ref 0, .int x1, z2], [.int s0], (cH I J pl st)) = (if s0 = (nI 0) then some (some (.int (Int32.ofInt (-1))), (cH I J pl st)) else (callK (fX9_costOf [.ref 15, .int x1] (cH I J pl st)) (fun r h' => run mX11_step (110, 0, 0, [.ref 0, .int x1, .null], r.toList ++ [], h')))) := by
  cases pl
  all_goals exact (exK_eq mX11_step [8, 64, 73, 82, 99, 110, 123, 163, 172] 77 _).symm.trans rfl
set_option maxRecDepth 100000 in
theorem bX11_step_123 (I : Nat → Nat → Int32) (J : Nat → Nat → Int64) (pl st : Bool)  (s0 : Int32) (x1 : Int32) (z2 : Value) : run mX11_step (123, 0, 0, [.ref 0, .int x1, z2], [.int s0], (cH I J pl st)) = (if s0 = (nI 0) then some (some (.int (Int32.ofInt (-1))), (cH I J pl st)) else (callK (fX11_looseNow [.ref 0] (cH I J pl st)) (fun r h' => run mX11_step (130, 0, 0, [.ref 0, .int x1, .null], r.toList ++ [], h')))) := by
  cases pl
  all_goals exact (exK_eq mX11_step [8, 64, 73, 82, 99, 110, 123, 130, 163, 172] 77 _).symm.trans rfl
set_option maxRecDepth 100000 in
theorem bX11_step_163 (I : Nat → Nat → Int32) (J : Nat → Nat → Int64) (pl st : Bool)  (s0 : Int32) (z0 : Value) (z1 : Value) (z2 : Value) : run mX11_step (163, 0, 0, [z0, z1, z2], [.int s0], (cH I J pl st)) = some (some (.int s0), (cH I J pl st)) := by
  cases pl
  all_goals exact (exK_eq mX11_step [8, 64, 73, 82, 99, 110, 123, 130, 163, 172] 77 _).symm.trans rfl
set_option maxRecDepth 100000 in
theorem bX11_step_172 (I : Nat → Nat → Int32) (J : Nat → Nat → Int64) (pl st : Bool)  (s0 : Int32) (z0 : Value) (z1 : Value) (z2 : Value) : run mX11_step (172, 0, 0, [z0, z1, z2], [.int s0], (cH I J pl st)) = some (some (.int s0), (cH I J pl st)) := by
  cases pl
  all_goals exact (exK_eq mX11_step [8, 64, 73, 82, 99, 110, 123, 130, 163, 172] 77 _).symm.trans rfl
set_option maxRecDepth 100000 in
theorem bX11_step_110 (I : Nat → Nat → Int32) (J : Nat → Nat → Int64) (pl st : Bool)  (s0 : Int32) (z0 : Value) (z1 : Value) (z2 : Value) : run mX11_step (110, 0, 0, [z0, z1, z2], [.int s0], (cH I J pl st)) = some (some (.int s0), (cH I J pl st)) := by
  cases pl
  all_goals exact (exK_eq mX11_step [8, 64, 73, 82, 99, 110, 123, 130, 163, 172] 77 _).symm.trans rfl
set_option maxRecDepth 100000 in
theorem bX11_step_130 (I : Nat → Nat → Int32) (J : Nat → Nat → Int64) (pl st : Bool)  (x1 : Int32) (z0 : Value) (z2 : Value) : run mX11_step (130, 0, 0, [z0, .int x1, z2], [.ref 13], (cH I J pl st)) = (callK (fX3_countHeld [.ref 13, .int ((nI 1) <<< (x1 &&& 31))] (cH I J pl st)) (fun r h' => run mX11_step (136, 0, 0, [.null, .int x1, .null], r.toList ++ [], h'))) := by
  cases pl
  all_goals exact (exK_eq mX11_step [8, 64, 73, 82, 99, 110, 123, 130, 136, 163, 172] 77 _).symm.trans rfl
set_option maxRecDepth 100000 in
theorem bX11_step_136 (I : Nat → Nat → Int32) (J : Nat → Nat → Int64) (pl st : Bool)  (s0 : Int32) (z0 : Value) (z1 : Value) (z2 : Value) : run mX11_step (136, 0, 0, [z0, z1, z2], [.int s0], (cH I J pl st)) = some (some (.int s0), (cH I J pl st)) := by
  cases pl
  all_goals exact (exK_eq mX11_step [8, 64, 73, 82, 99, 110, 123, 130, 136, 163, 172] 77 _).symm.trans rfl
set_option maxRecDepth 100000 in
theorem eX11_pair (I : Nat → Nat → Int32) (J : Nat → Nat → Int64) (pl st : Bool)  (x1 : Int32) (x2 : Int32) (x3 : Int32) : fX11_pair [.ref 0, .int x1, .int x2, .int x3] (cH I J pl st) = (callK (fX6_hasStep [.ref (plP pl), .int x1] (cH I J pl st)) (fun r h' => run mX11_pair (8, 0, 0, [.ref 0, .int x1, .int x2, .int x3, .null], r.toList ++ [], h'))) := by
  cases pl
  all_goals exact (mth_eq (M := mX11_pair) (n := 5) rfl).trans ((exK_eq mX11_pair [8] 80 _).symm.trans rfl)
set_option maxRecDepth 100000 in
theorem bX11_pair_8 (I : Nat → Nat → Int32) (J : Nat → Nat → Int64) (pl st : Bool)  (s0 : Int32) (x1 : Int32) (x2 : Int32) (x3 : Int32) (z4 : Value) : run mX11_pair (8, 0, 0, [.ref 0, .int x1, .int x2, .int x3, z4], [.int s0], (cH I J pl st)) = (if s0 = (nI 0) then some (some (.int (-1000000001)), (cH I J pl st)) else (callK (fX6_hasStep [.ref (plP pl), .int x2] (cH I J pl st)) (fun r h' => run mX11_pair (19, 0, 0, [.ref 0, .int x1, .int x2, .int x3, .null], r.toList ++ [], h')))) := by
  cases pl
  all_goals exact (exK_eq mX11_pair [8, 19] 80 _).symm.trans rfl
set_option maxRecDepth 100000 in
theorem bX11_pair_19 (I : Nat → Nat → Int32) (J : Nat → Nat → Int64) (pl st : Bool)  (s0 : Int32) (x1 : Int32) (x2 : Int32) (x3 : Int32) (z4 : Value) : run mX11_pair (19, 0, 0, [.ref 0, .int x1, .int x2, .int x3, z4], [.int s0], (cH I J pl st)) = (if s0 = (nI 0) then some (some (.int (-1000000001)), (cH I J pl st)) else (if x1 = x2 then some (some (.int (-1000000001)), (cH I J pl st)) else (if x3 < (nI 0) then some (some (.int (-1000000002)), (cH I J pl st)) else (if x3 ≤ (nI 3) then (callK (fX6_isAhead [.ref (plP pl), .int x1, .int x2] (cH I J pl st)) (fun r h' => run mX11_pair (51, 0, 0, [.ref 0, .int x1, .int x2, .int x3, .null], r.toList ++ [], h'))) else some (some (.int (-1000000002)), (cH I J pl st)))))) := by
  cases pl
  all_goals exact (exK_eq mX11_pair [8, 19, 51] 80 _).symm.trans rfl
set_option maxRecDepth 100000 in
theorem bX11_pair_51 (I : Nat → Nat → Int32) (J : Nat → Nat → Int64) (pl st : Bool)  (s0 : Int32) (x1 : Int32) (x2 : Int32) (x3 : Int32) (z4 : Value) : run mX11_pair (51, 0, 0, [.ref 0, .int x1, .int x2, .int x3, z4], [.int s0], (cH I J pl st)) = (if s0 = (nI 0) then some (some (.int (-1000000003)), (cH I J pl st)) else (callK (fX8_countWith [.ref 10, .int x1, .int x2] (cH I J pl st)) (fun r h' => run mX11_pair (66, 0, 0, [.ref 0, .int x1, .int x2, .int x3, .null], r.toList ++ [], h')))) := by
  cases pl
  all_goals exact (exK_eq mX11_pair [8, 19, 51, 66] 80 _).symm.trans rfl
set_option maxRecDepth 100000 in
theorem bX11_pair_66 (I : Nat → Nat → Int32) (J : Nat → Nat → Int64) (pl st : Bool)  (s0 : Int32) (x1 : Int32) (x2 : Int32) (x3 : Int32) (z4 : Value) : run mX11_pair (66, 0, 0, [.ref 0, .int x1, .int x2, .int x3, z4], [.int s0], (cH I J pl st)) = (if x3 = (nI 0) then (if s0 ≤ (nI 0) then some (some (.int (nI 0)), (cH I J pl st)) else some (some (.int (nI 1)), (cH I J pl st))) else (if x3 = (nI 1) then (if s0 ≤ (nI 0) then some (some (.int (nI 0)), (cH I J pl st)) else (callK (fX6_mayOvertake [.ref (plP pl), .int x1, .int x2, .int (I 15 2)] (cH I J pl st)) (fun r h' => run mX11_pair (128, 0, 0, [.ref 0, .int x1, .int x2, .int x3, .int s0], r.toList ++ [], h')))) else (if x3 = (nI 2) then (if s0 ≤ (nI 0) then some (some (.int (nI 0)), (cH I J pl st)) else (callK (fX11_gapsBetween [.int x1, .int x2] (cH I J pl st)) (fun r h' => run mX11_pair (154, 0, 0, [.ref 0, .int x1, .int x2, .int x3, .int s0], r.toList ++ [.int (I 15 1)], h')))) else some (some (.int s0), (cH I J pl st))))) := by
  cases pl
  all_goals exact (exK_eq mX11_pair [8, 19, 51, 66, 128, 154] 80 _).symm.trans rfl
set_option maxRecDepth 100000 in
theorem bX11_pair_128 (I : Nat → Nat → Int32) (J : Nat → Nat → Int64) (pl st : Bool)  (s0 : Int32) (z0 : Value) (z1 : Value) (z2 : Value) (z3 : Value) (z4 : Value) : run mX11_pair (128, 0, 0, [z0, z1, z2, z3, z4], [.int s0], (cH I J pl st)) = (if s0 = (nI 0) then some (some (.int (nI 0)), (cH I J pl st)) else some (some (.int (nI 1)), (cH I J pl st))) := by
  cases pl
  all_goals exact (exK_eq mX11_pair [8, 19, 51, 66, 128, 154] 80 _).symm.trans rfl
set_option maxRecDepth 100000 in
theorem bX11_pair_154 (I : Nat → Nat → Int32) (J : Nat → Nat → Int64) (pl st : Bool)  (s0 : Int32) (s1 : Int32) (z0 : Value) (z1 : Value) (z2 : Value) (z3 : Value) (z4 : Value) : run mX11_pair (154, 0, 0, [z0, z1, z2, z3, z4], [.int s1, .int s0], (cH I J pl st)) = (if (s0 &&& s1) = (nI 0) then some (some (.int (nI 0)), (cH I J pl st)) else some (some (.int (nI 1)), (cH I J pl st))) := by
  cases pl
  all_goals exact (exK_eq mX11_pair [8, 19, 51, 66, 128, 154] 80 _).symm.trans rfl
set_option maxRecDepth 100000 in
theorem eX11_reading (I : Nat → Nat → Int32) (J : Nat → Nat → Int64) (pl st : Bool)  (x1 : Int32) (x2 : Int32) : fX11_reading [.ref 0, .int x1, .int x2] (cH I J pl st) = (if x2 = (nI 0) then (callK (fX11_readingsNow [.ref 0] (cH I J pl st)) (fun r h' => run mX11_reading (32, 0, 0, [.ref 0, .int x1, .int x2], r.toList ++ [], h'))) else (if x2 = (nI 1) then (callK (fX11_strictNow [.ref 0] (cH I J pl st)) (fun r h' => run mX11_reading (41, 0, 0, [.ref 0, .int x1, .int x2], r.toList ++ [], h'))) else (if x2 = (nI 2) then (callK (fX11_readingsNow [.ref 0] (cH I J pl st)) (fun r h' => run mX11_reading (50, 0, 0, [.ref 0, .int x1, .int x2], r.toList ++ [], h'))) else some (some (.int (-1000000002)), (cH I J pl st))))) := by
  cases pl
  all_goals exact (mth_eq (M := mX11_reading) (n := 3) rfl).trans ((exK_eq mX11_reading [32, 41, 50] 26 _).symm.trans rfl)
set_option maxRecDepth 100000 in
theorem bX11_reading_32 (I : Nat → Nat → Int32) (J : Nat → Nat → Int64) (pl st : Bool)  (x1 : Int32) (z0 : Value) (z2 : Value) : run mX11_reading (32, 0, 0, [z0, .int x1, z2], [.ref 74], (cH I J pl st)) = (callK (fX7_at [.ref 74, .int x1] (cH I J pl st)) (fun r h' => run mX11_reading (36, 0, 0, [.null, .int x1, .null], r.toList ++ [], h'))) := by
  cases pl
  all_goals exact (exK_eq mX11_reading [32, 36, 41, 50] 26 _).symm.trans rfl
set_option maxRecDepth 100000 in
theorem bX11_reading_41 (I : Nat → Nat → Int32) (J : Nat → Nat → Int64) (pl st : Bool)  (x1 : Int32) (z0 : Value) (z2 : Value) : run mX11_reading (41, 0, 0, [z0, .int x1, z2], [.ref 76], (cH I J pl st)) = (callK (fX7_at [.ref 76, .int x1] (cH I J pl st)) (fun r h' => run mX11_reading (45, 0, 0, [.null, .int x1, .null], r.toList ++ [], h'))) := by
  cases pl
  all_goals exact (exK_eq mX11_reading [32, 36, 41, 45, 50] 26 _).symm.trans rfl
set_option maxRecDepth 100000 in
theorem bX11_reading_50 (I : Nat → Nat → Int32) (J : Nat → Nat → Int64) (pl st : Bool)  (x1 : Int32) (z2 : Value) : run mX11_reading (50, 0, 0, [.ref 0, .int x1, z2], [.ref 74], (cH I J pl st)) = (callK (fX11_strictNow [.ref 0] (cH I J pl st)) (fun r h' => run mX11_reading (55, 0, 0, [.ref 0, .int x1, .null], r.toList ++ [.int x1, .ref 74], h'))) := by
  cases pl
  all_goals exact (exK_eq mX11_reading [32, 36, 41, 45, 50, 55] 26 _).symm.trans rfl
set_option maxRecDepth 100000 in
theorem bX11_reading_36 (I : Nat → Nat → Int32) (J : Nat → Nat → Int64) (pl st : Bool)  (s0 : Int32) (z0 : Value) (z1 : Value) (z2 : Value) : run mX11_reading (36, 0, 0, [z0, z1, z2], [.int s0], (cH I J pl st)) = some (some (.int s0), (cH I J pl st)) := by
  cases pl
  all_goals exact (exK_eq mX11_reading [32, 36, 41, 45, 50, 55] 26 _).symm.trans rfl
set_option maxRecDepth 100000 in
theorem bX11_reading_45 (I : Nat → Nat → Int32) (J : Nat → Nat → Int64) (pl st : Bool)  (s0 : Int32) (z0 : Value) (z1 : Value) (z2 : Value) : run mX11_reading (45, 0, 0, [z0, z1, z2], [.int s0], (cH I J pl st)) = some (some (.int s0), (cH I J pl st)) := by
  cases pl
  all_goals exact (exK_eq mX11_reading [32, 36, 41, 45, 50, 55] 26 _).symm.trans rfl
set_option maxRecDepth 100000 in
theorem bX11_reading_55 (I : Nat → Nat → Int32) (J : Nat → Nat → Int64) (pl st : Bool)  (s1 : Int32) (z0 : Value) (z1 : Value) (z2 : Value) : run mX11_reading (55, 0, 0, [z0, z1, z2], [.ref 76, .int s1, .ref 74], (cH I J pl st)) = (callK (fX7_atWithout [.ref 74, .int s1, .ref 76] (cH I J pl st)) (fun r h' => run mX11_reading (58, 0, 0, [.null, .null, .null], r.toList ++ [], h'))) := by
  cases pl
  all_goals exact (exK_eq mX11_reading [32, 36, 41, 45, 50, 55, 58] 26 _).symm.trans rfl
set_option maxRecDepth 100000 in
theorem bX11_reading_58 (I : Nat → Nat → Int32) (J : Nat → Nat → Int64) (pl st : Bool)  (s0 : Int32) (z0 : Value) (z1 : Value) (z2 : Value) : run mX11_reading (58, 0, 0, [z0, z1, z2], [.int s0], (cH I J pl st)) = some (some (.int s0), (cH I J pl st)) := by
  cases pl
  all_goals exact (exK_eq mX11_reading [32, 36, 41, 45, 50, 55, 58] 26 _).symm.trans rfl
set_option maxRecDepth 100000 in
theorem eX11_can (I : Nat → Nat → Int32) (J : Nat → Nat → Int64) (pl st : Bool)  (x1 : Int32) : fX11_can [.ref 0, .int x1] (cH I J pl st) = (callK (fX11_strictNow [.ref 0] (cH I J pl st)) (fun r h' => run mX11_can (4, 0, 0, [.ref 0, .int x1], r.toList ++ [], h'))) := by
  cases pl
  all_goals exact (mth_eq (M := mX11_can) (n := 2) rfl).trans ((exK_eq mX11_can [4] 21 _).symm.trans rfl)
set_option maxRecDepth 100000 in
theorem bX11_can_4 (I : Nat → Nat → Int32) (J : Nat → Nat → Int64) (pl st : Bool)  (x1 : Int32) : run mX11_can (4, 0, 0, [.ref 0, .int x1], [.ref 76], (cH I J pl st)) = (callK (fX7_holds [.ref 76, .int x1] (cH I J pl st)) (fun r h' => run mX11_can (8, 0, 0, [.ref 0, .int x1], r.toList ++ [], h'))) := by
  cases pl
  all_goals exact (exK_eq mX11_can [4, 8] 21 _).symm.trans rfl
set_option maxRecDepth 100000 in
theorem bX11_can_8 (I : Nat → Nat → Int32) (J : Nat → Nat → Int64) (pl st : Bool)  (s0 : Int32) (x1 : Int32) : run mX11_can (8, 0, 0, [.ref 0, .int x1], [.int s0], (cH I J pl st)) = (if s0 = (nI 0) then (callK (fX11_readingsNow [.ref 0] (cH I J pl st)) (fun r h' => run mX11_can (17, 0, 0, [.ref 0, .int x1], r.toList ++ [], h'))) else some (some (.int (nI 2)), (cH I J pl st))) := by
  cases pl
  all_goals exact (exK_eq mX11_can [4, 8, 17] 21 _).symm.trans rfl
set_option maxRecDepth 100000 in
theorem bX11_can_17 (I : Nat → Nat → Int32) (J : Nat → Nat → Int64) (pl st : Bool)  (x1 : Int32) (z0 : Value) : run mX11_can (17, 0, 0, [z0, .int x1], [.ref 74], (cH I J pl st)) = (callK (fX7_holds [.ref 74, .int x1] (cH I J pl st)) (fun r h' => run mX11_can (21, 0, 0, [.null, .int x1], r.toList ++ [], h'))) := by
  cases pl
  all_goals exact (exK_eq mX11_can [4, 8, 17, 21] 21 _).symm.trans rfl
set_option maxRecDepth 100000 in
theorem bX11_can_21 (I : Nat → Nat → Int32) (J : Nat → Nat → Int64) (pl st : Bool)  (s0 : Int32) (z0 : Value) (z1 : Value) : run mX11_can (21, 0, 0, [z0, z1], [.int s0], (cH I J pl st)) = (if s0 = (nI 0) then some (some (.int (nI 0)), (cH I J pl st)) else some (some (.int (nI 1)), (cH I J pl st))) := by
  cases pl
  all_goals exact (exK_eq mX11_can [4, 8, 17, 21] 21 _).symm.trans rfl
set_option maxRecDepth 100000 in
theorem eX11_fence (I : Nat → Nat → Int32) (J : Nat → Nat → Int64) (pl st : Bool)  (x1 : Int32) (x2 : Int32) : fX11_fence [.ref 0, .int x1, .int x2] (cH I J pl st) = (callK (fX6_hasGap [.ref (plP pl), .int x1] (cH I J pl st)) (fun r h' => run mX11_fence (8, 0, 0, [.ref 0, .int x1, .int x2], r.toList ++ [], h'))) := by
  cases pl
  all_goals exact (mth_eq (M := mX11_fence) (n := 3) rfl).trans ((exK_eq mX11_fence [8] 29 _).symm.trans rfl)
set_option maxRecDepth 100000 in
theorem bX11_fence_8 (I : Nat → Nat → Int32) (J : Nat → Nat → Int64) (pl st : Bool)  (s0 : Int32) (x1 : Int32) (x2 : Int32) : run mX11_fence (8, 0, 0, [.ref 0, .int x1, .int x2], [.int s0], (cH I J pl st)) = (if s0 = (nI 0) then some (some (.int (-1000000001)), (cH I J pl st)) else (callK (fX1_add [.ref 17, .ref 15] (cH I J pl st)) (fun r h' => run mX11_fence (25, 0, 0, [.ref 0, .int x1, .int x2], r.toList ++ [], h')))) := by
  cases pl
  all_goals exact (exK_eq mX11_fence [8, 25] 29 _).symm.trans rfl
set_option maxRecDepth 100000 in
theorem bX11_fence_25 (I : Nat → Nat → Int32) (J : Nat → Nat → Int64) (pl st : Bool)  (x1 : Int32) (x2 : Int32) : run mX11_fence (25, 0, 0, [.ref 0, .int x1, .int x2], [], (cH I J pl st)) = (callK (fX9_setFence [.ref 15, .int x1, .int x2] (cH I J pl st)) (fun r h' => run mX11_fence (34, 0, 0, [.ref 0, .int x1, .int x2], r.toList ++ [], h'))) := by
  cases pl
  all_goals exact (exK_eq mX11_fence [8, 25, 34] 29 _).symm.trans rfl
set_option maxRecDepth 100000 in
theorem bX11_fence_34 (I : Nat → Nat → Int32) (J : Nat → Nat → Int64) (pl st : Bool)  (z1 : Value) (z2 : Value) : run mX11_fence (34, 0, 0, [.ref 0, z1, z2], [], (cH I J pl st)) = (callK (fX9_costOfSet [.ref 15, .int (I 15 1)] (cH I J pl st)) (fun r h' => run mX11_fence (48, 0, 0, [.ref 0, .null, .null], r.toList ++ [], h'))) := by
  cases pl
  all_goals exact (exK_eq mX11_fence [8, 25, 34, 48] 29 _).symm.trans rfl
set_option maxRecDepth 100000 in
theorem bX11_fence_48 (I : Nat → Nat → Int32) (J : Nat → Nat → Int64) (pl st : Bool)  (s0 : Int32) (z0 : Value) (z1 : Value) (z2 : Value) : run mX11_fence (48, 0, 0, [z0, z1, z2], [.int s0], (cH I J pl st)) = some (some (.int s0), (cH I J pl st)) := by
  cases pl
  all_goals exact (exK_eq mX11_fence [8, 25, 34, 48] 29 _).symm.trans rfl
set_option maxRecDepth 100000 in
theorem eX11_cost (I : Nat → Nat → Int32) (J : Nat → Nat → Int64) (pl st : Bool)  (x1 : Int32) (x2 : Int32) : fX11_cost [.ref 0, .int x1, .int x2] (cH I J pl st) = (callK (fX6_hasGap [.ref (plP pl), .int x1] (cH I J pl st)) (fun r h' => run mX11_cost (8, 0, 0, [.ref 0, .int x1, .int x2, .null], r.toList ++ [], h'))) := by
  cases pl
  all_goals exact (mth_eq (M := mX11_cost) (n := 4) rfl).trans ((exK_eq mX11_cost [8] 37 _).symm.trans rfl)
set_option maxRecDepth 100000 in
theorem bX11_cost_8 (I : Nat → Nat → Int32) (J : Nat → Nat → Int64) (pl st : Bool)  (s0 : Int32) (x1 : Int32) (x2 : Int32) (z3 : Value) : run mX11_cost (8, 0, 0, [.ref 0, .int x1, .int x2, z3], [.int s0], (cH I J pl st)) = (if s0 = (nI 0) then some (some (.int (-1000000001)), (cH I J pl st)) else (if x2 < (nI 1) then some (some (.int (-1000000002)), (cH I J pl st)) else (if x2 ≤ (nI 9) then (callK (fX9_costOf [.ref 15, .int x1] (cH I J pl st)) (fun r h' => run mX11_cost (36, 0, 0, [.ref 0, .int x1, .int x2, .null], r.toList ++ [], h'))) else some (some (.int (-1000000002)), (cH I J pl st))))) := by
  cases pl
  all_goals exact (exK_eq mX11_cost [8, 36] 37 _).symm.trans rfl
set_option maxRecDepth 100000 in
theorem bX11_cost_36 (I : Nat → Nat → Int32) (J : Nat → Nat → Int64) (pl st : Bool)  (s0 : Int32) (x1 : Int32) (x2 : Int32) (z3 : Value) : run mX11_cost (36, 0, 0, [.ref 0, .int x1, .int x2, z3], [.int s0], (cH I J pl st)) = (callK (fX1_add [.ref 17, .ref 15] (cH I J pl st)) (fun r h' => run mX11_cost (48, 0, 0, [.ref 0, .int x1, .int x2, .int s0], r.toList ++ [], h'))) := by
  cases pl
  all_goals exact (exK_eq mX11_cost [8, 36, 48] 37 _).symm.trans rfl
set_option maxRecDepth 100000 in
theorem bX11_cost_48 (I : Nat → Nat → Int32) (J : Nat → Nat → Int64) (pl st : Bool)  (x1 : Int32) (x2 : Int32) (x3 : Int32) : run mX11_cost (48, 0, 0, [.ref 0, .int x1, .int x2, .int x3], [], (cH I J pl st)) = (callK (fX9_setCost [.ref 15, .int x1, .int x2] (cH I J pl st)) (fun r h' => run mX11_cost (57, 0, 0, [.ref 0, .int x1, .int x2, .int x3], r.toList ++ [], h'))) := by
  cases pl
  all_goals exact (exK_eq mX11_cost [8, 36, 48, 57] 37 _).symm.trans rfl
set_option maxRecDepth 100000 in
theorem bX11_cost_57 (I : Nat → Nat → Int32) (J : Nat → Nat → Int64) (pl st : Bool)  (x3 : Int32) (z0 : Value) (z1 : Value) (z2 : Value) : run mX11_cost (57, 0, 0, [z0, z1, z2, .int x3], [], (cH I J pl st)) = some (some (.int x3), (cH I J pl st)) := by
  cases pl
  all_goals exact (exK_eq mX11_cost [8, 36, 48, 57] 37 _).symm.trans rfl
set_option maxRecDepth 100000 in
theorem eX11_overtaking (I : Nat → Nat → Int32) (J : Nat → Nat → Int64) (pl st : Bool)  (x1 : Int32) : fX11_overtaking [.ref 0, .int x1] (cH I J pl st) = (if x1 < (nI 0) then some (some (.int (-1000000002)), (cH I J pl st)) else (if x1 ≤ (nI 15) then (callK (fX1_add [.ref 17, .ref 15] (cH I J pl st)) (fun r h' => run mX11_overtaking (24, 0, 0, [.ref 0, .int x1], r.toList ++ [], h'))) else some (some (.int (-1000000002)), (cH I J pl st)))) := by
  cases pl
  all_goals exact (mth_eq (M := mX11_overtaking) (n := 2) rfl).trans ((exK_eq mX11_overtaking [24] 25 _).symm.trans rfl)
set_option maxRecDepth 100000 in
theorem bX11_overtaking_24 (I : Nat → Nat → Int32) (J : Nat → Nat → Int64) (pl st : Bool)  (x1 : Int32) : run mX11_overtaking (24, 0, 0, [.ref 0, .int x1], [], (cH I J pl st)) = (callK (fX11_readingsNow [.ref 0] (cH (up2 I 15 2 x1) J pl st)) (fun r h' => run mX11_overtaking (36, 0, 0, [.ref 0, .int x1], r.toList ++ [], h'))) := by
  cases pl
  all_goals exact (exK_eq mX11_overtaking [24, 36] 25 _).symm.trans rfl
set_option maxRecDepth 100000 in
theorem bX11_overtaking_36 (I : Nat → Nat → Int32) (J : Nat → Nat → Int64) (pl st : Bool)  (z0 : Value) (z1 : Value) : run mX11_overtaking (36, 0, 0, [z0, z1], [.ref 74], (cH I J pl st)) = some (some (.int (I 74 1)), (cH I J pl st)) := by
  cases pl
  all_goals exact (exK_eq mX11_overtaking [24, 36] 25 _).symm.trans rfl
set_option maxRecDepth 100000 in
theorem eX11_best (I : Nat → Nat → Int32) (J : Nat → Nat → Int64) (pl st : Bool)   : fX11_best [.ref 0] (cH I J pl st) = (callK (fX11_bestSet [.ref 0] (cH I J pl st)) (fun r h' => run mX11_best (4, 0, 0, [.ref 0, .null], r.toList ++ [], h'))) := by
  cases pl
  all_goals exact (mth_eq (M := mX11_best) (n := 2) rfl).trans ((exK_eq mX11_best [4] 22 _).symm.trans rfl)
set_option maxRecDepth 100000 in
theorem bX11_best_4 (I : Nat → Nat → Int32) (J : Nat → Nat → Int64) (pl st : Bool)  (s0 : Int32) (z1 : Value) : run mX11_best (4, 0, 0, [.ref 0, z1], [.int s0], (cH I J pl st)) = (callK (fX1_add [.ref 17, .ref 15] (cH I J pl st)) (fun r h' => run mX11_best (16, 0, 0, [.ref 0, .int s0], r.toList ++ [], h'))) := by
  cases pl
  all_goals exact (exK_eq mX11_best [4, 16] 22 _).symm.trans rfl
set_option maxRecDepth 100000 in
theorem bX11_best_16 (I : Nat → Nat → Int32) (J : Nat → Nat → Int64) (pl st : Bool)  (x1 : Int32) : run mX11_best (16, 0, 0, [.ref 0, .int x1], [], (cH I J pl st)) = (callK (fX9_costOfSet [.ref 15, .int x1] (cH (up2 I 15 1 x1) J pl st)) (fun r h' => run mX11_best (32, 0, 0, [.ref 0, .int x1], r.toList ++ [], h'))) := by
  cases pl
  all_goals exact (exK_eq mX11_best [4, 16, 32] 22 _).symm.trans rfl
set_option maxRecDepth 100000 in
theorem bX11_best_32 (I : Nat → Nat → Int32) (J : Nat → Nat → Int64) (pl st : Bool)  (s0 : Int32) (z0 : Value) (z1 : Value) : run mX11_best (32, 0, 0, [z0, z1], [.int s0], (cH I J pl st)) = some (some (.int s0), (cH I J pl st)) := by
  cases pl
  all_goals exact (exK_eq mX11_best [4, 16, 32] 22 _).symm.trans rfl
set_option maxRecDepth 100000 in
theorem eX11_draw (I : Nat → Nat → Int32) (J : Nat → Nat → Int64) (pl st : Bool)  (x1 : Int32) : fX11_draw [.ref 0, .int x1] (cH I J pl st) = (if x1 ≤ (nI 0) then some (some (.int (nI 0)), (cH (up2 I 0 17 (Int64.toInt32 ((((Int32.toInt64 (I 0 17)) * (1103515245)) + (12345)) &&& (2147483647)))) J pl st)) else (if x1 = (0) then none else some (some (.int (((Int32.toUInt32 (Int64.toInt32 ((((Int32.toInt64 (I 0 17)) * (1103515245)) + (12345)) &&& (2147483647))) >>> (Int32.toUInt32 (nI 16) &&& Int32.toUInt32 31)).toInt32) - ((Int32.toUInt32 (Int64.toInt32 ((((Int32.toInt64 (I 0 17)) * (1103515245)) + (12345)) &&& (2147483647))) >>> (Int32.toUInt32 (nI 16) &&& Int32.toUInt32 31)).toInt32) / x1 * x1)), (cH (up2 I 0 17 (Int64.toInt32 ((((Int32.toInt64 (I 0 17)) * (1103515245)) + (12345)) &&& (2147483647)))) J pl st)))) := by
  cases pl
  all_goals exact (mth_eq (M := mX11_draw) (n := 2) rfl).trans ((exK_eq mX11_draw [] 28 _).symm.trans rfl)
