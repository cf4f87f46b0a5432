set_option maxRecDepth 100000 in
theorem eX11_driftOnce (I : Nat → Nat → Int32) (J : Nat → Nat → Int64) (pl st : Bool)   : fX11_driftOnce [.ref 0] (cH I J pl st) = (callK (fX11_draw [.ref 0, .int (nI 4)] (cH I J pl st)) (fun r h' => run mX11_driftOnce (5, 0, 0, [.ref 0, .null, .null, .null, .null], r.toList ++ [], h'))) := by
  cases pl
  all_goals exact (mth_eq (M := mX11_driftOnce) (n := 5) rfl).trans ((exK_eq mX11_driftOnce [5] 66 _).symm.trans rfl)
set_option maxRecDepth 100000 in
theorem bX11_driftOnce_5 (I : Nat → Nat → Int32) (J : Nat → Nat → Int64) (pl st : Bool)  (s0 : Int32) (z1 : Value) (z2 : Value) (z3 : Value) (z4 : Value) : run mX11_driftOnce (5, 0, 0, [.ref 0, z1, z2, z3, z4], [.int s0], (cH I J pl st)) = (callK (fX11_draw [.ref 0, .int (I (plP pl) 3)] (cH I J pl st)) (fun r h' => run mX11_driftOnce (17, 0, 0, [.ref 0, .int s0, .null, .null, .null], r.toList ++ [], h'))) := by
  cases pl
  all_goals exact (exK_eq mX11_driftOnce [5, 17] 66 _).symm.trans rfl
set_option maxRecDepth 100000 in
theorem bX11_driftOnce_17 (I : Nat → Nat → Int32) (J : Nat → Nat → Int64) (pl st : Bool)  (s0 : Int32) (x1 : Int32) (z2 : Value) (z3 : Value) (z4 : Value) : run mX11_driftOnce (17, 0, 0, [.ref 0, .int x1, z2, z3, z4], [.int s0], (cH I J pl st)) = (callK (fX11_draw [.ref 0, .int (nI 9)] (cH I J pl st)) (fun r h' => run mX11_driftOnce (24, 0, 0, [.ref 0, .int x1, .int s0, .null, .null], r.toList ++ [], h'))) := by
  cases pl
  all_goals exact (exK_eq mX11_driftOnce [5, 17, 24] 66 _).symm.trans rfl
set_option maxRecDepth 100000 in
theorem bX11_driftOnce_24 (I : Nat → Nat → Int32) (J : Nat → Nat → Int64) (pl st : Bool)  (s0 : Int32) (x1 : Int32) (x2 : Int32) (z3 : Value) (z4 : Value) : run mX11_driftOnce (24, 0, 0, [.ref 0, .int x1, .int x2, z3, z4], [.int s0], (cH I J pl st)) = (callK (fX11_draw [.ref 0, .int (nI 16)] (cH I J pl st)) (fun r h' => run mX11_driftOnce (31, 0, 0, [.ref 0, .int x1, .int x2, .int s0, .null], r.toList ++ [], h'))) := by
  cases pl
  all_goals exact (exK_eq mX11_driftOnce [5, 17, 24, 31] 66 _).symm.trans rfl
set_option maxRecDepth 100000 in
theorem bX11_driftOnce_31 (I : Nat → Nat → Int32) (J : Nat → Nat → Int64) (pl st : Bool)  (s0 : Int32) (x1 : Int32) (x2 : Int32) (x3 : Int32) (z4 : Value) : run mX11_driftOnce (31, 0, 0, [.ref 0, .int x1, .int x2, .int x3, z4], [.int s0], (cH I J pl st)) = (callK (fX1_add [.ref 17, .ref 15] (cH I J pl st)) (fun r h' => run mX11_driftOnce (44, 0, 0, [.ref 0, .int x1, .int x2, .int x3, .int s0], r.toList ++ [], h'))) := by
  cases pl
  all_goals exact (exK_eq mX11_driftOnce [5, 17, 24, 31, 44] 66 _).symm.trans rfl
set_option maxRecDepth 100000 in
theorem bX11_driftOnce_44 (I : Nat → Nat → Int32) (J : Nat → Nat → Int64) (pl st : Bool)  (x1 : Int32) (x2 : Int32) (x3 : Int32) (x4 : Int32) : run mX11_driftOnce (44, 0, 0, [.ref 0, .int x1, .int x2, .int x3, .int x4], [], (cH I J pl st)) = (if x1 = (nI 3) then some (none, (cH (up2 I 15 2 x4) J pl st)) else (callK (fX6_hasGap [.ref (plP pl), .int x2] (cH I J pl st)) (fun r h' => run mX11_driftOnce (69, 0, 0, [.ref 0, .int x1, .int x2, .int x3, .int x4], r.toList ++ [], h')))) := by
  cases pl
  all_goals exact (exK_eq mX11_driftOnce [5, 17, 24, 31, 44, 69] 66 _).symm.trans rfl
set_option maxRecDepth 100000 in
theorem bX11_driftOnce_69 (I : Nat → Nat → Int32) (J : Nat → Nat → Int64) (pl st : Bool)  (s0 : Int32) (x1 : Int32) (x2 : Int32) (x3 : Int32) (z4 : Value) : run mX11_driftOnce (69, 0, 0, [.ref 0, .int x1, .int x2, .int x3, z4], [.int s0], (cH I J pl st)) = (if s0 = (nI 0) then some (none, (cH I J pl st)) else (if x1 = (nI 2) then (callK (fX9_setCost [.ref 15, .int x2, .int (x3 + (nI 1))] (cH I J pl st)) (fun r h' => run mX11_driftOnce (88, 0, 0, [.ref 0, .int x1, .int x2, .int x3, .null], r.toList ++ [], h'))) else (callK (fX11_has [.int (I 15 1), .int x2] (cH I J pl st)) (fun r h' => run mX11_driftOnce (107, 0, 0, [.ref 0, .int x1, .int x2, .int x3, .null], r.toList ++ [.int x2, .ref 15], h'))))) := by
  cases pl
  all_goals exact (exK_eq mX11_driftOnce [5, 17, 24, 31, 44, 69, 88, 107] 66 _).symm.trans rfl
set_option maxRecDepth 100000 in
theorem bX11_driftOnce_88 (I : Nat → Nat → Int32) (J : Nat → Nat → Int64) (pl st : Bool)  (z0 : Value) (z1 : Value) (z2 : Value) (z3 : Value) (z4 : Value) : run mX11_driftOnce (88, 0, 0, [z0, z1, z2, z3, z4], [], (cH I J pl st)) = some (none, (cH I J pl st)) := by
  cases pl
  all_goals exact (exK_eq mX11_driftOnce [5, 17, 24, 31, 44, 69, 88, 107] 66 _).symm.trans rfl
set_option maxRecDepth 100000 in
theorem bX11_driftOnce_107 (I : Nat → Nat → Int32) (J : Nat → Nat → Int64) (pl st : Bool)  (s1 : Int32) (s2 : Int32) (z0 : Value) (z1 : Value) (z2 : Value) (z3 : Value) (z4 : Value) : run mX11_driftOnce (107, 0, 0, [z0, z1, z2, z3, z4], [.int s2, .int s1, .ref 15], (cH I J pl st)) = (if s2 = (nI 0) then (callK (fX9_setFence [.ref 15, .int s1, .int (nI 1)] (cH I J pl st)) (fun r h' => run mX11_driftOnce (118, 0, 0, [.null, .null, .null, .null, .null], r.toList ++ [], h'))) else (callK (fX9_setFence [.ref 15, .int s1, .int (nI 0)] (cH I J pl st)) (fun r h' => run mX11_driftOnce (118, 0, 0, [.null, .null, .null, .null, .null], r.toList ++ [], h')))) := by
  cases pl
  all_goals exact (exK_eq mX11_driftOnce [5, 17, 24, 31, 44, 69, 88, 107, 118] 66 _).symm.trans rfl
set_option maxRecDepth 100000 in
theorem bX11_driftOnce_118 (I : Nat → Nat → Int32) (J : Nat → Nat → Int64) (pl st : Bool)  (z0 : Value) (z1 : Value) (z2 : Value) (z3 : Value) (z4 : Value) : run mX11_driftOnce (118, 0, 0, [z0, z1, z2, z3, z4], [], (cH I J pl st)) = some (none, (cH I J pl st)) := by
  cases pl
  all_goals exact (exK_eq mX11_driftOnce [5, 17, 24, 31, 44, 69, 88, 107, 118] 66 _).symm.trans rfl
set_option maxRecDepth 100000 in
theorem eX11_drift (I : Nat → Nat → Int32) (J : Nat → Nat → Int64) (pl st : Bool)  (x1 : Int32) : fX11_drift [.ref 0, .int x1] (cH I J pl st) = (if x1 < (nI 1) then some (some (.int (-1000000002)), (cH I J pl st)) else (if x1 ≤ (nI 20) then (if (I (plP pl) 3) ≤ (nI 0) then some (some (.int (I 15 1)), (cH I J pl st)) else run mX11_drift (26, 0, 0, [.ref 0, .int x1, .int (nI 0)], [], (cH I J pl st))) else some (some (.int (-1000000002)), (cH I J pl st)))) := by
  cases pl
  all_goals exact (mth_eq (M := mX11_drift) (n := 3) rfl).trans ((exK_eq mX11_drift [26] 30 _).symm.trans rfl)
set_option maxRecDepth 100000 in
theorem bX11_drift_26 (I : Nat → Nat → Int32) (J : Nat → Nat → Int64) (pl st : Bool)  (x1 : Int32) (x2 : Int32) : run mX11_drift (26, 0, 0, [.ref 0, .int x1, .int x2], [], (cH I J pl st)) = (if x1 ≤ x2 then some (some (.int (I 15 1)), (cH I J pl st)) else (callK (fX11_driftOnce [.ref 0] (cH I J pl st)) (fun r h' => run mX11_drift (35, 0, 0, [.ref 0, .int x1, .int x2], r.toList ++ [], h')))) := by
  cases pl
  all_goals exact (exK_eq mX11_drift [26, 35] 30 _).symm.trans rfl
set_option maxRecDepth 100000 in
theorem bX11_drift_35 (I : Nat → Nat → Int32) (J : Nat → Nat → Int64) (pl st : Bool)  (x1 : Int32) (x2 : Int32) : run mX11_drift (35, 0, 0, [.ref 0, .int x1, .int x2], [], (cH I J pl st)) = run mX11_drift (26, 0, 0, [.ref 0, .int x1, .int (x2 + (nI 1))], [], (cH I J pl st)) := by
  cases pl
  all_goals exact (exK_eq mX11_drift [26, 35] 30 _).symm.trans rfl
set_option maxRecDepth 100000 in
theorem eX11_undo (I : Nat → Nat → Int32) (J : Nat → Nat → Int64) (pl st : Bool)  (x1 : Int32) : fX11_undo [.ref 0, .int x1] (cH I J pl st) = (if x1 < (nI 1) then some (some (.int (-1000000002)), (cH I J pl st)) else (if x1 ≤ (nI 20) then (if x1 ≤ (I 17 2) then (callK (fX1_takeBack [.ref 17, .int x1, .ref 15] (cH I J pl st)) (fun r h' => run mX11_undo (40, 0, 0, [.ref 0, .int x1], r.toList ++ [], h'))) else some (some (.int (-1000000003)), (cH I J pl st))) else some (some (.int (-1000000002)), (cH I J pl st)))) := by
  cases pl
  all_goals exact (mth_eq (M := mX11_undo) (n := 2) rfl).trans ((exK_eq mX11_undo [40] 30 _).symm.trans rfl)
set_option maxRecDepth 100000 in
theorem bX11_undo_40 (I : Nat → Nat → Int32) (J : Nat → Nat → Int64) (pl st : Bool)  (z1 : Value) : run mX11_undo (40, 0, 0, [.ref 0, z1], [], (cH I J pl st)) = some (some (.int (I 17 2)), (cH I J pl st)) := by
  cases pl
  all_goals exact (exK_eq mX11_undo [40] 30 _).symm.trans rfl
set_option maxRecDepth 100000 in
theorem eX11_write (I : Nat → Nat → Int32) (J : Nat → Nat → Int64) (pl st : Bool)  (x1 : Int32) (x2 : Int32) : fX11_write [.ref 0, .int x1, .int x2] (cH I J pl st) = (if x1 < (nI 0) then some (some (.int (-1000000002)), (cH I J pl st)) else (if x1 ≤ (nI 43046720) then (callK (fX0_add [.ref 66, .int x1, .int x2] (cH I J pl st)) (fun r h' => run mX11_write (23, 0, 0, [.ref 0, .int x1, .int x2], r.toList ++ [], h'))) else some (some (.int (-1000000002)), (cH I J pl st)))) := by
  cases pl
  all_goals exact (mth_eq (M := mX11_write) (n := 3) rfl).trans ((exK_eq mX11_write [23] 24 _).symm.trans rfl)
set_option maxRecDepth 100000 in
theorem bX11_write_23 (I : Nat → Nat → Int32) (J : Nat → Nat → Int64) (pl st : Bool)  (s0 : Int32) (z1 : Value) (z2 : Value) : run mX11_write (23, 0, 0, [.ref 0, z1, z2], [.int s0], (cH I J pl st)) = (if s0 = (nI 0) then some (some (.int (-1000000004)), (cH I J pl st)) else some (some (.int (I 66 2)), (cH I J pl st))) := by
  cases pl
  all_goals exact (exK_eq mX11_write [23] 24 _).symm.trans rfl
set_option maxRecDepth 100000 in
theorem eX11_tear (I : Nat → Nat → Int32) (J : Nat → Nat → Int64) (pl st : Bool)   : fX11_tear [.ref 0] (cH I J pl st) = (callK (fX0_clear [.ref 66] (cH I J pl st)) (fun r h' => run mX11_tear (15, 0, 0, [.ref 0, .int (I 66 2)], r.toList ++ [], h'))) := by
  cases pl
  all_goals exact (mth_eq (M := mX11_tear) (n := 2) rfl).trans ((exK_eq mX11_tear [15] 14 _).symm.trans rfl)
set_option maxRecDepth 100000 in
theorem bX11_tear_15 (I : Nat → Nat → Int32) (J : Nat → Nat → Int64) (pl st : Bool)  (x1 : Int32) (z0 : Value) : run mX11_tear (15, 0, 0, [z0, .int x1], [], (cH I J pl st)) = some (some (.int x1), (cH I J pl st)) := by
  cases pl
  all_goals exact (exK_eq mX11_tear [15] 14 _).symm.trans rfl
set_option maxRecDepth 100000 in
theorem eX11_seed (I : Nat → Nat → Int32) (J : Nat → Nat → Int64) (pl st : Bool)  (x1 : Int32) : fX11_seed [.ref 0, .int x1] (cH I J pl st) = (if (nI 0) ≤ x1 then some (some (.int (I 0 17)), (cH (up2 I 0 17 x1) J pl st)) else some (some (.int (-1000000002)), (cH I J pl st))) := by
  cases pl
  all_goals exact (mth_eq (M := mX11_seed) (n := 3) rfl).trans ((exK_eq mX11_seed [] 17 _).symm.trans rfl)
set_option maxRecDepth 100000 in
theorem eX11_keep (I : Nat → Nat → Int32) (J : Nat → Nat → Int64) (pl st : Bool)  (x1 : Int32) : fX11_keep [.ref 0, .int x1] (cH I J pl st) = (if x1 < (nI 0) then some (some (.int (-1000000001)), (cH I J pl st)) else (if x1 < (nI 2) then run mX11_keep (16, 0, 0, [.ref 0, .int x1], [], (cH I J pl st)) else some (some (.int (-1000000001)), (cH I J pl st)))) := by
  cases pl
  all_goals exact (mth_eq (M := mX11_keep) (n := 2) rfl).trans ((exK_eq mX11_keep [16] 30 _).symm.trans rfl)
set_option maxRecDepth 100000 in
theorem bX11_keep_16_v0 (I : Nat → Nat → Int32) (J : Nat → Nat → Int64) (pl st : Bool)   : run mX11_keep (16, 0, 0, [.ref 0, .int 0], [], (cH I J pl st)) = (callK (fX2_hold [.ref 60, .ref 15, .int (I 0 17)] (cH I J pl st)) (fun r h' => run mX11_keep (33, 0, 0, [.ref 0, .int 0], r.toList ++ [], h'))) := by
  cases pl
  all_goals exact (exK_eq mX11_keep [16, 33] 28 _).symm.trans rfl
set_option maxRecDepth 100000 in
theorem bX11_keep_33_v0 (I : Nat → Nat → Int32) (J : Nat → Nat → Int64) (pl st : Bool)  (z1 : Value) : run mX11_keep (33, 0, 0, [.ref 0, z1], [], (cH I J pl st)) = (callK (fX1_clear [.ref 17] (cH I J pl st)) (fun r h' => run mX11_keep (40, 0, 0, [.ref 0, .null], r.toList ++ [], h'))) := by
  cases pl
  all_goals exact (exK_eq mX11_keep [16, 33, 40] 28 _).symm.trans rfl
set_option maxRecDepth 100000 in
theorem bX11_keep_40_v0 (I : Nat → Nat → Int32) (J : Nat → Nat → Int64) (pl st : Bool)  (z0 : Value) (z1 : Value) : run mX11_keep (40, 0, 0, [z0, z1], [], (cH I J pl st)) = some (some (.int (nI 1)), (cH I J pl st)) := by
  cases pl
  all_goals exact (exK_eq mX11_keep [16, 33, 40] 28 _).symm.trans rfl
set_option maxRecDepth 100000 in
theorem bX11_keep_16_v1 (I : Nat → Nat → Int32) (J : Nat → Nat → Int64) (pl st : Bool)   : run mX11_keep (16, 0, 0, [.ref 0, .int 1], [], (cH I J pl st)) = (callK (fX2_hold [.ref 63, .ref 15, .int (I 0 17)] (cH I J pl st)) (fun r h' => run mX11_keep (33, 0, 0, [.ref 0, .int 1], r.toList ++ [], h'))) := by
  cases pl
  all_goals exact (exK_eq mX11_keep [16, 33] 28 _).symm.trans rfl
set_option maxRecDepth 100000 in
theorem bX11_keep_33_v1 (I : Nat → Nat → Int32) (J : Nat → Nat → Int64) (pl st : Bool)  (z1 : Value) : run mX11_keep (33, 0, 0, [.ref 0, z1], [], (cH I J pl st)) = (callK (fX1_clear [.ref 17] (cH I J pl st)) (fun r h' => run mX11_keep (40, 0, 0, [.ref 0, .null], r.toList ++ [], h'))) := by
  cases pl
  all_goals exact (exK_eq mX11_keep [16, 33, 40] 28 _).symm.trans rfl
set_option maxRecDepth 100000 in
theorem bX11_keep_40_v1 (I : Nat → Nat → Int32) (J : Nat → Nat → Int64) (pl st : Bool)  (z0 : Value) (z1 : Value) : run mX11_keep (40, 0, 0, [z0, z1], [], (cH I J pl st)) = some (some (.int (nI 1)), (cH I J pl st)) := by
  cases pl
  all_goals exact (exK_eq mX11_keep [16, 33, 40] 28 _).symm.trans rfl
set_option maxRecDepth 100000 in
theorem eX11_goBack (I : Nat → Nat → Int32) (J : Nat → Nat → Int64) (pl st : Bool)  (x1 : Int32) : fX11_goBack [.ref 0, .int x1] (cH I J pl st) = (if x1 < (nI 0) then some (some (.int (-1000000001)), (cH I J pl st)) else (if x1 < (nI 2) then run mX11_goBack (16, 0, 0, [.ref 0, .int x1, .null], [], (cH I J pl st)) else some (some (.int (-1000000001)), (cH I J pl st)))) := by
  cases pl
  all_goals exact (mth_eq (M := mX11_goBack) (n := 3) rfl).trans ((exK_eq mX11_goBack [16] 30 _).symm.trans rfl)
set_option maxRecDepth 100000 in
theorem bX11_goBack_16_v0 (I : Nat → Nat → Int32) (J : Nat → Nat → Int64) (pl st : Bool)  (z2 : Value) : run mX11_goBack (16, 0, 0, [.ref 0, .int 0, z2], [], (cH I J pl st)) = (if (I 60 2) = (nI 0) then some (some (.int (-1000000003)), (cH I J pl st)) else (callK (fX9_copy [.ref 15, .ref 61] (cH I J pl st)) (fun r h' => run mX11_goBack (44, 0, 0, [.ref 0, .int 0, .ref 60], r.toList ++ [], h')))) := by
  cases pl
  all_goals exact (exK_eq mX11_goBack [16, 44] 38 _).symm.trans rfl
set_option maxRecDepth 100000 in
theorem bX11_goBack_44_v0 (I : Nat → Nat → Int32) (J : Nat → Nat → Int64) (pl st : Bool)  (z1 : Value) : run mX11_goBack (44, 0, 0, [.ref 0, z1, .ref 60], [], (cH I J pl st)) = (callK (fX1_clear [.ref 17] (cH (up2 I 0 17 (I 60 1)) J pl st)) (fun r h' => run mX11_goBack (59, 0, 0, [.ref 0, .null, .ref 60], r.toList ++ [], h'))) := by
  cases pl
  all_goals exact (exK_eq mX11_goBack [16, 44, 59] 38 _).symm.trans rfl
set_option maxRecDepth 100000 in
theorem bX11_goBack_59_v0 (I : Nat → Nat → Int32) (J : Nat → Nat → Int64) (pl st : Bool)  (z0 : Value) (z1 : Value) (z2 : Value) : run mX11_goBack (59, 0, 0, [z0, z1, z2], [], (cH I J pl st)) = some (some (.int (nI 1)), (cH I J pl st)) := by
  cases pl
  all_goals exact (exK_eq mX11_goBack [16, 44, 59] 38 _).symm.trans rfl
set_option maxRecDepth 100000 in
theorem bX11_goBack_16_v1 (I : Nat → Nat → Int32) (J : Nat → Nat → Int64) (pl st : Bool)  (z2 : Value) : run mX11_goBack (16, 0, 0, [.ref 0, .int 1, z2], [], (cH I J pl st)) = (if (I 63 2) = (nI 0) then some (some (.int (-1000000003)), (cH I J pl st)) else (callK (fX9_copy [.ref 15, .ref 64] (cH I J pl st)) (fun r h' => run mX11_goBack (44, 0, 0, [.ref 0, .int 1, .ref 63], r.toList ++ [], h')))) := by
  cases pl
  all_goals exact (exK_eq mX11_goBack [16, 44] 38 _).symm.trans rfl
set_option maxRecDepth 100000 in
theorem bX11_goBack_44_v1 (I : Nat → Nat → Int32) (J : Nat → Nat → Int64) (pl st : Bool)  (z1 : Value) : run mX11_goBack (44, 0, 0, [.ref 0, z1, .ref 63], [], (cH I J pl st)) = (callK (fX1_clear [.ref 17] (cH (up2 I 0 17 (I 63 1)) J pl st)) (fun r h' => run mX11_goBack (59, 0, 0, [.ref 0, .null, .ref 63], r.toList ++ [], h'))) := by
  cases pl
  all_goals exact (exK_eq mX11_goBack [16, 44, 59] 38 _).symm.trans rfl
set_option maxRecDepth 100000 in
theorem bX11_goBack_59_v1 (I : Nat → Nat → Int32) (J : Nat → Nat → Int64) (pl st : Bool)  (z0 : Value) (z1 : Value) (z2 : Value) : run mX11_goBack (59, 0, 0, [z0, z1, z2], [], (cH I J pl st)) = some (some (.int (nI 1)), (cH I J pl st)) := by
  cases pl
  all_goals exact (exK_eq mX11_goBack [16, 44, 59] 38 _).symm.trans rfl
