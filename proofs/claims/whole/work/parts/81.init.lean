/-! THE CONSTRUCTORS, at the places where they run (by program) -/
theorem upsh {n : Nat} {v : Nat × Nat} (h : shX n = v) : up1 shX n v = shX := by
  funext p
  by_cases q : p = n
  · rw [q, up1_eq, h]
  · rw [up1_ne q]
theorem upsm {n : Nat} {v : Nat × Nat} (h : shM n = v) : up1 shM n v = shM := by
  funext p
  by_cases q : p = n
  · rw [q, up1_eq, h]
  · rw [up1_ne q]
def zrI (I : Nat → Nat → Int32) (n : Nat) : Nat → Nat → Int32 := up1 I n (fun _ => 0)
def zrJ (J : Nat → Nat → Int64) (n : Nat) : Nat → Nat → Int64 := up1 J n (fun _ => 0)
def zrR (R : Nat → Nat → Nat) (n : Nat) : Nat → Nat → Nat := up1 R n (fun _ => mNul)
def fl8 (I : Nat → Nat → Int32) (a : Nat) : Nat → Nat → Int32 := up2 (up2 (up2 (up2 (up2 (up2 (up2 (up2 I a 0 (nI 1)) a 1 (nI 1)) a 2 (nI 1)) a 3 (nI 1)) a 4 (nI 1)) a 5 (nI 1)) a 6 (nI 1)) a 7 (nI 1)
def stI (I : Nat → Nat → Int32) (q : Nat) : Nat → Nat → Int32 := up2 (up2 (fl8 (zrI I (q + 1)) (q + 1)) q 1 (nI 0)) q 2 (nI 15)
def stR (R : Nat → Nat → Nat) (q : Nat) : Nat → Nat → Nat := up2 (zrR R (q + 1)) q 0 (q + 1)
set_option maxRecDepth 100000 in
theorem jf {P : Nat} (hP : P ∈ setL) (I : Nat → Nat → Int32) (J : Nat → Nat → Int64) (R : Nat → Nat → Nat) : fJ7_fill_53178 [.ref (P + 1), .int (nI 1)] (P + 2, shX, I, J, R) = some (none, (P + 2, shX, fl8 I (P + 1), J, R)) := by
  simp only [setL, List.mem_cons, List.not_mem_nil, or_false] at hP
  rcases hP with rfl | rfl | rfl | rfl | rfl | rfl | rfl | rfl | rfl | rfl | rfl | rfl | rfl | rfl | rfl | rfl | rfl | rfl | rfl | rfl | rfl | rfl | rfl
  all_goals exact (mth_eq (M := mJ7_fill_53178) (n := 4) rfl).trans ((exK_eq mJ7_fill_53178 [] 120 _).symm.trans rfl)
set_option maxRecDepth 100000 in
theorem jc0 {P : Nat} (hP : P ∈ setL) (I : Nat → Nat → Int32) (J : Nat → Nat → Int64) (R : Nat → Nat → Nat) : fX9_clear [.ref P] (P + 2, shX, I, J, up2 R P 0 (P + 1)) = callK (fJ7_fill_53178 [.ref (P + 1), .int (nI 1)] (P + 2, shX, I, J, up2 R P 0 (P + 1))) (fun r h' => run mX9_clear (8, 0, 0, [.ref P], r.toList ++ [], h')) := by
  simp only [setL, List.mem_cons, List.not_mem_nil, or_false] at hP
  rcases hP with rfl | rfl | rfl | rfl | rfl | rfl | rfl | rfl | rfl | rfl | rfl | rfl | rfl | rfl | rfl | rfl | rfl | rfl | rfl | rfl | rfl | rfl | rfl
  all_goals exact (mth_eq (M := mX9_clear) (n := 1) rfl).trans ((exK_eq mX9_clear [8] 20 _).symm.trans rfl)
set_option maxRecDepth 100000 in
theorem jc1 {P : Nat} (hP : P ∈ setL) (I : Nat → Nat → Int32) (J : Nat → Nat → Int64) (R : Nat → Nat → Nat) : run mX9_clear (8, 0, 0, [.ref P], [], (P + 2, shX, I, J, R)) = some (none, (P + 2, shX, up2 (up2 I P 1 (nI 0)) P 2 (nI 15), J, R)) := by
  simp only [setL, List.mem_cons, List.not_mem_nil, or_false] at hP
  rcases hP with rfl | rfl | rfl | rfl | rfl | rfl | rfl | rfl | rfl | rfl | rfl | rfl | rfl | rfl | rfl | rfl | rfl | rfl | rfl | rfl | rfl | rfl | rfl
  all_goals exact (exK_eq mX9_clear [] 20 _).symm.trans rfl
theorem jc {P : Nat} (hP : P ∈ setL) (I : Nat → Nat → Int32) (J : Nat → Nat → Int64) (R : Nat → Nat → Nat) : fX9_clear [.ref P] (P + 2, shX, I, J, up2 R P 0 (P + 1)) = some (none, (P + 2, shX, up2 (up2 (fl8 I (P + 1)) P 1 (nI 0)) P 2 (nI 15), J, up2 R P 0 (P + 1))) := by
  rw [jc0 hP, jf hP, callK_some]
  exact jc1 hP _ _ _
set_option maxRecDepth 100000 in
theorem ji0 {P : Nat} (hP : P ∈ setL) (I : Nat → Nat → Int32) (J : Nat → Nat → Int64) (R : Nat → Nat → Nat) : fX9_init [.ref P] (P + 1, shX, I, J, R) = callK (fX9_clear [.ref P] (P + 2, up1 shX (P + 1) (0, 8), zrI I (P + 1), zrJ J (P + 1), up2 (zrR R (P + 1)) P 0 (P + 1))) (fun r h' => run mX9_init (16, 1, 8, [.ref P], r.toList ++ [], h')) := by
  simp only [setL, List.mem_cons, List.not_mem_nil, or_false] at hP
  rcases hP with rfl | rfl | rfl | rfl | rfl | rfl | rfl | rfl | rfl | rfl | rfl | rfl | rfl | rfl | rfl | rfl | rfl | rfl | rfl | rfl | rfl | rfl | rfl
  all_goals exact (mth_eq (M := mX9_init) (n := 1) rfl).trans ((exK_eq mX9_init [16] 20 _).symm.trans rfl)
set_option maxRecDepth 100000 in
theorem ji1 (P : Nat) (h : HP) : run mX9_init (16, 1, 8, [.ref P], [], h) = some (none, h) := (exK_eq mX9_init [] 20 _).symm.trans rfl
theorem jsh {P : Nat} (hP : P ∈ setL) : shX (P + 1) = (0, 8) := by
  simp only [setL, List.mem_cons, List.not_mem_nil, or_false] at hP
  rcases hP with rfl | rfl | rfl | rfl | rfl | rfl | rfl | rfl | rfl | rfl | rfl | rfl | rfl | rfl | rfl | rfl | rfl | rfl | rfl | rfl | rfl | rfl | rfl
  all_goals rfl
theorem ji {P : Nat} (hP : P ∈ setL) (I : Nat → Nat → Int32) (J : Nat → Nat → Int64) (R : Nat → Nat → Nat) : fX9_init [.ref P] (P + 1, shX, I, J, R) = some (none, (P + 2, shX, stI I P, zrJ J (P + 1), stR R P)) := by
  rw [ji0 hP, upsh (jsh hP), jc hP, callK_some]
  exact ji1 _ _
set_option maxRecDepth 100000 in
theorem jX10_init_1 (I : Nat → Nat → Int32) (J : Nat → Nat → Int64) (R : Nat → Nat → Nat) : fX10_init [.ref 1] (2, shX, I, J, R) = some (none, (3, shX, (up2 (zrI I 2) 1 1 (nI 0)), (zrJ J 2), (up2 (zrR R 2) 1 0 2))) := by
  refine ((mth_eq (M := mX10_init) (n := 1) rfl).trans ((exK_eq mX10_init [] 60 _).symm.trans (show _ = some (none, (3, (up1 shX 2 (0, 120)), (up2 (zrI I 2) 1 1 (nI 0)), (zrJ J 2), (up2 (zrR R 2) 1 0 2))) from rfl))).trans ?_
  rw [upsh (n := 2) (v := (0, 120)) rfl]
set_option maxRecDepth 100000 in
theorem jX5_init_3 (I : Nat → Nat → Int32) (J : Nat → Nat → Int64) (R : Nat → Nat → Nat) : fX5_init [.ref 3] (4, shX, I, J, R) = some (none, (4, shX, (up2 (up2 (up2 I 3 0 (Int32.ofInt (-1))) 3 1 (nI 0)) 3 2 (nI 0)), J, R)) := by
  refine ((mth_eq (M := mX5_init) (n := 1) rfl).trans ((exK_eq mX5_init [] 60 _).symm.trans (show _ = some (none, (4, shX, (up2 (up2 (up2 I 3 0 (Int32.ofInt (-1))) 3 1 (nI 0)) 3 2 (nI 0)), J, R)) from rfl))).trans ?_
  rfl
set_option maxRecDepth 100000 in
theorem jX6_init_4 (I : Nat → Nat → Int32) (J : Nat → Nat → Int64) (R : Nat → Nat → Nat) : fX6_init [.ref 4] (5, shX, I, J, R) = some (none, (7, shX, (up2 (up2 (up2 (up2 (zrI (zrI I 5) 6) 4 2 (nI 0)) 4 3 (nI 0)) 4 4 (nI 0)) 4 5 (nI 0)), (zrJ (zrJ J 5) 6), (up2 (zrR (up2 (zrR R 5) 4 0 5) 6) 4 1 6))) := by
  refine ((mth_eq (M := mX6_init) (n := 1) rfl).trans ((exK_eq mX6_init [] 60 _).symm.trans (show _ = some (none, (7, (up1 (up1 shX 5 (0, 8)) 6 (0, 8)), (up2 (up2 (up2 (up2 (zrI (zrI I 5) 6) 4 2 (nI 0)) 4 3 (nI 0)) 4 4 (nI 0)) 4 5 (nI 0)), (zrJ (zrJ J 5) 6), (up2 (zrR (up2 (zrR R 5) 4 0 5) 6) 4 1 6))) from rfl))).trans ?_
  rw [upsh (n := 5) (v := (0, 8)) rfl, upsh (n := 6) (v := (0, 8)) rfl]
set_option maxRecDepth 100000 in
theorem jX6_init_7 (I : Nat → Nat → Int32) (J : Nat → Nat → Int64) (R : Nat → Nat → Nat) : fX6_init [.ref 7] (8, shX, I, J, R) = some (none, (10, shX, (up2 (up2 (up2 (up2 (zrI (zrI I 8) 9) 7 2 (nI 0)) 7 3 (nI 0)) 7 4 (nI 0)) 7 5 (nI 0)), (zrJ (zrJ J 8) 9), (up2 (zrR (up2 (zrR R 8) 7 0 8) 9) 7 1 9))) := by
  refine ((mth_eq (M := mX6_init) (n := 1) rfl).trans ((exK_eq mX6_init [] 60 _).symm.trans (show _ = some (none, (10, (up1 (up1 shX 8 (0, 8)) 9 (0, 8)), (up2 (up2 (up2 (up2 (zrI (zrI I 8) 9) 7 2 (nI 0)) 7 3 (nI 0)) 7 4 (nI 0)) 7 5 (nI 0)), (zrJ (zrJ J 8) 9), (up2 (zrR (up2 (zrR R 8) 7 0 8) 9) 7 1 9))) from rfl))).trans ?_
  rw [upsh (n := 8) (v := (0, 8)) rfl, upsh (n := 9) (v := (0, 8)) rfl]
set_option maxRecDepth 100000 in
theorem jX8_init_10 (I : Nat → Nat → Int32) (J : Nat → Nat → Int64) (R : Nat → Nat → Nat) : fX8_init [.ref 10] (11, shX, I, J, R) = some (none, (13, shX, (up2 (up2 (zrI (zrI I 11) 12) 10 2 (nI 0)) 10 3 (nI 0)), (zrJ (zrJ J 11) 12), (up2 (zrR (up2 (zrR R 11) 10 0 11) 12) 10 1 12))) := by
  refine ((mth_eq (M := mX8_init) (n := 1) rfl).trans ((exK_eq mX8_init [] 60 _).symm.trans (show _ = some (none, (13, (up1 (up1 shX 11 (0, 36)) 12 (0, 64)), (up2 (up2 (zrI (zrI I 11) 12) 10 2 (nI 0)) 10 3 (nI 0)), (zrJ (zrJ J 11) 12), (up2 (zrR (up2 (zrR R 11) 10 0 11) 12) 10 1 12))) from rfl))).trans ?_
  rw [upsh (n := 11) (v := (0, 36)) rfl, upsh (n := 12) (v := (0, 64)) rfl]
set_option maxRecDepth 100000 in
theorem jX3_init_13 (I : Nat → Nat → Int32) (J : Nat → Nat → Int64) (R : Nat → Nat → Nat) : fX3_init [.ref 13] (14, shX, I, J, R) = some (none, (15, shX, (up2 (zrI I 14) 13 1 (nI 0)), (zrJ J 14), (up2 (zrR R 14) 13 0 14))) := by
  refine ((mth_eq (M := mX3_init) (n := 1) rfl).trans ((exK_eq mX3_init [] 60 _).symm.trans (show _ = some (none, (15, (up1 shX 14 (0, 28)), (up2 (zrI I 14) 13 1 (nI 0)), (zrJ J 14), (up2 (zrR R 14) 13 0 14))) from rfl))).trans ?_
  rw [upsh (n := 14) (v := (0, 28)) rfl]
set_option maxRecDepth 100000 in
theorem jX0_init_66 (I : Nat → Nat → Int32) (J : Nat → Nat → Int64) (R : Nat → Nat → Nat) : fX0_init [.ref 66] (67, shX, I, J, R) = some (none, (68, shX, (up2 (up2 (zrI I 67) 66 1 (nI 0)) 66 2 (nI 0)), (zrJ J 67), (up2 (zrR R 67) 66 0 67))) := by
  refine ((mth_eq (M := mX0_init) (n := 1) rfl).trans ((exK_eq mX0_init [] 60 _).symm.trans (show _ = some (none, (68, (up1 shX 67 (0, 20)), (up2 (up2 (zrI I 67) 66 1 (nI 0)) 66 2 (nI 0)), (zrJ J 67), (up2 (zrR R 67) 66 0 67))) from rfl))).trans ?_
  rw [upsh (n := 67) (v := (0, 20)) rfl]
set_option maxRecDepth 100000 in
theorem jX4_init_68 (I : Nat → Nat → Int32) (J : Nat → Nat → Int64) (R : Nat → Nat → Nat) : fX4_init [.ref 68] (69, shX, I, J, R) = some (none, (74, shX, (up2 (up2 (zrI (zrI (zrI (zrI (zrI I 69) 70) 71) 72) 73) 68 5 (nI 0)) 68 6 (nI 0)), (zrJ (zrJ (zrJ (zrJ (zrJ J 69) 70) 71) 72) 73), (up2 (zrR (up2 (zrR (up2 (zrR (up2 (zrR (up2 (zrR R 69) 68 0 69) 70) 68 1 70) 71) 68 2 71) 72) 68 3 72) 73) 68 4 73))) := by
  refine ((mth_eq (M := mX4_init) (n := 1) rfl).trans ((exK_eq mX4_init [] 60 _).symm.trans (show _ = some (none, (74, (up1 (up1 (up1 (up1 (up1 shX 69 (2, 512)) 70 (2, 512)) 71 (0, 1024)) 72 (0, 8)) 73 (0, 8)), (up2 (up2 (zrI (zrI (zrI (zrI (zrI I 69) 70) 71) 72) 73) 68 5 (nI 0)) 68 6 (nI 0)), (zrJ (zrJ (zrJ (zrJ (zrJ J 69) 70) 71) 72) 73), (up2 (zrR (up2 (zrR (up2 (zrR (up2 (zrR (up2 (zrR R 69) 68 0 69) 70) 68 1 70) 71) 68 2 71) 72) 68 3 72) 73) 68 4 73))) from rfl))).trans ?_
  rw [upsh (n := 69) (v := (2, 512)) rfl, upsh (n := 70) (v := (2, 512)) rfl, upsh (n := 71) (v := (0, 1024)) rfl, upsh (n := 72) (v := (0, 8)) rfl, upsh (n := 73) (v := (0, 8)) rfl]
set_option maxRecDepth 100000 in
theorem jX7_init_74 (I : Nat → Nat → Int32) (J : Nat → Nat → Int64) (R : Nat → Nat → Nat) : fX7_init [.ref 74] (75, shX, I, J, R) = some (none, (76, shX, (up2 (zrI I 75) 74 1 (nI 0)), (zrJ J 75), (up2 (zrR R 75) 74 0 75))) := by
  refine ((mth_eq (M := mX7_init) (n := 1) rfl).trans ((exK_eq mX7_init [] 60 _).symm.trans (show _ = some (none, (76, (up1 shX 75 (0, 256)), (up2 (zrI I 75) 74 1 (nI 0)), (zrJ J 75), (up2 (zrR R 75) 74 0 75))) from rfl))).trans ?_
  rw [upsh (n := 75) (v := (0, 256)) rfl]
set_option maxRecDepth 100000 in
theorem jX7_init_76 (I : Nat → Nat → Int32) (J : Nat → Nat → Int64) (R : Nat → Nat → Nat) : fX7_init [.ref 76] (77, shX, I, J, R) = some (none, (78, shX, (up2 (zrI I 77) 76 1 (nI 0)), (zrJ J 77), (up2 (zrR R 77) 76 0 77))) := by
  refine ((mth_eq (M := mX7_init) (n := 1) rfl).trans ((exK_eq mX7_init [] 60 _).symm.trans (show _ = some (none, (78, (up1 shX 77 (0, 256)), (up2 (zrI I 77) 76 1 (nI 0)), (zrJ J 77), (up2 (zrR R 77) 76 0 77))) from rfl))).trans ?_
  rw [upsh (n := 77) (v := (0, 256)) rfl]
set_option maxRecDepth 100000 in
theorem jX2a_60 (I : Nat → Nat → Int32) (J : Nat → Nat → Int64) (R : Nat → Nat → Nat) : fX2_init [.ref 60] (61, shX, I, J, R) = callK (fX9_init [.ref 61] (62, up1 shX 61 (19, 0), zrI I 61, zrJ J 61, zrR R 61)) (fun r h' => run mX2_init (12, 2, 11, [.ref 60], r.toList ++ [.ref 61, .ref 60], h')) := (mth_eq (M := mX2_init) (n := 1) rfl).trans ((exK_eq mX2_init [12] 30 _).symm.trans rfl)
set_option maxRecDepth 100000 in
theorem jX2b_60 (I : Nat → Nat → Int32) (J : Nat → Nat → Int64) (R : Nat → Nat → Nat) : run mX2_init (12, 2, 11, [.ref 60], [.ref 61, .ref 60], (63, shX, I, J, R)) = some (none, (63, shX, up2 (up2 I 60 1 (nI 0)) 60 2 (nI 0), J, up2 R 60 0 61)) := (exK_eq mX2_init [] 30 _).symm.trans rfl
theorem jX2_60 (I : Nat → Nat → Int32) (J : Nat → Nat → Int64) (R : Nat → Nat → Nat) : fX2_init [.ref 60] (61, shX, I, J, R) = some (none, (63, shX, up2 (up2 (stI (zrI I 61) 61) 60 1 (nI 0)) 60 2 (nI 0), zrJ (zrJ J 61) 62, up2 (stR (zrR R 61) 61) 60 0 61)) := by
  rw [jX2a_60, upsh (n := 61) (v := (19, 0)) rfl, ji (P := 61) (by decide), callK_some]
  exact jX2b_60 _ _ _
set_option maxRecDepth 100000 in
theorem jX2a_63 (I : Nat → Nat → Int32) (J : Nat → Nat → Int64) (R : Nat → Nat → Nat) : fX2_init [.ref 63] (64, shX, I, J, R) = callK (fX9_init [.ref 64] (65, up1 shX 64 (19, 0), zrI I 64, zrJ J 64, zrR R 64)) (fun r h' => run mX2_init (12, 2, 11, [.ref 63], r.toList ++ [.ref 64, .ref 63], h')) := (mth_eq (M := mX2_init) (n := 1) rfl).trans ((exK_eq mX2_init [12] 30 _).symm.trans rfl)
set_option maxRecDepth 100000 in
theorem jX2b_63 (I : Nat → Nat → Int32) (J : Nat → Nat → Int64) (R : Nat → Nat → Nat) : run mX2_init (12, 2, 11, [.ref 63], [.ref 64, .ref 63], (66, shX, I, J, R)) = some (none, (66, shX, up2 (up2 I 63 1 (nI 0)) 63 2 (nI 0), J, up2 R 63 0 64)) := (exK_eq mX2_init [] 30 _).symm.trans rfl
theorem jX2_63 (I : Nat → Nat → Int32) (J : Nat → Nat → Int64) (R : Nat → Nat → Nat) : fX2_init [.ref 63] (64, shX, I, J, R) = some (none, (66, shX, up2 (up2 (stI (zrI I 64) 64) 63 1 (nI 0)) 63 2 (nI 0), zrJ (zrJ J 64) 65, up2 (stR (zrR R 64) 64) 63 0 64)) := by
  rw [jX2a_63, upsh (n := 64) (v := (19, 0)) rfl, ji (P := 64) (by decide), callK_some]
  exact jX2b_63 _ _ _
def k20 (k : Nat) : Prop := k = 0 ∨ k = 1 ∨ k = 2 ∨ k = 3 ∨ k = 4 ∨ k = 5 ∨ k = 6 ∨ k = 7 ∨ k = 8 ∨ k = 9 ∨ k = 10 ∨ k = 11 ∨ k = 12 ∨ k = 13 ∨ k = 14 ∨ k = 15 ∨ k = 16 ∨ k = 17 ∨ k = 18 ∨ k = 19
theorem k20_of {k : Nat} (h : k < 20) : k20 k := by unfold k20; omega
def hsI (I : Nat → Nat → Int32) : Nat → Nat → Nat → Int32
  | 0 => I
  | k + 1 => stI (zrI (hsI I k) (19 + 2 * k)) (19 + 2 * k)
def hsJ (J : Nat → Nat → Int64) : Nat → Nat → Nat → Int64
  | 0 => J
  | k + 1 => zrJ (zrJ (hsJ J k) (19 + 2 * k)) (19 + 2 * k + 1)
def hsR (R : Nat → Nat → Nat) : Nat → Nat → Nat → Nat
  | 0 => R
  | k + 1 => up2 (stR (zrR (hsR R k) (19 + 2 * k)) (19 + 2 * k)) 18 k (19 + 2 * k)
set_option maxRecDepth 100000 in
set_option maxHeartbeats 4000000 in
theorem jh0 {k : Nat} (hk : k20 k) (I : Nat → Nat → Int32) (J : Nat → Nat → Int64) (R : Nat → Nat → Nat) : run mX1_init (15, 1 + 2 * k, 20 + 11 * k, [.ref 17, .int (nI k)], [], (19 + 2 * k, shX, I, J, up2 R 17 0 18)) = callK (fX9_init [.ref (19 + 2 * k)] (19 + 2 * k + 1, up1 shX (19 + 2 * k) (19, 0), zrI I (19 + 2 * k), zrJ J (19 + 2 * k), zrR (up2 R 17 0 18) (19 + 2 * k))) (fun r h' => run mX1_init (36, 1 + 2 * k + 2, 20 + 11 * k + 11, [.ref 17, .int (nI k)], r.toList ++ [.ref (19 + 2 * k), .int (nI k), .ref 18], h')) := by
  unfold k20 at hk
  rcases hk with rfl | rfl | rfl | rfl | rfl | rfl | rfl | rfl | rfl | rfl | rfl | rfl | rfl | rfl | rfl | rfl | rfl | rfl | rfl | rfl
  all_goals exact (exK_eq mX1_init [36] 40 _).symm.trans rfl
set_option maxRecDepth 100000 in
set_option maxHeartbeats 4000000 in
theorem jh1 {k : Nat} (hk : k20 k) (I : Nat → Nat → Int32) (J : Nat → Nat → Int64) (R : Nat → Nat → Nat) : run mX1_init (36, 1 + 2 * k + 2, 20 + 11 * k + 11, [.ref 17, .int (nI k)], [.ref (19 + 2 * k), .int (nI k), .ref 18], (19 + 2 * k + 2, shX, I, J, R)) = run mX1_init (15, 1 + 2 * (k + 1), 20 + 11 * (k + 1), [.ref 17, .int (nI (k + 1))], [], (19 + 2 * (k + 1), shX, I, J, up2 R 18 k (19 + 2 * k))) := by
  unfold k20 at hk
  rcases hk with rfl | rfl | rfl | rfl | rfl | rfl | rfl | rfl | rfl | rfl | rfl | rfl | rfl | rfl | rfl | rfl | rfl | rfl | rfl | rfl
  all_goals exact (exK_eq mX1_init [15] 40 _).symm.trans rfl
theorem jhs {k : Nat} (hk : k20 k) : shX (19 + 2 * k) = (19, 0) ∧ 19 + 2 * k ∈ setL := by
  unfold k20 at hk
  rcases hk with rfl | rfl | rfl | rfl | rfl | rfl | rfl | rfl | rfl | rfl | rfl | rfl | rfl | rfl | rfl | rfl | rfl | rfl | rfl | rfl
  all_goals exact ⟨rfl, by decide⟩
theorem hsR_17 {R : Nat → Nat → Nat} (h : R 17 0 = 18) : ∀ k, hsR R k 17 0 = 18 := by
  intro k
  induction k with
  | zero => exact h
  | succ k ih =>
    show up2 (up2 (up1 (up1 (hsR R k) (19 + 2 * k) _) (19 + 2 * k + 1) _) (19 + 2 * k) 0 _) 18 k _ 17 0 = 18
    rw [up2_ne (by omega), up2_ne (by omega), up1_ne (by omega), up1_ne (by omega)]
    exact ih
theorem jh_loop {I : Nat → Nat → Int32} {J : Nat → Nat → Int64} {R : Nat → Nat → Nat} (h : R 17 0 = 18) : ∀ k, k ≤ 20 → run mX1_init (15, 1 + 2 * 0, 20 + 11 * 0, [.ref 17, .int (nI 0)], [], (19 + 2 * 0, shX, I, J, R)) = run mX1_init (15, 1 + 2 * k, 20 + 11 * k, [.ref 17, .int (nI k)], [], (19 + 2 * k, shX, hsI I k, hsJ J k, hsR R k)) := by
  intro k
  induction k with
  | zero => intro _; rfl
  | succ k ih =>
    intro hk
    have k2 := k20_of (show k < 20 by omega)
    have e : up2 (hsR R k) 17 0 18 = hsR R k := up2_same (hsR_17 h k)
    refine (ih (by omega)).trans ?_
    refine (congrArg (fun x => run mX1_init (15, 1 + 2 * k, 20 + 11 * k, [.ref 17, .int (nI k)], [], (19 + 2 * k, shX, hsI I k, hsJ J k, x))) e.symm).trans ?_
    refine (jh0 k2 _ _ _).trans ?_
    rw [upsh (jhs k2).1, ji (jhs k2).2, callK_some, e]
    exact jh1 k2 _ _ _
set_option maxRecDepth 100000 in
theorem jh2 (I : Nat → Nat → Int32) (J : Nat → Nat → Int64) (R : Nat → Nat → Nat) : run mX1_init (15, 1 + 2 * 20, 20 + 11 * 20, [.ref 17, .int (nI 20)], [], (59, shX, I, J, up2 R 17 0 18)) = some (none, (59, shX, up2 (up2 I 17 1 (nI 0)) 17 2 (nI 0), J, up2 R 17 0 18)) := (exK_eq mX1_init [] 40 _).symm.trans rfl
set_option maxRecDepth 100000 in
theorem jh3 (I : Nat → Nat → Int32) (J : Nat → Nat → Int64) (R : Nat → Nat → Nat) : fX1_init [.ref 17] (18, shX, I, J, R) = run mX1_init (15, 1 + 2 * 0, 20 + 11 * 0, [.ref 17, .int (nI 0)], [], (19 + 2 * 0, up1 shX 18 (4, 20), zrI I 18, zrJ J 18, up2 (zrR R 18) 17 0 18)) := (mth_eq (M := mX1_init) (n := 2) rfl).trans ((exK_eq mX1_init [15] 40 _).symm.trans rfl)
theorem jX1 (I : Nat → Nat → Int32) (J : Nat → Nat → Int64) (R : Nat → Nat → Nat) : fX1_init [.ref 17] (18, shX, I, J, R) = some (none, (59, shX, up2 (up2 (hsI (zrI I 18) 20) 17 1 (nI 0)) 17 2 (nI 0), hsJ (zrJ J 18) 20, hsR (up2 (zrR R 18) 17 0 18) 20)) := by
  have h0 : up2 (zrR R 18) 17 0 18 17 0 = 18 := by rw [up2_eq, up1_eq]
  have e : up2 (hsR (up2 (zrR R 18) 17 0 18) 20) 17 0 18 = hsR (up2 (zrR R 18) 17 0 18) 20 := up2_same (hsR_17 h0 20)
  rw [jh3, upsh (n := 18) (v := (4, 20)) rfl, jh_loop h0 20 (Nat.le_refl 20)]
  have := jh2 (hsI (zrI I 18) 20) (hsJ (zrJ J 18) 20) (hsR (up2 (zrR R 18) 17 0 18) 20)
  rw [e] at this
  exact this
