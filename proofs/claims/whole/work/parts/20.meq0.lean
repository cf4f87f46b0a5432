/-! THE REFERENCE'S WORLD and its methods as equations (by program) -/
def callK (o : Option MR) (k : Option Value → HP → Option MR) : Option MR := match o with
  | some (r, h') => k r h'
  | none => none
theorem callK_some (r : Option Value) (h : HP) (k : Option Value → HP → Option MR) : callK (some (r, h)) k = k r h := rfl
theorem mth_eq {M : MI} {n : Nat} {as : List Value} {h : HP} (hc : Nat.ble (catS as) n = true) : mth M n as h = run M (0, 0, 0, mLoc n as, [], h) := by unfold mth; rw [hc]; rfl
theorem callK_none (k : Option Value → HP → Option MR) : callK none k = none := rfl
def shML : List (Nat × Nat) := [(22, 0), (0, 8), (0, 8), (1, 8), (0, 8), (0, 1024), (0, 1024), (0, 8), (0, 9), (0, 9), (0, 9), (0, 27), (0, 64), (0, 36), (0, 36), (0, 120), (0, 8), (0, 8), (1, 8), (0, 20), (0, 20), (0, 160), (0, 20), (1, 20), (1, 2), (0, 2), (0, 2), (0, 16), (2, 2)]
def shM : Nat → Nat × Nat := fun p => (shML[p]?).getD (99, 0)
def RML : List Nat := [mNul, mNul, 1, 2, 3, 4, mNul, mNul, 5, 6, mNul, mNul, mNul, 7, 8, 9, 10, 11, mNul, 12, 13, 14, mNul, 15, mNul, mNul, mNul, mNul, mNul, 16, 17, 18, mNul, 19, 20, 21, mNul, mNul, 22, 23, 24, 25, 26, 27, 28]
def RM : Nat → Nat → Nat := fun p k => if p = 0 then (RML[k]?).getD mNul else mNul
def mH (I : Nat → Nat → Int32) (J : Nat → Nat → Int64) : HP := (29, shM, I, J, RM)
set_option maxRecDepth 20000 in
theorem eX12_comes (I : Nat → Nat → Int32) (J : Nat → Nat → Int64) {P : Nat} (hP : P = 5 ∨ P = 6) (x1 : Int32) (x2 : Int32) : fX12_comes [.ref P, .int x1, .int x2] (mH I J) = run mX12_comes (5, 0, 0, [.ref P, .int x1, .int x2, .int 0, .int x1, .null], [], (mH I J)) := by
  rcases hP with rfl | rfl
  all_goals exact (mth_eq (M := mX12_comes) (n := 6) rfl).trans ((exK_eq mX12_comes [5, 66] 67 _).symm.trans rfl)
set_option maxRecDepth 20000 in
theorem bX12_comes_5 (I : Nat → Nat → Int32) (J : Nat → Nat → Int64) {P : Nat} (hP : P = 5 ∨ P = 6) (x1 : Int32) (x2 : Int32) (x3 : Int32) (x4 : Int32) (z5 : Value) : run mX12_comes (5, 0, 0, [.ref P, .int x1, .int x2, .int x3, .int x4, z5], [], (mH I J)) = (if x4 ≤ x3 then (if x1 ≤ x3 then (if x1 = 1024 then some (some (.int x1), (mH I J)) else run mX12_comes (66, 0, 0, [.ref P, .int x1, .int x2, .int x3, .int x4, .int x1], [], (mH I J))) else (bif inb x3 1024 then (if (I P (x3).toNatClampNeg) = x2 then some (some (.int x1), (mH I J)) else (if x1 = 1024 then some (some (.int x1), (mH I J)) else run mX12_comes (66, 0, 0, [.ref P, .int x1, .int x2, .int x3, .int x4, .int x1], [], (mH I J)))) else none)) else (bif inb ((x3 + x4) / 2) 1024 then (if x2 ≤ (I P (((x3 + x4) / 2)).toNatClampNeg) then run mX12_comes (5, 0, 0, [.ref P, .int x1, .int x2, .int x3, .int ((x3 + x4) / 2), .int ((x3 + x4) / 2)], [], (mH I J)) else run mX12_comes (5, 0, 0, [.ref P, .int x1, .int x2, .int (((x3 + x4) / 2) + 1), .int x4, .int ((x3 + x4) / 2)], [], (mH I J))) else none)) := by
  rcases hP with rfl | rfl
  all_goals exact (exK_eq mX12_comes [5, 66] 67 _).symm.trans rfl
set_option maxRecDepth 20000 in
theorem bX12_comes_66 (I : Nat → Nat → Int32) (J : Nat → Nat → Int64) {P : Nat} (hP : P = 5 ∨ P = 6) (x1 : Int32) (x2 : Int32) (x3 : Int32) (x5 : Int32) (z4 : Value) : run mX12_comes (66, 0, 0, [.ref P, .int x1, .int x2, .int x3, z4, .int x5], [], (mH I J)) = (if x5 ≤ x3 then (bif inb x3 1024 then some (some (.int (x1 + 1)), (mH (up2 I P (x3).toNatClampNeg x2) J)) else none) else (bif inb (x5 - 1) 1024 then (bif inb x5 1024 then run mX12_comes (66, 0, 0, [.ref P, .int x1, .int x2, .int x3, .null, .int (x5 + Int32.ofInt (-1))], [], (mH (up2 I P (x5).toNatClampNeg (I P ((x5 - 1)).toNatClampNeg)) J)) else none) else none)) := by
  rcases hP with rfl | rfl
  all_goals exact (exK_eq mX12_comes [5, 66] 67 _).symm.trans rfl
