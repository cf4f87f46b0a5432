/-! THE SMALL MACHINE: a heap of typed rows by place, a step as a function of what comes behind it; its runs; stretches of code by evaluation -/
/-- how many cells; kind and length by place; ints, longs, places by place and index -/
abbrev HP : Type := Nat × (Nat → Nat × Nat) × (Nat → Nat → Int32) × (Nat → Nat → Int64) × (Nat → Nat → Nat)
abbrev MR : Type := Option Value × HP
abbrev CF : Type := List Value → HP → Option MR
/-- pc, cells and slots made, locals, stack, heap -/
abbrev MS : Type := Nat × Nat × Nat × List Value × List Value × HP
/-- instructions (with the next place, and where jumps go); fields; constants; calls (arguments, the receiver's class, cells, slots, meaning); classes to make; what may be made; kind of the answer; locals that are dead at a place -/
abbrev MI : Type := List (Nat × Instr × Nat × List Nat) × List (Nat × Nat × Nat) × List (Nat × Value) × List (Nat × Nat × Nat × Nat × Nat × CF) × List (Nat × Nat) × (Nat × Nat) × Nat × List (Nat × List Nat)
def mNul : Nat := 999999
def lkp {α : Type} (k : Nat) : List (Nat × α) → Option α
  | [] => none
  | (q, a) :: r => bif Nat.beq k q then some a else lkp k r
def up1 {α : Type} (f : Nat → α) (k : Nat) (x : α) : Nat → α := fun j => if j = k then x else f j
def up2 {α : Type} (f : Nat → Nat → α) (p k : Nat) (x : α) : Nat → Nat → α := fun q => if q = p then up1 (f p) k x else f q
def inb (i : Int32) (n : Nat) : Bool := !(decide (i < 0)) && !(Nat.ble n i.toNatClampNeg)
def isB (x : Int32) : Bool := decide (x = 0) || decide (x = 1)
/-- a field's type by class and place: 0 int, 1 boolean, 2 long, 3 a reference -/
def ftyc (t : FieldType) : Nat := match t with
  | .int => 0
  | .boolean => 1
  | .long => 2
  | _ => 3
def ftyT (ci : Nat) : Nat → FieldType := match ci with
  | 0 => tyX0 | 1 => tyX1 | 2 => tyX2 | 3 => tyX3 | 4 => tyX4 | 5 => tyX5 | 6 => tyX6 | 7 => tyX7 | 8 => tyX8 | 9 => tyX9 | 10 => tyX10 | 11 => tyX11 | _ => tyX12
def nfd (ci : Nat) : Nat := match ci with
  | 0 => 3 | 1 => 3 | 2 => 3 | 3 => 2 | 4 => 7 | 5 => 3 | 6 => 6 | 7 => 2 | 8 => 4 | 9 => 3 | 10 => 2 | 11 => 19 | _ => 45
/-- the kind of an array of objects of a class -/
def akd (ci : Nat) : Nat := match ci with
  | 2 => 3
  | 9 => 4
  | _ => 5
def killv (ls : List Value) (j : Nat) : Option Value → List Value
  | some v => bif Nat.beq v.category 2 then ls.set j .null else ls
  | none => ls
def kill (ls : List Value) : Nat → List Value
  | 0 => ls
  | j + 1 => killv ls j ls[j]?
def swk {ρ : Type} (k : Nat → Option ρ) (d : Nat) (x : Int32) : Int → List Nat → Option ρ
  | _, [] => k d
  | lo, t :: r => if x = Int32.ofInt lo then k t else swk k d x (lo + 1) r
def setK {ρ : Type} : List Value → Nat → Value → (List Value → Option ρ) → Option ρ
  | [], _, _, κ => κ []
  | _ :: r, 0, v, κ => κ (v :: r)
  | a :: r, n + 1, v, κ => setK r n v (fun r' => κ (a :: r'))
def killKv {ρ : Type} (ls : List Value) (j : Nat) (κ : List Value → Option ρ) : Option Value → Option ρ
  | some v => bif Nat.beq v.category 2 then setK ls j .null κ else κ ls
  | none => κ ls
def killK {ρ : Type} (ls : List Value) (i : Nat) (κ : List Value → Option ρ) : Option ρ := match i with
  | 0 => κ ls
  | j + 1 => killKv ls j κ ls[j]?
def stK {ρ : Type} (ls : List Value) (i : Nat) (v : Value) (κ : List Value → Option ρ) : Option ρ := killK ls i (fun l => setK l i v κ)
def mskK {ρ : Type} : List Nat → List Value → (List Value → Option ρ) → Option ρ
  | [], ls, κ => κ ls
  | k :: r, ls, κ => setK ls k .null (fun l => mskK r l κ)
def mkoK {ρ : Type} (o : Option (List Nat)) (ls : List Value) (κ : List Value → Option ρ) : Option ρ := match o with
  | none => κ ls
  | some ks => mskK ks ls κ
/-- a new cell -/
def alc (h : HP) (kd n : Nat) : HP := (h.1 + 1, up1 h.2.1 h.1 (kd, n), up1 h.2.2.1 h.1 (fun _ => 0), up1 h.2.2.2.1 h.1 (fun _ => 0), up1 h.2.2.2.2 h.1 (fun _ => mNul))
def hI (h : HP) (p k : Nat) (x : Int32) : HP := (h.1, h.2.1, up2 h.2.2.1 p k x, h.2.2.2.1, h.2.2.2.2)
def hJ (h : HP) (p k : Nat) (x : Int64) : HP := (h.1, h.2.1, h.2.2.1, up2 h.2.2.2.1 p k x, h.2.2.2.2)
def hR (h : HP) (p k : Nat) (x : Nat) : HP := (h.1, h.2.1, h.2.2.1, h.2.2.2.1, up2 h.2.2.2.2 p k x)
def hIK {ρ : Type} (h : HP) (p k : Nat) (x : Int32) (κ : HP → Option ρ) : Option ρ := match h with
  | (n, sh, I, J, R) => κ (n, sh, up2 I p k x, J, R)
def hJK {ρ : Type} (h : HP) (p k : Nat) (x : Int64) (κ : HP → Option ρ) : Option ρ := match h with
  | (n, sh, I, J, R) => κ (n, sh, I, up2 J p k x, R)
def hRK {ρ : Type} (h : HP) (p k : Nat) (x : Nat) (κ : HP → Option ρ) : Option ρ := match h with
  | (n, sh, I, J, R) => κ (n, sh, I, J, up2 R p k x)
def alcK {ρ : Type} (h : HP) (kd m : Nat) (κ : Nat → HP → Option ρ) : Option ρ := match h with
  | (n, sh, I, J, R) => κ n (n + 1, up1 sh n (kd, m), up1 I n (fun _ => 0), up1 J n (fun _ => 0), up1 R n (fun _ => mNul))
/-- one step: k is what comes behind, e the end -/
def stpI {ρ : Type} (M : MI) (k : MS → Option ρ) (e : MR → Option ρ) (nx : Nat) (tg : List Nat) (c s : Nat) (ls st : List Value) (h : HP) (i : Instr) : Option ρ :=
  match i with
  | .iconst v => k (nx, c, s, ls, .int (Int32.ofInt v) :: st, h)
  | .bipush v => k (nx, c, s, ls, .int (Int8.ofInt v).toInt32 :: st, h)
  | .sipush v => k (nx, c, s, ls, .int (Int16.ofInt v).toInt32 :: st, h)
  | .lconst v => k (nx, c, s, ls, .long (Int64.ofNat (v : Nat)) :: st, h)
  | .ldc x => match lkp x M.2.2.1 with
    | some (.int v) => k (nx, c, s, ls, .int v :: st, h)
    | _ => none
  | .ldc_w x => match lkp x M.2.2.1 with
    | some (.int v) => k (nx, c, s, ls, .int v :: st, h)
    | _ => none
  | .ldc2_w x => match lkp x M.2.2.1 with
    | some (.long v) => k (nx, c, s, ls, .long v :: st, h)
    | _ => none
  | .iload x => match ls[x]? with
    | some (.int v) => k (nx, c, s, ls, .int v :: st, h)
    | _ => none
  | .iload_n x => match ls[(x : Nat)]? with
    | some (.int v) => k (nx, c, s, ls, .int v :: st, h)
    | _ => none
  | .lload x => match ls[x]? with
    | some (.long v) => k (nx, c, s, ls, .long v :: st, h)
    | _ => none
  | .lload_n x => match ls[(x : Nat)]? with
    | some (.long v) => k (nx, c, s, ls, .long v :: st, h)
    | _ => none
  | .aload x => match ls[x]? with
    | some (.ref v) => k (nx, c, s, ls, .ref v :: st, h)
    | _ => none
  | .aload_n x => match ls[(x : Nat)]? with
    | some (.ref v) => k (nx, c, s, ls, .ref v :: st, h)
    | _ => none
  | .istore x => match st with
    | .int v :: r => bif Nat.blt x ls.length then stK ls x (.int v) (fun l => k (nx, c, s, l, r, h)) else none
    | _ => none
  | .istore_n x => match st with
    | .int v :: r => bif Nat.blt (x : Nat) ls.length then stK ls (x : Nat) (.int v) (fun l => k (nx, c, s, l, r, h)) else none
    | _ => none
  | .astore x => match st with
    | .ref v :: r => bif Nat.blt x ls.length then stK ls x (.ref v) (fun l => k (nx, c, s, l, r, h)) else none
    | _ => none
  | .astore_n x => match st with
    | .ref v :: r => bif Nat.blt (x : Nat) ls.length then stK ls (x : Nat) (.ref v) (fun l => k (nx, c, s, l, r, h)) else none
    | _ => none
  | .lstore x => match st with
    | .long v :: r => bif Nat.blt (x + 1) ls.length then stK ls x (.long v) (fun l => setK l (x + 1) .null (fun l => k (nx, c, s, l, r, h))) else none
    | _ => none
  | .lstore_n x => match st with
    | .long v :: r => bif Nat.blt ((x : Nat) + 1) ls.length then stK ls (x : Nat) (.long v) (fun l => setK l ((x : Nat) + 1) .null (fun l => k (nx, c, s, l, r, h))) else none
    | _ => none
  | .iinc x n => match ls[x]? with
    | some (.int v) => stK ls x (.int (v + Int32.ofInt n)) (fun l => k (nx, c, s, l, st, h))
    | _ => none
  | .iadd => match st with
    | .int y :: .int x :: r => k (nx, c, s, ls, .int (x + y) :: r, h)
    | _ => none
  | .isub => match st with
    | .int y :: .int x :: r => k (nx, c, s, ls, .int (x - y) :: r, h)
    | _ => none
  | .imul => match st with
    | .int y :: .int x :: r => k (nx, c, s, ls, .int (x * y) :: r, h)
    | _ => none
  | .iand => match st with
    | .int y :: .int x :: r => k (nx, c, s, ls, .int (x &&& y) :: r, h)
    | _ => none
  | .ior => match st with
    | .int y :: .int x :: r => k (nx, c, s, ls, .int (x ||| y) :: r, h)
    | _ => none
  | .ixor => match st with
    | .int y :: .int x :: r => k (nx, c, s, ls, .int (x ^^^ y) :: r, h)
    | _ => none
  | .ishl => match st with
    | .int y :: .int x :: r => k (nx, c, s, ls, .int (x <<< (y &&& 31)) :: r, h)
    | _ => none
  | .ishr => match st with
    | .int y :: .int x :: r => k (nx, c, s, ls, .int (x >>> (y &&& 31)) :: r, h)
    | _ => none
  | .iushr => match st with
    | .int y :: .int x :: r => k (nx, c, s, ls, .int ((x.toUInt32 >>> (y.toUInt32 &&& Int32.toUInt32 31)).toInt32) :: r, h)
    | _ => none
  | .idiv => match st with
    | .int y :: .int x :: r => if y = 0 then none else k (nx, c, s, ls, .int (x / y) :: r, h)
    | _ => none
  | .irem => match st with
    | .int y :: .int x :: r => if y = 0 then none else k (nx, c, s, ls, .int (x - x / y * y) :: r, h)
    | _ => none
  | .ladd => match st with
    | .long y :: .long x :: r => k (nx, c, s, ls, .long (x + y) :: r, h)
    | _ => none
  | .lmul => match st with
    | .long y :: .long x :: r => k (nx, c, s, ls, .long (x * y) :: r, h)
    | _ => none
  | .land => match st with
    | .long y :: .long x :: r => k (nx, c, s, ls, .long (x &&& y) :: r, h)
    | _ => none
  | .lor => match st with
    | .long y :: .long x :: r => k (nx, c, s, ls, .long (x ||| y) :: r, h)
    | _ => none
  | .lxor => match st with
    | .long y :: .long x :: r => k (nx, c, s, ls, .long (x ^^^ y) :: r, h)
    | _ => none
  | .lshl => match st with
    | .int y :: .long x :: r => k (nx, c, s, ls, .long (x <<< (y.toInt64 &&& 63)) :: r, h)
    | _ => none
  | .lushr => match st with
    | .int y :: .long x :: r => k (nx, c, s, ls, .long ((x.toUInt64 >>> (y.toInt64.toUInt64 &&& Int64.toUInt64 63)).toInt64) :: r, h)
    | _ => none
  | .ldiv => match st with
    | .long y :: .long x :: r => if y = 0 then none else k (nx, c, s, ls, .long (x / y) :: r, h)
    | _ => none
  | .lrem => match st with
    | .long y :: .long x :: r => if y = 0 then none else k (nx, c, s, ls, .long (x - x / y * y) :: r, h)
    | _ => none
  | .lcmp => match st with
    | .long y :: .long x :: r => k (nx, c, s, ls, .int (lg_cmp x y) :: r, h)
    | _ => none
  | .i2l => match st with
    | .int x :: r => k (nx, c, s, ls, .long x.toInt64 :: r, h)
    | _ => none
  | .l2i => match st with
    | .long x :: r => k (nx, c, s, ls, .int x.toInt32 :: r, h)
    | _ => none
  | .dup => match st with
    | .int x :: r => k (nx, c, s, ls, .int x :: .int x :: r, h)
    | .ref x :: r => k (nx, c, s, ls, .ref x :: .ref x :: r, h)
    | _ => none
  | .dup2 => match st with
    | .int x :: .ref y :: r => k (nx, c, s, ls, .int x :: .ref y :: .int x :: .ref y :: r, h)
    | _ => none
  | .goto _ => match tg with
    | t :: _ => k (t, c, s, ls, st, h)
    | [] => none
  | .ifCond q _ => match st with
    | .int x :: r => match q with
      | .eq => match tg with
        | t :: _ => if x = 0 then k (t, c, s, ls, r, h) else k (nx, c, s, ls, r, h)
        | [] => none
      | .ne => match tg with
        | t :: _ => if x = 0 then k (nx, c, s, ls, r, h) else k (t, c, s, ls, r, h)
        | [] => none
      | .lt => match tg with
        | t :: _ => if x < 0 then k (t, c, s, ls, r, h) else k (nx, c, s, ls, r, h)
        | [] => none
      | .ge => match tg with
        | t :: _ => if 0 ≤ x then k (t, c, s, ls, r, h) else k (nx, c, s, ls, r, h)
        | [] => none
      | .gt => match tg with
        | t :: _ => if 0 < x then k (t, c, s, ls, r, h) else k (nx, c, s, ls, r, h)
        | [] => none
      | .le => match tg with
        | t :: _ => if x ≤ 0 then k (t, c, s, ls, r, h) else k (nx, c, s, ls, r, h)
        | [] => none
    | _ => none
  | .if_icmp q _ => match st with
    | .int y :: .int x :: r => match q with
      | .eq => match tg with
        | t :: _ => if x = y then k (t, c, s, ls, r, h) else k (nx, c, s, ls, r, h)
        | [] => none
      | .ne => match tg with
        | t :: _ => if x = y then k (nx, c, s, ls, r, h) else k (t, c, s, ls, r, h)
        | [] => none
      | .lt => match tg with
        | t :: _ => if x < y then k (t, c, s, ls, r, h) else k (nx, c, s, ls, r, h)
        | [] => none
      | .ge => match tg with
        | t :: _ => if y ≤ x then k (t, c, s, ls, r, h) else k (nx, c, s, ls, r, h)
        | [] => none
      | .gt => match tg with
        | t :: _ => if y < x then k (t, c, s, ls, r, h) else k (nx, c, s, ls, r, h)
        | [] => none
      | .le => match tg with
        | t :: _ => if x ≤ y then k (t, c, s, ls, r, h) else k (nx, c, s, ls, r, h)
        | [] => none
    | _ => none
  | .tableswitch _ lo _ _ => match st with
    | .int x :: r => match tg with
      | d :: ts => swk (fun t => k (t, c, s, ls, r, h)) d x lo ts
      | [] => none
    | _ => none
  | .getfield x => match st with
    | .ref p :: r => match lkp x M.2.1 with
      | some (ci, j) => if (h.2.1 p).1 = 10 + ci ∧ p < h.1 ∧ j < nfd ci then
          match ftyc (ftyT ci j) with
          | 0 => k (nx, c, s, ls, .int (h.2.2.1 p j) :: r, h)
          | 1 => k (nx, c, s, ls, .int (h.2.2.1 p j) :: r, h)
          | 2 => k (nx, c, s, ls, .long (h.2.2.2.1 p j) :: r, h)
          | _ => if h.2.2.2.2 p j < h.1 then k (nx, c, s, ls, .ref (h.2.2.2.2 p j) :: r, h) else none
        else none
      | none => none
    | _ => none
  | .putfield x => match st with
    | .int v :: .ref p :: r => match lkp x M.2.1 with
      | some (ci, j) => if (h.2.1 p).1 = 10 + ci ∧ p < h.1 ∧ j < nfd ci then
          match ftyc (ftyT ci j) with
          | 0 => hIK h p j v (fun h' => k (nx, c, s, ls, r, h'))
          | 1 => bif isB v then hIK h p j v (fun h' => k (nx, c, s, ls, r, h')) else none
          | _ => none
        else none
      | none => none
    | .long v :: .ref p :: r => match lkp x M.2.1 with
      | some (ci, j) => if (h.2.1 p).1 = 10 + ci ∧ p < h.1 ∧ j < nfd ci then
          match ftyc (ftyT ci j) with
          | 2 => hJK h p j v (fun h' => k (nx, c, s, ls, r, h'))
          | _ => none
        else none
      | none => none
    | .ref v :: .ref p :: r => match lkp x M.2.1 with
      | some (ci, j) => if (h.2.1 p).1 = 10 + ci ∧ p < h.1 ∧ j < nfd ci ∧ v < h.1 then
          match ftyc (ftyT ci j) with
          | 3 => hRK h p j v (fun h' => k (nx, c, s, ls, r, h'))
          | _ => none
        else none
      | none => none
    | _ => none
  | .iaload => match st with
    | .int i :: .ref p :: r => if (h.2.1 p).1 = 0 ∧ p < h.1 then bif inb i (h.2.1 p).2 then k (nx, c, s, ls, .int (h.2.2.1 p i.toNatClampNeg) :: r, h) else none else none
    | _ => none
  | .baload => match st with
    | .int i :: .ref p :: r => if (h.2.1 p).1 = 1 ∧ p < h.1 then bif inb i (h.2.1 p).2 then k (nx, c, s, ls, .int (h.2.2.1 p i.toNatClampNeg) :: r, h) else none else none
    | _ => none
  | .laload => match st with
    | .int i :: .ref p :: r => if (h.2.1 p).1 = 2 ∧ p < h.1 then bif inb i (h.2.1 p).2 then k (nx, c, s, ls, .long (h.2.2.2.1 p i.toNatClampNeg) :: r, h) else none else none
    | _ => none
  | .aaload => match st with
    | .int i :: .ref p :: r => if ((h.2.1 p).1 = 3 ∨ (h.2.1 p).1 = 4) ∧ p < h.1 then bif inb i (h.2.1 p).2 then if h.2.2.2.2 p i.toNatClampNeg < h.1 then k (nx, c, s, ls, .ref (h.2.2.2.2 p i.toNatClampNeg) :: r, h) else none else none else none
    | _ => none
  | .iastore => match st with
    | .int v :: .int i :: .ref p :: r => if (h.2.1 p).1 = 0 ∧ p < h.1 then bif inb i (h.2.1 p).2 then hIK h p i.toNatClampNeg v (fun h' => k (nx, c, s, ls, r, h')) else none else none
    | _ => none
  | .bastore => match st with
    | .int v :: .int i :: .ref p :: r => if (h.2.1 p).1 = 1 ∧ p < h.1 then bif inb i (h.2.1 p).2 && isB v then hIK h p i.toNatClampNeg v (fun h' => k (nx, c, s, ls, r, h')) else none else none
    | _ => none
  | .lastore => match st with
    | .long v :: .int i :: .ref p :: r => if (h.2.1 p).1 = 2 ∧ p < h.1 then bif inb i (h.2.1 p).2 then hJK h p i.toNatClampNeg v (fun h' => k (nx, c, s, ls, r, h')) else none else none
    | _ => none
  | .aastore => match st with
    | .ref v :: .int i :: .ref p :: r => if ((h.2.1 p).1 = 3 ∧ (h.2.1 v).1 = 12 ∨ (h.2.1 p).1 = 4 ∧ (h.2.1 v).1 = 19) ∧ p < h.1 ∧ v < h.1 then bif inb i (h.2.1 p).2 then hRK h p i.toNatClampNeg v (fun h' => k (nx, c, s, ls, r, h')) else none else none
    | _ => none
  | .arraylength => match st with
    | .ref p :: r => if (h.2.1 p).1 < 5 ∧ p < h.1 then k (nx, c, s, ls, .int (Int32.ofNat (h.2.1 p).2) :: r, h) else none
    | _ => none
  | .new x => match lkp x M.2.2.2.2.1 with
    | some ci => if c + 1 ≤ M.2.2.2.2.2.1.1 ∧ s + nfd ci ≤ M.2.2.2.2.2.1.2 ∧ h.1 + 1 ≤ mNul then alcK h (10 + ci) 0 (fun n h' => k (nx, c + 1, s + nfd ci, ls, .ref n :: st, h')) else none
    | none => none
  | .newarray ty => match st with
    | .int n :: r => if ¬ n < 0 ∧ n.toNatClampNeg ≤ 4096 ∧ c + 1 ≤ M.2.2.2.2.2.1.1 ∧ s + n.toNatClampNeg ≤ M.2.2.2.2.2.1.2 ∧ h.1 + 1 ≤ mNul then
        match ty with
        | .int => alcK h 0 n.toNatClampNeg (fun q h' => k (nx, c + 1, s + n.toNatClampNeg, ls, .ref q :: r, h'))
        | .boolean => alcK h 1 n.toNatClampNeg (fun q h' => k (nx, c + 1, s + n.toNatClampNeg, ls, .ref q :: r, h'))
        | .long => alcK h 2 n.toNatClampNeg (fun q h' => k (nx, c + 1, s + n.toNatClampNeg, ls, .ref q :: r, h'))
        | _ => none
      else none
    | _ => none
  | .anewarray x => match st with
    | .int n :: r => match lkp x M.2.2.2.2.1 with
      | some ci => if ¬ n < 0 ∧ n.toNatClampNeg ≤ 4096 ∧ c + 1 ≤ M.2.2.2.2.2.1.1 ∧ s + n.toNatClampNeg ≤ M.2.2.2.2.2.1.2 ∧ h.1 + 1 ≤ mNul ∧ (ci = 2 ∨ ci = 9) then
          alcK h (akd ci) n.toNatClampNeg (fun q h' => k (nx, c + 1, s + n.toNatClampNeg, ls, .ref q :: r, h')) else none
      | none => none
    | _ => none
  | .invokevirtual x => match lkp (4 * x) M.2.2.2.1 with
    | some (n, rc, mc, ms, f) => match (st.take n).reverse with
      | .ref p :: as => if n ≤ st.length ∧ ((st.drop n).map (fun v => v.category)).sum ≤ 8 ∧ c + mc ≤ M.2.2.2.2.2.1.1 ∧ s + ms ≤ M.2.2.2.2.2.1.2 ∧ (h.2.1 p).1 = 10 + rc ∧ p < h.1 then
          match f (.ref p :: as) h with
          | some (r, h') => k (nx, c + mc, s + ms, ls, r.toList ++ st.drop n, h')
          | none => none
        else none
      | _ => none
    | none => none
  | .invokespecial x => match lkp (4 * x + 1) M.2.2.2.1 with
    | some (n, _, mc, ms, f) => match (st.take n).reverse with
      | .ref p :: as => if n ≤ st.length ∧ ((st.drop n).map (fun v => v.category)).sum ≤ 8 ∧ c + mc ≤ M.2.2.2.2.2.1.1 ∧ s + ms ≤ M.2.2.2.2.2.1.2 then
          match f (.ref p :: as) h with
          | some (r, h') => k (nx, c + mc, s + ms, ls, r.toList ++ st.drop n, h')
          | none => none
        else none
      | _ => none
    | none => none
  | .invokestatic x => match lkp (4 * x + 2) M.2.2.2.1 with
    | some (n, _, mc, ms, f) => if n ≤ st.length ∧ ((st.drop n).map (fun v => v.category)).sum ≤ 8 ∧ c + mc ≤ M.2.2.2.2.2.1.1 ∧ s + ms ≤ M.2.2.2.2.2.1.2 then
        match f (st.take n).reverse h with
        | some (r, h') => k (nx, c + mc, s + ms, ls, r.toList ++ st.drop n, h')
        | none => none
      else none
    | none => none
  | .ireturn => match st with
    | [.int v] => match M.2.2.2.2.2.2.1 with
      | 1 => e (some (.int v), h)
      | 2 => bif isB v then e (some (.int v), h) else none
      | _ => none
    | _ => none
  | .lreturn => match st with
    | [.long v] => match M.2.2.2.2.2.2.1 with
      | 3 => e (some (.long v), h)
      | _ => none
    | _ => none
  | .areturn => match st with
    | [.ref v] => match M.2.2.2.2.2.2.1 with
      | 4 => e (some (.ref v), h)
      | _ => none
    | _ => none
  | .return_ => match st with
    | [] => match M.2.2.2.2.2.2.1 with
      | 0 => e (none, h)
      | _ => none
    | _ => none
  | _ => none
def msk : List Nat → List Value → List Value
  | [], ls => ls
  | k :: r, ls => msk r (ls.set k .null)
def mko : Option (List Nat) → List Value → List Value
  | none, ls => ls
  | some ks, ls => msk ks ls
def stp {ρ : Type} (M : MI) (k : MS → Option ρ) (e : MR → Option ρ) (σ : MS) : Option ρ := match σ with
  | (pc, c, s, ls, st, h) => match lkp pc M.1 with
    | some (i, nx, tg) => mkoK (lkp pc M.2.2.2.2.2.2.2) ls (fun l => stpI M k e nx tg c s l st h i)
    | none => none
def runN (M : MI) : Nat → MS → Option MR
  | 0, _ => none
  | n + 1, σ => stp M (runN M n) some σ
