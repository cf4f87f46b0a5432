/-! plain rows for the pure side -/
theorem nI_lt' {a b : Nat} (ha : a < 2147483648) (hb : b < 2147483648) : (nI a < nI b) = (a < b) := propext (nI_ltI ha hb)
theorem nI_le' {a b : Nat} (ha : a < 2147483648) (hb : b < 2147483648) : (nI a ≤ nI b) = (a ≤ b) := propext (nI_leI ha hb)
theorem nI_eq' {a b : Nat} (ha : a < 2147483648) (hb : b < 2147483648) : (nI a = nI b) = (a = b) := propext (nI_eq ha hb)
theorem nI_mul' (a b : Nat) : nI a * nI b = nI (a * b) := pk_mul a b
theorem clp {n : Nat} (h : n < 2147483648) : (nI n).toNatClampNeg = n := nI_clamp h
theorem inb_nI {j m : Nat} (h : j < m) (hm : j < 2147483648) : inb (nI j) m = true := by
  unfold inb
  rw [clp hm]
  have h1 : ¬ nI j < 0 := nI_pos hm
  have h2 : Nat.ble m j = false := by
    cases hq : Nat.ble m j with
    | false => rfl
    | true => exact absurd (Nat.le_of_ble_eq_true hq) (by omega)
  rw [h2, decide_eq_false h1]
  rfl
theorem inb_of {x : Int32} {m : Nat} (h : inb x m = true) (hm : m < 2147483648) : ∃ j, j < m ∧ x = nI j := by
  obtain ⟨j, h1, h2⟩ := vp_in_of (inb_in h) (by omega)
  exact ⟨j, h1, h2⟩
def tI (b : Bool) : Int32 := nI b.toNat
theorem tI_t : tI true = nI 1 := rfl
theorem tI_f : tI false = nI 0 := rfl
theorem tI_0 (b : Bool) : (tI b = nI 0) = (b = false) := by cases b <;> decide
theorem tI_B (b : Bool) : isB (tI b) = true := by cases b <;> decide
theorem ite_tI {α : Type} (b : Bool) (x y : α) : (if tI b = nI 0 then x else y) = if b = true then y else x := by cases b <;> rfl
theorem m1_nI (n : Nat) : nI (n + 1) + Int32.ofInt (-1) = nI n := pk_m1 n
theorem sub_nI {a b : Nat} (h : b ≤ a) : nI a - nI b = nI (a - b) := pk_sub h
theorem or_nI (a b : Nat) : nI a ||| nI b = nI (a ||| b) := fa_or a b
theorem and_nI (a b : Nat) : nI a &&& nI b = nI (a &&& b) := fa_and a b
theorem shl_nI : ∀ k, k < 31 → nI 1 <<< (nI k &&& 31) = nI (2 ^ k) := by decide +kernel
theorem sub1_nI {n : Nat} (h : 0 < n) : nI n - nI 1 = nI (n - 1) := pk_sub h
/-- a set of numbers below k, as bits -/
def bset (f : Nat → Bool) : Nat → Nat
  | 0 => 0
  | k + 1 => bset f k ||| (if f k then 2 ^ k else 0)
theorem bset_lt (f : Nat → Bool) : ∀ k, bset f k < 2 ^ k := by
  intro k
  induction k with
  | zero => exact Nat.one_pos
  | succ k ih =>
    have h1 : bset f k < 2 ^ (k + 1) := Nat.lt_of_lt_of_le ih (Nat.pow_le_pow_right (by decide) (Nat.le_succ k))
    show bset f k ||| (if f k then 2 ^ k else 0) < 2 ^ (k + 1)
    refine Nat.or_lt_two_pow h1 ?_
    split
    · exact Nat.pow_lt_pow_right (by decide) (Nat.lt_succ_self k)
    · exact Nat.two_pow_pos _
theorem bset_bit (f : Nat → Bool) : ∀ k i, (bset f k).testBit i = (decide (i < k) && f i) := by
  intro k
  induction k with
  | zero => intro i; simp [bset]
  | succ k ih =>
    intro i
    show (bset f k ||| (if f k then 2 ^ k else 0)).testBit i = _
    rw [Nat.testBit_or, ih]
    by_cases hk : f k = true
    · rw [if_pos hk, Nat.testBit_two_pow]
      by_cases hi : i = k
      · subst hi; simp [hk]
      · have : ¬ k = i := fun z => hi z.symm
        by_cases hl : i < k
        · simp [hl, Nat.lt_succ_of_lt hl, this]
        · have : ¬ i < k + 1 := by omega
          simp [hl, this]; omega
    · rw [if_neg hk, Nat.zero_testBit]
      by_cases hi : i = k
      · subst hi; simp at hk; simp [hk]
      · by_cases hl : i < k
        · simp [hl, Nat.lt_succ_of_lt hl]
        · have : ¬ i < k + 1 := by omega
          simp [hl, this]
theorem bset_cong {f g : Nat → Bool} : ∀ {k}, (∀ i, i < k → f i = g i) → bset f k = bset g k := by
  intro k
  induction k with
  | zero => intro _; rfl
  | succ k ih => intro h; unfold bset; rw [ih (fun i hi => h i (Nat.lt_succ_of_lt hi)), h k (Nat.lt_succ_self k)]
theorem bset_add (f : Nat → Bool) (k : Nat) : nI (bset f k) ||| (nI 1 <<< (nI k &&& 31)) = nI (bset f k ||| 2 ^ k) ∨ 31 ≤ k := by
  by_cases h : k < 31
  · left; rw [shl_nI k h, or_nI]
  · right; omega
theorem bset_t {f : Nat → Bool} {k : Nat} (hk : k < 31) (h : f k = true) : nI (bset f k) ||| (nI 1 <<< (nI k &&& 31)) = nI (bset f (k + 1)) := by
  rw [shl_nI k hk, or_nI]
  show nI (bset f k ||| 2 ^ k) = nI (bset f k ||| (if f k then 2 ^ k else 0))
  rw [if_pos h]
theorem bset_f {f : Nat → Bool} {k : Nat} (h : f k = false) : nI (bset f k) = nI (bset f (k + 1)) := by
  show nI (bset f k) = nI (bset f k ||| (if f k then 2 ^ k else 0))
  rw [h]; simp
theorem bset_f0 {f : Nat → Bool} {k : Nat} (h : f k = false) : nI (bset f k) ||| nI 0 = nI (bset f (k + 1)) := by
  rw [or_nI, Nat.or_zero]; exact bset_f h
/-! steps, as both sides know them -/
def ahB (th : Nat → Nat) (s u : Nat) : Bool := decide (s < u) && decide (th s = th u)
def cfB (th ce : Nat → Nat) (wr : Nat → Bool) (s u : Nat) : Bool := !decide (th s = th u) && decide (ce s = ce u) && (wr s || wr u)
def kdN (wr : Nat → Bool) (s u : Nat) : Nat := bif wr s then (bif wr u then 1 else 0) else (bif wr u then 3 else 2)
theorem kdN_lt (wr : Nat → Bool) (s u : Nat) : kdN wr s u < 4 := by unfold kdN; cases wr s <;> cases wr u <;> decide
/-- must wait, fences aside -/
def bdB (ce : Nat → Nat) (wr : Nat → Bool) (K s u : Nat) : Bool := decide (ce s = ce u) || !K.testBit (kdN wr s u)
def btw (s u : Nat) : Nat := 2 ^ (u + 1) - 2 ^ (s + 1)
def wtB (th ce : Nat → Nat) (wr : Nat → Bool) (F K u s : Nat) : Bool := ahB th s u && (bdB ce wr K s u || decide (F &&& btw s u ≠ 0))
