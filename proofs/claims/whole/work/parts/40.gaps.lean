/-! steps and gaps by any number; sets; prices -/
theorem xor_nI (a b : Nat) : nI a ^^^ nI b = nI (a ^^^ b) := by
  apply Int32.toBitVec_inj.1
  show BitVec.ofNat 32 a ^^^ BitVec.ofNat 32 b = BitVec.ofNat 32 (a ^^^ b)
  apply BitVec.eq_of_getLsbD_eq
  intro i hi
  simp [hi]
theorem m1_nI' : Int32.ofInt (-1) = nI 4294967295 := by decide
/-- what is in the first and not in the second -/
def adn (a b : Nat) : Nat := a &&& (b ^^^ 4294967295)
theorem adn_I (a b : Nat) : nI a &&& (nI b ^^^ Int32.ofInt (-1)) = nI (adn a b) := by
  rw [m1_nI', xor_nI, and_nI]; rfl
theorem adn_bit {a b : Nat} (ha : a < 4294967296) (i : Nat) : (adn a b).testBit i = (a.testBit i && !b.testBit i) := by
  unfold adn
  rw [Nat.testBit_and, Nat.testBit_xor]
  have e : (4294967295 : Nat) = 2 ^ 32 - 1 := rfl
  rw [e, Nat.testBit_two_pow_sub_one]
  by_cases hi : i < 32
  · simp [hi]
  · have : a.testBit i = false := Nat.testBit_lt_two_pow (Nat.lt_of_lt_of_le ha (Nat.pow_le_pow_right (n := 2) (i := 32) (j := i) (by decide) (by omega)))
    simp [this]
theorem adn_le (a b : Nat) : adn a b ≤ a := Nat.and_le_left
theorem adn_0 {a b : Nat} (ha : a < 4294967296) : adn a b = 0 ↔ ∀ i, a.testBit i = true → b.testBit i = true := by
  constructor
  · intro h i hi
    have := adn_bit (b := b) ha i
    rw [h, hi, Nat.zero_testBit] at this
    cases hb : b.testBit i
    · rw [hb] at this; cases this
    · rfl
  · intro h
    apply Nat.eq_of_testBit_eq
    intro i
    rw [adn_bit ha, Nat.zero_testBit]
    cases hi : a.testBit i
    · rfl
    · rw [h i hi]; rfl
def stX (n : Nat) (x : Int32) : Bool := !decide (x < nI 0) && !decide (nI n ≤ x)
def gpX (n : Nat) (th : Nat → Nat) (x : Int32) : Bool := stX n x && gpB th x.toNatClampNeg
theorem stX_nI {n k : Nat} (hn : n ≤ 8) (hk : k < n) : stX n (nI k) = true := by
  unfold stX
  simp (disch := omega) only [nI_lt', nI_le', nI_eq', inb_nI, clp, nI_add, nI_mul', cond_true, cond_false]
  simp [hk]
theorem stX_of {n : Nat} {x : Int32} (hn : n ≤ 8) (h : stX n x = true) : ∃ k, k < n ∧ x = nI k := by
  unfold stX at h
  rcases pk_ix x (n := n) (by omega) with a | a | a
  · rw [decide_eq_true (show x < nI 0 from a)] at h; cases h
  · rw [decide_eq_true a] at h; simp at h
  · exact a
theorem gpX_nI {n k : Nat} {th : Nat → Nat} (hn : n ≤ 8) (hk : k < n) : gpX n th (nI k) = gpB th k := by
  unfold gpX
  rw [stX_nI hn hk, clp (by omega)]
  rfl
theorem gpX_of {n : Nat} {th : Nat → Nat} {x : Int32} (hn : n ≤ 8) (h : gpX n th x = true) : ∃ k, k < n ∧ x = nI k ∧ gpB th k = true := by
  unfold gpX at h
  rw [Bool.and_eq_true] at h
  obtain ⟨k, hk, rfl⟩ := stX_of hn h.1
  refine ⟨k, hk, rfl, ?_⟩
  have := h.2
  rwa [clp (by omega)] at this
/-- all gaps -/
def gpS (th : Nat → Nat) (n : Nat) : Nat := bset (gpB th) n
/-- gaps alone -/
def sbG (th : Nat → Nat) (n F : Nat) : Prop := ∀ i, F.testBit i = true → i < n ∧ gpB th i = true
theorem gpS_bit {th : Nat → Nat} {n : Nat} (i : Nat) : (gpS th n).testBit i = true ↔ i < n ∧ gpB th i = true := by
  unfold gpS
  rw [bset_bit, Bool.and_eq_true, decide_eq_true_eq]
theorem sbG_S (th : Nat → Nat) (n : Nat) : sbG th n (gpS th n) := fun i h => (gpS_bit i).mp h
theorem sbG_lt {th : Nat → Nat} {n F : Nat} (hn : n ≤ 8) (h : sbG th n F) : F < 256 := by
  have : F < 2 ^ 8 := by
    apply Nat.lt_pow_two_of_testBit
    intro i hi
    cases hq : F.testBit i
    · rfl
    · have := (h i hq).1
      omega
  exact this
theorem sbG_adn {th : Nat → Nat} {n F : Nat} (hF : F < 256) : adn F (gpS th n) = 0 ↔ sbG th n F := by
  rw [adn_0 (by omega)]
  constructor
  · intro h i hi; exact (gpS_bit i).mp (h i hi)
  · intro h i hi; exact (gpS_bit i).mpr (h i hi)
/-- what a set costs -/
def prN (c : Nat → Nat) (F : Nat) : Nat → Nat
  | 0 => 0
  | k + 1 => prN c F k + (if F.testBit k then c k else 0)
theorem prN_le {c : Nat → Nat} {F : Nat} (h : ∀ i, F.testBit i = true → c i ≤ 9) : ∀ k, prN c F k ≤ 9 * k := by
  intro k
  induction k with
  | zero => exact Nat.le_refl 0
  | succ k ih =>
    show prN c F k + (if F.testBit k then c k else 0) ≤ _
    split
    · rename_i hq; have := h k hq; omega
    · omega
theorem prN_mono {c : Nat → Nat} {F G : Nat} (h : ∀ i, F.testBit i = true → G.testBit i = true) : ∀ k, prN c F k ≤ prN c G k := by
  intro k
  induction k with
  | zero => exact Nat.le_refl 0
  | succ k ih =>
    show prN c F k + (if F.testBit k then c k else 0) ≤ prN c G k + (if G.testBit k then c k else 0)
    by_cases hq : F.testBit k = true
    · rw [if_pos hq, if_pos (h k hq)]; omega
    · rw [if_neg hq]; omega
theorem prN_strict {c : Nat → Nat} {F G : Nat} (h : ∀ i, F.testBit i = true → G.testBit i = true) (hc : ∀ i, G.testBit i = true → 0 < c i) : ∀ k, (∃ i, i < k ∧ G.testBit i = true ∧ F.testBit i = false) → prN c F k < prN c G k := by
  intro k
  induction k with
  | zero => rintro ⟨i, hi, -⟩; omega
  | succ k ih =>
    rintro ⟨i, hi, h1, h2⟩
    show prN c F k + (if F.testBit k then c k else 0) < prN c G k + (if G.testBit k then c k else 0)
    by_cases hik : i = k
    · subst hik
      have := hc i h1
      have h3 := prN_mono (c := c) h i
      rw [if_pos h1, h2]
      simp only [Bool.false_eq_true, if_false]
      omega
    · have h3 := ih ⟨i, by omega, h1, h2⟩
      by_cases hq : F.testBit k = true
      · rw [if_pos hq, if_pos (h k hq)]; omega
      · rw [if_neg hq]; omega
/-- costs of gaps -/
def cOk (I : Nat → Nat → Int32) (P n : Nat) (th c : Nat → Nat) : Prop := ∀ g, g < n → gpB th g = true → I P g = nI (c g) ∧ 1 ≤ c g ∧ c g ≤ 9
section MG
variable {I : Nat → Nat → Int32} {J : Nat → Nat → Int64} {pl st : Bool} {n : Nat} {th ce c : Nat → Nat} {wr : Nat → Bool} {s u F K P : Nat}
theorem mSt (h : RPm I n th ce wr) (x : Int32) : fX12_isStep [.ref 0, .int x] (mH I J) = some (some (.int (tI (stX n x))), mH I J) := by
  rw [eX12_isStep, h.1]
  unfold stX
  by_cases a : x < nI 0 <;> by_cases b : nI n ≤ x <;> simp [a, b, tI]
theorem cSt (hP : P = 4 ∨ P = 7) (h : RPx I P n th ce wr) (x : Int32) : fX6_hasStep [.ref P, .int x] (cH I J pl st) = some (some (.int (tI (stX n x))), cH I J pl st) := by
  rw [eX6_hasStep (hP := hP), h.1]
  unfold stX
  by_cases a : x < nI 0 <;> by_cases b : nI n ≤ x <;> simp [a, b, tI]
theorem mGp (h : RPm I n th ce wr) (x : Int32) : fX12_isGap [.ref 0, .int x] (mH I J) = some (some (.int (tI (gpX n th x))), mH I J) := by
  have hn := h.2.1
  rcases pk_ix x (n := n) (by omega) with a | a | ⟨k, hk, rfl⟩
  · have e : gpX n th x = false := by unfold gpX stX; rw [decide_eq_true (show x < nI 0 from a)]; rfl
    rw [eX12_isGap, if_pos (show x ≤ nI 0 from Int32.le_of_lt a), e]; rfl
  · have e : gpX n th x = false := by unfold gpX stX; rw [decide_eq_true a]; simp
    rw [eX12_isGap, h.1, if_pos a, ite_self, e]; rfl
  · rw [gpX_nI hn hk, eX12_isGap, h.1]
    obtain ⟨a1, -, -, a4, -⟩ := h.2.2 k hk
    unfold gpB
    cases k with
    | zero => simp (disch := omega) only [nI_lt', nI_le', nI_eq', inb_nI, clp, nI_add, nI_mul', cond_true, cond_false]; simp [tI]
    | succ k =>
      obtain ⟨b1, -, -, b4, -⟩ := h.2.2 k (by omega)
      simp (disch := omega) only [nI_lt', nI_le', nI_eq', inb_nI, clp, nI_add, nI_mul', cond_true, cond_false, sub1_nI, Nat.add_sub_cancel, a1, b1]
      rw [if_neg (by omega), if_neg (by omega)]
      by_cases y : th (k + 1) = th k <;> simp [y, tI]
theorem cGp (hP : P = 4 ∨ P = 7) (h : RPx I P n th ce wr) (x : Int32) : fX6_hasGap [.ref P, .int x] (cH I J pl st) = some (some (.int (tI (gpX n th x))), cH I J pl st) := by
  have hn := h.2.1
  have hb := bset_small (gpB th) hn
  rw [eX6_hasGap (hP := hP)]
  simp (disch := omega) only [callK_some, Option.toList_some, Option.toList_none, List.cons_append, List.nil_append, cSt hP h x, bX6_hasGap_5 (hP := hP), ite_tI]
  cases hs : stX n x with
  | false =>
    have e : gpX n th x = false := by unfold gpX; rw [hs]; rfl
    rw [e]; rfl
  | true =>
    obtain ⟨k, hk, rfl⟩ := stX_of hn hs
    simp (disch := omega) only [if_true, callK_some, Option.toList_some, Option.toList_none, List.cons_append, List.nil_append, h.2.2.2.2, cHas, bX6_hasGap_16 (hP := hP), ite_tI, gpX_nI hn hk, bset_bit]
    rw [decide_eq_true hk, Bool.true_and]
    cases gpB th k <;> rfl
theorem mGs_loop (h : RPm I n th ce wr) : ∀ d k, k + d = n → run mX12_gaps (4, 0, 0, [.ref 0, .int (nI (bset (gpB th) k)), .int (nI k)], [], mH I J) = some (some (.int (nI (gpS th n))), mH I J) := by
  have hn := h.2.1
  intro d
  induction d with
  | zero =>
    intro k hk
    have : k = n := by omega
    subst this
    rw [bX12_gaps_4]
    simp (disch := omega) only [nI_lt', nI_le', nI_eq', inb_nI, clp, nI_add, nI_mul', cond_true, cond_false, h.1, Nat.le_refl, if_true]
    rfl
  | succ d ih =>
    intro k hk
    have ih' := ih (k + 1) (by omega)
    rw [bX12_gaps_4]
    simp (disch := omega) only [nI_lt', nI_le', nI_eq', inb_nI, clp, nI_add, nI_mul', cond_true, cond_false, callK_some, Option.toList_some, Option.toList_none, List.cons_append, List.nil_append, h.1, mGp h (nI k), bX12_gaps_18, ite_tI, gpX_nI hn (show k < n by omega)]
    rw [if_neg (by omega)]
    cases hc : gpB th k with
    | false =>
      simp only [Bool.false_eq_true, if_false]
      rw [bset_f0 hc]
      exact ih'
    | true =>
      simp only [if_true]
      rw [bset_t (by omega) hc]
      exact ih'
theorem mGs (h : RPm I n th ce wr) : fX12_gaps [.ref 0] (mH I J) = some (some (.int (nI (gpS th n))), mH I J) := by
  have hn := h.2.1
  rw [eX12_gaps]
  have e : nI 0 = nI (bset (gpB th) 1) := by
    have z : gpB th 0 = false := rfl
    rw [← bset_f z]
    rfl
  by_cases h0 : n = 0
  · subst h0
    rw [bX12_gaps_4, h.1]
    simp (disch := omega) only [nI_lt', nI_le', nI_eq', inb_nI, clp, nI_add, nI_mul', cond_true, cond_false]
    rfl
  · have := mGs_loop (J := J) h (n - 1) 1 (by omega)
    rw [← e] at this
    exact this
theorem mPr_loop (hn : n ≤ 8) (hF : sbG th n F) (hc : cOk I 4 n th c) : ∀ d k, k + d = 8 → run mX12_price (4, 0, 0, [.ref 0, .int (nI F), .int (nI (prN c F k)), .int (nI k)], [], mH I J) = some (some (.int (nI (prN c F 8))), mH I J) := by
  have hFl := sbG_lt hn hF
  intro d
  induction d with
  | zero =>
    intro k hk
    have : k = 8 := by omega
    subst this
    rw [bX12_price_4]
    simp (disch := omega) only [nI_lt', nI_le', nI_eq', inb_nI, clp, nI_add, nI_mul', cond_true, cond_false, Nat.le_refl, if_true]
  | succ d ih =>
    intro k hk
    have ih' := ih (k + 1) (by omega)
    have e : prN c F (k + 1) = prN c F k + (if F.testBit k then c k else 0) := rfl
    rw [e] at ih'
    rw [bX12_price_4]
    simp (disch := omega) only [nI_lt', nI_le', nI_eq', inb_nI, clp, nI_add, nI_mul', cond_true, cond_false, callK_some, Option.toList_some, Option.toList_none, List.cons_append, List.nil_append, mHas, bX12_price_16, ite_tI]
    rw [if_neg (by omega)]
    cases hq : F.testBit k with
    | false =>
      rw [hq] at ih'
      exact ih'
    | true =>
      rw [hq] at ih'
      obtain ⟨h1, h2⟩ := hF k hq
      simp only [if_true, (hc k h1 h2).1, nI_add]
      exact ih'
theorem mPr (hn : n ≤ 8) (hF : sbG th n F) (hc : cOk I 4 n th c) : fX12_price [.ref 0, .int (nI F)] (mH I J) = some (some (.int (nI (prN c F 8))), mH I J) := by
  rw [eX12_price]
  exact mPr_loop hn hF hc 8 0 rfl
theorem cPr_loop (hn : n ≤ 8) (hF : sbG th n F) (hc : cOk I 16 n th c) : ∀ d k, k + d = 8 → run mX9_costOfSet (4, 0, 0, [.ref 15, .int (nI F), .int (nI (prN c F k)), .int (nI k)], [], cH I J pl st) = some (some (.int (nI (prN c F 8))), cH I J pl st) := by
  have hFl := sbG_lt hn hF
  intro d
  induction d with
  | zero =>
    intro k hk
    have : k = 8 := by omega
    subst this
    rw [bX9_costOfSet_4]
    simp (disch := omega) only [nI_lt', nI_le', nI_eq', inb_nI, clp, nI_add, nI_mul', cond_true, cond_false, Nat.le_refl, if_true]
  | succ d ih =>
    intro k hk
    have ih' := ih (k + 1) (by omega)
    have e : prN c F (k + 1) = prN c F k + (if F.testBit k then c k else 0) := rfl
    rw [e] at ih'
    rw [bX9_costOfSet_4]
    simp (disch := omega) only [nI_lt', nI_le', nI_eq', inb_nI, clp, nI_add, nI_mul', cond_true, cond_false, callK_some, Option.toList_some, Option.toList_none, List.cons_append, List.nil_append, cHas, bX9_costOfSet_18, ite_tI]
    rw [if_neg (by omega)]
    cases hq : F.testBit k with
    | false =>
      rw [hq] at ih'
      exact ih'
    | true =>
      rw [hq] at ih'
      obtain ⟨h1, h2⟩ := hF k hq
      simp only [if_true, (hc k h1 h2).1, nI_add]
      exact ih'
theorem cPr (hn : n ≤ 8) (hF : sbG th n F) (hc : cOk I 16 n th c) : fX9_costOfSet [.ref 15, .int (nI F)] (cH I J pl st) = some (some (.int (nI (prN c F 8))), cH I J pl st) := by
  rw [eX9_costOfSet]
  exact cPr_loop hn hF hc 8 0 rfl
end MG
