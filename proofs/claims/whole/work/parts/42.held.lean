/-! what fences hold; the needed ones; the cheapest set -/
def LPx (I : Nat → Nat → Int32) (L : List Nat) : Prop := I 13 1 = nI L.length ∧ L.length ≤ 28 ∧ (∀ i (h : i < L.length), I 14 i = nI L[i]) ∧ ∀ x, x ∈ L → x < 512
theorem loL_512 {V : Nat → Int32} {ce : Nat → Nat} {wr : Nat → Bool} {K n : Nat} (hn : n ≤ 8) : ∀ x, x ∈ loL V ce wr K n → x < 512 := by
  intro x hx
  obtain ⟨t, u, h1, h2, h3, h4, rfl⟩ := pS_mem hx
  exact btw_lt t (by omega) u (by omega)
theorem lpI_LP {I : Nat → Nat → Int32} {V : Nat → Int32} {ce : Nat → Nat} {wr : Nat → Bool} {K n : Nat} (hn : n ≤ 8) : LPx (lpI I (loL V ce wr K n)) (loL V ce wr K n) := by
  refine ⟨rfl, pS_le hn, fun i h => ?_, loL_512 hn⟩
  show lsf (loL V ce wr K n) nI (I 14) i = _
  exact lsf_in h
theorem cntLt {α : Type} {p q : α → Bool} : ∀ {L : List α}, (∀ x, x ∈ L → p x = true → q x = true) → L.countP p ≤ L.countP q ∧ (L.countP p < L.countP q ↔ ∃ x, x ∈ L ∧ q x = true ∧ p x = false) := by
  intro L
  induction L with
  | nil =>
    intro _
    refine ⟨Nat.le_refl _, ?_⟩
    constructor
    · intro h; exact absurd h (Nat.lt_irrefl _)
    · rintro ⟨x, h, -⟩; cases h
  | cons a L ih =>
    intro h
    obtain ⟨i1, i2⟩ := ih (fun x hx => h x (List.mem_cons_of_mem _ hx))
    have ha := h a (List.mem_cons_self)
    cases hp : p a with
    | true =>
      have hq := ha hp
      rw [List.countP_cons_of_pos hp, List.countP_cons_of_pos hq]
      refine ⟨by omega, ?_⟩
      constructor
      · intro hl
        obtain ⟨x, h1, h2⟩ := i2.mp (by omega)
        exact ⟨x, List.mem_cons_of_mem _ h1, h2⟩
      · rintro ⟨x, h1, h2, h3⟩
        rcases List.mem_cons.mp h1 with rfl | h1
        · rw [hp] at h3; cases h3
        · have := i2.mpr ⟨x, h1, h2, h3⟩; omega
    | false =>
      have np : ¬ p a = true := by rw [hp]; simp
      cases hq : q a with
      | true =>
        rw [List.countP_cons_of_neg np, List.countP_cons_of_pos hq]
        refine ⟨by omega, ?_⟩
        constructor
        · intro _; exact ⟨a, List.mem_cons_self, hq, hp⟩
        · intro _; omega
      | false =>
        have nq : ¬ q a = true := by rw [hq]; simp
        rw [List.countP_cons_of_neg np, List.countP_cons_of_neg nq]
        refine ⟨i1, ?_⟩
        constructor
        · intro hl
          obtain ⟨x, h1, h2⟩ := i2.mp hl
          exact ⟨x, List.mem_cons_of_mem _ h1, h2⟩
        · rintro ⟨x, h1, h2, h3⟩
          rcases List.mem_cons.mp h1 with rfl | h1
          · rw [hq] at h2; cases h2
          · exact i2.mpr ⟨x, h1, h2, h3⟩
/-- bits of a small set -/
def bcN (v : Nat) : Nat := v % 2 + v / 2 % 2 + v / 4 % 2 + v / 8 % 2 + v / 16 % 2 + v / 32 % 2 + v / 64 % 2 + v / 128 % 2
theorem bcN_1 : ∀ v, v < 256 → ∀ g, g < 8 → (bcN v = 1 ∧ v.testBit g = true ↔ v = 2 ^ g) := by decide +kernel
/-- the sets of one fence that hold a pair alone -/
def ndL (F : Nat) : List Nat → Nat
  | [] => 0
  | x :: r => (if bcN (x &&& F) = 1 then x &&& F else 0) ||| ndL F r
theorem ndL_bit {F g : Nat} : ∀ L, (ndL F L).testBit g = true ↔ ∃ x, x ∈ L ∧ bcN (x &&& F) = 1 ∧ (x &&& F).testBit g = true := by
  intro L
  induction L with
  | nil =>
    show (0 : Nat).testBit g = true ↔ _
    rw [Nat.zero_testBit]
    constructor
    · intro h; cases h
    · rintro ⟨x, h, -⟩; cases h
  | cons a L ih =>
    show ((if bcN (a &&& F) = 1 then a &&& F else 0) ||| ndL F L).testBit g = true ↔ _
    rw [Nat.testBit_or, Bool.or_eq_true, ih]
    constructor
    · rintro (h | ⟨x, h1, h2⟩)
      · split at h
        · rename_i hb; exact ⟨a, List.mem_cons_self, hb, h⟩
        · rw [Nat.zero_testBit] at h; cases h
      · exact ⟨x, List.mem_cons_of_mem _ h1, h2⟩
    · rintro ⟨x, h1, h2, h3⟩
      rcases List.mem_cons.mp h1 with rfl | h1
      · left; rw [if_pos h2]; exact h3
      · right; exact ⟨x, h1, h2, h3⟩
def ndB (L : List Nat) (F g : Nat) : Bool := F.testBit g && decide (hdN L (adn F (2 ^ g)) < hdN L F)
theorem hdB_t {F x : Nat} : hdB F x = true ↔ ∃ i, x.testBit i = true ∧ F.testBit i = true := by
  unfold hdB
  rw [decide_eq_true_eq]
  constructor
  · intro h
    by_cases hz : ∃ i, x.testBit i = true ∧ F.testBit i = true
    · exact hz
    · exfalso
      apply h
      apply Nat.eq_of_testBit_eq
      intro i
      rw [Nat.testBit_and, Nat.zero_testBit]
      cases h1 : x.testBit i
      · rfl
      · cases h2 : F.testBit i
        · rfl
        · exact absurd ⟨i, h1, h2⟩ hz
  · rintro ⟨i, h1, h2⟩ hz
    have : (x &&& F).testBit i = true := by rw [Nat.testBit_and, h1, h2]; rfl
    rw [hz, Nat.zero_testBit] at this
    cases this
theorem hdB_f {F x : Nat} : hdB F x = false ↔ ∀ i, x.testBit i = true → F.testBit i = false := by
  constructor
  · intro h i hx
    cases hF : F.testBit i
    · rfl
    · have := hdB_t.mpr ⟨i, hx, hF⟩
      rw [h] at this; cases this
  · intro h
    cases hh : hdB F x
    · rfl
    · obtain ⟨i, h1, h2⟩ := hdB_t.mp hh
      rw [h i h1] at h2; cases h2
theorem pow_bit (g i : Nat) : (2 ^ g).testBit i = decide (g = i) := Nat.testBit_two_pow
theorem nd_same {L : List Nat} {F n : Nat} (hF : ∀ i, F.testBit i = true → i < n) (hn : n ≤ 8) : bset (ndB L F) n = ndL F L := by
  have hF8 : F < 2 ^ 8 := by
    apply Nat.lt_pow_two_of_testBit
    intro i hi
    cases hq : F.testBit i
    · rfl
    · have := hF i hq; omega
  apply Nat.eq_of_testBit_eq
  intro g
  rw [Bool.eq_iff_iff, ndL_bit, bset_bit]
  have hv : ∀ x, x &&& F < 256 := fun x => Nat.lt_of_le_of_lt Nat.and_le_right hF8
  have hsub : ∀ x, x ∈ L → hdB (adn F (2 ^ g)) x = true → hdB F x = true := by
    intro x _ h
    obtain ⟨i, h1, h2⟩ := hdB_t.mp h
    rw [adn_bit (by omega), Bool.and_eq_true] at h2
    exact hdB_t.mpr ⟨i, h1, h2.1⟩
  unfold ndB hdN
  rw [Bool.and_eq_true, Bool.and_eq_true, decide_eq_true_eq, decide_eq_true_eq, (cntLt hsub).2]
  constructor
  · rintro ⟨h1, h2, x, h3, h4, h5⟩
    refine ⟨x, h3, ?_⟩
    rw [bcN_1 _ (hv x) g (by omega)]
    apply Nat.eq_of_testBit_eq
    intro i
    rw [pow_bit, Nat.testBit_and]
    rw [hdB_f] at h5
    obtain ⟨j, j1, j2⟩ := hdB_t.mp h4
    have key : ∀ i, x.testBit i = true → F.testBit i = true → g = i := by
      intro i a b
      have := h5 i a
      rw [adn_bit (by omega), b, pow_bit] at this
      simpa using this
    have hj := key j j1 j2
    subst hj
    by_cases hi : g = i
    · subst hi; rw [j1, j2]; simp
    · rw [decide_eq_false hi]
      cases a : x.testBit i
      · rfl
      · cases b : F.testBit i
        · rfl
        · exact absurd (key i a b) hi
  · rintro ⟨x, h1, h2, h3⟩
    have hFg : F.testBit g = true := by rw [Nat.testBit_and, Bool.and_eq_true] at h3; exact h3.2
    have hg := hF g hFg
    have e := (bcN_1 _ (hv x) g (by omega)).mp ⟨h2, h3⟩
    refine ⟨hg, hFg, x, h1, ?_, ?_⟩
    · unfold hdB
      rw [decide_eq_true_eq, e]
      exact Nat.ne_of_gt (Nat.two_pow_pos g)
    · rw [hdB_f]
      intro i hi
      rw [adn_bit (by omega), pow_bit]
      cases b : F.testBit i
      · rfl
      · have : (x &&& F).testBit i = true := by rw [Nat.testBit_and, hi, b]; rfl
        rw [e, pow_bit] at this
        rw [this]; rfl
section HD
variable {I : Nat → Nat → Int32} {J : Nat → Nat → Int64} {pl st : Bool} {n : Nat} {th ce c : Nat → Nat} {wr : Nat → Bool} {s u F K P : Nat} {V : Nat → Int32} {L : List Nat}
theorem cHa {i : Nat} (h : LPx I L) (hi : i < L.length) : fX3_holdersAt [.ref 13, .int (nI i)] (cH I J pl st) = some (some (.int (nI L[i])), cH I J pl st) := by
  have h2 := h.2.1
  rw [eX3_holdersAt]
  simp (disch := omega) only [nI_lt', nI_le', nI_eq', inb_nI, clp, nI_add, nI_mul', cond_true, cond_false, h.2.2.1 i hi, Nat.not_lt_zero, if_false]
  rw [if_neg (by omega)]
theorem cHd_loop (h : LPx I L) : ∀ d k m, k + d = L.length → run mX3_countHeld (4, 0, 0, [.ref 13, .int (nI F), .int (nI m), .int (nI k)], [], cH I J pl st) = some (some (.int (nI (m + hdN (L.drop k) F))), cH I J pl st) := by
  have h2 := h.2.1
  intro d
  induction d with
  | zero =>
    intro k m hk
    have : k = L.length := by omega
    subst this
    rw [bX3_countHeld_4, h.1]
    simp (disch := omega) only [nI_lt', nI_le', nI_eq', inb_nI, clp, nI_add, nI_mul', cond_true, cond_false, Nat.le_refl, if_true]
    rw [List.drop_length]
    rfl
  | succ d ih =>
    intro k m hk
    have hkl : k < L.length := by omega
    have hx := h.2.2.2 _ (List.getElem_mem hkl)
    have hlt : L[k] &&& F < 512 := Nat.lt_of_le_of_lt Nat.and_le_left hx
    rw [bX3_countHeld_4, h.1]
    simp (disch := omega) only [nI_lt', nI_le', nI_eq', inb_nI, clp, nI_add, nI_mul', cond_true, cond_false, callK_some, Option.toList_some, Option.toList_none, List.cons_append, List.nil_append, cHa h hkl, bX3_countHeld_17, and_nI]
    rw [if_neg (by omega), List.drop_eq_getElem_cons hkl]
    unfold hdN
    by_cases hz : L[k] &&& F = 0
    · rw [if_pos hz, List.countP_cons_of_neg (by unfold hdB; simp [hz])]
      exact ih (k + 1) m (by omega)
    · rw [if_neg hz, List.countP_cons_of_pos (by unfold hdB; simp [hz])]
      have := ih (k + 1) (m + 1) (by omega)
      rw [this]
      unfold hdN
      rw [show m + 1 + List.countP (hdB F) (List.drop (k + 1) L) = m + (List.countP (hdB F) (List.drop (k + 1) L) + 1) by omega]
theorem cHd (h : LPx I L) : fX3_countHeld [.ref 13, .int (nI F)] (cH I J pl st) = some (some (.int (nI (hdN L F))), cH I J pl st) := by
  rw [eX3_countHeld]
  have := cHd_loop (J := J) (pl := pl) (st := st) (F := F) h L.length 0 0 (by omega)
  rw [Nat.zero_add, List.drop_zero] at this
  exact this
theorem hdN_le (L : List Nat) (F : Nat) : hdN L F ≤ L.length := List.countP_le_length
theorem cAa (h : LPx I L) : fX3_areAllHeld [.ref 13, .int (nI F)] (cH I J pl st) = some (some (.int (tI (decide (hdN L F = L.length)))), cH I J pl st) := by
  have h2 := h.2.1
  have h3 := hdN_le L F
  rw [eX3_areAllHeld, cHd h]
  simp (disch := omega) only [nI_lt', nI_le', nI_eq', inb_nI, clp, nI_add, nI_mul', cond_true, cond_false, callK_some, Option.toList_some, Option.toList_none, List.cons_append, List.nil_append, bX3_areAllHeld_5, h.1]
  by_cases hz : hdN L F = L.length <;> simp [hz, tI]
theorem cBc {v : Nat} (hv : v < 256) : fJ6_bitCount_0f7a4 [.int (nI v)] (cH I J pl st) = some (some (.int (nI (bcN v))), cH I J pl st) := by
  rw [eJ6_bitCount_0f7a4]
  refine congrArg (fun z => some (some (Value.int z), cH I J pl st)) (?_ : _ = nI (bcN v))
  revert v
  decide +kernel
theorem bcN_lt (v : Nat) : bcN v < 9 := by unfold bcN; omega
theorem cNd_loop (h : LPx I L) (hF : F < 256) : ∀ d k m (z : Value), k + d = L.length → run mX3_neededOf (4, 0, 0, [.ref 13, .int (nI F), .int (nI m), .int (nI k), z], [], cH I J pl st) = some (some (.int (nI (m ||| ndL F (L.drop k)))), cH I J pl st) := by
  have h2 := h.2.1
  intro d
  induction d with
  | zero =>
    intro k m z hk
    have : k = L.length := by omega
    subst this
    rw [bX3_neededOf_4, h.1]
    simp (disch := omega) only [nI_lt', nI_le', nI_eq', inb_nI, clp, nI_add, nI_mul', cond_true, cond_false, Nat.le_refl, if_true]
    rw [List.drop_length]
    show _ = some (some (Value.int (nI (m ||| 0))), _)
    rw [Nat.or_zero]
  | succ d ih =>
    intro k m z hk
    have hkl : k < L.length := by omega
    have hlt : L[k] &&& F < 256 := Nat.lt_of_le_of_lt Nat.and_le_right hF
    have hb := bcN_lt (L[k] &&& F)
    rw [bX3_neededOf_4, h.1]
    simp (disch := omega) only [nI_lt', nI_le', nI_eq', inb_nI, clp, nI_add, nI_mul', cond_true, cond_false, callK_some, Option.toList_some, Option.toList_none, List.cons_append, List.nil_append, cHa h hkl, bX3_neededOf_17, and_nI, cBc hlt, bX3_neededOf_26, or_nI]
    rw [if_neg (by omega), List.drop_eq_getElem_cons hkl]
    show _ = some (some (Value.int (nI (m ||| ((if bcN (L[k] &&& F) = 1 then L[k] &&& F else 0) ||| ndL F (L.drop (k + 1)))))), _)
    by_cases hz : bcN (L[k] &&& F) = 1
    · rw [if_pos hz, if_pos hz, ← Nat.or_assoc]
      exact ih (k + 1) _ _ (by omega)
    · rw [if_neg hz, if_neg hz, Nat.zero_or]
      exact ih (k + 1) _ _ (by omega)
theorem cNd (h : LPx I L) (hF : F < 256) : fX3_neededOf [.ref 13, .int (nI F)] (cH I J pl st) = some (some (.int (nI (ndL F L))), cH I J pl st) := by
  rw [eX3_neededOf]
  have := cNd_loop (J := J) (pl := pl) (st := st) h hF L.length 0 0 .null (by omega)
  rw [Nat.zero_or, List.drop_zero] at this
  exact this
theorem mNd_loop (h : RPm I n th ce wr) (hF : I 0 6 = nI F) (hFl : F < 256) (hK : I 0 7 = nI K) (hKl : K < 16) (hV : vOk I V) : ∀ d k, k + d = n → run mX12_needed (4, 0, 0, [.ref 0, .int (nI (bset (ndB (loL V ce wr K n) F) k)), .int (nI k)], [], mH I J) = some (some (.int (nI (bset (ndB (loL V ce wr K n) F) n))), mH I J) := by
  have hn := h.2.1
  have hl := pS_le (f := loB V ce wr K) hn
  intro d
  induction d with
  | zero =>
    intro k hk
    have : k = n := by omega
    subst this
    rw [bX12_needed_4]
    simp (disch := omega) only [nI_lt', nI_le', nI_eq', inb_nI, clp, nI_add, nI_mul', cond_true, cond_false, h.1, Nat.le_refl, if_true]
  | succ d ih =>
    intro k hk
    have ih' := ih (k + 1) (by omega)
    have h1 := hdN_le (loL V ce wr K n) F
    have h2 := hdN_le (loL V ce wr K n) (adn F (2 ^ k))
    have h3 : (loL V ce wr K n).length ≤ 28 := hl
    rw [bX12_needed_4]
    simp (disch := omega) only [nI_lt', nI_le', nI_eq', inb_nI, clp, nI_add, nI_mul', cond_true, cond_false, callK_some, Option.toList_some, Option.toList_none, List.cons_append, List.nil_append, h.1, hF, mHas, bX12_needed_21, ite_tI]
    rw [if_neg (by omega)]
    cases hq : F.testBit k with
    | false =>
      have hc : ndB (loL V ce wr K n) F k = false := by unfold ndB; rw [hq]; rfl
      simp only [Bool.false_eq_true, if_false]
      rw [bset_f0 hc]
      exact ih'
    | true =>
      simp (disch := omega) only [if_true, callK_some, Option.toList_some, Option.toList_none, List.cons_append, List.nil_append, nI_lt', nI_le', nI_eq', inb_nI, clp, nI_add, nI_mul', cond_true, cond_false, shl_nI, adn_I, mHo h hK hKl hV, bX12_needed_38, bX12_needed_46, hF]
      by_cases hz : hdN (loL V ce wr K n) F ≤ hdN (loL V ce wr K n) (adn F (2 ^ k))
      · have hc : ndB (loL V ce wr K n) F k = false := by unfold ndB; rw [hq, decide_eq_false (by omega)]; rfl
        rw [if_pos hz, bset_f0 hc]
        exact ih'
      · have hc : ndB (loL V ce wr K n) F k = true := by unfold ndB; rw [hq, decide_eq_true (by omega)]; rfl
        have := bset_t (f := ndB (loL V ce wr K n) F) (k := k) (by omega) hc
        rw [shl_nI k (by omega)] at this
        rw [if_neg hz, this]
        exact ih'
theorem mNd (h : RPm I n th ce wr) (hF : I 0 6 = nI F) (hFg : sbG th n F) (hK : I 0 7 = nI K) (hKl : K < 16) (hV : vOk I V) : fX12_needed [.ref 0] (mH I J) = some (some (.int (nI (ndL F (loL V ce wr K n)))), mH I J) := by
  have hn := h.2.1
  have hFl := sbG_lt hn hFg
  rw [eX12_needed, ← nd_same (n := n) (fun i hi => (hFg i hi).1) hn]
  have z : ndB (loL V ce wr K n) F 0 = false := by
    unfold ndB
    cases hq : F.testBit 0
    · rfl
    · have := (hFg 0 hq).2; cases this
  have e : nI 0 = nI (bset (ndB (loL V ce wr K n) F) 1) := by
    rw [← bset_f z]; rfl
  by_cases h0 : n = 0
  · subst h0
    rw [bX12_needed_4, h.1]
    simp (disch := omega) only [nI_lt', nI_le', nI_eq', inb_nI, clp, nI_add, nI_mul', cond_true, cond_false]
    rfl
  · have := mNd_loop (J := J) h hF hFl hK hKl hV (n - 1) 1 (by omega)
    rw [← e] at this
    exact this
end HD
