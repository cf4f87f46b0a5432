/-! the class: steps, conflicts, waits -/
def gpB (th : Nat → Nat) (g : Nat) : Bool := decide (0 < g) && decide (th g = th (g - 1))
def RPx (I : Nat → Nat → Int32) (P n : Nat) (th ce : Nat → Nat) (wr : Nat → Bool) : Prop := I P 3 = nI n ∧ n ≤ 8 ∧ (∀ s, s < n → I (P + 1) s = nI (th s) ∧ I (P + 2) s = nI (ce s) ∧ th s < 3 ∧ ce s < 3) ∧ I P 4 = nI (bset wr n) ∧ I P 5 = nI (bset (gpB th) n)
theorem RPx.cong {I I' : Nat → Nat → Int32} {P : Nat} {n : Nat} {th ce : Nat → Nat} {wr : Nat → Bool} (h : RPx I P n th ce wr) (h0 : I' P 3 = I P 3) (h4 : I' P 4 = I P 4) (h5 : I' P 5 = I P 5) (h1 : I' (P + 1) = I (P + 1)) (h2 : I' (P + 2) = I (P + 2)) : RPx I' P n th ce wr := by
  refine ⟨h0.trans h.1, h.2.1, fun s hs => ?_, h4.trans h.2.2.2.1, h5.trans h.2.2.2.2⟩
  rw [h1, h2]
  exact h.2.2.1 s hs
theorem bset_small (f : Nat → Bool) {k : Nat} (h : k ≤ 8) : bset f k < 256 := Nat.lt_of_lt_of_le (bset_lt f k) (Nat.pow_le_pow_right (by decide) h)
theorem bitU : ∀ k, k < 31 → ∀ {F : Nat}, F < 2147483648 → ((Int32.toUInt32 (nI F) >>> (Int32.toUInt32 (nI k) &&& Int32.toUInt32 31)).toInt32) &&& nI 1 = nI (F.testBit k).toNat := by
  intro k hk F hF
  have e : ((nI F).toUInt32 >>> ((nI k).toUInt32 &&& Int32.toUInt32 31)).toInt32 = nI (F / 2 ^ k) := pk_ushrN (by omega) (nI k) k (s_u k (by omega))
  rw [e, and_nI]
  congr 1
  rw [Nat.testBit_eq_decide_div_mod_eq, Nat.and_one_is_mod]
  rcases Nat.mod_two_eq_zero_or_one (F / 2 ^ k) with z | z <;> simp [z]
section CP
variable {I : Nat → Nat → Int32} {J : Nat → Nat → Int64} {pl st : Bool} {n : Nat} {th ce : Nat → Nat} {wr : Nat → Bool} {s u F K P : Nat}
theorem cHas (hF : F < 2147483648) {k : Nat} (hk : k < 31) : fX11_has [.int (nI F), .int (nI k)] (cH I J pl st) = some (some (.int (tI (F.testBit k))), cH I J pl st) := by
  rw [eX11_has]
  simp (disch := omega) only [nI_lt', nI_le', nI_eq', inb_nI, clp, nI_add, nI_mul', cond_true, cond_false, bitU k hk hF, Nat.not_lt_zero, if_false]
  rw [if_neg (by omega)]
  cases F.testBit k <;> rfl
theorem cTh (hP : P = 4 ∨ P = 7) (h : RPx I P n th ce wr) (hs : s < n) : fX6_threadOf [.ref P, .int (nI s)] (cH I J pl st) = some (some (.int (nI (th s))), cH I J pl st) := by
  have hn := h.2.1
  obtain ⟨a1, -, -, -⟩ := h.2.2.1 s hs
  rw [eX6_threadOf (hP := hP)]
  simp (disch := omega) only [nI_lt', nI_le', nI_eq', inb_nI, clp, nI_add, nI_mul', cond_true, cond_false, a1, Nat.not_lt_zero, if_false]
  rw [if_neg (by omega)]
theorem cCe (hP : P = 4 ∨ P = 7) (h : RPx I P n th ce wr) (hs : s < n) : fX6_cellOf [.ref P, .int (nI s)] (cH I J pl st) = some (some (.int (nI (ce s))), cH I J pl st) := by
  have hn := h.2.1
  obtain ⟨-, a1, -, -⟩ := h.2.2.1 s hs
  rw [eX6_cellOf (hP := hP)]
  simp (disch := omega) only [nI_lt', nI_le', nI_eq', inb_nI, clp, nI_add, nI_mul', cond_true, cond_false, a1, Nat.not_lt_zero, if_false]
  rw [if_neg (by omega)]
theorem cWr (hP : P = 4 ∨ P = 7) (h : RPx I P n th ce wr) (hs : s < n) : fX6_isWriter [.ref P, .int (nI s)] (cH I J pl st) = some (some (.int (tI (wr s))), cH I J pl st) := by
  have hn := h.2.1
  have hb := bset_small wr hn
  rw [eX6_isWriter (hP := hP), h.2.2.2.1, bitU s (by omega) (by omega), bset_bit]
  simp (disch := omega) only [nI_lt', nI_le', Nat.not_lt_zero, if_false]
  rw [if_neg (by omega)]
  simp only [hs, decide_true, Bool.true_and]
  cases wr s <;> rfl
theorem cAh (hP : P = 4 ∨ P = 7) (h : RPx I P n th ce wr) (hs : s < n) (hu : u < n) : fX6_isAhead [.ref P, .int (nI s), .int (nI u)] (cH I J pl st) = some (some (.int (tI (ahB th s u))), cH I J pl st) := by
  have hn := h.2.1
  obtain ⟨-, -, a4, -⟩ := h.2.2.1 s hs
  obtain ⟨-, -, b4, -⟩ := h.2.2.1 u hu
  rw [eX6_isAhead (hP := hP)]
  simp (disch := omega) only [nI_lt', nI_le', nI_eq', inb_nI, clp, nI_add, nI_mul', cond_true, cond_false, callK_some, Option.toList_some, Option.toList_none, List.cons_append, List.nil_append, cTh hP h hs, cTh hP h hu, bX6_isAhead_10 (hP := hP), bX6_isAhead_15 (hP := hP)]
  unfold ahB
  by_cases x : s < u
  · rw [if_neg (by omega)]
    by_cases y : th s = th u <;> simp [x, y, tI]
  · rw [if_pos (by omega)]; simp [x, tI]
theorem cCf (hP : P = 4 ∨ P = 7) (h : RPx I P n th ce wr) (hs : s < n) (hu : u < n) : fX6_areInConflict [.ref P, .int (nI s), .int (nI u)] (cH I J pl st) = some (some (.int (tI (cfB th ce wr s u))), cH I J pl st) := by
  have hn := h.2.1
  obtain ⟨-, -, a4, a5⟩ := h.2.2.1 s hs
  obtain ⟨-, -, b4, b5⟩ := h.2.2.1 u hu
  rw [eX6_areInConflict (hP := hP)]
  simp (disch := omega) only [nI_lt', nI_le', nI_eq', inb_nI, clp, nI_add, nI_mul', cond_true, cond_false, callK_some, Option.toList_some, Option.toList_none, List.cons_append, List.nil_append, cTh hP h hs, cTh hP h hu, cCe hP h hs, cCe hP h hu, cWr hP h hs, cWr hP h hu, bX6_areInConflict_5 (hP := hP), bX6_areInConflict_10 (hP := hP), bX6_areInConflict_18 (hP := hP), bX6_areInConflict_23 (hP := hP), bX6_areInConflict_31 (hP := hP), bX6_areInConflict_39 (hP := hP), ite_tI]
  unfold cfB
  by_cases x : th s = th u
  · simp [x, tI]
  · by_cases y : ce s = ce u
    · cases wr s <;> cases wr u <;> simp [x, y, tI]
    · simp [x, y, tI]
theorem cCs_loop (hP : P = 4 ∨ P = 7) (h : RPx I P n th ce wr) (hs : s < n) : ∀ d k, k + d = n → run mX6_conflictsOf (4, 0, 0, [.ref P, .int (nI s), .int (nI (bset (cfB th ce wr s) k)), .int (nI k)], [], cH I J pl st) = some (some (.int (nI (bset (cfB th ce wr s) n))), cH I J pl st) := by
  have hn := h.2.1
  intro d
  induction d with
  | zero =>
    intro k hk
    have : k = n := by omega
    subst this
    rw [bX6_conflictsOf_4 (hP := hP)]
    simp (disch := omega) only [nI_lt', nI_le', nI_eq', inb_nI, clp, nI_add, nI_mul', cond_true, cond_false, h.1, Nat.le_refl, if_true]
  | succ d ih =>
    intro k hk
    have ih' := ih (k + 1) (by omega)
    rw [bX6_conflictsOf_4 (hP := hP)]
    simp (disch := omega) only [nI_lt', nI_le', nI_eq', inb_nI, clp, nI_add, nI_mul', cond_true, cond_false, callK_some, Option.toList_some, Option.toList_none, List.cons_append, List.nil_append, h.1, cCf hP h hs (show k < n by omega), bX6_conflictsOf_18 (hP := hP), ite_tI]
    rw [if_neg (by omega)]
    cases hc : cfB th ce wr s k with
    | false =>
      simp only [Bool.false_eq_true, if_false]
      rw [bset_f hc]
      exact ih'
    | true =>
      simp only [if_true]
      rw [bset_t (by omega) hc]
      exact ih'
theorem cCs (hP : P = 4 ∨ P = 7) (h : RPx I P n th ce wr) (hs : s < n) : fX6_conflictsOf [.ref P, .int (nI s)] (cH I J pl st) = some (some (.int (nI (bset (cfB th ce wr s) n))), cH I J pl st) := by
  rw [eX6_conflictsOf (hP := hP)]
  exact cCs_loop hP h hs n 0 (by omega)
theorem cKd (hP : P = 4 ∨ P = 7) (h : RPx I P n th ce wr) (hs : s < n) (hu : u < n) : fX6_kindOf [.ref P, .int (nI s), .int (nI u)] (cH I J pl st) = some (some (.int (nI (kdN wr s u))), cH I J pl st) := by
  rw [eX6_kindOf (hP := hP)]
  simp (disch := omega) only [callK_some, Option.toList_some, Option.toList_none, List.cons_append, List.nil_append, cWr hP h hs, cWr hP h hu, bX6_kindOf_5 (hP := hP), bX6_kindOf_27 (hP := hP), bX6_kindOf_13 (hP := hP), ite_tI]
  unfold kdN
  cases wr s <;> cases wr u <;> rfl
theorem cMo (hP : P = 4 ∨ P = 7) (h : RPx I P n th ce wr) (hKl : K < 16) (hs : s < n) (hu : u < n) : fX6_mayOvertake [.ref P, .int (nI s), .int (nI u), .int (nI K)] (cH I J pl st) = some (some (.int (tI (!bdB ce wr K s u))), cH I J pl st) := by
  have hn := h.2.1
  obtain ⟨-, -, a4, a5⟩ := h.2.2.1 s hs
  obtain ⟨-, -, b4, b5⟩ := h.2.2.1 u hu
  have hk := kdN_lt wr s u
  rw [eX6_mayOvertake (hP := hP)]
  simp (disch := omega) only [nI_lt', nI_le', nI_eq', inb_nI, clp, nI_add, nI_mul', cond_true, cond_false, callK_some, Option.toList_some, Option.toList_none, List.cons_append, List.nil_append, cCe hP h hs, cCe hP h hu, cKd hP h hs hu, cHas, bX6_mayOvertake_5 (hP := hP), bX6_mayOvertake_10 (hP := hP), bX6_mayOvertake_20 (hP := hP), bX6_mayOvertake_23 (hP := hP), ite_tI]
  unfold bdB
  by_cases x : ce s = ce u
  · simp [x, tI]
  · rw [if_neg x]
    cases hq : K.testBit (kdN wr s u) <;> simp [x, tI]
theorem gb_step : ∀ s, s < 8 → ∀ g, g < 8 → s < g → nI (2 ^ g - 2 ^ (s + 1)) ||| (nI 1 <<< (nI g &&& 31)) = nI (2 ^ (g + 1) - 2 ^ (s + 1)) := by decide +kernel
theorem cGb_loop (hs : s < u) (hu : u < 8) {z : Value} : ∀ d g, g + d = u + 1 → s < g → run mX11_gapsBetween (6, 0, 0, [z, .int (nI u), .int (nI (2 ^ g - 2 ^ (s + 1))), .int (nI g)], [], cH I J pl st) = some (some (.int (nI (btw s u))), cH I J pl st) := by
  intro d
  induction d generalizing z with
  | zero =>
    intro g hg _
    have : g = u + 1 := by omega
    subst this
    rw [bX11_gapsBetween_6]
    simp (disch := omega) only [nI_lt', nI_le', nI_eq', inb_nI, clp, nI_add, nI_mul', cond_true, cond_false]
    rw [if_pos (by omega)]
    rfl
  | succ d ih =>
    intro g hg hsg
    rw [bX11_gapsBetween_6]
    simp (disch := omega) only [nI_lt', nI_le', nI_eq', inb_nI, clp, nI_add, nI_mul', cond_true, cond_false]
    rw [if_neg (by omega), if_neg (by omega), gb_step s (by omega) g (by omega) hsg]
    exact ih (g + 1) (by omega) (by omega)
theorem cGb (hs : s < u) (hu : u < 8) : fX11_gapsBetween [.int (nI s), .int (nI u)] (cH I J pl st) = some (some (.int (nI (btw s u))), cH I J pl st) := by
  rw [eX11_gapsBetween, nI_add]
  have := cGb_loop (I := I) (J := J) (pl := pl) (st := st) (z := .int (nI s)) hs hu (u - s) (s + 1) (by omega) (by omega)
  rw [Nat.sub_self] at this
  exact this
theorem cWt_loop (hP : P = 4 ∨ P = 7) (h : RPx I P n th ce wr) (hFl : F < 256) (hKl : K < 16) (hu : u < n) : ∀ d k (z : Value), k + d = u → run mX6_waitsOf (6, 0, 0, [.ref P, .int (nI u), .int (nI F), .int (nI K), .int (nI (bset (wtB th ce wr F K u) k)), .int (nI k), z], [], cH I J pl st) = some (some (.int (nI (bset (wtB th ce wr F K u) u))), cH I J pl st) := by
  have hn := h.2.1
  intro d
  induction d with
  | zero =>
    intro k z hk
    have : k = u := by omega
    subst this
    rw [bX6_waitsOf_6 (hP := hP)]
    simp (disch := omega) only [nI_lt', nI_le', nI_eq', inb_nI, clp, nI_add, nI_mul', cond_true, cond_false, Nat.le_refl, if_true]
  | succ d ih =>
    intro k z hk
    have hb := btw_lt k (by omega) u (by omega)
    have hlt : F &&& btw k u < 512 := and_lt hb
    have hku : k < u := by omega
    have hkn : k < n := by omega
    rw [bX6_waitsOf_6 (hP := hP)]
    simp (disch := omega) only [nI_lt', nI_le', nI_eq', inb_nI, clp, nI_add, nI_mul', cond_true, cond_false, callK_some, Option.toList_some, Option.toList_none, List.cons_append, List.nil_append, h.1, cGb hku (show u < 8 by omega), bX6_waitsOf_28 (hP := hP), and_nI, cAh hP h hkn hu, bX6_waitsOf_46 (hP := hP), ite_tI, cMo hP h hKl hkn hu, bX6_waitsOf_62 (hP := hP), if_true]
    rw [if_neg (by omega), if_neg (by omega)]
    cases ha : ahB th k u with
    | false =>
      have hf : wtB th ce wr F K u k = false := by unfold wtB; rw [ha]; rfl
      simp only [Bool.false_eq_true, if_false]
      rw [bset_f hf]
      split <;> exact ih (k + 1) _ (by omega)
    | true =>
      simp only [if_true]
      by_cases hz : F &&& btw k u = 0
      · rw [if_pos hz]
        cases hbd : bdB ce wr K k u with
        | true =>
          have hf : wtB th ce wr F K u k = true := by unfold wtB; rw [ha, hbd]; rfl
          simp only [Bool.not_true, Bool.false_eq_true, if_false]
          rw [bset_t (by omega) hf]
          exact ih (k + 1) _ (by omega)
        | false =>
          have hf : wtB th ce wr F K u k = false := by unfold wtB; rw [ha, hbd]; simp [hz]
          simp only [Bool.not_false, if_true]
          rw [bset_f hf]
          exact ih (k + 1) _ (by omega)
      · rw [if_neg hz]
        have hf : wtB th ce wr F K u k = true := by unfold wtB; rw [ha]; simp [hz]
        rw [bset_t (by omega) hf]
        rw [if_neg (by omega)]
        exact ih (k + 1) _ (by omega)
theorem cWt (hP : P = 4 ∨ P = 7) (h : RPx I P n th ce wr) (hFl : F < 256) (hKl : K < 16) (hu : u < n) : fX6_waitsOf [.ref P, .int (nI u), .int (nI F), .int (nI K)] (cH I J pl st) = some (some (.int (nI (bset (wtB th ce wr F K u) u))), cH I J pl st) := by
  rw [eX6_waitsOf (hP := hP)]
  exact cWt_loop hP h hFl hKl hu u 0 _ (by omega)
end CP
