/-! the reference: steps, conflicts, waits -/
def RPm (I : Nat → Nat → Int32) (n : Nat) (th ce : Nat → Nat) (wr : Nat → Bool) : Prop := I 0 1 = nI n ∧ n ≤ 8 ∧ ∀ s, s < n → I 1 s = nI (th s) ∧ I 2 s = nI (ce s) ∧ I 3 s = tI (wr s) ∧ th s < 3 ∧ ce s < 3
theorem RPm.cong {I I' : Nat → Nat → Int32} {n : Nat} {th ce : Nat → Nat} {wr : Nat → Bool} (h : RPm I n th ce wr) (h0 : I' 0 1 = I 0 1) (h1 : I' 1 = I 1) (h2 : I' 2 = I 2) (h3 : I' 3 = I 3) : RPm I' n th ce wr := by
  refine ⟨h0.trans h.1, h.2.1, fun s hs => ?_⟩
  rw [h1, h2, h3]
  exact h.2.2 s hs
section MP
variable {I : Nat → Nat → Int32} {J : Nat → Nat → Int64} {n : Nat} {th ce : Nat → Nat} {wr : Nat → Bool} {s u F K : Nat}
theorem mAh (h : RPm I n th ce wr) (hs : s < n) (hu : u < n) : fX12_isAhead [.ref 0, .int (nI s), .int (nI u)] (mH I J) = some (some (.int (tI (ahB th s u))), mH I J) := by
  have hn := h.2.1
  obtain ⟨a1, -, -, a4, -⟩ := h.2.2 s hs
  obtain ⟨b1, -, -, b4, -⟩ := h.2.2 u hu
  rw [eX12_isAhead]
  simp (disch := omega) only [nI_lt', nI_le', nI_eq', inb_nI, clp, nI_add, nI_mul', cond_true, cond_false, a1, b1]
  unfold ahB
  by_cases x : s < u
  · rw [if_neg (by omega)]
    by_cases y : th s = th u <;> simp [x, y, tI]
  · rw [if_pos (by omega)]; simp [x, tI]
theorem hasM : ∀ k, k < 31 → ∀ {F : Nat}, F < 2147483648 → (nI F >>> (nI k &&& 31)) &&& nI 1 = nI (F.testBit k).toNat := by
  intro k hk F hF
  have e : nI F >>> (nI k &&& 31) = nI (F / 2 ^ k) := pk_shrN hF (nI k &&& 31) k (s_l k (by omega))
  rw [e, and_nI]
  congr 1
  rw [Nat.testBit_eq_decide_div_mod_eq, Nat.and_one_is_mod]
  rcases Nat.mod_two_eq_zero_or_one (F / 2 ^ k) with z | z <;> simp [z]
theorem mHas (hF : F < 2147483648) {k : Nat} (hk : k < 31) : fX12_has [.int (nI F), .int (nI k)] (mH I J) = some (some (.int (tI (F.testBit k))), mH I J) := by
  rw [eX12_has, hasM k hk hF]
  cases F.testBit k <;> rfl
theorem mKind (h : RPm I n th ce wr) (hs : s < n) (hu : u < n) : fX12_kind [.ref 0, .int (nI s), .int (nI u)] (mH I J) = some (some (.int (nI (kdN wr s u))), mH I J) := by
  have hn := h.2.1
  obtain ⟨-, -, a3, -⟩ := h.2.2 s hs
  obtain ⟨-, -, b3, -⟩ := h.2.2 u hu
  rw [eX12_kind]
  simp (disch := omega) only [nI_lt', nI_le', nI_eq', inb_nI, clp, nI_add, nI_mul', cond_true, cond_false, a3, b3, ite_tI]
  unfold kdN
  cases wr s <;> cases wr u <;> rfl
theorem mBd (h : RPm I n th ce wr) (hK : I 0 7 = nI K) (hKl : K < 16) (hs : s < n) (hu : u < n) : fX12_isBound [.ref 0, .int (nI s), .int (nI u)] (mH I J) = some (some (.int (tI (bdB ce wr K s u))), mH I J) := by
  have hn := h.2.1
  obtain ⟨-, a2, -, -, a5⟩ := h.2.2 s hs
  obtain ⟨-, b2, -, -, b5⟩ := h.2.2 u hu
  have hk := kdN_lt wr s u
  rw [eX12_isBound]
  simp (disch := omega) only [nI_lt', nI_le', nI_eq', inb_nI, clp, nI_add, nI_mul', cond_true, cond_false, callK_some, Option.toList_some, Option.toList_none, List.cons_append, List.nil_append, a2, b2, mKind h hs hu, bX12_isBound_25, hK, mHas, bX12_isBound_28, ite_tI]
  unfold bdB
  by_cases x : ce s = ce u
  · simp [x, tI]
  · rw [if_neg x]
    cases hq : K.testBit (kdN wr s u) <;> simp [x, tI]
theorem btw_I : ∀ s, s < 8 → ∀ u, u < 8 → s < u → (nI 1 <<< ((nI u + nI 1) &&& 31)) - (nI 1 <<< ((nI s + nI 1) &&& 31)) = nI (btw s u) := by decide +kernel
theorem btw_lt : ∀ s, s < 8 → ∀ u, u < 8 → btw s u < 512 := by decide +kernel
theorem mBtw (hs : s < u) (hu : u < 8) : fX12_between [.int (nI s), .int (nI u)] (mH I J) = some (some (.int (nI (btw s u))), mH I J) := by
  rw [eX12_between, btw_I s (by omega) u hu hs]
theorem and_lt {a b m : Nat} (h : b < m) : a &&& b < m := Nat.lt_of_le_of_lt Nat.and_le_right h
theorem mWt_loop (h : RPm I n th ce wr) (hF : I 0 6 = nI F) (hK : I 0 7 = nI K) (hKl : K < 16) (hu : u < n) : ∀ d k, k + d = u → run mX12_waits (4, 0, 0, [.ref 0, .int (nI u), .int (nI (bset (wtB th ce wr F K u) k)), .int (nI k)], [], mH I J) = some (some (.int (nI (bset (wtB th ce wr F K u) u))), mH I J) := by
  have hn := h.2.1
  intro d
  induction d with
  | zero =>
    intro k hk
    have : k = u := by omega
    subst this
    rw [bX12_waits_4]
    simp (disch := omega) only [nI_lt', nI_le', nI_eq', inb_nI, clp, nI_add, nI_mul', cond_true, cond_false, Nat.le_refl, if_true]
  | succ d ih =>
    intro k hk
    have hb := btw_lt k (by omega) u (by omega)
    have ih' := ih (k + 1) (by omega)
    rw [bX12_waits_4]
    simp (disch := omega) only [nI_lt', nI_le', nI_eq', inb_nI, clp, nI_add, nI_mul', cond_true, cond_false, callK_some, Option.toList_some, Option.toList_none, List.cons_append, List.nil_append, mAh h (show k < n by omega) hu, bX12_waits_15, ite_tI]
    rw [if_neg (by omega)]
    cases ha : ahB th k u with
    | false =>
      have hf : wtB th ce wr F K u k = false := by unfold wtB; rw [ha]; rfl
      rw [bset_f hf]
      exact ih'
    | true =>
      have hku : k < u := by omega
      simp (disch := omega) only [if_true, callK_some, Option.toList_some, Option.toList_none, List.cons_append, List.nil_append, nI_add, mBd h hK hKl (show k < n by omega) hu, bX12_waits_24, ite_tI]
      cases hbd : bdB ce wr K k u with
      | true =>
        have hf : wtB th ce wr F K u k = true := by unfold wtB; rw [ha, hbd]; rfl
        simp only [if_true]
        rw [bset_t (by omega) hf]
        exact ih'
      | false =>
        have hlt : F &&& btw k u < 512 := and_lt hb
        simp (disch := omega) only [Bool.false_eq_true, if_false, callK_some, Option.toList_some, Option.toList_none, List.cons_append, List.nil_append, nI_add, mBtw, bX12_waits_36, hF, and_nI, nI_eq']
        by_cases hz : F &&& btw k u = 0
        · have hf : wtB th ce wr F K u k = false := by unfold wtB; rw [ha, hbd]; simp [hz]
          rw [if_pos hz, bset_f hf]
          exact ih'
        · have hf : wtB th ce wr F K u k = true := by unfold wtB; rw [ha, hbd]; simp [hz]
          rw [if_neg hz, bset_t (by omega) hf]
          exact ih'
theorem mWt (h : RPm I n th ce wr) (hF : I 0 6 = nI F) (hK : I 0 7 = nI K) (hKl : K < 16) (hu : u < n) : fX12_waits [.ref 0, .int (nI u)] (mH I J) = some (some (.int (nI (bset (wtB th ce wr F K u) u))), mH I J) := by
  rw [eX12_waits]
  exact mWt_loop h hF hK hKl hu u 0 (by omega)
theorem mCf (h : RPm I n th ce wr) (hs : s < n) (hu : u < n) : fX12_isConflict [.ref 0, .int (nI s), .int (nI u)] (mH I J) = some (some (.int (tI (cfB th ce wr s u))), mH I J) := by
  have hn := h.2.1
  obtain ⟨a1, a2, a3, a4, a5⟩ := h.2.2 s hs
  obtain ⟨b1, b2, b3, b4, b5⟩ := h.2.2 u hu
  rw [eX12_isConflict]
  simp (disch := omega) only [nI_lt', nI_le', nI_eq', inb_nI, clp, nI_add, nI_mul', cond_true, cond_false, a1, b1, a2, b2, a3, b3, ite_tI]
  unfold cfB
  by_cases x : th s = th u
  · simp [x, tI]
  · by_cases y : ce s = ce u
    · cases wr s <;> cases wr u <;> simp [x, y, tI]
    · simp [x, y, tI]
theorem mCs_loop (h : RPm I n th ce wr) (hs : s < n) : ∀ d k, k + d = n → run mX12_conflicts (4, 0, 0, [.ref 0, .int (nI s), .int (nI (bset (cfB th ce wr s) k)), .int (nI k)], [], mH I J) = some (some (.int (nI (bset (cfB th ce wr s) n))), mH I J) := by
  have hn := h.2.1
  intro d
  induction d with
  | zero =>
    intro k hk
    have : k = n := by omega
    subst this
    rw [bX12_conflicts_4]
    simp (disch := omega) only [nI_lt', nI_le', nI_eq', inb_nI, clp, nI_add, nI_mul', cond_true, cond_false, h.1, Nat.le_refl, if_true]
  | succ d ih =>
    intro k hk
    have ih' := ih (k + 1) (by omega)
    rw [bX12_conflicts_4]
    simp (disch := omega) only [nI_lt', nI_le', nI_eq', inb_nI, clp, nI_add, nI_mul', cond_true, cond_false, callK_some, Option.toList_some, Option.toList_none, List.cons_append, List.nil_append, h.1, mCf h hs (show k < n by omega), bX12_conflicts_19, ite_tI]
    rw [if_neg (by omega)]
    cases hc : cfB th ce wr s k with
    | false =>
      simp only [Bool.false_eq_true, if_false]
      rw [bset_f0 hc]
      exact ih'
    | true =>
      simp only [if_true]
      rw [bset_t (by omega) hc]
      exact ih'
theorem mCs (h : RPm I n th ce wr) (hs : s < n) : fX12_conflicts [.ref 0, .int (nI s)] (mH I J) = some (some (.int (nI (bset (cfB th ce wr s) n))), mH I J) := by
  rw [eX12_conflicts]
  exact mCs_loop h hs n 0 (by omega)
end MP
