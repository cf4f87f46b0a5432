/-! the class: settings copied, the round of settings -/
section CHI
variable {J : Nat → Nat → Int64} {pl st : Bool}
theorem oth_set {P : Nat} (h : P ∈ othL) : P ∈ setL := by
  revert P
  decide
theorem his_oth {P : Nat} (h : P ∈ hisL) : P ∈ othL := by
  revert P
  decide
theorem oth_lt {P : Nat} (h : P ∈ othL) : 19 ≤ P ∧ P ≤ 64 := by
  revert P
  decide
theorem cCo {I : Nat → Nat → Int32} {P g : Nat} (hP : P ∈ setL) (hg : g < 8) : fX9_costOf [.ref P, .int (nI g)] (cH I J pl st) = some (some (.int (I (P + 1) g)), cH I J pl st) := by
  rw [eX9_costOf (hP := hP)]
  simp (disch := omega) only [nI_lt', nI_le', nI_eq', inb_nI, clp, nI_add, nI_mul', cond_true, cond_false, Nat.not_lt_zero, if_false]
  rw [if_neg (by omega)]
theorem cCpT_loop {P : Nat} (hP : P ∈ othL) : ∀ d g (I : Nat → Nat → Int32), g + d = 8 → ∃ I' : Nat → Nat → Int32, run mX9_copy (2, 0, 0, [.ref P, .ref 15, .int (nI g)], [], cH I J pl st) = some (none, cH I' J pl st) ∧ (∀ p, p ≠ P → p ≠ P + 1 → I' p = I p) ∧ I' P = up1 (up1 (I P) 1 (I 15 1)) 2 (I 15 2) ∧ (∀ k, g ≤ k → k < 8 → I' (P + 1) k = I 16 k) ∧ ∀ k, k < g → I' (P + 1) k = I (P + 1) k := by
  have hb := oth_lt hP
  intro d
  induction d with
  | zero =>
    intro g I hg
    have : g = 8 := by omega
    subst this
    refine ⟨up2 (up2 I P 1 (I 15 1)) P 2 (I 15 2), ?_, fun p h1 _ => by rw [up2_ne h1, up2_ne h1], by rw [up2_eq, up2_eq], fun k h1 h2 => by omega, fun k _ => by rw [up2_ne (by omega), up2_ne (by omega)]⟩
    rw [bX9_copy_2_to (hP := hP)]
    simp (disch := omega) only [nI_lt', nI_le', nI_eq', inb_nI, clp, nI_add, nI_mul', cond_true, cond_false, Nat.le_refl, if_true]
  | succ d ih =>
    intro g I hg
    obtain ⟨I', e, a1, a2, a3, a4⟩ := ih (g + 1) (up2 I (P + 1) g (I 16 g)) (by omega)
    refine ⟨I', ?_, fun p h1 h2 => by rw [a1 p h1 h2, up2_ne h2], by rw [a2, up2_ne (by omega), up2_ne (by omega)], fun k h1 h2 => ?_, fun k hk => by rw [a4 k (by omega), up2_eq, up1_ne (by omega)]⟩
    · rw [bX9_copy_2_to (hP := hP)]
      simp (disch := omega) only [nI_lt', nI_le', nI_eq', inb_nI, clp, nI_add, nI_mul', cond_true, cond_false, callK_some, Option.toList_some, Option.toList_none, List.cons_append, List.nil_append, cCo (P := 15) (by decide), bX9_copy_21_to (hP := hP)]
      rw [if_neg (by omega)]
      exact e
    · by_cases q : k = g
      · rw [q, a4 g (by omega), up2_eq, up1_eq]
      · rw [a3 k (by omega) h2, up2_ne (by omega)]
theorem cCpT {I : Nat → Nat → Int32} {P : Nat} (hP : P ∈ othL) : ∃ I' : Nat → Nat → Int32, fX9_copy [.ref P, .ref 15] (cH I J pl st) = some (none, cH I' J pl st) ∧ (∀ p, p ≠ P → p ≠ P + 1 → I' p = I p) ∧ I' P 1 = I 15 1 ∧ I' P 2 = I 15 2 ∧ (∀ k, k ≠ 1 → k ≠ 2 → I' P k = I P k) ∧ ∀ g, g < 8 → I' (P + 1) g = I 16 g := by
  obtain ⟨I', e, a1, a2, a3, -⟩ := cCpT_loop (J := J) (pl := pl) (st := st) hP 8 0 I (by omega)
  refine ⟨I', by rw [eX9_copy_to (hP := hP)]; exact e, a1, by rw [a2, up1_ne (by decide), up1_eq], by rw [a2, up1_eq], fun k k1 k2 => by rw [a2, up1_ne k2, up1_ne k1], fun g hg => a3 g (Nat.zero_le g) hg⟩
theorem cCpF_loop {P : Nat} (hP : P ∈ othL) : ∀ d g (I : Nat → Nat → Int32), g + d = 8 → ∃ I' : Nat → Nat → Int32, run mX9_copy (2, 0, 0, [.ref 15, .ref P, .int (nI g)], [], cH I J pl st) = some (none, cH I' J pl st) ∧ (∀ p, p ≠ 15 → p ≠ 16 → I' p = I p) ∧ I' 15 = up1 (up1 (I 15) 1 (I P 1)) 2 (I P 2) ∧ (∀ k, g ≤ k → k < 8 → I' 16 k = I (P + 1) k) ∧ ∀ k, k < g → I' 16 k = I 16 k := by
  have hb := oth_lt hP
  intro d
  induction d with
  | zero =>
    intro g I hg
    have : g = 8 := by omega
    subst this
    refine ⟨up2 (up2 I 15 1 (I P 1)) 15 2 (I P 2), ?_, fun p h1 _ => by rw [up2_ne h1, up2_ne h1], by rw [up2_eq, up2_eq], fun k h1 h2 => by omega, fun k _ => by rw [up2_ne (by omega), up2_ne (by omega)]⟩
    rw [bX9_copy_2_of (hP := hP)]
    simp (disch := omega) only [nI_lt', nI_le', nI_eq', inb_nI, clp, nI_add, nI_mul', cond_true, cond_false, Nat.le_refl, if_true]
  | succ d ih =>
    intro g I hg
    obtain ⟨I', e, a1, a2, a3, a4⟩ := ih (g + 1) (up2 I 16 g (I (P + 1) g)) (by omega)
    refine ⟨I', ?_, fun p h1 h2 => by rw [a1 p h1 h2, up2_ne h2], by rw [a2, up2_ne (by decide), up2_ne (by omega)], fun k h1 h2 => ?_, fun k hk => by rw [a4 k (by omega), up2_eq, up1_ne (by omega)]⟩
    · rw [bX9_copy_2_of (hP := hP)]
      simp (disch := omega) only [nI_lt', nI_le', nI_eq', inb_nI, clp, nI_add, nI_mul', cond_true, cond_false, callK_some, Option.toList_some, Option.toList_none, List.cons_append, List.nil_append, cCo (oth_set hP), bX9_copy_21_of (hP := hP)]
      rw [if_neg (by omega)]
      exact e
    · by_cases q : k = g
      · rw [q, a4 g (by omega), up2_eq, up1_eq]
      · rw [a3 k (by omega) h2, up2_ne (by omega)]
theorem cCpF {I : Nat → Nat → Int32} {P : Nat} (hP : P ∈ othL) : ∃ I' : Nat → Nat → Int32, fX9_copy [.ref 15, .ref P] (cH I J pl st) = some (none, cH I' J pl st) ∧ (∀ p, p ≠ 15 → p ≠ 16 → I' p = I p) ∧ I' 15 1 = I P 1 ∧ I' 15 2 = I P 2 ∧ (∀ k, k ≠ 1 → k ≠ 2 → I' 15 k = I 15 k) ∧ ∀ g, g < 8 → I' 16 g = I (P + 1) g := by
  obtain ⟨I', e, a1, a2, a3, -⟩ := cCpF_loop (J := J) (pl := pl) (st := st) hP 8 0 I (by omega)
  refine ⟨I', by rw [eX9_copy_of (hP := hP)]; exact e, a1, by rw [a2, up1_ne (by decide), up1_eq], by rw [a2, up1_eq], fun k k1 k2 => by rw [a2, up1_ne k2, up1_ne k1], fun g hg => a3 g (Nat.zero_le g) hg⟩
end CHI
