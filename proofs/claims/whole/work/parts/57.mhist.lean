/-! the reference: what was, to be come back to -/
section MM
variable {J : Nat → Nat → Int64}
theorem mMk_c {m : Nat} (hm : m < 20) : ∀ d g (I : Nat → Nat → Int32), g + d = 8 → I 0 32 = nI m → ∃ I' : Nat → Nat → Int32, run mX12_marks (120, 0, 0, [.ref 0, .int (nI g)], [], mH I J) = some (none, mH I' J) ∧ I' 0 32 = nI (m + 1) ∧ I' 0 12 = nI 0 ∧ (∀ k, k ≠ 32 → k ≠ 12 → I' 0 k = I 0 k) ∧ (∀ p, p ≠ 0 → p ≠ 21 → I' p = I p) ∧ (∀ g', g ≤ g' → g' < 8 → I' 21 (8 * m + g') = I 4 g') ∧ ∀ j, j < 8 * m + g → I' 21 j = I 21 j := by
  intro d
  induction d with
  | zero =>
    intro g I hg h0
    have : g = 8 := by omega
    subst this
    refine ⟨up2 (up2 I 0 32 (nI (m + 1))) 0 12 (nI 0), ?_, by rw [up2_eq, up1_ne (by decide), up2_eq, up1_eq], by rw [up2_eq, up1_eq], fun k h1 h2 => by rw [up2_eq, up1_ne h2, up2_eq, up1_ne h1], fun p h1 _ => by rw [up2_ne h1, up2_ne h1], fun g' h1 h2 => by omega, fun j _ => by rw [up2_ne (by decide), up2_ne (by decide)]⟩
    rw [bX12_marks_120]
    simp (disch := omega) only [nI_lt', nI_le', nI_eq', inb_nI, clp, nI_add, nI_mul', cond_true, cond_false, h0, Nat.le_refl, if_true]
  | succ d ih =>
    intro g I hg h0
    obtain ⟨I', e, a1, a2, a3, a4, a5, a6⟩ := ih (g + 1) (up2 I 21 (8 * m + g) (I 4 g)) (by omega) (by rw [up2_ne (by decide)]; exact h0)
    refine ⟨I', ?_, a1, a2, fun k h1 h2 => by rw [a3 k h1 h2, up2_ne (by decide)], fun p h1 h2 => by rw [a4 p h1 h2, up2_ne h2], fun g' h1 h2 => ?_, fun j hj => by rw [a6 j (by omega), up2_eq, up1_ne (by omega)]⟩
    · rw [bX12_marks_120]
      simp (disch := omega) only [nI_lt', nI_le', nI_eq', inb_nI, clp, nI_add, nI_mul', cond_true, cond_false, h0]
      rw [if_neg (by omega)]
      exact e
    · by_cases q : g' = g
      · rw [q, a6 (8 * m + g) (by omega), up2_eq, up1_eq]
      · rw [a5 g' (by omega) h2, up2_ne (by decide)]
theorem mMk_s : ∀ d x (I : Nat → Nat → Int32), x + d = 160 → 8 ≤ x → I 0 32 = nI 20 → ∃ I' : Nat → Nat → Int32, run mX12_marks (54, 0, 0, [.ref 0, .int (nI x)], [], mH I J) = run mX12_marks (120, 0, 0, [.ref 0, .int (nI 0)], [], mH (up2 (up2 (up2 I' 0 32 (nI 19)) 19 19 (I' 0 6)) 20 19 (I' 0 7)) J) ∧ (∀ p, p ≠ 21 → I' p = I p) ∧ (∀ j, x - 8 ≤ j → j < 152 → I' 21 j = I 21 (j + 8)) ∧ ∀ j, j < x - 8 → I' 21 j = I 21 j := by
  intro d
  induction d with
  | zero =>
    intro x I hx h8 h0
    have : x = 160 := by omega
    subst this
    refine ⟨I, ?_, fun _ _ => rfl, fun j h1 h2 => by omega, fun _ _ => rfl⟩
    rw [bX12_marks_54]
    simp (disch := omega) only [nI_lt', nI_le', nI_eq', inb_nI, clp, nI_add, nI_mul', cond_true, cond_false, h0, sub1_nI, Nat.le_refl, if_true, up2_eq, up2_ne (show (0 : Nat) ≠ 19 by decide), up1_ne (show (6 : Nat) ≠ 32 by decide), up1_ne (show (7 : Nat) ≠ 32 by decide)]
  | succ d ih =>
    intro x I hx h8 h0
    obtain ⟨I', e, a1, a2, a3⟩ := ih (x + 1) (up2 I 21 (x - 8) (I 21 x)) (by omega) (by omega) (by rw [up2_ne (by decide)]; exact h0)
    refine ⟨I', ?_, fun p hp => by rw [a1 p hp, up2_ne hp], fun j h1 h2 => ?_, fun j hj => by rw [a3 j (by omega), up2_eq, up1_ne (by omega)]⟩
    · rw [bX12_marks_54]
      simp (disch := omega) only [nI_lt', nI_le', nI_eq', inb_nI, clp, nI_add, nI_mul', cond_true, cond_false, sub_nI]
      rw [if_neg (by omega)]
      exact e
    · by_cases q : j = x - 8
      · rw [q, a3 (x - 8) (by omega), up2_eq, up1_eq, show x - 8 + 8 = x by omega]
      · rw [a2 j (by omega) h2, up2_eq, up1_ne (by omega)]
theorem mMk_f : ∀ d x (I : Nat → Nat → Int32), x + d = 20 → 1 ≤ x → ∃ I' : Nat → Nat → Int32, run mX12_marks (11, 0, 0, [.ref 0, .int (nI x)], [], mH I J) = run mX12_marks (54, 0, 0, [.ref 0, .int (nI 8)], [], mH I' J) ∧ (∀ p, p ≠ 19 → p ≠ 20 → I' p = I p) ∧ (∀ j, x - 1 ≤ j → j < 19 → I' 19 j = I 19 (j + 1) ∧ I' 20 j = I 20 (j + 1)) ∧ ∀ j, j < x - 1 → I' 19 j = I 19 j ∧ I' 20 j = I 20 j := by
  intro d
  induction d with
  | zero =>
    intro x I hx h1
    have : x = 20 := by omega
    subst this
    refine ⟨I, ?_, fun _ _ _ => rfl, fun j h1 h2 => by omega, fun _ _ => ⟨rfl, rfl⟩⟩
    rw [bX12_marks_11]
    simp (disch := omega) only [nI_lt', nI_le', nI_eq', inb_nI, clp, nI_add, nI_mul', cond_true, cond_false, Nat.le_refl, if_true]
  | succ d ih =>
    intro x I hx h1
    obtain ⟨I', e, a1, a2, a3⟩ := ih (x + 1) (up2 (up2 I 19 (x - 1) (I 19 x)) 20 (x - 1) (I 20 x)) (by omega) (by omega)
    refine ⟨I', ?_, fun p hp hp2 => by rw [a1 p hp hp2, up2_ne hp2, up2_ne hp], fun j g1 g2 => ?_, fun j hj => ?_⟩
    · rw [bX12_marks_11]
      simp (disch := omega) only [nI_lt', nI_le', nI_eq', inb_nI, clp, nI_add, nI_mul', cond_true, cond_false, sub1_nI]
      rw [if_neg (by omega)]
      have e20 : up2 I 19 (x - 1) (I 19 x) 20 = I 20 := up2_ne (by decide)
      first
        | exact e
        | (rw [e20]; exact e)
    · by_cases q : j = x - 1
      · obtain ⟨b1, b2⟩ := a3 (x - 1) (by omega)
        rw [q, b1, b2, up2_ne (by decide), up2_eq, up1_eq, up2_eq, up1_eq, show x - 1 + 1 = x by omega]
        exact ⟨rfl, rfl⟩
      · obtain ⟨b1, b2⟩ := a2 j (by omega) g2
        rw [b1, b2, up2_ne (by decide), up2_eq, up1_ne (by omega), up2_eq, up1_ne (by omega), up2_ne (by decide)]
        exact ⟨rfl, rfl⟩
    · obtain ⟨b1, b2⟩ := a3 j (by omega)
      rw [b1, b2, up2_ne (by decide), up2_eq, up1_ne (by omega), up2_eq, up1_ne (by omega), up2_ne (by decide)]
      exact ⟨rfl, rfl⟩
/-- what marks leaves: entries moved by sh, the new one at m0 -/
theorem mMk {I : Nat → Nat → Int32} {m : Nat} (hm : m ≤ 20) (h0 : I 0 32 = nI m) : ∃ (I' : Nat → Nat → Int32) (m0 sh : Nat), fX12_marks [.ref 0] (mH I J) = some (none, mH I' J) ∧ m0 + sh = m ∧ m0 < 20 ∧ (sh = 0 ∨ (sh = 1 ∧ m = 20)) ∧ I' 0 32 = nI (m0 + 1) ∧ I' 0 12 = nI 0 ∧ (∀ k, k ≠ 32 → k ≠ 12 → I' 0 k = I 0 k) ∧ (∀ p, p ≠ 0 → p ≠ 19 → p ≠ 20 → p ≠ 21 → I' p = I p) ∧ (∀ i, i < m0 → I' 19 i = I 19 (i + sh) ∧ I' 20 i = I 20 (i + sh) ∧ ∀ g, g < 8 → I' 21 (8 * i + g) = I 21 (8 * (i + sh) + g)) ∧ I' 19 m0 = I 0 6 ∧ I' 20 m0 = I 0 7 ∧ ∀ g, g < 8 → I' 21 (8 * m0 + g) = I 4 g := by
  by_cases h20 : m = 20
  · subst h20
    obtain ⟨I1, e1, a1, a2, a3⟩ := mMk_f (J := J) 19 1 I (by omega) (by omega)
    obtain ⟨I2, e2, b1, b2, b3⟩ := mMk_s (J := J) 152 8 I1 (by omega) (by omega) (by rw [a1 0 (by decide) (by decide)]; exact h0)
    obtain ⟨I3, e3, c1, c2, c3, c4, c5, c6⟩ := mMk_c (J := J) (m := 19) (by decide) 8 0 (up2 (up2 (up2 I2 0 32 (nI 19)) 19 19 (I2 0 6)) 20 19 (I2 0 7)) (by omega) (by rw [up2_ne (by decide), up2_ne (by decide), up2_eq, up1_eq])
    have hz : ∀ k, k ≠ 32 → up2 (up2 (up2 I2 0 32 (nI 19)) 19 19 (I2 0 6)) 20 19 (I2 0 7) 0 k = I 0 k := fun k hk => by rw [up2_ne (by decide), up2_ne (by decide), up2_eq, up1_ne hk, b1 0 (by decide), a1 0 (by decide) (by decide)]
    have h26 : I2 0 6 = I 0 6 := by rw [b1 0 (by decide), a1 0 (by decide) (by decide)]
    have h27 : I2 0 7 = I 0 7 := by rw [b1 0 (by decide), a1 0 (by decide) (by decide)]
    refine ⟨I3, 19, 1, ?_, rfl, by decide, Or.inr ⟨rfl, rfl⟩, c1, c2, fun k k1 k2 => by rw [c3 k k1 k2, hz k k1], fun p p1 p2 p3 p4 => by rw [c4 p p1 p4, up2_ne p3, up2_ne p2, up2_ne p1, b1 p p4, a1 p p2 p3], fun i hi => ⟨?_, ?_, fun g hg => ?_⟩, ?_, ?_, fun g hg => ?_⟩
    · rw [eX12_marks, h0]
      simp (disch := omega) only [nI_lt', nI_le', nI_eq', inb_nI, clp, nI_add, nI_mul', cond_true, cond_false, if_true]
      rw [e1, e2, e3]
    · rw [c4 19 (by decide) (by decide), up2_ne (by decide), up2_eq, up1_ne (by omega), up2_ne (by decide), b1 19 (by decide), (a2 i (by omega) (by omega)).1]
    · rw [c4 20 (by decide) (by decide), up2_eq, up1_ne (by omega), up2_ne (by decide), up2_ne (by decide), b1 20 (by decide), (a2 i (by omega) (by omega)).2]
    · rw [c6 _ (by omega), up2_ne (by decide), up2_ne (by decide), up2_ne (by decide), b2 _ (by omega) (by omega), a1 21 (by decide) (by decide), show 8 * i + g + 8 = 8 * (i + 1) + g by omega]
    · rw [c4 19 (by decide) (by decide), up2_ne (by decide), up2_eq, up1_eq, h26]
    · rw [c4 20 (by decide) (by decide), up2_eq, up1_eq, h27]
    · rw [c5 g (Nat.zero_le g) hg, up2_ne (by decide), up2_ne (by decide), up2_ne (by decide), b1 4 (by decide), a1 4 (by decide) (by decide)]
  · obtain ⟨I3, e3, c1, c2, c3, c4, c5, c6⟩ := mMk_c (J := J) (m := m) (by omega) 8 0 (up2 (up2 I 19 m (I 0 6)) 20 m (I 0 7)) (by omega) (by rw [up2_ne (by decide), up2_ne (by decide)]; exact h0)
    refine ⟨I3, m, 0, ?_, rfl, by omega, Or.inl rfl, c1, c2, fun k k1 k2 => by rw [c3 k k1 k2, up2_ne (by decide), up2_ne (by decide)], fun p p1 p2 p3 p4 => by rw [c4 p p1 p4, up2_ne p3, up2_ne p2], fun i hi => ⟨?_, ?_, fun g hg => ?_⟩, ?_, ?_, fun g hg => ?_⟩
    · rw [eX12_marks, h0]
      simp (disch := omega) only [nI_lt', nI_le', nI_eq', inb_nI, clp, nI_add, nI_mul', cond_true, cond_false]
      rw [if_neg h20]
      exact e3
    · rw [c4 19 (by decide) (by decide), up2_ne (by decide), up2_eq, up1_ne (by omega)]; rfl
    · rw [c4 20 (by decide) (by decide), up2_eq, up1_ne (by omega), up2_ne (by decide)]; rfl
    · rw [c6 _ (by omega), up2_ne (by decide), up2_ne (by decide)]; rfl
    · rw [c4 19 (by decide) (by decide), up2_ne (by decide), up2_eq, up1_eq]
    · rw [c4 20 (by decide) (by decide), up2_eq, up1_eq]
    · rw [c5 g (Nat.zero_le g) hg, up2_ne (by decide), up2_ne (by decide)]
end MM
