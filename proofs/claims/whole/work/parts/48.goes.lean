/-! the reference goes through all orders -/
/-- what can be read at the end -/
def fin (ce : Nat → Nat) (wr : Nat → Bool) (n : Nat) (W : Nat → Nat) : Nat → Sg → Nat → Prop
  | 0, g, v => v = g.R
  | d + 1, g, v => ∃ s, s < n ∧ enB W g.D s = true ∧ fin ce wr n W d (sgN ce wr n g s) v
def finF (ce : Nat → Nat) (wr : Nat → Bool) (n : Nat) (W : Nat → Nat) (d : Nat) (g : Sg) (s0 v : Nat) : Prop := ∃ s, s0 ≤ s ∧ s < n ∧ enB W g.D s = true ∧ fin ce wr n W d (sgN ce wr n g s) v
theorem adn_or {D s : Nat} (hD : D < 4294967296) (hs : s < 32) (h : D.testBit s = false) : adn (D ||| 2 ^ s) (2 ^ s) = D := by
  apply Nat.eq_of_testBit_eq
  intro i
  have h2 : D ||| 2 ^ s < 4294967296 := Nat.or_lt_two_pow (n := 32) hD (Nat.pow_lt_pow_right (by decide) hs)
  rw [adn_bit h2, Nat.testBit_or, pow_bit]
  by_cases e : s = i
  · subst e; rw [h]; simp
  · rw [decide_eq_false e]; simp
/-- what stays as it was, above a depth -/
def frm (P k : Nat) (I I' : Nat → Nat → Int32) : Prop := (∀ p, p ≠ P → p ≠ 8 → p ≠ 9 → p ≠ 10 → p ≠ 11 → I' p = I p) ∧ (∀ j, j < k → I' 8 j = I 8 j) ∧ (∀ j, j < k → I' 9 j = I 9 j) ∧ (∀ j, j < k + 1 → I' 10 j = I 10 j) ∧ (∀ j, j < 3 * k + 3 → I' 11 j = I 11 j)
theorem frm_refl (P k : Nat) (I : Nat → Nat → Int32) : frm P k I I := ⟨fun _ _ _ _ _ _ => rfl, fun _ _ => rfl, fun _ _ => rfl, fun _ _ => rfl, fun _ _ => rfl⟩
theorem frm_trans {P k : Nat} {I I1 I2 : Nat → Nat → Int32} (h : frm P k I I1) (h' : frm P k I1 I2) : frm P k I I2 :=
  ⟨fun p a b c d e => (h'.1 p a b c d e).trans (h.1 p a b c d e), fun j hj => (h'.2.1 j hj).trans (h.2.1 j hj), fun j hj => (h'.2.2.1 j hj).trans (h.2.2.1 j hj), fun j hj => (h'.2.2.2.1 j hj).trans (h.2.2.2.1 j hj), fun j hj => (h'.2.2.2.2 j hj).trans (h.2.2.2.2 j hj)⟩
theorem frm_up {P k : Nat} {I I1 : Nat → Nat → Int32} (h : frm P (k + 1) I I1) : frm P k I I1 :=
  ⟨h.1, fun j hj => h.2.1 j (by omega), fun j hj => h.2.2.1 j (by omega), fun j hj => h.2.2.2.1 j (by omega), fun j hj => h.2.2.2.2 j (by omega)⟩
section GO
variable {J : Nat → Nat → Int64} {n P : Nat} {th ce : Nat → Nat} {wr : Nat → Bool} {W : Nat → Nat} {T : Nat → Prop}
/-- a depth is laid -/
def lyd (P n : Nat) (th ce : Nat → Nat) (wr : Nat → Bool) (W : Nat → Nat) (T : Nat → Prop) (k : Nat) (g : Sg) (I : Nat → Nat → Int32) (m : Nat) (S : Nat → Prop) : Prop := RPm I n th ce wr ∧ (∀ s, s < n → I 7 s = nI (W s)) ∧ dpt I k g ∧ SR (I P) m S ∧ sgO n k g ∧ (∀ v, S v → T v) ∧ ∀ v, fin ce wr n W (n - k) g v → T v
theorem RPm.fr {I I' : Nat → Nat → Int32} {k : Nat} (hP : P = 5 ∨ P = 6) (h : RPm I n th ce wr) (f : frm P k I I') : RPm I' n th ce wr := by
  refine h.cong ?_ ?_ ?_ ?_
  · rw [f.1 0 (by omega) (by decide) (by decide) (by decide) (by decide)]
  · exact f.1 1 (by omega) (by decide) (by decide) (by decide) (by decide)
  · exact f.1 2 (by omega) (by decide) (by decide) (by decide) (by decide)
  · exact f.1 3 (by omega) (by decide) (by decide) (by decide) (by decide)
/-- one depth: from its first pointer to the way back -/
def goD (J : Nat → Nat → Int64) (P n : Nat) (th ce : Nat → Nat) (wr : Nat → Bool) (W : Nat → Nat) (T : Nat → Prop) (d k : Nat) : Prop :=
  ∀ (g : Sg) (I : Nat → Nat → Int32) (m : Nat) (S : Nat → Prop) (z2 z6 : Value), lyd P n th ce wr W T k g I m S → (k < n → I 8 k = nI 0) → ∃ (I' : Nat → Nat → Int32) (m' : Nat) (z : Value), run mX12_goes (54, 0, 0, [.ref 0, .ref P, z2, .int (nI m), .int (nI g.D), .int (nI k), z6], [], mH I J) = run mX12_goes (118, 0, 0, [.ref 0, .ref P, .null, .int (nI m'), .int (nI g.D), .int (nI k + Int32.ofInt (-1)), z], [], mH I' J) ∧ SR (I' P) m' (fun v => S v ∨ fin ce wr n W d g v) ∧ frm P k I I'
theorem goD_end (hP : P = 5 ∨ P = 6) (hcap : ∀ A m S', SR A m S' → (∀ v, S' v → T v) → m < 1024) : goD J P n th ce wr W T 0 n := by
  intro g I m S z2 z6 h _
  obtain ⟨h1, h2, h3, h4, h5, h6, h7⟩ := h
  have hn := h1.2.1
  have hR : g.R < 2147483648 := by have := h5.2.2; have : n * 38263752 ≤ 8 * 38263752 := Nat.mul_le_mul_right _ hn; omega
  have hm := hcap _ _ _ h4 h6
  obtain ⟨I', m', e, f1, f2⟩ := mCo (J := J) hP hm hR h4
  have f : frm P n I I' := ⟨fun p a _ _ _ _ => f1 p a, fun j _ => by rw [f1 8 (by omega)], fun j _ => by rw [f1 9 (by omega)], fun j _ => by rw [f1 10 (by omega)], fun j _ => by rw [f1 11 (by omega)]⟩
  have h1' := h1.fr hP f
  refine ⟨I', m', .int (nI n), ?_, f2, f⟩
  rw [bX12_goes_54 (hP := hP), h1.1]
  simp (disch := omega) only [nI_lt', nI_le', nI_eq', inb_nI, clp, nI_add, nI_mul', cond_true, cond_false, callK_some, Option.toList_some, Option.toList_none, List.cons_append, List.nil_append, h3.1, e, bX12_goes_80 (hP := hP), Nat.not_lt_zero, if_false, if_true]
  rw [bX12_goes_81 (hP := hP), h1'.1]
  simp (disch := omega) only [nI_lt', nI_le', nI_eq', inb_nI, clp, nI_add, nI_mul', cond_true, cond_false, if_true]
  rw [bX12_goes_104 (hP := hP), h1'.1]
  simp (disch := omega) only [nI_lt', nI_le', nI_eq', inb_nI, clp, nI_add, nI_mul', cond_true, cond_false, if_true]
theorem goD_in (hP : P = 5 ∨ P = 6) (hW : ∀ s, s < n → W s < 256) {d k : Nat} (hk : k + (d + 1) = n) (ih : goD J P n th ce wr W T d (k + 1)) : ∀ e s0 (g : Sg) (I : Nat → Nat → Int32) (m : Nat) (S : Nat → Prop) (z2 z6 : Value), s0 + e = n → lyd P n th ce wr W T k g I m S → I 8 k = nI s0 → ∃ (I' : Nat → Nat → Int32) (m' : Nat) (z : Value), run mX12_goes (54, 0, 0, [.ref 0, .ref P, z2, .int (nI m), .int (nI g.D), .int (nI k), z6], [], mH I J) = run mX12_goes (118, 0, 0, [.ref 0, .ref P, .null, .int (nI m'), .int (nI g.D), .int (nI k + Int32.ofInt (-1)), z], [], mH I' J) ∧ SR (I' P) m' (fun v => S v ∨ finF ce wr n W d g s0 v) ∧ frm P k I I' := by
  intro e
  induction e with
  | zero =>
    intro s0 g I m S z2 z6 hs h h8
    obtain ⟨h1, h2, h3, h4, h5, h6, h7⟩ := h
    have hn := h1.2.1
    have : s0 = n := by omega
    subst this
    refine ⟨I, m, .int (nI s0), ?_, SR_iff h4 (fun v => ⟨Or.inl, fun q => ?_⟩), frm_refl _ _ _⟩
    · rw [bX12_goes_54 (hP := hP), h1.1]
      simp (disch := omega) only [nI_lt', nI_le', nI_eq', inb_nI, clp, nI_add, nI_mul', cond_true, cond_false, Nat.not_lt_zero, if_false]
      rw [if_neg (by omega), bX12_goes_81 (hP := hP), h1.1]
      simp (disch := omega) only [nI_lt', nI_le', nI_eq', inb_nI, clp, nI_add, nI_mul', cond_true, cond_false]
      rw [if_neg (by omega), h8, bX12_goes_104 (hP := hP), h1.1]
      simp (disch := omega) only [nI_lt', nI_le', nI_eq', inb_nI, clp, nI_add, nI_mul', cond_true, cond_false, if_true]
    · rcases q with q | ⟨s, q1, q2, -⟩
      · exact q
      · omega
  | succ e ihe =>
    intro s0 g I m S z2 z6 hs h h8
    obtain ⟨h1, h2, h3, h4, h5, h6, h7⟩ := h
    have hn := h1.2.1
    have hD : g.D < 256 := Nat.lt_of_lt_of_le h5.1 (Nat.pow_le_pow_right (by decide) hn)
    have hs0 : s0 < n := by omega
    have f1 : frm P k I (up2 I 8 k (nI (s0 + 1))) := ⟨fun p _ a _ _ _ => up2_ne a, fun j hj => by rw [up2_eq, up1_ne (by omega)], fun j _ => by rw [up2_ne (by decide)], fun j _ => by rw [up2_ne (by decide)], fun j _ => by rw [up2_ne (by decide)]⟩
    have r1 := h1.fr hP f1
    have w1 : ∀ s, s < n → up2 I 8 k (nI (s0 + 1)) 7 s = nI (W s) := fun s q => by rw [up2_ne (by decide)]; exact h2 s q
    have t1 : dpt (up2 I 8 k (nI (s0 + 1))) k g := ⟨by rw [up2_ne (by decide)]; exact h3.1, fun c hc => by rw [up2_ne (by decide)]; exact h3.2 c hc⟩
    have q1 : SR (up2 I 8 k (nI (s0 + 1)) P) m S := by rw [up2_ne (by omega)]; exact h4
    have e1 : run mX12_goes (54, 0, 0, [.ref 0, .ref P, z2, .int (nI m), .int (nI g.D), .int (nI k), z6], [], mH I J) = run mX12_goes (164, 0, 0, [.ref 0, .ref P, .null, .int (nI m), .int (nI g.D), .int (nI k), .int (nI s0)], [.int (tI (g.D.testBit s0))], mH (up2 I 8 k (nI (s0 + 1))) J) := by
      rw [bX12_goes_54 (hP := hP), h1.1]
      simp (disch := omega) only [nI_lt', nI_le', nI_eq', inb_nI, clp, nI_add, nI_mul', cond_true, cond_false, Nat.not_lt_zero, if_false]
      rw [if_neg (by omega), bX12_goes_81 (hP := hP), h1.1]
      simp (disch := omega) only [nI_lt', nI_le', nI_eq', inb_nI, clp, nI_add, nI_mul', cond_true, cond_false]
      rw [if_neg (by omega), h8, bX12_goes_104 (hP := hP), h1.1]
      simp (disch := omega) only [nI_lt', nI_le', nI_eq', inb_nI, clp, nI_add, nI_mul', cond_true, cond_false]
      rw [if_neg (by omega), bX12_goes_146 (hP := hP)]
      simp (disch := omega) only [nI_lt', nI_le', nI_eq', inb_nI, clp, nI_add, nI_mul', cond_true, cond_false, callK_some, Option.toList_some, Option.toList_none, List.cons_append, List.nil_append, h8, mHas]
    rw [e1, bX12_goes_164 (hP := hP)]
    simp (disch := omega) only [ite_tI, nI_lt', nI_le', nI_eq', inb_nI, clp, nI_add, nI_mul', cond_true, cond_false, w1 s0 hs0, adn_I]
    by_cases hen : enB W g.D s0 = true
    · have hen' := hen
      unfold enB at hen'
      rw [Bool.and_eq_true, Bool.not_eq_true', decide_eq_true_eq] at hen'
      rw [hen'.1, hen'.2]
      simp only [Bool.false_eq_true, if_false, if_true]
      obtain ⟨I2, e2, o2, p2, a2, b2, c2⟩ := mDo (J := J) r1 hs0 (show k < n by omega) t1
      have r2 : RPm I2 n th ce wr := r1.cong (by rw [o2 0 (by decide) (by decide) (by decide)]) (o2 1 (by decide) (by decide) (by decide)) (o2 2 (by decide) (by decide) (by decide)) (o2 3 (by decide) (by decide) (by decide))
      have hce := (r2.2.2 s0 hs0).2.2.2.2
      have f3 : frm P k I (up2 I2 8 (k + 1) (nI 0)) := by
        refine ⟨fun p x1 x2 x3 x4 x5 => by rw [up2_ne x2, o2 p x3 x4 x5, up2_ne x2], fun j hj => ?_, fun j hj => ?_, fun j hj => ?_, fun j hj => ?_⟩
        · rw [up2_eq, up1_ne (by omega), o2 8 (by decide) (by decide) (by decide), up2_eq, up1_ne (by omega)]
        · rw [up2_ne (by decide), p2, up1_ne (by omega), up2_ne (by decide)]
        · rw [up2_ne (by decide), a2 j hj, up2_ne (by decide)]
        · rw [up2_ne (by decide), b2 j hj, up2_ne (by decide)]
      have l3 : lyd P n th ce wr W T (k + 1) (sgN ce wr n g s0) (up2 I2 8 (k + 1) (nI 0)) m S := by
        refine ⟨h1.fr hP f3, fun s q => ?_, ⟨by rw [up2_ne (by decide)]; exact c2.1, fun c hc => by rw [up2_ne (by decide)]; exact c2.2 c hc⟩, ?_, sgO_N hn hs0 hce h5, h6, fun v hv => h7 v ?_⟩
        · rw [f3.1 7 (by omega) (by decide) (by decide) (by decide) (by decide)]; exact h2 s q
        · rw [up2_ne (by omega), o2 P (by omega) (by omega) (by omega)]; exact q1
        · rw [show n - k = (n - (k + 1)) + 1 by omega]
          exact ⟨s0, hs0, hen, hv⟩
      obtain ⟨I4, m4, z4, e4, s4, f4⟩ := ih (sgN ce wr n g s0) (up2 I2 8 (k + 1) (nI 0)) m S .null (.int (nI s0)) l3 (fun _ => by rw [up2_eq, up1_eq])
      have f4' := frm_up f4
      have fI4 := frm_trans f3 f4'
      have hp4 : I4 9 k = nI s0 := by rw [f4.2.2.1 k (by omega), up2_ne (by decide), p2, up1_eq]
      have h84 : I4 8 k = nI (s0 + 1) := by rw [f4.2.1 k (by omega), up2_eq, up1_ne (by omega), o2 8 (by decide) (by decide) (by decide), up2_eq, up1_eq]
      have hd4 : (sgN ce wr n g s0).D = g.D ||| 2 ^ s0 := rfl
      have hlt : g.D ||| 2 ^ s0 < 256 := by
        have : g.D ||| 2 ^ s0 < 2 ^ 8 := Nat.or_lt_two_pow hD (Nat.pow_lt_pow_right (by decide) (by omega))
        exact this
      have l4 : lyd P n th ce wr W T k g I4 m4 (fun v => S v ∨ fin ce wr n W d (sgN ce wr n g s0) v) := by
        refine ⟨h1.fr hP fI4, fun s q => ?_, ⟨?_, fun c hc => ?_⟩, s4, h5, fun v hv => ?_, h7⟩
        · rw [fI4.1 7 (by omega) (by decide) (by decide) (by decide) (by decide)]; exact h2 s q
        · rw [fI4.2.2.2.1 k (by omega)]; exact h3.1
        · rw [fI4.2.2.2.2 _ (by omega)]; exact h3.2 c hc
        · rcases hv with hv | hv
          · exact h6 v hv
          · apply h7
            rw [show n - k = d + 1 by omega]
            exact ⟨s0, hs0, hen, hv⟩
      obtain ⟨I5, m5, z5, e5, s5, f5⟩ := ihe (s0 + 1) g I4 m4 _ .null .null (by omega) l4 h84
      refine ⟨I5, m5, z5, ?_, SR_iff s5 (fun v => ?_), frm_trans fI4 f5⟩
      · rw [e2]
        simp (disch := omega) only [callK_some, Option.toList_some, Option.toList_none, List.cons_append, List.nil_append, bX12_goes_190 (hP := hP), nI_lt', nI_le', nI_eq', inb_nI, clp, nI_add, nI_mul', cond_true, cond_false, shl_nI, or_nI]
        rw [← hd4, e4, bX12_goes_118 (hP := hP), m1_nI]
        simp (disch := omega) only [nI_lt', nI_le', nI_eq', inb_nI, clp, nI_add, nI_mul', cond_true, cond_false, Nat.zero_le, if_true]
        rw [bX12_goes_129 (hP := hP)]
        simp (disch := omega) only [nI_lt', nI_le', nI_eq', inb_nI, clp, nI_add, nI_mul', cond_true, cond_false, hp4, shl_nI]
        rw [bX12_goes_140 (hP := hP), hd4, adn_I, adn_or (by omega) (by omega) hen'.1]
        exact e5
      · constructor
        · rintro ((q | q) | ⟨s, q1, q2, q3⟩)
          · exact Or.inl q
          · exact Or.inr ⟨s0, Nat.le_refl s0, hs0, hen, q⟩
          · exact Or.inr ⟨s, by omega, q2, q3⟩
        · rintro (q | ⟨s, q1, q2, q3, q4⟩)
          · exact Or.inl (Or.inl q)
          · by_cases w : s = s0
            · subst w; exact Or.inl (Or.inr q4)
            · exact Or.inr ⟨s, by omega, q2, q3, q4⟩
    · have hsk : ∀ v, (S v ∨ finF ce wr n W d g (s0 + 1) v) ↔ (S v ∨ finF ce wr n W d g s0 v) := by
        intro v
        constructor
        · rintro (q | ⟨s, q1, q2, q3⟩)
          · exact Or.inl q
          · exact Or.inr ⟨s, by omega, q2, q3⟩
        · rintro (q | ⟨s, q1, q2, q3, q4⟩)
          · exact Or.inl q
          · by_cases w : s = s0
            · subst w; exact absurd q3 hen
            · exact Or.inr ⟨s, by omega, q2, q3, q4⟩
      obtain ⟨I5, m5, z5, e5, s5, f5⟩ := ihe (s0 + 1) g (up2 I 8 k (nI (s0 + 1))) m S .null (.int (nI s0)) (by omega) ⟨r1, w1, t1, q1, h5, h6, h7⟩ (by rw [up2_eq, up1_eq])
      refine ⟨I5, m5, z5, ?_, SR_iff s5 hsk, frm_trans f1 f5⟩
      unfold enB at hen
      have hlw := adn_le (W s0) g.D
      cases hb : g.D.testBit s0 with
      | true =>
        simp only [if_true]
        exact e5
      | false =>
        simp only [Bool.false_eq_true, if_false]
        rw [hb] at hen
        have hne : ¬ nI (adn (W s0) g.D) = nI 0 := by
          have := hW s0 hs0
          rw [nI_eq' (by omega) (by omega)]
          intro w
          apply hen
          rw [w]
          rfl
        rw [if_neg hne]
        exact e5
theorem goD_all (hP : P = 5 ∨ P = 6) (hW : ∀ s, s < n → W s < 256) (hcap : ∀ A m S', SR A m S' → (∀ v, S' v → T v) → m < 1024) : ∀ d k, k + d = n → goD J P n th ce wr W T d k := by
  intro d
  induction d with
  | zero =>
    intro k hk
    have : k = n := by omega
    subst this
    exact goD_end hP hcap
  | succ d ih =>
    intro k hk g I m S z2 z6 h h8
    obtain ⟨I', m', z, e, s, f⟩ := goD_in hP hW hk (ih (k + 1) (by omega)) n 0 g I m S z2 z6 (by omega) h (h8 (by omega))
    refine ⟨I', m', z, e, SR_iff s (fun v => ?_), f⟩
    constructor
    · rintro (q | ⟨s, -, q2⟩)
      · exact Or.inl q
      · exact Or.inr ⟨s, q2⟩
    · rintro (q | ⟨s, q2⟩)
      · exact Or.inl q
      · exact Or.inr ⟨s, Nat.zero_le s, q2⟩
/-- the wait sets -/
def wtN (th ce : Nat → Nat) (wr : Nat → Bool) (F K u : Nat) : Nat := bset (wtB th ce wr F K u) u
theorem wtN_lt {F K u : Nat} (hu : u < 8) : wtN th ce wr F K u < 256 := bset_small _ (by omega)
theorem wtN_0 {u : Nat} : wtN th ce wr 0 0 u = bset (fun s => ahB th s u) u := by
  unfold wtN
  refine bset_cong fun i _ => ?_
  unfold wtB bdB
  rw [Nat.zero_testBit]
  cases ahB th i u <;> simp
theorem mGo_w (hP : P = 5 ∨ P = 6) {F K : Nat} {x : Int32} (hx : x = nI 0 ∨ (x = nI 1 ∧ F = 0 ∧ K = 0)) (hKl : K < 16) : ∀ d u (I : Nat → Nat → Int32) (z4 z5 z6 : Value), u + d = n → RPm I n th ce wr → (x = nI 0 → I 0 6 = nI F ∧ I 0 7 = nI K) → (∀ s, s < u → I 7 s = nI (wtN th ce wr F K s)) → ∃ I' : Nat → Nat → Int32, run mX12_goes (2, 0, 0, [.ref 0, .ref P, .int x, .int (nI u), z4, z5, z6], [], mH I J) = run mX12_goes (54, 0, 0, [.ref 0, .ref P, .int x, .int (nI 0), .int (nI 0), .int (nI 0), .null], [], mH (up2 I' 8 0 (nI 0)) J) ∧ (∀ p, p ≠ 7 → I' p = I p) ∧ ∀ s, s < n → I' 7 s = nI (wtN th ce wr F K s) := by
  intro d
  induction d with
  | zero =>
    intro u I z4 z5 z6 hu h _ h7
    have : u = n := by omega
    subst this
    have hn := h.2.1
    refine ⟨I, ?_, fun _ _ => rfl, h7⟩
    rw [bX12_goes_2 (hP := hP), h.1]
    simp (disch := omega) only [nI_lt', nI_le', nI_eq', inb_nI, clp, nI_add, nI_mul', cond_true, cond_false, Nat.le_refl, if_true]
  | succ d ih =>
    intro u I z4 z5 z6 hu h h6 h7
    have hn := h.2.1
    have hun : u < n := by omega
    obtain ⟨I', e, o, w⟩ := ih (u + 1) (up2 I 7 u (nI (wtN th ce wr F K u))) .null .null .null (by omega) (h.cong (by rw [up2_ne (by decide)]) (up2_ne (by decide)) (up2_ne (by decide)) (up2_ne (by decide))) (fun q => by rw [up2_ne (by decide)]; exact h6 q) (fun s hs => by
      rw [up2_eq]
      by_cases q : s = u
      · rw [q, up1_eq]
      · rw [up1_ne q]; exact h7 s (by omega))
    refine ⟨I', ?_, fun p hp => by rw [o p hp, up2_ne hp], w⟩
    rw [bX12_goes_2 (hP := hP), h.1]
    simp (disch := omega) only [nI_lt', nI_le', nI_eq', inb_nI, clp, nI_add, nI_mul', cond_true, cond_false]
    rw [if_neg (by omega)]
    rcases hx with hx | ⟨hx, hF, hK⟩
    · rw [if_pos hx]
      obtain ⟨a, b⟩ := h6 hx
      simp (disch := omega) only [callK_some, Option.toList_some, Option.toList_none, List.cons_append, List.nil_append, mWt h a b hKl hun, bX12_goes_32 (hP := hP), nI_lt', nI_le', nI_eq', inb_nI, clp, nI_add, nI_mul', cond_true, cond_false]
      exact e
    · rw [if_neg (by rw [hx]; decide)]
      subst hF
      subst hK
      rw [wtN_0] at e
      simp (disch := omega) only [callK_some, Option.toList_some, Option.toList_none, List.cons_append, List.nil_append, mAhd h hun, bX12_goes_24 (hP := hP), bX12_goes_32 (hP := hP), nI_lt', nI_le', nI_eq', inb_nI, clp, nI_add, nI_mul', cond_true, cond_false]
      exact e
def sg0 : Sg := (0, (fun _ => 0), 0)
/-- the readings of a plan -/
def rdP (th ce : Nat → Nat) (wr : Nat → Bool) (n F K v : Nat) : Prop := fin ce wr n (wtN th ce wr F K) n sg0 v
theorem m1_lt : nI 0 + Int32.ofInt (-1) < nI 0 := by decide
theorem m1_le : ¬ nI 0 ≤ nI 0 + Int32.ofInt (-1) := by decide
theorem mGo {I : Nat → Nat → Int32} (hP : P = 5 ∨ P = 6) {F K : Nat} {x : Int32} (hx : x = nI 0 ∨ (x = nI 1 ∧ F = 0 ∧ K = 0)) (hKl : K < 16) (h : RPm I n th ce wr) (h6 : x = nI 0 → I 0 6 = nI F ∧ I 0 7 = nI K) (ht : I 10 0 = nI 0) (hh : ∀ c, c < 3 → I 11 c = nI 0) (hcap : ∀ A m S', SR A m S' → (∀ v, S' v → rdP th ce wr n F K v) → m < 1024) : ∃ (I' : Nat → Nat → Int32) (m : Nat), fX12_goes [.ref 0, .ref P, .int x] (mH I J) = some (some (.int (nI m)), mH I' J) ∧ SR (I' P) m (rdP th ce wr n F K) ∧ (∀ p, p ≠ P → p ≠ 7 → p ≠ 8 → p ≠ 9 → p ≠ 10 → p ≠ 11 → I' p = I p) ∧ I' 10 0 = nI 0 ∧ ∀ c, c < 3 → I' 11 c = nI 0 := by
  have hn := h.2.1
  obtain ⟨I1, e1, o1, w1⟩ := mGo_w (J := J) hP hx hKl n 0 I .null .null .null (by omega) h h6 (fun s hs => absurd hs (Nat.not_lt_zero s))
  have o1' : ∀ p, p ≠ 7 → p ≠ 8 → up2 I1 8 0 (nI 0) p = I p := fun p a b => by rw [up2_ne b, o1 p a]
  have r1 : RPm (up2 I1 8 0 (nI 0)) n th ce wr := h.cong (by rw [o1' 0 (by decide) (by decide)]) (o1' 1 (by decide) (by decide)) (o1' 2 (by decide) (by decide)) (o1' 3 (by decide) (by decide))
  have l1 : lyd P n th ce wr (wtN th ce wr F K) (rdP th ce wr n F K) 0 sg0 (up2 I1 8 0 (nI 0)) 0 (fun _ => False) := by
    refine ⟨r1, fun s hs => by rw [up2_ne (by decide)]; exact w1 s hs, ⟨by rw [o1' 10 (by decide) (by decide)]; exact ht, fun c hc => ?_⟩, SR_nil _, ⟨Nat.two_pow_pos n, fun _ _ => Nat.zero_le 8, Nat.zero_le _⟩, fun _ q => q.elim, fun v q => q⟩
    rw [o1' 11 (by decide) (by decide), Nat.mul_zero, Nat.zero_add]
    exact hh c hc
  obtain ⟨I2, m, z, e2, s2, f2⟩ := goD_all (J := J) (th := th) (ce := ce) (wr := wr) (T := rdP th ce wr n F K) hP (fun s hs => wtN_lt (by omega)) hcap n 0 (by omega) sg0 (up2 I1 8 0 (nI 0)) 0 (fun _ => False) (.int x) .null l1 (fun _ => by rw [up2_eq, up1_eq])
  refine ⟨I2, m, ?_, SR_iff s2 (fun v => ⟨fun q => q.elim False.elim id, Or.inr⟩), fun p a b c d e f => by rw [f2.1 p a c d e f, o1' p b c], by rw [f2.2.2.2.1 0 (by omega), o1' 10 (by decide) (by decide)]; exact ht, fun c hc => by rw [f2.2.2.2.2 c (by omega), o1' 11 (by decide) (by decide)]; exact hh c hc⟩
  rw [eX12_goes (hP := hP), e1]
  have hd : nI (Sg.D sg0) = nI 0 := rfl
  rw [hd] at e2
  rw [e2, bX12_goes_118 (hP := hP), if_neg m1_le, bX12_goes_140 (hP := hP), bX12_goes_54 (hP := hP), if_pos m1_lt]
end GO
