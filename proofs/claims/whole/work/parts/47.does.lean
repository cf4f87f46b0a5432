/-! weights; a step is done -/
/-- what a figure behind the steps before k counts -/
def wgF (wr : Nat → Bool) : Nat → Nat → Nat
  | _, 0 => 1
  | k, d + 1 => (bif wr k then 1 else 9) * wgF wr (k + 1) d
def wgN (wr : Nat → Bool) (n s : Nat) : Nat := wgF wr (s + 1) (n - (s + 1))
theorem wgF_le (wr : Nat → Bool) : ∀ d k, wgF wr k d ≤ 9 ^ d := by
  intro d
  induction d with
  | zero => intro k; exact Nat.le_refl 1
  | succ d ih =>
    intro k
    have := ih (k + 1)
    show (bif wr k then 1 else 9) * wgF wr (k + 1) d ≤ 9 ^ (d + 1)
    rw [Nat.pow_succ]
    cases wr k
    · show 9 * _ ≤ _; omega
    · show 1 * _ ≤ _; omega
theorem wgN_le {wr : Nat → Bool} {n s : Nat} (hn : n ≤ 8) (hs : s < n) : wgN wr n s ≤ 4782969 := by
  have h1 := wgF_le wr (n - (s + 1)) (s + 1)
  have h2 : 9 ^ (n - (s + 1)) ≤ 9 ^ 7 := Nat.pow_le_pow_right (by decide) (by omega)
  have h3 : 9 ^ 7 = 4782969 := by decide
  unfold wgN
  omega
/-- steps done, what the cells hold, what was read -/
def Sg : Type := Nat × (Nat → Nat) × Nat
def Sg.D (g : Sg) : Nat := g.1
def Sg.H (g : Sg) : Nat → Nat := g.2.1
def Sg.R (g : Sg) : Nat := g.2.2
/-- behind a step -/
def sgN (ce : Nat → Nat) (wr : Nat → Bool) (n : Nat) (g : Sg) (s : Nat) : Sg :=
  (g.D ||| 2 ^ s, (bif wr s then up1 g.H (ce s) (s + 1) else g.H), (bif wr s then g.R else g.R + g.H (ce s) * wgN wr n s))
/-- a step may be done -/
def enB (W : Nat → Nat) (D s : Nat) : Bool := !D.testBit s && decide (adn (W s) D = 0)
/-- numbers stay small -/
def sgO (n k : Nat) (g : Sg) : Prop := g.D < 2 ^ n ∧ (∀ c, c < 3 → g.H c ≤ 8) ∧ g.R ≤ k * 38263752
theorem sgO_N {ce : Nat → Nat} {wr : Nat → Bool} {n k s : Nat} {g : Sg} (hn : n ≤ 8) (hs : s < n) (hc : ce s < 3) (h : sgO n k g) : sgO n (k + 1) (sgN ce wr n g s) := by
  obtain ⟨h1, h2, h3⟩ := h
  refine ⟨Nat.or_lt_two_pow h1 (Nat.pow_lt_pow_right (by decide) hs), fun c hc' => ?_, ?_⟩
  · show (bif wr s then up1 g.H (ce s) (s + 1) else g.H) c ≤ 8
    cases wr s
    · exact h2 c hc'
    · show up1 g.H (ce s) (s + 1) c ≤ 8
      by_cases e : c = ce s
      · rw [e, up1_eq]; omega
      · rw [up1_ne e]; exact h2 c hc'
  · show (bif wr s then g.R else g.R + g.H (ce s) * wgN wr n s) ≤ (k + 1) * 38263752
    cases wr s
    · show g.R + g.H (ce s) * wgN wr n s ≤ _
      have a := h2 _ hc
      have b := wgN_le (wr := wr) hn hs
      have := Nat.mul_le_mul a b
      omega
    · exact Nat.le_trans h3 (Nat.mul_le_mul_right _ (Nat.le_succ k))
section DO
variable {I : Nat → Nat → Int32} {J : Nat → Nat → Int64} {n : Nat} {th ce : Nat → Nat} {wr : Nat → Bool} {s u k : Nat}
theorem mWg_loop (h : RPm I n th ce wr) : ∀ d k a (z : Value), k + d = n → run mX12_weight (6, 0, 0, [.ref 0, z, .int (nI a), .int (nI k)], [], mH I J) = some (some (.int (nI (a * wgF wr k d))), mH I J) := by
  have hn := h.2.1
  intro d
  induction d with
  | zero =>
    intro k a z hk
    have : k = n := by omega
    subst this
    rw [bX12_weight_6, h.1]
    simp (disch := omega) only [nI_lt', nI_le', nI_eq', inb_nI, clp, nI_add, nI_mul', cond_true, cond_false, Nat.le_refl, if_true]
    show _ = some (some (Value.int (nI (a * 1))), _)
    rw [Nat.mul_one]
  | succ d ih =>
    intro k a z hk
    have e : wgF wr k (d + 1) = (bif wr k then 1 else 9) * wgF wr (k + 1) d := rfl
    rw [bX12_weight_6, h.1]
    simp (disch := omega) only [nI_lt', nI_le', nI_eq', inb_nI, clp, nI_add, nI_mul', cond_true, cond_false, (h.2.2 k (by omega)).2.2.1, ite_tI]
    rw [if_neg (by omega), e, ← Nat.mul_assoc]
    cases wr k
    · exact ih (k + 1) (a * 9) .null (by omega)
    · exact ih (k + 1) (a * 1) .null (by omega)
theorem mWg (h : RPm I n th ce wr) (hs : s < n) : fX12_weight [.ref 0, .int (nI s)] (mH I J) = some (some (.int (nI (wgN wr n s))), mH I J) := by
  have := mWg_loop (J := J) h (n - (s + 1)) (s + 1) 1 (.int (nI s)) (by omega)
  rw [Nat.one_mul] at this
  rw [eX12_weight, nI_add]
  exact this
theorem mAhd_loop (h : RPm I n th ce wr) (hu : u < n) : ∀ d k, k + d = u → run mX12_ahead (4, 0, 0, [.ref 0, .int (nI u), .int (nI (bset (fun s => ahB th s u) k)), .int (nI k)], [], mH I J) = some (some (.int (nI (bset (fun s => ahB th s u) u))), mH I J) := by
  have hn := h.2.1
  intro d
  induction d with
  | zero =>
    intro k hk
    have : k = u := by omega
    subst this
    rw [bX12_ahead_4]
    simp (disch := omega) only [nI_lt', nI_le', nI_eq', inb_nI, clp, nI_add, nI_mul', cond_true, cond_false, Nat.le_refl, if_true]
  | succ d ih =>
    intro k hk
    have ih' := ih (k + 1) (by omega)
    rw [bX12_ahead_4]
    simp (disch := omega) only [nI_lt', nI_le', nI_eq', inb_nI, clp, nI_add, nI_mul', cond_true, cond_false, callK_some, Option.toList_some, Option.toList_none, List.cons_append, List.nil_append, mAh h (show k < n by omega) hu, bX12_ahead_16, ite_tI]
    rw [if_neg (by omega)]
    cases hc : ahB th k u with
    | false =>
      simp only [Bool.false_eq_true, if_false]
      rw [bset_f0 (f := fun s => ahB th s u) hc]
      exact ih'
    | true =>
      simp only [if_true]
      rw [bset_t (f := fun s => ahB th s u) (by omega) hc]
      exact ih'
theorem mAhd (h : RPm I n th ce wr) (hu : u < n) : fX12_ahead [.ref 0, .int (nI u)] (mH I J) = some (some (.int (nI (bset (fun s => ahB th s u) u))), mH I J) := by
  rw [eX12_ahead]
  exact mAhd_loop h hu u 0 (by omega)
theorem mDo_cp {H : Nat → Nat} (hk : k < 8) : ∀ d c (I : Nat → Nat → Int32), c + d = 3 → (∀ c, c < 3 → I 11 (3 * k + c) = nI (H c)) → (∀ c', c' < c → I 11 (3 * k + 3 + c') = nI (H c')) → ∃ I' : Nat → Nat → Int32, run mX12_does (9, 0, 0, [.ref 0, .int (nI k), .int (nI s), .int (nI c)], [], mH I J) = run mX12_does (9, 0, 0, [.ref 0, .int (nI k), .int (nI s), .int (nI 3)], [], mH I' J) ∧ (∀ p, p ≠ 11 → I' p = I p) ∧ (∀ j, j < 3 * k + 3 → I' 11 j = I 11 j) ∧ (∀ c', c' < 3 → I' 11 (3 * k + 3 + c') = nI (H c')) := by
  intro d
  induction d with
  | zero =>
    intro c I hc h1 h2
    have : c = 3 := by omega
    subst this
    exact ⟨I, rfl, fun _ _ => rfl, fun _ _ => rfl, h2⟩
  | succ d ih =>
    intro c I hc h1 h2
    obtain ⟨I', e, g1, g2, g3⟩ := ih (c + 1) (up2 I 11 (3 * k + 3 + c) (nI (H c))) (by omega) (fun c' hc' => by
      rw [up2_eq, up1_ne (by omega)]; exact h1 c' hc') (fun c' hc' => by
      rw [up2_eq]
      by_cases w : c' = c
      · rw [w, up1_eq]
      · rw [up1_ne (by omega)]; exact h2 c' (by omega))
    refine ⟨I', ?_, fun p hp => by rw [g1 p hp, up2_ne hp], fun j hj => by rw [g2 j hj, up2_eq, up1_ne (by omega)], g3⟩
    rw [bX12_does_9]
    simp (disch := omega) only [nI_lt', nI_le', nI_eq', inb_nI, clp, nI_add, nI_mul', cond_true, cond_false, h1 c (by omega)]
    rw [if_neg (by omega)]
    exact e
/-- the rows of a depth -/
def dpt (I : Nat → Nat → Int32) (k : Nat) (g : Sg) : Prop := I 10 k = nI g.R ∧ ∀ c, c < 3 → I 11 (3 * k + c) = nI (g.H c)
theorem mDo {g : Sg} (h : RPm I n th ce wr) (hs : s < n) (hk : k < n) (hg : dpt I k g) : ∃ I' : Nat → Nat → Int32, fX12_does [.ref 0, .int (nI k), .int (nI s)] (mH I J) = some (none, mH I' J) ∧ (∀ p, p ≠ 9 → p ≠ 10 → p ≠ 11 → I' p = I p) ∧ I' 9 = up1 (I 9) k (nI s) ∧ (∀ j, j < k + 1 → I' 10 j = I 10 j) ∧ (∀ j, j < 3 * k + 3 → I' 11 j = I 11 j) ∧ dpt I' (k + 1) (sgN ce wr n g s) := by
  have hn := h.2.1
  obtain ⟨I1, e, g1, g2, g3⟩ := mDo_cp (J := J) (s := s) (H := g.H) (show k < 8 by omega) 3 0 (up2 I 9 k (nI s)) rfl (fun c hc => by rw [up2_ne (by decide)]; exact hg.2 c hc) (fun c' hc' => absurd hc' (Nat.not_lt_zero c'))
  have h9 : I1 9 = up1 (I 9) k (nI s) := by rw [g1 9 (by decide), up2_eq]
  have ho : ∀ p, p ≠ 9 → p ≠ 11 → I1 p = I p := fun p p1 p2 => by rw [g1 p p2, up2_ne p1]
  have g2' : ∀ j, j < 3 * k + 3 → I1 11 j = I 11 j := fun j hj => by rw [g2 j hj, up2_ne (by decide)]
  have hR : RPm I1 n th ce wr := h.cong (by rw [ho 0 (by decide) (by decide)]) (ho 1 (by decide) (by decide)) (ho 2 (by decide) (by decide)) (ho 3 (by decide) (by decide))
  obtain ⟨b1, b2, b3, b4, b5⟩ := hR.2.2 s hs
  have h10 : I1 10 k = nI g.R := by rw [ho 10 (by decide) (by decide)]; exact hg.1
  have h11 : I1 11 (3 * k + ce s) = nI (g.H (ce s)) := by rw [g2' _ (by omega)]; exact hg.2 _ b5
  have e0 : fX12_does [.ref 0, .int (nI k), .int (nI s)] (mH I J) = run mX12_does (9, 0, 0, [.ref 0, .int (nI k), .int (nI s), .int (nI 3)], [], mH I1 J) := by
    rw [eX12_does]
    simp (disch := omega) only [nI_lt', nI_le', nI_eq', inb_nI, clp, nI_add, nI_mul', cond_true, cond_false]
    exact e
  cases hw : wr s with
  | true =>
    rw [hw] at b3
    refine ⟨up2 (up2 I1 10 (k + 1) (nI g.R)) 11 (3 * k + 3 + ce s) (nI (s + 1)), ?_, fun p p1 p2 p3 => by rw [up2_ne p3, up2_ne p2, ho p p1 p3], by rw [up2_ne (by decide), up2_ne (by decide), h9], fun j hj => by rw [up2_ne (by decide), up2_eq, up1_ne (by omega), ho 10 (by decide) (by decide)], fun j hj => by rw [up2_eq, up1_ne (by omega), up2_ne (by decide), g2' j hj], ?_, fun c hc => ?_⟩
    · rw [e0, bX12_does_9]
      simp (disch := omega) only [nI_lt', nI_le', nI_eq', inb_nI, clp, nI_add, nI_mul', cond_true, cond_false, b2, b3, h10, ite_tI, Nat.le_refl, if_true]
    · rw [up2_ne (by decide), up2_eq, up1_eq]
      show nI g.R = nI (bif wr s then g.R else _)
      rw [hw]; rfl
    · rw [up2_eq, up2_ne (by decide)]
      show _ = nI ((bif wr s then up1 g.H (ce s) (s + 1) else g.H) c)
      rw [hw]
      show _ = nI (up1 g.H (ce s) (s + 1) c)
      have e3 : 3 * (k + 1) + c = 3 * k + 3 + c := by omega
      rw [e3]
      by_cases w : c = ce s
      · rw [w, up1_eq, up1_eq]
      · rw [up1_ne w, up1_ne (by omega), g3 c hc]
  | false =>
    rw [hw] at b3
    have hwg := mWg (J := J) (I := up2 I1 10 (k + 1) (nI g.R)) (hR.cong (by rw [up2_ne (by decide)]) (up2_ne (by decide)) (up2_ne (by decide)) (up2_ne (by decide))) hs
    refine ⟨up2 (up2 I1 10 (k + 1) (nI g.R)) 10 (k + 1) (nI (g.R + g.H (ce s) * wgN wr n s)), ?_, fun p p1 p2 p3 => by rw [up2_ne p2, up2_ne p2, ho p p1 p3], by rw [up2_ne (by decide), up2_ne (by decide), h9], fun j hj => by rw [up2_eq, up1_ne (by omega), up2_eq, up1_ne (by omega), ho 10 (by decide) (by decide)], fun j hj => by rw [up2_ne (by decide), up2_ne (by decide), g2' j hj], ?_, fun c hc => ?_⟩
    · rw [e0, bX12_does_9]
      simp (disch := omega) only [nI_lt', nI_le', nI_eq', inb_nI, clp, nI_add, nI_mul', cond_true, cond_false, b2, b3, h10, h11, ite_tI, Nat.le_refl, if_true, Bool.false_eq_true, if_false, hwg, callK_some, Option.toList_some, Option.toList_none, List.cons_append, List.nil_append, bX12_does_117]
      rw [up2_eq, up1_eq]
      simp only [nI_mul', nI_add]
    · rw [up2_eq, up1_eq]
      show _ = nI (bif wr s then g.R else _)
      rw [hw]; rfl
    · rw [up2_ne (by decide), up2_ne (by decide)]
      show _ = nI ((bif wr s then up1 g.H (ce s) (s + 1) else g.H) c)
      rw [hw]
      have e3 : 3 * (k + 1) + c = 3 * k + 3 + c := by omega
      rw [e3]
      exact g3 c hc
end DO
