/-! the text, letter by letter: as both sides read it -/
theorem abn {p : Prop} {a b : Nat} (h : a = b) (hab : Nat.beq a b = false) : p := by
  subst h
  rw [Nat.beq_refl] at hab
  exact Bool.noConfusion hab
def PS : Type := Nat × Nat × (Nat → Nat) × (Nat → Nat) × (Nat → Bool) × Bool
def PS.T (g : PS) : Nat := g.1
def PS.n (g : PS) : Nat := g.2.1
def PS.th (g : PS) : Nat → Nat := g.2.2.1
def PS.ce (g : PS) : Nat → Nat := g.2.2.2.1
def PS.wr (g : PS) : Nat → Bool := g.2.2.2.2.1
def PS.w (g : PS) : Bool := g.2.2.2.2.2
def ps0 : PS := (0, 0, (fun _ => 0), (fun _ => 0), (fun _ => false), false)
def psT (g : PS) : PS := (g.T + 1, g.n, g.th, g.ce, g.wr, g.w)
def psW (g : PS) (w : Bool) : PS := (g.T, g.n, g.th, g.ce, g.wr, w)
def psS (g : PS) (c : Nat) (w : Bool) : PS := (g.T, g.n + 1, up1 g.th g.n (g.T - 1), up1 g.ce g.n c, up1 g.wr g.n w, w)
/-- a letter: the fault, what is awaited next, what stands -/
def tk (a q : Nat) (g : PS) : Nat × Nat × PS :=
  if q = 0 then (if a = 116 then (if g.T < 3 then (0, 2, psT g) else (3, 0, g)) else if a = 114 ∨ a = 119 then (if g.T = 0 then (1, 0, g) else if g.n < 8 then (0, 1, psW g (decide (a = 119))) else (3, 0, g)) else (1, 0, g))
  else if q = 1 then (if a < 48 ∨ 57 < a then (1, 0, g) else if 50 < a then (2, 0, g) else (0, 2, psS g (a - 48) g.w))
  else (if a = 59 then (0, 0, g) else (1, 0, g))
def pa (L : Nat → Nat) (m : Nat) : Nat → Nat → Nat → PS → Nat × Nat × PS
  | 0, q, _, g => (if q = 0 then 0 else 1, m, g)
  | d + 1, q, k, g => if L k = 32 then pa L m d q (k + 1) g else if (tk (L k) q g).1 = 0 then pa L m d (tk (L k) q g).2.1 (k + 1) (tk (L k) q g).2.2 else ((tk (L k) q g).1, k, g)
theorem pa_32 {L : Nat → Nat} {m d q k : Nat} {g : PS} (h : L k = 32) : pa L m (d + 1) q k g = pa L m d q (k + 1) g := by
  show (if L k = 32 then _ else _) = _
  rw [if_pos h]
theorem pa_n {L : Nat → Nat} {m d q k : Nat} {g : PS} (h : ¬ L k = 32) : pa L m (d + 1) q k g = if (tk (L k) q g).1 = 0 then pa L m d (tk (L k) q g).2.1 (k + 1) (tk (L k) q g).2.2 else ((tk (L k) q g).1, k, g) := by
  show (if L k = 32 then _ else _) = _
  rw [if_neg h]
theorem tk_2 {a : Nat} {g : PS} : tk a 2 g = if a = 59 then (0, 0, g) else (1, 0, g) := rfl
theorem tk_1 {a : Nat} {g : PS} : tk a 1 g = if a < 48 ∨ 57 < a then (1, 0, g) else if 50 < a then (2, 0, g) else (0, 2, psS g (a - 48) g.w) := rfl
theorem pa_0 {L : Nat → Nat} {m q k : Nat} {g : PS} : pa L m 0 q k g = (if q = 0 then 0 else 1, m, g) := rfl
def psO (g : PS) : Prop := g.n ≤ 8 ∧ g.T ≤ 3 ∧ (∀ s, s < g.n → g.th s < g.T ∧ g.ce s < 3) ∧ mono g.th g.n
theorem psO_tk {a q : Nat} {g : PS} (h : psO g) (hq : q = 1 → 1 ≤ g.T ∧ g.n < 8) (ht : (tk a q g).1 = 0) : psO (tk a q g).2.2 ∧ ((tk a q g).2.1 = 1 → 1 ≤ (tk a q g).2.2.T ∧ (tk a q g).2.2.n < 8) := by
  obtain ⟨h1, h2, h3, h4⟩ := h
  revert ht
  unfold tk
  by_cases q0 : q = 0
  · rw [if_pos q0]
    by_cases a1 : a = 116
    · rw [if_pos a1]
      by_cases t : g.T < 3
      · rw [if_pos t]
        intro _
        exact ⟨⟨h1, t, fun s hs => ⟨Nat.lt_succ_of_lt (h3 s hs).1, (h3 s hs).2⟩, h4⟩, fun z => abn z rfl⟩
      · rw [if_neg t]; intro z; exact abn z rfl
    · rw [if_neg a1]
      by_cases a2 : a = 114 ∨ a = 119
      · rw [if_pos a2]
        by_cases t : g.T = 0
        · rw [if_pos t]; intro z; exact abn z rfl
        · rw [if_neg t]
          by_cases n8 : g.n < 8
          · rw [if_pos n8]
            intro _
            exact ⟨⟨h1, h2, h3, h4⟩, fun _ => ⟨Nat.pos_of_ne_zero t, n8⟩⟩
          · rw [if_neg n8]; intro z; exact abn z rfl
      · rw [if_neg a2]; intro z; exact abn z rfl
  · rw [if_neg q0]
    by_cases q1 : q = 1
    · rw [if_pos q1]
      obtain ⟨t1, n8⟩ := hq q1
      by_cases a1 : a < 48 ∨ 57 < a
      · rw [if_pos a1]; intro z; exact abn z rfl
      · rw [if_neg a1]
        by_cases a2 : 50 < a
        · rw [if_pos a2]; intro z; exact abn z rfl
        · rw [if_neg a2]
          intro _
          refine ⟨⟨n8, h2, fun s hs => ?_, fun s u hsu hu => ?_⟩, fun z => abn z rfl⟩
          · show up1 g.th g.n (g.T - 1) s < g.T ∧ up1 g.ce g.n (a - 48) s < 3
            by_cases w : s = g.n
            · rw [w, up1_eq, up1_eq]; omega
            · rw [up1_ne w, up1_ne w]
              exact h3 s (by have : s < g.n + 1 := hs; omega)
          · show up1 g.th g.n (g.T - 1) s ≤ up1 g.th g.n (g.T - 1) u
            have hu' : u < g.n + 1 := hu
            by_cases w : u = g.n
            · rw [w, up1_eq]
              by_cases w2 : s = g.n
              · rw [w2, up1_eq]; exact Nat.le_refl _
              · rw [up1_ne w2]
                have := (h3 s (by omega)).1
                omega
            · rw [up1_ne w, up1_ne (by omega)]
              exact h4 s u hsu (by omega)
    · rw [if_neg q1]
      by_cases a1 : a = 59
      · rw [if_pos a1]; intro _; exact ⟨⟨h1, h2, h3, h4⟩, fun z => abn z rfl⟩
      · rw [if_neg a1]; intro z; exact abn z rfl
theorem tk_le (a q : Nat) (g : PS) : (tk a q g).1 ≤ 3 ∧ (tk a q g).2.1 ≤ 2 := by
  have k0 : ∀ a b : Nat, a ≤ 3 → b ≤ 2 → ∀ x : PS, ((a, b, x) : Nat × Nat × PS).1 ≤ 3 ∧ ((a, b, x) : Nat × Nat × PS).2.1 ≤ 2 := fun a b h1 h2 x => ⟨h1, h2⟩
  unfold tk
  repeat' split
  all_goals exact k0 _ _ (by decide) (by decide) _
theorem pa_O {L : Nat → Nat} {m : Nat} : ∀ d q k g, psO g → (q = 1 → 1 ≤ g.T ∧ g.n < 8) → psO (pa L m d q k g).2.2 ∧ (pa L m d q k g).1 ≤ 3 := by
  intro d
  induction d with
  | zero =>
    intro q k g h _
    refine ⟨h, ?_⟩
    show (if q = 0 then 0 else 1) ≤ 3
    split <;> decide
  | succ d ih =>
    intro q k g h hq
    by_cases w : L k = 32
    · rw [pa_32 w]; exact ih q (k + 1) g h hq
    · rw [pa_n w]
      by_cases t : (tk (L k) q g).1 = 0
      · rw [if_pos t]
        obtain ⟨t1, t2⟩ := psO_tk h hq t
        exact ih _ (k + 1) _ t1 t2
      · rw [if_neg t]; exact ⟨h, (tk_le (L k) q g).1⟩
section CPA
variable {J : Nat → Nat → Int64} {pl st : Bool} {P : Nat}
def PXs (I : Nat → Nat → Int32) (P q : Nat) (g : PS) : Prop := RPx I P g.n g.th g.ce g.wr ∧ I P 2 = nI g.T ∧ g.T ≤ 3 ∧ I 3 1 = nI q ∧ q ≤ 2 ∧ (q = 1 → 1 ≤ g.T ∧ g.n < 8 ∧ I 3 2 = tI g.w)
theorem cTW {I : Nat → Nat → Int32} (hP : P = 4 ∨ P = 7) {g : PS} (h : PXs I P 0 g) {a : Nat} (ha : a < 256) : ∃ I' : Nat → Nat → Int32, fX5_takeWord [.ref 3, .int (nI a), .ref P] (cH I J pl st) = some (some (.int (nI (tk a 0 g).1)), cH I' J pl st) ∧ ((tk a 0 g).1 = 0 → PXs I' P (tk a 0 g).2.1 (tk a 0 g).2.2) ∧ ∀ p, p ≠ 3 → p ≠ P → p ≠ P + 1 → p ≠ P + 2 → I' p = I p := by
  obtain ⟨h1, h2, h3, h4, h5, h6⟩ := h
  have hn := h1.1
  have hn8 := h1.2.1
  rw [eX5_takeWord (hP := hP)]
  unfold tk
  rw [if_pos rfl]
  simp (disch := omega) only [nI_lt', nI_le', nI_eq', inb_nI, clp, nI_add, nI_mul', cond_true, cond_false, eX6_addThread (hP := hP)]
  by_cases a1 : a = 116
  · rw [if_pos a1, if_pos a1]
    have e2 : up2 I 3 1 (nI 2) P 2 = nI g.T := by rw [up2_ne (by omega)]; exact h2
    rw [e2]
    simp (disch := omega) only [nI_lt', nI_le', nI_eq', inb_nI, clp, nI_add, nI_mul', cond_true, cond_false]
    by_cases t : g.T < 3
    · rw [if_pos t, if_pos t]
      simp (disch := omega) only [nI_lt', nI_le', nI_eq', inb_nI, clp, nI_add, nI_mul', cond_true, cond_false, callK_some, Option.toList_some, Option.toList_none, List.cons_append, List.nil_append, bX5_takeWord_15 (hP := hP)]
      rw [if_neg (by omega)]
      refine ⟨_, rfl, fun _ => ⟨h1.cong (by rw [up2_eq, up1_ne (by decide), up2_ne (by omega)]) (by rw [up2_eq, up1_ne (by decide), up2_ne (by omega)]) (by rw [up2_eq, up1_ne (by decide), up2_ne (by omega)]) (by rw [up2_ne (by omega), up2_ne (by omega)]) (by rw [up2_ne (by omega), up2_ne (by omega)]), by rw [up2_eq, up1_eq]; rfl, t, by rw [up2_ne (by omega), up2_eq, up1_eq], by decide, fun z => abn z rfl⟩, fun p p1 p2 _ _ => by rw [up2_ne p2, up2_ne p1]⟩
    · rw [if_neg t, if_neg t]
      simp (disch := omega) only [nI_lt', nI_le', nI_eq', inb_nI, clp, nI_add, nI_mul', cond_true, cond_false, callK_some, Option.toList_some, Option.toList_none, List.cons_append, List.nil_append, bX5_takeWord_15 (hP := hP), if_true]
      exact ⟨_, rfl, fun z => abn z rfl, fun p p1 _ _ _ => by rw [up2_ne p1]⟩
  · rw [if_neg a1, if_neg a1, h2, hn]
    simp (disch := omega) only [nI_lt', nI_le', nI_eq', inb_nI, clp, nI_add, nI_mul', cond_true, cond_false]
    have key : ∀ w : Bool, PXs (up2 (up2 I 3 2 (tI w)) 3 1 (nI 1)) P 1 (psW g w) ∨ g.T = 0 ∨ ¬ g.n < 8 := by
      intro w
      by_cases t : g.T = 0
      · exact Or.inr (Or.inl t)
      · by_cases n8 : g.n < 8
        · left
          refine ⟨h1.cong (by rw [up2_ne (by omega), up2_ne (by omega)]) (by rw [up2_ne (by omega), up2_ne (by omega)]) (by rw [up2_ne (by omega), up2_ne (by omega)]) (by rw [up2_ne (by omega), up2_ne (by omega)]) (by rw [up2_ne (by omega), up2_ne (by omega)]), by rw [up2_ne (by omega), up2_ne (by omega)]; exact h2, h3, by rw [up2_eq, up1_eq], by decide, fun _ => ⟨Nat.pos_of_ne_zero t, n8, by rw [up2_eq, up1_ne (by decide), up2_eq, up1_eq]; rfl⟩⟩
        · exact Or.inr (Or.inr n8)
    have fr : ∀ w : Bool, ∀ p, p ≠ 3 → p ≠ P → p ≠ P + 1 → p ≠ P + 2 → up2 (up2 I 3 2 (tI w)) 3 1 (nI 1) p = I p := fun w p p1 _ _ _ => by rw [up2_ne p1, up2_ne p1]
    have main : ∀ w : Bool, ∃ I' : Nat → Nat → Int32, (if g.T = 0 then some (some (Value.int (nI 1)), cH I J pl st) else if g.n < 8 then some (some (Value.int (nI 0)), cH (up2 (up2 I 3 2 (tI w)) 3 1 (nI 1)) J pl st) else some (some (Value.int (nI 3)), cH I J pl st)) = some (some (.int (nI (if g.T = 0 then (1, 0, g) else if g.n < 8 then (0, 1, psW g w) else ((3, 0, g) : Nat × Nat × PS)).1)), cH I' J pl st) ∧ ((if g.T = 0 then (1, 0, g) else if g.n < 8 then (0, 1, psW g w) else ((3, 0, g) : Nat × Nat × PS)).1 = 0 → PXs I' P (if g.T = 0 then (1, 0, g) else if g.n < 8 then (0, 1, psW g w) else ((3, 0, g) : Nat × Nat × PS)).2.1 (if g.T = 0 then (1, 0, g) else if g.n < 8 then (0, 1, psW g w) else ((3, 0, g) : Nat × Nat × PS)).2.2) ∧ ∀ p, p ≠ 3 → p ≠ P → p ≠ P + 1 → p ≠ P + 2 → I' p = I p := by
      intro w
      by_cases t : g.T = 0
      · simp only [if_pos t]
        exact ⟨I, rfl, fun z => abn z rfl, fun _ _ _ _ _ => rfl⟩
      · simp only [if_neg t]
        by_cases n8 : g.n < 8
        · simp only [if_pos n8]
          refine ⟨_, rfl, fun _ => ?_, fr w⟩
          rcases key w with z | z | z
          · exact z
          · exact absurd z t
          · exact absurd n8 z
        · simp only [if_neg n8]
          exact ⟨I, rfl, fun z => abn z rfl, fun _ _ _ _ _ => rfl⟩
    by_cases a2 : a = 114
    · have a3 : ¬ a = 119 := by omega
      rw [if_pos a2, if_pos (Or.inl a2), if_neg a3, decide_eq_false a3]
      exact main false
    · rw [if_neg a2]
      by_cases a3 : a = 119
      · rw [if_pos a3, if_pos (Or.inr a3), if_pos a3, decide_eq_true a3]
        exact main true
      · rw [if_neg a3, if_neg (by omega)]
        exact ⟨I, rfl, fun z => abn z rfl, fun _ _ _ _ _ => rfl⟩
theorem cTC {I : Nat → Nat → Int32} (hP : P = 4 ∨ P = 7) {g : PS} (h : PXs I P 1 g) {a : Nat} (ha : a < 256) : ∃ I' : Nat → Nat → Int32, fX5_takeCell [.ref 3, .int (nI a), .ref P] (cH I J pl st) = some (some (.int (nI (tk a 1 g).1)), cH I' J pl st) ∧ ((tk a 1 g).1 = 0 → PXs I' P (tk a 1 g).2.1 (tk a 1 g).2.2) ∧ ∀ p, p ≠ 3 → p ≠ P → p ≠ P + 1 → p ≠ P + 2 → I' p = I p := by
  obtain ⟨h1, h2, h3, h4, h5, h6⟩ := h
  obtain ⟨t1, n8, hw⟩ := h6 rfl
  rw [eX5_takeCell (hP := hP), hw]
  rw [tk_1]
  simp (disch := omega) only [nI_lt', nI_le', nI_eq', inb_nI, clp, nI_add, nI_mul', cond_true, cond_false]
  by_cases a1 : a < 48
  · rw [if_pos a1, if_pos (Or.inl a1)]
    exact ⟨I, rfl, fun z => abn z rfl, fun _ _ _ _ _ => rfl⟩
  · rw [if_neg a1]
    by_cases a2 : a ≤ 57
    · rw [if_pos a2, if_neg (show ¬ (a < 48 ∨ 57 < a) by omega), sub_nI (show 48 ≤ a by omega)]
      simp (disch := omega) only [nI_lt', nI_le', nI_eq', inb_nI, clp, nI_add, nI_mul', cond_true, cond_false]
      by_cases a3 : a - 48 ≤ 2
      · obtain ⟨I1, e1, b1, b2, b3⟩ := cAs (J := J) (pl := pl) (st := st) (w := g.w) hP h1 h2 n8 t1 h3 (show a - 48 < 3 by omega)
        rw [if_pos a3, if_neg (show ¬ 50 < a by omega), e1]
        simp (disch := omega) only [callK_some, Option.toList_some, Option.toList_none, List.cons_append, List.nil_append, bX5_takeCell_36 (hP := hP)]
        refine ⟨_, rfl, fun _ => ⟨b1.cong (by rw [up2_ne (by omega)]) (by rw [up2_ne (by omega)]) (by rw [up2_ne (by omega)]) (by rw [up2_ne (by omega)]) (by rw [up2_ne (by omega)]), by rw [up2_ne (by omega)]; exact b2, h3, by rw [up2_eq, up1_eq], by decide, fun z => abn z rfl⟩, fun p p1 p2 p3 p4 => by rw [up2_ne p1]; exact b3 p p2 p3 p4⟩
      · rw [if_neg a3, if_pos (show 50 < a by omega)]
        exact ⟨I, rfl, fun z => abn z rfl, fun _ _ _ _ _ => rfl⟩
    · rw [if_neg a2, if_pos (show a < 48 ∨ 57 < a by omega)]
      exact ⟨I, rfl, fun z => abn z rfl, fun _ _ _ _ _ => rfl⟩
theorem cTk {I : Nat → Nat → Int32} (hP : P = 4 ∨ P = 7) {g : PS} {q : Nat} (h : PXs I P q g) {a : Nat} (ha : a < 256) : ∃ I' : Nat → Nat → Int32, fX5_take [.ref 3, .int (nI a), .ref P] (cH I J pl st) = some (some (.int (nI (tk a q g).1)), cH I' J pl st) ∧ ((tk a q g).1 = 0 → PXs I' P (tk a q g).2.1 (tk a q g).2.2) ∧ ∀ p, p ≠ 3 → p ≠ P → p ≠ P + 1 → p ≠ P + 2 → I' p = I p := by
  have h4 := h.2.2.2.1
  have h5 := h.2.2.2.2.1
  rw [eX5_take (hP := hP), h4]
  simp (disch := omega) only [nI_lt', nI_le', nI_eq', inb_nI, clp, nI_add, nI_mul', cond_true, cond_false]
  by_cases q0 : q = 0
  · subst q0
    obtain ⟨I', e, e1, e2⟩ := cTW (J := J) (pl := pl) (st := st) hP h ha
    refine ⟨I', ?_, e1, e2⟩
    rw [if_pos rfl, e]
    simp (disch := omega) only [callK_some, Option.toList_some, Option.toList_none, List.cons_append, List.nil_append, bX5_take_13 (hP := hP)]
  · rw [if_neg q0]
    by_cases q1 : q = 1
    · subst q1
      obtain ⟨I', e, e1, e2⟩ := cTC (J := J) (pl := pl) (st := st) hP h ha
      refine ⟨I', ?_, e1, e2⟩
      rw [if_pos rfl, e]
      simp (disch := omega) only [callK_some, Option.toList_some, Option.toList_none, List.cons_append, List.nil_append, bX5_take_28 (hP := hP)]
    · rw [if_neg q1]
      have q2 : q = 2 := by omega
      subst q2
      rw [tk_2]
      obtain ⟨h1, h2, h3, -⟩ := h
      by_cases a1 : a = 59
      · rw [if_pos a1, if_pos a1]
        refine ⟨_, rfl, fun _ => ⟨h1.cong (by rw [up2_ne (by omega)]) (by rw [up2_ne (by omega)]) (by rw [up2_ne (by omega)]) (by rw [up2_ne (by omega)]) (by rw [up2_ne (by omega)]), by rw [up2_ne (by omega)]; exact h2, h3, by rw [up2_eq, up1_eq], Nat.zero_le 2, fun z => abn z rfl⟩, fun p p1 p2 p3 p4 => by rw [up2_ne p1]⟩
      · rw [if_neg a1, if_neg a1]
        exact ⟨I, rfl, fun z => abn z rfl, fun _ _ _ _ _ => rfl⟩
def TXx (I : Nat → Nat → Int32) (L : Nat → Nat) (m : Nat) : Prop := I 1 1 = nI m ∧ m ≤ 120 ∧ ∀ i, i < m → I 2 i = nI (L i) ∧ L i < 256
theorem cPa {L : Nat → Nat} {m : Nat} (hP : P = 4 ∨ P = 7) : ∀ d k q (g : PS) (I : Nat → Nat → Int32) (z4 z5 : Value), k + d = m → TXx I L m → PXs I P q g → ∃ I' : Nat → Nat → Int32, run mX5_parse (11, 0, 0, [.ref 3, .ref 1, .ref P, .int (nI k), z4, z5], [], cH I J pl st) = some (some (.int (nI (pa L m d q k g).1)), cH I' J pl st) ∧ I' 3 0 = (if (pa L m d q k g).1 = 0 then Int32.ofInt (-1) else nI (pa L m d q k g).2.1) ∧ ((pa L m d q k g).1 = 0 → RPx I' P (pa L m d q k g).2.2.n (pa L m d q k g).2.2.th (pa L m d q k g).2.2.ce (pa L m d q k g).2.2.wr ∧ I' P 2 = nI (pa L m d q k g).2.2.T) ∧ ∀ p, p ≠ 3 → p ≠ P → p ≠ P + 1 → p ≠ P + 2 → I' p = I p := by
  intro d
  induction d with
  | zero =>
    intro k q g I z4 z5 hk hT h
    obtain ⟨t1, t2, t3⟩ := hT
    obtain ⟨h1, h2, h3, h4, h5, h6⟩ := h
    have : k = m := by omega
    subst this
    rw [bX5_parse_11 (hP := hP), t1, h4]
    simp (disch := omega) only [nI_lt', nI_le', nI_eq', inb_nI, clp, nI_add, nI_mul', cond_true, cond_false, Nat.le_refl, if_true]
    rw [pa_0]
    by_cases q0 : q = 0
    · simp only [if_pos q0, if_true]
      refine ⟨_, rfl, by rw [up2_eq, up1_eq], fun _ => ⟨h1.cong (by rw [up2_ne (by omega)]) (by rw [up2_ne (by omega)]) (by rw [up2_ne (by omega)]) (by rw [up2_ne (by omega)]) (by rw [up2_ne (by omega)]), by rw [up2_ne (by omega)]; exact h2⟩, fun p p1 _ _ _ => by rw [up2_ne p1]⟩
    · simp only [if_neg q0]
      refine ⟨_, rfl, by rw [up2_eq, up1_eq, if_neg (by decide)], fun z => abn z rfl, fun p p1 _ _ _ => by rw [up2_ne p1]⟩
  | succ d ih =>
    intro k q g I z4 z5 hk hT h
    obtain ⟨t1, t2, t3⟩ := hT
    obtain ⟨l1, l2⟩ := t3 k (by omega)
    rw [bX5_parse_11 (hP := hP), t1, eX10_letterAt]
    simp (disch := omega) only [nI_lt', nI_le', nI_eq', inb_nI, clp, nI_add, nI_mul', cond_true, cond_false, Nat.not_lt_zero, if_false, l1]
    rw [if_neg (by omega), if_neg (by omega)]
    simp (disch := omega) only [callK_some, Option.toList_some, Option.toList_none, List.cons_append, List.nil_append, bX5_parse_24 (hP := hP), nI_lt', nI_le', nI_eq', inb_nI, clp, nI_add, nI_mul', cond_true, cond_false]
    by_cases w : L k = 32
    · rw [pa_32 w]
      simp only [if_pos w]
      simp (disch := omega) only [bX5_parse_44 (hP := hP), nI_lt', nI_le', nI_eq', inb_nI, clp, nI_add, nI_mul', cond_true, cond_false, if_true]
      exact ih (k + 1) q g I _ _ (by omega) ⟨t1, t2, t3⟩ h
    · rw [pa_n w]
      simp only [if_neg w]
      obtain ⟨I1, e1, b1, b2⟩ := cTk (J := J) (pl := pl) (st := st) hP h l2
      have hle := (tk_le (L k) q g).1
      rw [e1]
      simp (disch := omega) only [callK_some, Option.toList_some, Option.toList_none, List.cons_append, List.nil_append, bX5_parse_44 (hP := hP), nI_lt', nI_le', nI_eq', inb_nI, clp, nI_add, nI_mul', cond_true, cond_false]
      by_cases t : (tk (L k) q g).1 = 0
      · simp only [if_pos t]
        obtain ⟨I2, e2, c1, c2, c3⟩ := ih (k + 1) _ _ I1 .null (.int (nI (tk (L k) q g).1)) (by omega) ⟨by rw [b2 1 (by decide) (by omega) (by omega) (by omega)]; exact t1, t2, fun i hi => by rw [b2 2 (by decide) (by omega) (by omega) (by omega)]; exact t3 i hi⟩ (b1 t)
        exact ⟨I2, e2, c1, c2, fun p p1 p2 p3 p4 => by rw [c3 p p1 p2 p3 p4, b2 p p1 p2 p3 p4]⟩
      · simp only [if_neg t]
        refine ⟨_, rfl, by rw [up2_eq, up1_eq], fun z => absurd z t, fun p p1 p2 p3 p4 => by rw [up2_ne p1]; exact b2 p p1 p2 p3 p4⟩
theorem cParse {L : Nat → Nat} {m : Nat} {I : Nat → Nat → Int32} (hP : P = 4 ∨ P = 7) (hT : TXx I L m) : ∃ I' : Nat → Nat → Int32, fX5_parse [.ref 3, .ref 1, .ref P] (cH I J pl st) = some (some (.int (nI (pa L m m 0 0 ps0).1)), cH I' J pl st) ∧ I' 3 0 = (if (pa L m m 0 0 ps0).1 = 0 then Int32.ofInt (-1) else nI (pa L m m 0 0 ps0).2.1) ∧ ((pa L m m 0 0 ps0).1 = 0 → RPx I' P (pa L m m 0 0 ps0).2.2.n (pa L m m 0 0 ps0).2.2.th (pa L m m 0 0 ps0).2.2.ce (pa L m m 0 0 ps0).2.2.wr ∧ I' P 2 = nI (pa L m m 0 0 ps0).2.2.T) ∧ ∀ p, p ≠ 3 → p ≠ P → p ≠ P + 1 → p ≠ P + 2 → I' p = I p := by
  obtain ⟨t1, t2, t3⟩ := hT
  obtain ⟨I', e, c1, c2, c3⟩ := cPa (J := J) (pl := pl) (st := st) (L := L) (m := m) hP m 0 0 ps0 (up2 (up2 (up2 (up2 (up2 I P 2 (nI 0)) P 3 (nI 0)) P 4 (nI 0)) P 5 (nI 0)) 3 1 (nI 0)) .null .null (by omega) ⟨by rw [up2_ne (by decide), up2_ne (by omega), up2_ne (by omega), up2_ne (by omega), up2_ne (by omega)]; exact t1, t2, fun i hi => by rw [up2_ne (by decide), up2_ne (by omega), up2_ne (by omega), up2_ne (by omega), up2_ne (by omega)]; exact t3 i hi⟩ ⟨⟨by rw [up2_ne (by omega), up2_eq, up1_ne (by decide), up2_eq, up1_ne (by decide), up2_eq, up1_eq]; rfl, by decide, fun s hs => absurd hs (Nat.not_lt_zero s), by rw [up2_ne (by omega), up2_eq, up1_ne (by decide), up2_eq, up1_eq]; rfl, by rw [up2_ne (by omega), up2_eq, up1_eq]; rfl⟩, by rw [up2_ne (by omega), up2_eq, up1_ne (by decide), up2_eq, up1_ne (by decide), up2_eq, up1_ne (by decide), up2_eq, up1_eq]; rfl, by decide, by rw [up2_eq, up1_eq], by decide, fun z => abn z rfl⟩
  refine ⟨I', ?_, c1, c2, fun p p1 p2 p3 p4 => by rw [c3 p p1 p2 p3 p4, up2_ne p1, up2_ne p2, up2_ne p2, up2_ne p2, up2_ne p2]⟩
  rw [eX5_parse (hP := hP), eX6_clear (hP := hP)]
  simp (disch := omega) only [callK_some, Option.toList_some, Option.toList_none, List.cons_append, List.nil_append, bX5_parse_4 (hP := hP)]
  exact e
end CPA
