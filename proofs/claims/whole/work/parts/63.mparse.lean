/-! the reference reads the text -/
theorem up2_up2 {α : Type} (f : Nat → Nat → α) (p k : Nat) (x y : α) : up2 (up2 f p k x) p k y = up2 f p k y := by
  funext q j
  by_cases h : q = p
  · subst h
    rw [up2_eq, up2_eq, up2_eq]
    by_cases w : j = k
    · subst w; rw [up1_eq, up1_eq]
    · rw [up1_ne w, up1_ne w, up1_ne w]
  · rw [up2_ne h, up2_ne h, up2_ne h]
theorem up2_same {α : Type} {f : Nat → Nat → α} {p k : Nat} {x : α} (hx : f p k = x) : up2 f p k x = f := by
  funext q j
  by_cases h : q = p
  · subst h
    rw [up2_eq]
    by_cases w : j = k
    · subst w; rw [up1_eq, hx]
    · rw [up1_ne w]
  · rw [up2_ne h]
section MPA
variable {J : Nat → Nat → Int64} {L : Nat → Nat} {m : Nat}
def TXm (I : Nat → Nat → Int32) (L : Nat → Nat) (m : Nat) : Prop := I 0 24 = nI m ∧ m ≤ 120 ∧ ∀ i, i < m → I 15 i = nI (L i) ∧ L i < 256
theorem TXm_26 {I : Nat → Nat → Int32} (h : TXm I L m) (x : Int32) : TXm (up2 I 0 26 x) L m := ⟨by rw [up2_eq, up1_ne (by decide)]; exact h.1, h.2.1, fun i hi => by rw [up2_ne (by decide)]; exact h.2.2 i hi⟩
def sgR (L : Nat → Nat) (m k : Nat) : Int32 := if k < m then nI (L k) else Int32.ofInt (-1)
theorem mSg : ∀ d k (I : Nat → Nat → Int32), k + d = m → TXm I L m → I 0 26 = nI k → ∃ d' k', k' + d' = m ∧ k ≤ k' ∧ fX12_sign [.ref 0] (mH I J) = some (some (.int (sgR L m k')), mH (up2 I 0 26 (nI k')) J) ∧ (k' < m → ¬ L k' = 32) ∧ ∀ q g, pa L m d q k g = pa L m d' q k' g := by
  intro d
  induction d with
  | zero =>
    intro k I hk hT h26
    have : k = m := by omega
    subst this
    refine ⟨0, k, by omega, Nat.le_refl k, ?_, fun z => absurd z (Nat.lt_irrefl k), fun _ _ => rfl⟩
    have hm := hT.2.1
    rw [eX12_sign, hT.1, h26]
    simp (disch := omega) only [nI_lt', nI_le', nI_eq', inb_nI, clp, nI_add, nI_mul', cond_true, cond_false, Nat.le_refl, if_true]
    rw [up2_same h26, sgR, if_neg (Nat.lt_irrefl k)]
  | succ d ih =>
    intro k I hk hT h26
    have hm := hT.2.1
    obtain ⟨l1, l2⟩ := hT.2.2 k (by omega)
    by_cases w : L k = 32
    · obtain ⟨d', k', c1, c2, c3, c4, c5⟩ := ih (k + 1) (up2 I 0 26 (nI (k + 1))) (by omega) (TXm_26 hT _) (by rw [up2_eq, up1_eq])
      refine ⟨d', k', c1, by omega, ?_, c4, fun q g => by rw [pa_32 w]; exact c5 q g⟩
      rw [eX12_sign, hT.1, h26]
      simp (disch := omega) only [nI_lt', nI_le', nI_eq', inb_nI, clp, nI_add, nI_mul', cond_true, cond_false, l1]
      rw [if_neg (by omega), if_pos w]
      rw [up2_up2] at c3
      rw [← c3, bX12_sign_0, eX12_sign]
    · refine ⟨d + 1, k, hk, Nat.le_refl k, ?_, fun _ => w, fun _ _ => rfl⟩
      rw [eX12_sign, hT.1, h26]
      simp (disch := omega) only [nI_lt', nI_le', nI_eq', inb_nI, clp, nI_add, nI_mul', cond_true, cond_false, l1]
      rw [if_neg (by omega), if_neg w, if_neg (by omega), up2_same h26, sgR, if_pos (by omega)]
theorem sgR_eq {k a : Nat} (hL : k < m → L k < 256) (ha : a < 256) : (sgR L m k = nI a) = (k < m ∧ L k = a) := by
  unfold sgR
  by_cases h : k < m
  · rw [if_pos h, nI_eq' (by have := hL h; omega) (by omega)]
    exact propext ⟨fun x => ⟨h, x⟩, fun x => x.2⟩
  · rw [if_neg h]
    exact propext ⟨fun x => absurd x (m1_nn (by omega)), fun x => absurd x.1 h⟩
theorem mEn : ∀ d k (I : Nat → Nat → Int32), k + d = m → TXm I L m → I 0 26 = nI k → ∃ d' k', k' + d' = m ∧ k ≤ k' ∧ ((fX12_ends [.ref 0] (mH I J) = some (some (.int (nI 0)), mH (up2 I 0 26 (nI k')) J) ∧ k < k' ∧ ∀ g, pa L m d 2 k g = pa L m d' 0 k' g) ∨ (fX12_ends [.ref 0] (mH I J) = some (some (.int (nI 1)), mH (up2 I 0 26 (nI k')) J) ∧ ∀ g, pa L m d 2 k g = (1, k', g))) := by
  intro d k I hk hT h26
  obtain ⟨d', k', c1, c2, c3, c4, c5⟩ := mSg (J := J) d k I hk hT h26
  have hm := hT.2.1
  have hL : k' < m → L k' < 256 := fun h => (hT.2.2 k' h).2
  have e0 : up2 I 0 26 (nI k') 0 26 = nI k' := by rw [up2_eq, up1_eq]
  have e1 : fX12_ends [.ref 0] (mH I J) = (if k' < m ∧ L k' = 59 then some (some (.int (nI 0)), mH (up2 I 0 26 (nI (k' + 1))) J) else some (some (.int (nI 1)), mH (up2 I 0 26 (nI k')) J)) := by
    rw [eX12_ends, c3]
    simp (disch := omega) only [callK_some, Option.toList_some, Option.toList_none, List.cons_append, List.nil_append, bX12_ends_4, e0, nI_add, up2_up2, sgR_eq hL (show 59 < 256 by decide)]
  by_cases w : k' < m ∧ L k' = 59
  · rw [if_pos w] at e1
    refine ⟨d' - 1, k' + 1, by omega, by omega, Or.inl ⟨e1, by omega, fun g => ?_⟩⟩
    obtain ⟨x, rfl⟩ : ∃ x, d' = x + 1 := ⟨d' - 1, by omega⟩
    rw [c5 2 g, pa_n (c4 w.1), tk_2, if_pos w.2, if_pos rfl]
    rfl
  · rw [if_neg w] at e1
    refine ⟨d', k', c1, c2, Or.inr ⟨e1, fun g => ?_⟩⟩
    rw [c5 2 g]
    by_cases h : k' < m
    · obtain ⟨x, rfl⟩ : ∃ x, d' = x + 1 := ⟨d' - 1, by omega⟩
      rw [pa_n (c4 h), tk_2, if_neg (fun z => w ⟨h, z⟩), if_neg (fun z => abn z rfl)]
    · have h0 : d' = 0 := by omega
      have h1 : k' = m := by omega
      subst h0
      rw [h1]
      rfl
def NWm (I : Nat → Nat → Int32) (g : PS) : Prop := I 0 27 = nI g.T ∧ I 0 28 = nI g.n ∧ ∀ s, s < g.n → I 16 s = nI (g.th s) ∧ I 17 s = nI (g.ce s) ∧ I 18 s = tI (g.wr s)
theorem NWm.up {I : Nat → Nat → Int32} {g : PS} (h : NWm I g) (x : Int32) : NWm (up2 I 0 26 x) g := ⟨by rw [up2_eq, up1_ne (by decide)]; exact h.1, by rw [up2_eq, up1_ne (by decide)]; exact h.2.1, fun s hs => by rw [up2_ne (by decide), up2_ne (by decide), up2_ne (by decide)]; exact h.2.2 s hs⟩
/-- where only the new rows and the reading's own words change -/
def frN (I I' : Nat → Nat → Int32) : Prop := (∀ p, p ≠ 0 → p ≠ 16 → p ≠ 17 → p ≠ 18 → I' p = I p) ∧ ∀ k, k ≠ 26 → k ≠ 27 → k ≠ 28 → I' 0 k = I 0 k
theorem frN_refl (I : Nat → Nat → Int32) : frN I I := ⟨fun _ _ _ _ _ => rfl, fun _ _ _ _ => rfl⟩
theorem frN_trans {I I1 I2 : Nat → Nat → Int32} (h : frN I I1) (h' : frN I1 I2) : frN I I2 := ⟨fun p p1 p2 p3 p4 => by rw [h'.1 p p1 p2 p3 p4, h.1 p p1 p2 p3 p4], fun k k1 k2 k3 => by rw [h'.2 k k1 k2 k3, h.2 k k1 k2 k3]⟩
theorem frN_0 {I : Nat → Nat → Int32} {k : Nat} (h : k = 26 ∨ k = 27 ∨ k = 28) (x : Int32) : frN I (up2 I 0 k x) := ⟨fun p p1 _ _ _ => by rw [up2_ne p1], fun j j1 j2 j3 => by rw [up2_eq, up1_ne (by omega)]⟩
theorem frN_r {I : Nat → Nat → Int32} {p k : Nat} (h : p = 16 ∨ p = 17 ∨ p = 18) (x : Int32) : frN I (up2 I p k x) := ⟨fun q _ q2 q3 q4 => by rw [up2_ne (by omega)], fun j _ _ _ => by rw [up2_ne (by omega)]⟩
theorem TXm.fr {I I' : Nat → Nat → Int32} (h : TXm I L m) (f : frN I I') : TXm I' L m := ⟨by rw [f.2 24 (by decide) (by decide) (by decide)]; exact h.1, h.2.1, fun i hi => by rw [f.1 15 (by decide) (by decide) (by decide) (by decide)]; exact h.2.2 i hi⟩
/-- what a part of the reading gives: no fault and further on, or the fault -/
def rdG (J : Nat → Nat → Int64) (L : Nat → Nat) (m k : Nat) (I : Nat → Nat → Int32) (R : Nat × Nat × PS) (o : Option (Option Value × HP)) : Prop := ∃ (I' : Nat → Nat → Int32) (f k' : Nat), o = some (some (.int (nI f)), mH I' J) ∧ frN I I' ∧ I' 0 26 = nI k' ∧ k' ≤ m ∧ ((f = 0 ∧ k < k' ∧ ∃ g', NWm I' g' ∧ psO g' ∧ R = pa L m (m - k') 0 k' g') ∨ (0 < f ∧ f ≤ 3 ∧ ∃ g', R = (f, k', g')))
theorem mRT {k d : Nat} {g : PS} {I : Nat → Nat → Int32} (hk : k + d = m) (hT : TXm I L m) (h26 : I 0 26 = nI k) (hN : NWm I g) (hO : psO g) (hkm : k < m) (ha : L k = 116) : rdG J L m k I (pa L m d 0 k g) (fX12_readsThread [.ref 0] (mH I J)) := by
  obtain ⟨x, rfl⟩ : ∃ x, d = x + 1 := ⟨d - 1, by omega⟩
  have hm := hT.2.1
  have h3 := hO.2.1
  have et : tk (L k) 0 g = if g.T < 3 then (0, 2, psT g) else (3, 0, g) := by
    unfold tk
    rw [if_pos rfl, if_pos ha]
  rw [eX12_readsThread, hN.1, h26, pa_n (by omega), et]
  simp (disch := omega) only [nI_lt', nI_le', nI_eq', inb_nI, clp, nI_add, nI_mul', cond_true, cond_false]
  by_cases t : g.T = 3
  · rw [if_pos t, if_neg (show ¬ g.T < 3 by omega)]
    exact ⟨I, 3, k, rfl, frN_refl I, h26, by omega, Or.inr ⟨by decide, by decide, g, rfl⟩⟩
  · rw [if_neg t, if_pos (show g.T < 3 by omega), if_pos rfl]
    have f1 : frN I (up2 (up2 I 0 27 (nI (g.T + 1))) 0 26 (nI (k + 1))) := frN_trans (frN_0 (Or.inr (Or.inl rfl)) _) (frN_0 (Or.inl rfl) _)
    obtain ⟨d', k', c1, c2, c3⟩ := mEn (J := J) x (k + 1) (up2 (up2 I 0 27 (nI (g.T + 1))) 0 26 (nI (k + 1))) (by omega) (hT.fr f1) (by rw [up2_eq, up1_eq])
    have hN1 : NWm (up2 (up2 I 0 27 (nI (g.T + 1))) 0 26 (nI (k + 1))) (psT g) := by
      refine NWm.up ⟨by rw [up2_eq, up1_eq]; rfl, by rw [up2_eq, up1_ne (by decide)]; exact hN.2.1, fun s hs => by rw [up2_ne (by decide), up2_ne (by decide), up2_ne (by decide)]; exact hN.2.2 s hs⟩ _
    have hO1 : psO (psT g) := ⟨hO.1, by show g.T + 1 ≤ 3; omega, fun s hs => ⟨Nat.lt_succ_of_lt (hO.2.2.1 s hs).1, (hO.2.2.1 s hs).2⟩, hO.2.2.2⟩
    rcases c3 with ⟨e, c4, c5⟩ | ⟨e, c5⟩
    · rw [e]
      simp (disch := omega) only [callK_some, Option.toList_some, Option.toList_none, List.cons_append, List.nil_append, bX12_readsThread_34]
      refine ⟨_, 0, k', rfl, frN_trans f1 (frN_0 (Or.inl rfl) _), by rw [up2_eq, up1_eq], by omega, Or.inl ⟨rfl, by omega, psT g, hN1.up _, hO1, ?_⟩⟩
      rw [show m - k' = d' by omega]
      exact c5 (psT g)
    · rw [e]
      simp (disch := omega) only [callK_some, Option.toList_some, Option.toList_none, List.cons_append, List.nil_append, bX12_readsThread_34]
      exact ⟨_, 1, k', rfl, frN_trans f1 (frN_0 (Or.inl rfl) _), by rw [up2_eq, up1_eq], by omega, Or.inr ⟨by decide, by decide, psT g, c5 (psT g)⟩⟩
theorem m1_48 : Int32.ofInt (-1) < nI 48 := by decide
theorem mRS {k d : Nat} {g : PS} {I : Nat → Nat → Int32} {w : Bool} (hk : k + d = m) (hT : TXm I L m) (h26 : I 0 26 = nI k) (hN : NWm I g) (hO : psO g) (hkm : k < m) (ha : L k = 114 ∨ L k = 119) (hw : w = decide (L k = 119)) : rdG J L m k I (pa L m d 0 k g) (fX12_readsStep [.ref 0, .int (tI w)] (mH I J)) := by
  obtain ⟨x, rfl⟩ : ∃ x, d = x + 1 := ⟨d - 1, by omega⟩
  have hm := hT.2.1
  have h3 := hO.2.1
  have hn8 := hO.1
  have et : tk (L k) 0 g = if g.T = 0 then (1, 0, g) else if g.n < 8 then (0, 1, psW g w) else (3, 0, g) := by
    unfold tk
    rw [if_pos rfl, if_neg (by omega), if_pos ha, hw]
  rw [eX12_readsStep, hN.1, hN.2.1, h26, pa_n (by omega), et]
  simp (disch := omega) only [nI_lt', nI_le', nI_eq', inb_nI, clp, nI_add, nI_mul', cond_true, cond_false]
  by_cases t : g.T = 0
  · rw [if_pos t, if_pos t]
    exact ⟨I, 1, k, rfl, frN_refl I, h26, by omega, Or.inr ⟨by decide, by decide, g, rfl⟩⟩
  · rw [if_neg t, if_neg t]
    by_cases n8 : g.n = 8
    · rw [if_pos n8, if_neg (show ¬ g.n < 8 by omega)]
      exact ⟨I, 3, k, rfl, frN_refl I, h26, by omega, Or.inr ⟨by decide, by decide, g, rfl⟩⟩
    · rw [if_neg n8, if_pos (show g.n < 8 by omega), if_pos rfl]
      have f1 : frN I (up2 I 0 26 (nI (k + 1))) := frN_0 (Or.inl rfl) _
      obtain ⟨d1, k1, c1, c2, c3, c4, c5⟩ := mSg (J := J) x (k + 1) (up2 I 0 26 (nI (k + 1))) (by omega) (hT.fr f1) (by rw [up2_eq, up1_eq])
      rw [up2_up2] at c3
      rw [c3]
      have hN1 : NWm (up2 I 0 26 (nI k1)) g := hN.up _
      have f2 : frN I (up2 I 0 26 (nI k1)) := frN_0 (Or.inl rfl) _
      simp (disch := omega) only [callK_some, Option.toList_some, Option.toList_none, List.cons_append, List.nil_append, bX12_readsStep_34, hN1.1, hN1.2.1, nI_lt', nI_le', nI_eq', inb_nI, clp, nI_add, nI_mul', cond_true, cond_false, tI_B, Bool.true_and, sub1_nI]
      show rdG J L m k I (pa L m x 1 (k + 1) (psW g w)) _
      rw [c5 1 (psW g w)]
      by_cases hk1 : k1 < m
      · have l2 := (hT.2.2 k1 hk1).2
        obtain ⟨y, rfl⟩ : ∃ y, d1 = y + 1 := ⟨d1 - 1, by omega⟩
        rw [pa_n (c4 hk1), tk_1, show sgR L m k1 = nI (L k1) from if_pos hk1]
        simp (disch := omega) only [nI_lt', nI_le', nI_eq', inb_nI, clp, nI_add, nI_mul', cond_true, cond_false]
        by_cases a1 : L k1 < 48
        · rw [if_pos a1, if_pos (Or.inl a1), if_neg (fun z => abn z rfl)]
          exact ⟨_, 1, k1, rfl, f2, by rw [up2_eq, up1_eq], by omega, Or.inr ⟨by decide, by decide, _, rfl⟩⟩
        · rw [if_neg a1]
          by_cases a2 : L k1 ≤ 57
          · rw [if_pos a2, if_neg (show ¬ (L k1 < 48 ∨ 57 < L k1) by omega)]
            by_cases a3 : L k1 ≤ 50
            · rw [if_pos a3, if_neg (show ¬ 50 < L k1 by omega), if_pos rfl, sub_nI (show 48 ≤ L k1 by omega)]
              have e26 : up2 I 0 26 (nI k1) 0 26 = nI k1 := by rw [up2_eq, up1_eq]
              rw [e26, nI_add, up2_up2]
              have f3 : frN I (up2 (up2 (up2 (up2 (up2 I 0 26 (nI (k1 + 1))) 16 g.n (nI (g.T - 1))) 17 g.n (nI (L k1 - 48))) 18 g.n (tI w)) 0 28 (nI (g.n + 1))) := frN_trans (frN_trans (frN_trans (frN_trans (frN_0 (Or.inl rfl) _) (frN_r (Or.inl rfl) _)) (frN_r (Or.inr (Or.inl rfl)) _)) (frN_r (Or.inr (Or.inr rfl)) _)) (frN_0 (Or.inr (Or.inr rfl)) _)
              have hN3 : NWm (up2 (up2 (up2 (up2 (up2 I 0 26 (nI (k1 + 1))) 16 g.n (nI (g.T - 1))) 17 g.n (nI (L k1 - 48))) 18 g.n (tI w)) 0 28 (nI (g.n + 1))) (psS (psW g w) (L k1 - 48) w) := by
                refine ⟨by rw [up2_eq, up1_ne (by decide), up2_ne (by decide), up2_ne (by decide), up2_ne (by decide), up2_eq, up1_ne (by decide)]; exact hN.1, by rw [up2_eq, up1_eq]; rfl, fun s hs => ?_⟩
                have hs' : s < g.n + 1 := hs
                rw [up2_ne (by decide), up2_ne (by decide), up2_ne (by decide), up2_eq, up2_ne (by decide), up2_ne (by decide), up2_ne (by decide), up2_eq, up2_ne (by decide), up2_ne (by decide), up2_ne (by decide), up2_eq, up2_ne (by decide), up2_ne (by decide), up2_ne (by decide)]
                show up1 (I 16) g.n (nI (g.T - 1)) s = nI (up1 g.th g.n (g.T - 1) s) ∧ up1 (I 17) g.n (nI (L k1 - 48)) s = nI (up1 g.ce g.n (L k1 - 48) s) ∧ up1 (I 18) g.n (tI w) s = tI (up1 g.wr g.n w s)
                by_cases q : s = g.n
                · subst q
                  simp only [up1_eq, and_self]
                · simp only [up1_ne q]
                  exact hN.2.2 s (by omega)
              have hO3 : psO (psS (psW g w) (L k1 - 48) w) := by
                have hz : tk (L k1) 1 (psW g w) = (0, 2, psS (psW g w) (L k1 - 48) w) := by
                  rw [tk_1, if_neg (show ¬ (L k1 < 48 ∨ 57 < L k1) by omega), if_neg (show ¬ 50 < L k1 by omega)]
                  rfl
                have := (psO_tk (a := L k1) (q := 1) (g := psW g w) ⟨hO.1, hO.2.1, hO.2.2.1, hO.2.2.2⟩ (fun _ => ⟨Nat.pos_of_ne_zero t, by show g.n < 8; omega⟩) (by rw [hz])).1
                rw [hz] at this
                exact this
              obtain ⟨d2, k2, b1, b2, b3⟩ := mEn (J := J) y (k1 + 1) _ (by omega) (hT.fr f3) (by rw [up2_eq, up1_ne (by decide), up2_ne (by decide), up2_ne (by decide), up2_ne (by decide), up2_eq, up1_eq])
              rcases b3 with ⟨e, b4, b5⟩ | ⟨e, b5⟩
              · rw [e]
                simp (disch := omega) only [callK_some, Option.toList_some, Option.toList_none, List.cons_append, List.nil_append, bX12_readsStep_119]
                refine ⟨_, 0, k2, rfl, frN_trans f3 (frN_0 (Or.inl rfl) _), by rw [up2_eq, up1_eq], by omega, Or.inl ⟨rfl, by omega, psS (psW g w) (L k1 - 48) w, hN3.up _, hO3, ?_⟩⟩
                rw [show m - k2 = d2 by omega]
                exact b5 _
              · rw [e]
                simp (disch := omega) only [callK_some, Option.toList_some, Option.toList_none, List.cons_append, List.nil_append, bX12_readsStep_119]
                exact ⟨_, 1, k2, rfl, frN_trans f3 (frN_0 (Or.inl rfl) _), by rw [up2_eq, up1_eq], by omega, Or.inr ⟨by decide, by decide, _, b5 _⟩⟩
            · rw [if_neg a3, if_pos (show 50 < L k1 by omega), if_neg (fun z => abn z rfl)]
              exact ⟨_, 2, k1, rfl, f2, by rw [up2_eq, up1_eq], by omega, Or.inr ⟨by decide, by decide, _, rfl⟩⟩
          · rw [if_neg a2, if_pos (Or.inr (by omega)), if_neg (fun z => abn z rfl)]
            exact ⟨_, 1, k1, rfl, f2, by rw [up2_eq, up1_eq], by omega, Or.inr ⟨by decide, by decide, _, rfl⟩⟩
      · have h0 : d1 = 0 := by omega
        have h1 : k1 = m := by omega
        subst h0
        rw [show sgR L m k1 = Int32.ofInt (-1) from if_neg hk1, if_pos m1_48]
        refine ⟨_, 1, k1, rfl, f2, by rw [up2_eq, up1_eq], by omega, Or.inr ⟨by decide, by decide, psW g w, ?_⟩⟩
        rw [h1]
        rfl
theorem mRe_loop : ∀ N d k (g : PS) (I : Nat → Nat → Int32) (z : Value), d ≤ N → k + d = m → TXm I L m → I 0 26 = nI k → NWm I g → psO g → ∃ (I' : Nat → Nat → Int32), run mX12_reads (17, 0, 0, [.ref 0, .int (nI 0), z], [], mH I J) = some (some (.int (nI (pa L m d 0 k g).1)), mH I' J) ∧ frN I I' ∧ (0 < (pa L m d 0 k g).1 → I' 0 26 = nI (pa L m d 0 k g).2.1) ∧ ((pa L m d 0 k g).1 = 0 → NWm I' (pa L m d 0 k g).2.2) := by
  intro N
  induction N with
  | zero =>
    intro d k g I z hd hk hT h26 hN hO
    have : d = 0 := by omega
    subst this
    have hm := hT.2.1
    have hkm : k = m := by omega
    have es : fX12_sign [.ref 0] (mH I J) = some (some (.int (Int32.ofInt (-1))), mH I J) := by
      rw [eX12_sign, hT.1, h26]
      simp (disch := omega) only [nI_lt', nI_le', nI_eq', inb_nI, clp, nI_add, nI_mul', cond_true, cond_false]
      rw [if_pos (by omega), if_pos (by omega)]
    refine ⟨I, ?_, frN_refl I, fun z => absurd (show 0 < 0 from z) (Nat.lt_irrefl 0), fun _ => hN⟩
    rw [bX12_reads_17]
    simp (disch := omega) only [nI_lt', nI_le', nI_eq', inb_nI, clp, nI_add, nI_mul', cond_true, cond_false, if_true, es, callK_some, Option.toList_some, Option.toList_none, List.cons_append, List.nil_append, bX12_reads_25]
    rfl
  | succ N ih =>
    intro d k g I z hd hk hT h26 hN hO
    have hm := hT.2.1
    obtain ⟨d1, k1, c1, c2, c3, c4, c5⟩ := mSg (J := J) d k I hk hT h26
    have f1 : frN I (up2 I 0 26 (nI k1)) := frN_0 (Or.inl rfl) _
    have hT1 := hT.fr f1
    have hN1 : NWm (up2 I 0 26 (nI k1)) g := hN.up _
    have h261 : up2 I 0 26 (nI k1) 0 26 = nI k1 := by rw [up2_eq, up1_eq]
    rw [c5 0 g, bX12_reads_17]
    simp (disch := omega) only [nI_lt', nI_le', nI_eq', inb_nI, clp, nI_add, nI_mul', cond_true, cond_false, if_true, c3, callK_some, Option.toList_some, Option.toList_none, List.cons_append, List.nil_append, bX12_reads_25]
    by_cases hk1 : k1 < m
    · have l2 := (hT.2.2 k1 hk1).2
      obtain ⟨l1, -⟩ := hT1.2.2 k1 hk1
      have w := c4 hk1
      have es : fX12_sign [.ref 0] (mH (up2 I 0 26 (nI k1)) J) = some (some (.int (nI (L k1))), mH (up2 I 0 26 (nI k1)) J) := by
        rw [eX12_sign, hT1.1, h261]
        simp (disch := omega) only [nI_lt', nI_le', nI_eq', inb_nI, clp, nI_add, nI_mul', cond_true, cond_false, l1]
        rw [if_neg (by omega), if_neg w, if_neg (by omega)]
      rw [show sgR L m k1 = nI (L k1) from if_pos hk1, if_neg (fun q => m1_nn (show L k1 < 2147483648 by omega) q.symm), es]
      simp (disch := omega) only [callK_some, Option.toList_some, Option.toList_none, List.cons_append, List.nil_append, bX12_reads_33, nI_lt', nI_le', nI_eq', inb_nI, clp, nI_add, nI_mul', cond_true, cond_false]
      have fin : ∀ o, rdG J L m k1 (up2 I 0 26 (nI k1)) (pa L m d1 0 k1 g) o → ∀ (F : Option Value → HP → Option (Option Value × HP)), (∀ f I', ∃ z, F (some (.int (nI f))) (mH I' J) = run mX12_reads (17, 0, 0, [.ref 0, .int (nI f), z], [], mH I' J)) → ∃ (I' : Nat → Nat → Int32), callK o F = some (some (.int (nI (pa L m d1 0 k1 g).1)), mH I' J) ∧ frN I I' ∧ (0 < (pa L m d1 0 k1 g).1 → I' 0 26 = nI (pa L m d1 0 k1 g).2.1) ∧ ((pa L m d1 0 k1 g).1 = 0 → NWm I' (pa L m d1 0 k1 g).2.2) := by
        rintro o ⟨I2, f, k2, ho, f2, h262, hk2, hc⟩ F hF
        obtain ⟨z2, hz2⟩ := hF f I2
        rw [ho, callK_some, hz2]
        rcases hc with ⟨rfl, b1, g', b2, b3, b4⟩ | ⟨b1, b2, g', b3⟩
        · rw [b4]
          obtain ⟨I3, e3, f3, u1, u2⟩ := ih (m - k2) k2 g' I2 z2 (by omega) (by omega) (hT1.fr f2) h262 b2 b3
          exact ⟨I3, e3, frN_trans f1 (frN_trans f2 f3), u1, u2⟩
        · rw [b3, bX12_reads_17]
          simp (disch := omega) only [nI_lt', nI_le', nI_eq', inb_nI, clp, nI_add, nI_mul', cond_true, cond_false]
          rw [if_neg (by omega)]
          exact ⟨I2, rfl, frN_trans f1 f2, fun _ => h262, fun q => absurd (show f = 0 from q) (by omega)⟩
      by_cases a1 : L k1 = 116
      · rw [if_pos a1]
        refine fin _ (mRT c1 hT1 h261 hN1 hO hk1 a1) _ (fun f I' => ⟨.null, ?_⟩)
        show run mX12_reads (44, 0, 0, _, _, _) = _
        rw [Option.toList_some, List.cons_append, List.nil_append, bX12_reads_44]
      · rw [if_neg a1]
        by_cases a2 : L k1 = 114
        · rw [if_pos a2, if_neg (show ¬ L k1 = 119 by omega)]
          refine fin _ (mRS (w := false) c1 hT1 h261 hN1 hO hk1 (Or.inl a2) (decide_eq_false (by omega)).symm) _ (fun f I' => ⟨.null, ?_⟩)
          show run mX12_reads (74, 0, 0, _, _, _) = _
          rw [Option.toList_some, List.cons_append, List.nil_append, bX12_reads_74]
        · rw [if_neg a2]
          by_cases a3 : L k1 = 119
          · rw [if_pos a3, if_pos a3]
            refine fin _ (mRS (w := true) c1 hT1 h261 hN1 hO hk1 (Or.inr a3) (decide_eq_true a3).symm) _ (fun f I' => ⟨.null, ?_⟩)
            show run mX12_reads (74, 0, 0, _, _, _) = _
            rw [Option.toList_some, List.cons_append, List.nil_append, bX12_reads_74]
          · rw [if_neg a3, bX12_reads_17]
            simp (disch := omega) only [nI_lt', nI_le', nI_eq', inb_nI, clp, nI_add, nI_mul', cond_true, cond_false]
            obtain ⟨x, rfl⟩ : ∃ x, d1 = x + 1 := ⟨d1 - 1, by omega⟩
            have et : tk (L k1) 0 g = (1, 0, g) := by
              unfold tk
              rw [if_pos rfl, if_neg a1, if_neg (by omega)]
            rw [if_neg (by omega), pa_n w, et, if_neg (fun z => abn z rfl)]
            exact ⟨_, rfl, f1, fun _ => h261, fun q => abn q rfl⟩
    · have h0 : d1 = 0 := by omega
      subst h0
      rw [show sgR L m k1 = Int32.ofInt (-1) from if_neg hk1, if_pos rfl]
      exact ⟨_, rfl, f1, fun q => absurd (show 0 < 0 from q) (Nat.lt_irrefl 0), fun _ => hN1⟩
theorem ps0_O : psO ps0 := ⟨by decide, by decide, fun s hs => absurd hs (Nat.not_lt_zero s), fun s u _ hu => absurd hu (Nat.not_lt_zero u)⟩
theorem mReads {I : Nat → Nat → Int32} (hT : TXm I L m) : ∃ (I' : Nat → Nat → Int32), fX12_reads [.ref 0] (mH I J) = some (some (.int (nI (pa L m m 0 0 ps0).1)), mH I' J) ∧ frN I I' ∧ (0 < (pa L m m 0 0 ps0).1 → I' 0 26 = nI (pa L m m 0 0 ps0).2.1) ∧ ((pa L m m 0 0 ps0).1 = 0 → NWm I' (pa L m m 0 0 ps0).2.2) := by
  have f1 : frN I (up2 (up2 (up2 I 0 26 (nI 0)) 0 27 (nI 0)) 0 28 (nI 0)) := frN_trans (frN_trans (frN_0 (Or.inl rfl) _) (frN_0 (Or.inr (Or.inl rfl)) _)) (frN_0 (Or.inr (Or.inr rfl)) _)
  obtain ⟨I', e, f2, c1, c2⟩ := mRe_loop (J := J) m m 0 ps0 _ .null (Nat.le_refl m) (by omega) (hT.fr f1) (by rw [up2_eq, up1_ne (by decide), up2_eq, up1_ne (by decide), up2_eq, up1_eq]) ⟨by rw [up2_eq, up1_ne (by decide), up2_eq, up1_eq]; rfl, by rw [up2_eq, up1_eq]; rfl, fun s hs => absurd hs (Nat.not_lt_zero s)⟩ ps0_O
  refine ⟨I', ?_, frN_trans f1 f2, c1, c2⟩
  rw [eX12_reads]
  exact e
end MPA
