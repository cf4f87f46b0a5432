/-! the reference: rings counted -/
def GRm (I : Nat → Nat → Int32) (n : Nat) (G : List (Nat × Nat)) : Prop := I 0 22 = nI G.length ∧ G.length ≤ 36 ∧ ∀ i, i < G.length → I 13 i = nI (gAt G i).1 ∧ I 14 i = nI (gAt G i).2 ∧ (gAt G i).1 < n ∧ (gAt G i).2 < n
def rgI (I : Nat → Nat → Int32) (r : Int32) (v : Nat → Int32) : Nat → Nat → Int32 := fun p k => if p = 12 then v k else if p = 0 then (if k = 18 then r else I 0 k) else I p k
theorem rgI_12 (I : Nat → Nat → Int32) (r : Int32) (v : Nat → Int32) (k : Nat) (x : Int32) : up2 (rgI I r v) 12 k x = rgI I r (up1 v k x) := by
  funext p
  by_cases h : p = 12
  · subst h; rw [up2_eq]; rfl
  · rw [up2_ne h]; funext q; simp [rgI, h]
theorem rgI_r (I : Nat → Nat → Int32) (r : Int32) (v : Nat → Int32) (x : Int32) : up2 (rgI I r v) 0 18 x = rgI I x v := by
  funext p
  by_cases h : p = 0
  · subst h; rw [up2_eq]; funext q; unfold up1
    by_cases hq : q = 18
    · subst hq; rfl
    · rw [if_neg hq]; simp [rgI, hq]
  · rw [up2_ne h]; funext q; simp [rgI, h]
theorem RPm.rg {I : Nat → Nat → Int32} {n : Nat} {th ce : Nat → Nat} {wr : Nat → Bool} (h : RPm I n th ce wr) (r : Int32) (v : Nat → Int32) : RPm (rgI I r v) n th ce wr := h.cong rfl rfl rfl rfl
theorem GRm.rg {I : Nat → Nat → Int32} {n : Nat} {G : List (Nat × Nat)} (h : GRm I n G) (r : Int32) (v : Nat → Int32) : GRm (rgI I r v) n G := h
theorem gsI_GR {I : Nat → Nat → Int32} {n : Nat} {th ce : Nat → Nat} {wr : Nat → Bool} (hn : n ≤ 8) : GRm (gsI I (gS th ce wr n n)) n (gS th ce wr n n) := by
  refine ⟨rfl, gS_le hn, fun i hi => ?_⟩
  obtain ⟨h1, h2, h3, h4⟩ := gS_mem (Nat.le_refl n) (gAt_mem hi)
  have e : gAt (gS th ce wr n n) i = (gS th ce wr n n)[i] := by unfold gAt; rw [List.getElem?_eq_getElem hi]; rfl
  refine ⟨?_, ?_, h1, h3⟩
  · rw [e]; show (if 13 = 13 then lsf (gS th ce wr n n) (fun a => nI a.1) (I 13) i else _) = _; rw [if_pos rfl, lsf_in hi]
  · rw [e]; show lsf (gS th ce wr n n) (fun a => nI a.2) (I 14) i = _; rw [lsf_in hi]
def twB (th ce : Nat → Nat) (wr : Nat → Bool) (a b : Nat × Nat) : Bool := !alB a && !alB b && decide (th a.1 < th b.1) && cfB th ce wr a.2 b.1 && cfB th ce wr b.2 a.1
def ftB (wr : Nat → Bool) (x a b : Nat × Nat) : Bool := !alB a || (!wr x.2 && !wr b.1)
def t3B (th ce : Nat → Nat) (wr : Nat → Bool) (a b c : Nat × Nat) : Bool := !decide (th c.1 = 0) && !decide (th c.1 = th b.1) && cfB th ce wr b.2 c.1 && cfB th ce wr c.2 a.1 && ftB wr c a b && ftB wr a b c && ftB wr b c a
def p3B (th ce : Nat → Nat) (wr : Nat → Bool) (a b : Nat × Nat) : Bool := decide (th a.1 = 0) && decide (0 < th b.1) && cfB th ce wr a.2 b.1
def cM (a : Nat × Nat) : Int32 := bif alB a then nI 0 else nI 1
def bI (b : Bool) (x : Int32) : Int32 := bif b then x else nI 0
section MRC
variable {I : Nat → Nat → Int32} {J : Nat → Nat → Int64} {n : Nat} {th ce : Nat → Nat} {wr : Nat → Bool} {G : List (Nat × Nat)} {i j k : Nat}
theorem mOne (hG : GRm I n G) (hn : n ≤ 8) (hi : i < G.length) : fX12_isOne [.ref 0, .int (nI i)] (mH I J) = some (some (.int (tI (alB (gAt G i)))), mH I J) := by
  have hl := hG.2.1
  obtain ⟨a1, a2, a3, a4⟩ := hG.2.2 i hi
  rw [eX12_isOne]
  simp (disch := omega) only [nI_lt', nI_le', nI_eq', inb_nI, clp, nI_add, nI_mul', cond_true, cond_false, a1, a2]
  unfold alB
  by_cases h : (gAt G i).1 = (gAt G i).2 <;> simp [h, tI]
theorem mMeets (h : RPm I n th ce wr) (hG : GRm I n G) (hi : i < G.length) (hj : j < G.length) : fX12_meets [.ref 0, .int (nI i), .int (nI j)] (mH I J) = some (some (.int (tI (cfB th ce wr (gAt G i).2 (gAt G j).1))), mH I J) := by
  have hl := hG.2.1
  obtain ⟨a1, a2, a3, a4⟩ := hG.2.2 i hi
  obtain ⟨b1, b2, b3, b4⟩ := hG.2.2 j hj
  rw [eX12_meets]
  simp (disch := omega) only [nI_lt', nI_le', nI_eq', inb_nI, clp, nI_add, nI_mul', cond_true, cond_false, callK_some, Option.toList_some, Option.toList_none, List.cons_append, List.nil_append, a2, b1, mCf h a4 b3, bX12_meets_16, tI_B]
theorem mFits (h : RPm I n th ce wr) (hG : GRm I n G) (hi : i < G.length) (hj : j < G.length) (hk : k < G.length) : fX12_fits [.ref 0, .int (nI i), .int (nI j), .int (nI k)] (mH I J) = some (some (.int (tI (ftB wr (gAt G i) (gAt G j) (gAt G k)))), mH I J) := by
  have hl := hG.2.1
  have hn := h.2.1
  obtain ⟨a1, a2, a3, a4⟩ := hG.2.2 i hi
  obtain ⟨b1, b2, b3, b4⟩ := hG.2.2 k hk
  obtain ⟨-, -, c3, -⟩ := h.2.2 _ a4
  obtain ⟨-, -, d3, -⟩ := h.2.2 _ b3
  rw [eX12_fits]
  simp (disch := omega) only [nI_lt', nI_le', nI_eq', inb_nI, clp, nI_add, nI_mul', cond_true, cond_false, callK_some, Option.toList_some, Option.toList_none, List.cons_append, List.nil_append, mOne hG hn hj, bX12_fits_5, ite_tI, a2, b1, c3, d3]
  unfold ftB
  cases alB (gAt G j) <;> cases wr (gAt G i).2 <;> cases wr (gAt G k).1 <;> rfl
theorem mGives {r : Int32} {v : Nat → Int32} (hn : n ≤ 8) (hG : GRm I n G) (hi : i < G.length) : fX12_gives [.ref 0, .int (nI i)] (mH (rgI I r v) J) = some (none, mH (rgI I r (fun q => v q + adk (kyN (gAt G i)) (cM (gAt G i)) q)) J) := by
  have hG' := hG.rg r v
  have hl := hG.2.1
  obtain ⟨a1, a2, a3, a4⟩ := hG'.2.2 i hi
  have hk : 8 * (gAt G i).1 + (gAt G i).2 < 64 := by omega
  have e12 : rgI I r v 12 = v := rfl
  rw [eX12_gives]
  simp (disch := omega) only [nI_lt', nI_le', nI_eq', inb_nI, clp, nI_add, nI_mul', cond_true, cond_false, callK_some, Option.toList_some, Option.toList_none, List.cons_append, List.nil_append, a1, a2, mOne hG' hn hi, bX12_gives_27, ite_tI, rgI_12, e12]
  cases ha : alB (gAt G i) with
  | false =>
    rw [if_neg (by decide)]
    have : cM (gAt G i) = nI 1 := by unfold cM; rw [ha]; rfl
    rw [this]
    show some (none, mH (rgI I r (up1 v (kyN (gAt G i)) (v (kyN (gAt G i)) + nI 1))) J) = _
    rw [up1_add]
  | true =>
    rw [if_pos rfl]
    have : cM (gAt G i) = nI 0 := by unfold cM; rw [ha]; rfl
    rw [this]
    show some (none, mH (rgI I r (up1 v (kyN (gAt G i)) (v (kyN (gAt G i)) + nI 0))) J) = _
    rw [up1_add]
/-- what a ring of two adds -/
def a2 (th ce : Nat → Nat) (wr : Nat → Bool) (G : List (Nat × Nat)) (i j : Nat) : Int32 := bI (twB th ce wr (gAt G i) (gAt G j)) (nI 1)
def g2 (th ce : Nat → Nat) (wr : Nat → Bool) (G : List (Nat × Nat)) (i j q : Nat) : Int32 := bI (twB th ce wr (gAt G i) (gAt G j)) (adk (kyN (gAt G i)) (nI 1) q + adk (kyN (gAt G j)) (nI 1) q)
def a3 (th ce : Nat → Nat) (wr : Nat → Bool) (G : List (Nat × Nat)) (i j k : Nat) : Int32 := bI (t3B th ce wr (gAt G i) (gAt G j) (gAt G k)) (nI 1)
def g3 (th ce : Nat → Nat) (wr : Nat → Bool) (G : List (Nat × Nat)) (i j k q : Nat) : Int32 := bI (t3B th ce wr (gAt G i) (gAt G j) (gAt G k)) (adk (kyN (gAt G i)) (cM (gAt G i)) q + (adk (kyN (gAt G j)) (cM (gAt G j)) q + adk (kyN (gAt G k)) (cM (gAt G k)) q))
theorem st_same {r : Int32} {v : Nat → Int32} {r' : Int32} {v' : Nat → Int32} (h1 : r = r') (h2 : ∀ q, v q = v' q) : rgI I r v = rgI I r' v' := by rw [h1, funext h2]
theorem cM_1 {a : Nat × Nat} (h : alB a = false) : cM a = nI 1 := by unfold cM; rw [h]; rfl
theorem mTw_in (h : RPm I n th ce wr) (hG : GRm I n G) (hi : i < G.length) {r : Int32} {v : Nat → Int32} : ∀ d j (z : Value), j + d = G.length → run mX12_laysTwos (12, 0, 0, [.ref 0, .int (nI i), .int (nI j), z], [], mH (rgI I (r + sI (a2 th ce wr G i) j) (fun q => v q + sI (fun j' => g2 th ce wr G i j' q) j)) J) = run mX12_laysTwos (2, 0, 0, [.ref 0, .int (nI (i + 1)), .int (nI G.length), .null], [], mH (rgI I (r + sI (a2 th ce wr G i) G.length) (fun q => v q + sI (fun j' => g2 th ce wr G i j' q) G.length)) J) := by
  have hn := h.2.1
  have hl := hG.2.1
  intro d
  induction d with
  | zero =>
    intro j z hj
    have : j = G.length := by omega
    subst this
    have hG' := hG.rg (r + sI (a2 th ce wr G i) G.length) (fun q => v q + sI (fun j' => g2 th ce wr G i j' q) G.length)
    rw [bX12_laysTwos_12]
    simp (disch := omega) only [nI_lt', nI_le', nI_eq', inb_nI, clp, nI_add, nI_mul', cond_true, cond_false, hG'.1, Nat.le_refl, if_true]
  | succ d ih =>
    intro j z hj
    have hjl : j < G.length := by omega
    have ih' := ih (j + 1) .null (by omega)
    -- the state here
    have key : ∀ (R : Int32) (V : Nat → Int32), R = r + sI (a2 th ce wr G i) j → V = (fun q => v q + sI (fun j' => g2 th ce wr G i j' q) j) → run mX12_laysTwos (12, 0, 0, [.ref 0, .int (nI i), .int (nI j), z], [], mH (rgI I R V) J) = run mX12_laysTwos (12, 0, 0, [.ref 0, .int (nI i), .int (nI (j + 1)), .null], [], mH (rgI I (R + a2 th ce wr G i j) (fun q => V q + g2 th ce wr G i j q)) J) := by
      intro R V _ _
      have h' := h.rg R V
      have hG' := hG.rg R V
      obtain ⟨a1, -, a3, -⟩ := hG'.2.2 i hi
      obtain ⟨b1, -, b3, -⟩ := hG'.2.2 j hjl
      obtain ⟨c1, -, -, c4, -⟩ := h'.2.2 _ a3
      obtain ⟨d1, -, -, d4, -⟩ := h'.2.2 _ b3
      have e18 : rgI I R V 0 18 = R := rfl
      rw [bX12_laysTwos_12]
      simp (disch := omega) only [nI_lt', nI_le', nI_eq', inb_nI, clp, nI_add, nI_mul', cond_true, cond_false, callK_some, Option.toList_some, Option.toList_none, List.cons_append, List.nil_append, hG'.1, mOne hG' hn hi, mOne hG' hn hjl, bX12_laysTwos_25, bX12_laysTwos_33, ite_tI, a1, b1, c1, d1, mMeets h' hG' hi hjl, mMeets h' hG' hjl hi, bX12_laysTwos_77, bX12_laysTwos_86, rgI_r, e18, mGives hn hG hi, mGives hn hG hjl, bX12_laysTwos_104, bX12_laysTwos_109]
      rw [if_neg (by omega)]
      unfold a2 g2
      have hfalse : twB th ce wr (gAt G i) (gAt G j) = false → rgI I R V = rgI I (R + bI (twB th ce wr (gAt G i) (gAt G j)) (nI 1)) (fun q => V q + bI (twB th ce wr (gAt G i) (gAt G j)) (adk (kyN (gAt G i)) (nI 1) q + adk (kyN (gAt G j)) (nI 1) q)) := by
        intro hz
        rw [hz]
        exact st_same (add_z R).symm (fun q => (add_z (V q)).symm)
      cases ha : alB (gAt G i) with
      | true =>
        rw [if_pos rfl]
        rw [← hfalse (by unfold twB; rw [ha]; rfl)]
      | false =>
        rw [if_neg (by decide)]
        cases hb : alB (gAt G j) with
        | true =>
          rw [if_pos rfl]
          rw [← hfalse (by unfold twB; rw [ha, hb]; rfl)]
        | false =>
          rw [if_neg (by decide)]
          by_cases hth : th (gAt G j).1 ≤ th (gAt G i).1
          · rw [if_pos hth]
            rw [← hfalse (by unfold twB; rw [ha, hb]; have : ¬ th (gAt G i).1 < th (gAt G j).1 := by omega
                             simp [this])]
          · rw [if_neg hth]
            have hth' : th (gAt G i).1 < th (gAt G j).1 := by omega
            cases hm : cfB th ce wr (gAt G i).2 (gAt G j).1 with
            | false =>
              rw [if_neg (by decide)]
              rw [← hfalse (by unfold twB; rw [ha, hb, hm]; simp [hth'])]
            | true =>
              rw [if_pos rfl]
              cases hm2 : cfB th ce wr (gAt G j).2 (gAt G i).1 with
              | false =>
                rw [if_neg (by decide)]
                rw [← hfalse (by unfold twB; rw [ha, hb, hm, hm2]; simp [hth'])]
              | true =>
                rw [if_pos rfl]
                have ht : twB th ce wr (gAt G i) (gAt G j) = true := by unfold twB; rw [ha, hb, hm, hm2]; simp [hth']
                rw [ht, cM_1 ha, cM_1 hb]
                congr 7
                exact st_same rfl (fun q => Int32.add_assoc _ _ _)
    rw [key _ _ rfl rfl]
    rw [show rgI I (r + sI (a2 th ce wr G i) j + a2 th ce wr G i j) (fun q => v q + sI (fun j' => g2 th ce wr G i j' q) j + g2 th ce wr G i j q) = rgI I (r + sI (a2 th ce wr G i) (j + 1)) (fun q => v q + sI (fun j' => g2 th ce wr G i j' q) (j + 1)) from st_same (Int32.add_assoc _ _ _) (fun q => Int32.add_assoc _ _ _)]
    exact ih'
theorem mTw_out (h : RPm I n th ce wr) (hG : GRm I n G) {r : Int32} {v : Nat → Int32} : ∀ d i (z1 z2 : Value), i + d = G.length → run mX12_laysTwos (2, 0, 0, [.ref 0, .int (nI i), z1, z2], [], mH (rgI I (r + sI (fun i => sI (a2 th ce wr G i) G.length) i) (fun q => v q + sI (fun i => sI (fun j' => g2 th ce wr G i j' q) G.length) i)) J) = some (none, mH (rgI I (r + sI (fun i => sI (a2 th ce wr G i) G.length) G.length) (fun q => v q + sI (fun i => sI (fun j' => g2 th ce wr G i j' q) G.length) G.length)) J) := by
  have hl := hG.2.1
  intro d
  induction d with
  | zero =>
    intro i z1 z2 hi
    have : i = G.length := by omega
    subst this
    rw [bX12_laysTwos_2]
    have e22 : ∀ R V, rgI I R V 0 22 = nI G.length := fun R V => hG.1
    simp (disch := omega) only [nI_lt', nI_le', nI_eq', inb_nI, clp, nI_add, nI_mul', cond_true, cond_false, e22, Nat.le_refl, if_true]
  | succ d ih =>
    intro i z1 z2 hi
    have e22 : ∀ R V, rgI I R V 0 22 = nI G.length := fun R V => hG.1
    rw [bX12_laysTwos_2]
    simp (disch := omega) only [nI_lt', nI_le', nI_eq', inb_nI, clp, nI_add, nI_mul', cond_true, cond_false, e22]
    rw [if_neg (by omega)]
    have e := mTw_in (J := J) h hG (show i < G.length by omega) (r := r + sI (fun i => sI (a2 th ce wr G i) G.length) i) (v := fun q => v q + sI (fun i => sI (fun j' => g2 th ce wr G i j' q) G.length) i) G.length 0 .null (by omega)
    rw [show rgI I (r + sI (fun i => sI (a2 th ce wr G i) G.length) i + sI (a2 th ce wr G i) 0) (fun q => v q + sI (fun i => sI (fun j' => g2 th ce wr G i j' q) G.length) i + sI (fun j' => g2 th ce wr G i j' q) 0) = rgI I (r + sI (fun i => sI (a2 th ce wr G i) G.length) i) (fun q => v q + sI (fun i => sI (fun j' => g2 th ce wr G i j' q) G.length) i) from st_same (add_z _) (fun q => add_z _)] at e
    rw [e]
    rw [show rgI I (r + sI (fun i => sI (a2 th ce wr G i) G.length) i + sI (a2 th ce wr G i) G.length) (fun q => v q + sI (fun i => sI (fun j' => g2 th ce wr G i j' q) G.length) i + sI (fun j' => g2 th ce wr G i j' q) G.length) = rgI I (r + sI (fun i => sI (a2 th ce wr G i) G.length) (i + 1)) (fun q => v q + sI (fun i => sI (fun j' => g2 th ce wr G i j' q) G.length) (i + 1)) from st_same (Int32.add_assoc _ _ _) (fun q => Int32.add_assoc _ _ _)]
    exact ih (i + 1) _ _ (by omega)
end MRC
