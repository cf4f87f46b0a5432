/-! the class: gifts and rings -/
def gxI (I : Nat → Nat → Int32) (L : List (Nat × Nat)) : Nat → Nat → Int32 := fun p k => if p = 11 then lsf L (fun a => nI (kyN a)) (I 11) k else if p = 10 then (if k = 2 then nI L.length else I 10 k) else I p k
theorem gxI_push (I : Nat → Nat → Int32) (L : List (Nat × Nat)) (s u : Nat) : up2 (up2 (gxI I L) 11 L.length (nI (kyN (s, u)))) 10 2 (nI L.length + nI 1) = gxI I (L ++ [(s, u)]) := by
  funext p
  by_cases h11 : p = 11
  · subst h11
    rw [up2_ne (by decide), up2_eq]
    exact lst_push L (s, u) (fun a => nI (kyN a)) (I 11)
  by_cases h10 : p = 10
  · subst h10
    rw [up2_eq, up2_ne (by decide)]
    funext k
    unfold up1
    by_cases hk : k = 2
    · subst hk
      rw [if_pos rfl]
      simp [gxI, nI_add]
    · rw [if_neg hk]
      simp [gxI, hk]
  · rw [up2_ne h10, up2_ne h11]
    funext k
    simp [gxI, h11, h10]
theorem gxI_nil {I : Nat → Nat → Int32} : up2 I 10 2 (nI 0) = gxI I [] := by
  funext p
  by_cases h10 : p = 10
  · subst h10
    rw [up2_eq]
    funext k
    unfold up1
    by_cases hk : k = 2
    · subst hk; rfl
    · rw [if_neg hk]; simp [gxI, hk]
  · rw [up2_ne h10]
    funext k
    by_cases h11 : p = 11
    · subst h11; rfl
    · simp [gxI, h11, h10]
def ldB (th ce : Nat → Nat) (wr : Nat → Bool) (a b : Nat × Nat) : Bool := cfB th ce wr a.2 b.1 && !(alB a && wr b.1) && !(alB b && wr a.2)
def GRx (I : Nat → Nat → Int32) (n : Nat) (G : List (Nat × Nat)) : Prop := I 10 2 = nI G.length ∧ G.length ≤ 36 ∧ ∀ i, i < G.length → I 11 i = nI (kyN (gAt G i)) ∧ (gAt G i).1 < n ∧ (gAt G i).2 < n
def rxI (I : Nat → Nat → Int32) (r : Int32) (v : Nat → Int32) : Nat → Nat → Int32 := fun p k => if p = 12 then v k else if p = 10 then (if k = 3 then r else I 10 k) else I p k
theorem rxI_12 (I : Nat → Nat → Int32) (r : Int32) (v : Nat → Int32) (k : Nat) (x : Int32) : up2 (rxI I r v) 12 k x = rxI I r (up1 v k x) := by
  funext p
  by_cases h : p = 12
  · subst h; rw [up2_eq]; rfl
  · rw [up2_ne h]; funext q; simp [rxI, h]
theorem rxI_r (I : Nat → Nat → Int32) (r : Int32) (v : Nat → Int32) (x : Int32) : up2 (rxI I r v) 10 3 x = rxI I x v := by
  funext p
  by_cases h : p = 10
  · subst h; rw [up2_eq]; funext q; unfold up1
    by_cases hq : q = 3
    · subst hq; rfl
    · rw [if_neg hq]; simp [rxI, hq]
  · rw [up2_ne h]; funext q; simp [rxI, h]
theorem sx_same {I : Nat → Nat → Int32} {r : Int32} {v : Nat → Int32} {r' : Int32} {v' : Nat → Int32} (h1 : r = r') (h2 : ∀ q, v q = v' q) : rxI I r v = rxI I r' v' := by rw [h1, funext h2]
theorem RPx.gx {I : Nat → Nat → Int32} {P : Nat} {n : Nat} {th ce : Nat → Nat} {wr : Nat → Bool} (hP : P = 4 ∨ P = 7) (h : RPx I P n th ce wr) (L : List (Nat × Nat)) : RPx (gxI I L) P n th ce wr := by
  rcases hP with rfl | rfl <;> exact h.cong rfl rfl rfl rfl rfl
theorem RPx.rx {I : Nat → Nat → Int32} {P : Nat} {n : Nat} {th ce : Nat → Nat} {wr : Nat → Bool} (hP : P = 4 ∨ P = 7) (h : RPx I P n th ce wr) (r : Int32) (v : Nat → Int32) : RPx (rxI I r v) P n th ce wr := by
  rcases hP with rfl | rfl <;> exact h.cong rfl rfl rfl rfl rfl
theorem GRx.rx {I : Nat → Nat → Int32} {n : Nat} {G : List (Nat × Nat)} (h : GRx I n G) (r : Int32) (v : Nat → Int32) : GRx (rxI I r v) n G := h
theorem gxI_GR {I : Nat → Nat → Int32} {n : Nat} {th ce : Nat → Nat} {wr : Nat → Bool} (hn : n ≤ 8) : GRx (gxI I (gS th ce wr n n)) n (gS th ce wr n n) := by
  refine ⟨rfl, gS_le hn, fun i hi => ?_⟩
  obtain ⟨h1, h2, h3, h4⟩ := gS_mem (Nat.le_refl n) (gAt_mem hi)
  have e : gAt (gS th ce wr n n) i = (gS th ce wr n n)[i] := by unfold gAt; rw [List.getElem?_eq_getElem hi]; rfl
  refine ⟨?_, h1, h3⟩
  rw [e]; show lsf (gS th ce wr n n) (fun a => nI (kyN a)) (I 11) i = _; rw [lsf_in hi]
section CR
variable {I : Nat → Nat → Int32} {J : Nat → Nat → Int64} {pl st : Bool} {n : Nat} {th ce : Nat → Nat} {wr : Nat → Bool} {G : List (Nat × Nat)} {i j k P : Nat} {a b : Nat × Nat}
theorem cGO {s u : Nat} : fX8_giftOf [.int (nI s), .int (nI u)] (cH I J pl st) = some (some (.int (nI (kyN (s, u)))), cH I J pl st) := by
  rw [eX8_giftOf, nI_mul', nI_add, Nat.mul_comm]
  rfl
theorem cFi (h : a.1 < 8) (h2 : a.2 < 8) : fX8_firstOf [.int (nI (kyN a))] (cH I J pl st) = some (some (.int (nI a.1)), cH I J pl st) := by
  have e : kyN a / 8 = a.1 := by unfold kyN; omega
  have hl : kyN a < 2 ^ 31 := by unfold kyN; omega
  rw [eX8_firstOf, pk_div hl (by decide) (by decide), e]
theorem cLa (h : a.1 < 8) (h2 : a.2 < 8) : fX8_lastOf [.int (nI (kyN a))] (cH I J pl st) = some (some (.int (nI a.2)), cH I J pl st) := by
  have e : kyN a % 8 = a.2 := by unfold kyN; omega
  have hl : kyN a < 2 ^ 31 := by unfold kyN; omega
  rw [eX8_lastOf, pk_rem hl (by decide) (by decide), e]
theorem cAl (h : a.1 < 8) (h2 : a.2 < 8) : fX8_isAlone [.int (nI (kyN a))] (cH I J pl st) = some (some (.int (tI (alB a))), cH I J pl st) := by
  rw [eX8_isAlone]
  simp (disch := omega) only [nI_lt', nI_le', nI_eq', inb_nI, clp, nI_add, nI_mul', cond_true, cond_false, callK_some, Option.toList_some, Option.toList_none, List.cons_append, List.nil_append, cFi h h2, cLa h h2, bX8_isAlone_4, bX8_isAlone_8]
  unfold alB
  by_cases e : a.1 = a.2 <;> simp [e, tI]
theorem cAdd {L : List (Nat × Nat)} {s u : Nat} (hL : L.length < 36) : fX8_addGift [.ref 10, .int (nI (kyN (s, u)))] (cH (gxI I L) J pl st) = some (none, cH (gxI I (L ++ [(s, u)])) J pl st) := by
  have e : gxI I L 10 2 = nI L.length := rfl
  rw [eX8_addGift]
  simp (disch := omega) only [nI_lt', nI_le', inb_nI, clp, cond_true, e, gxI_push, Nat.not_lt_zero, if_false]
  rw [if_neg (by omega)]
theorem cGg_in (hP : P = 4 ∨ P = 7) (h : RPx I P n th ce wr) {s : Nat} (hs : s < n) : ∀ d u, u + d = n → s < u → run mX8_gatherGifts (36, 0, 0, [.ref 10, .ref P, .int (nI s), .int (nI u)], [], cH (gxI I (gS th ce wr n s ++ gU th ce wr s u)) J pl st) = run mX8_gatherGifts (7, 0, 0, [.ref 10, .ref P, .int (nI (s + 1)), .int (nI n)], [], cH (gxI I (gS th ce wr n (s + 1))) J pl st) := by
  have hn := h.2.1
  intro d
  induction d with
  | zero =>
    intro u hu _
    have : u = n := by omega
    subst this
    have h' := h.gx hP (gS th ce wr u s ++ gU th ce wr s u)
    rw [bX8_gatherGifts_36 (hP := hP)]
    simp (disch := omega) only [nI_lt', nI_le', nI_eq', inb_nI, clp, nI_add, nI_mul', cond_true, cond_false, h'.1, Nat.le_refl, if_true]
    rfl
  | succ d ih =>
    intro u hu hsu
    have hun : u < n := by omega
    have h' := h.gx hP (gS th ce wr n s ++ gU th ce wr s u)
    have hlen := gSU_lt (th := th) (ce := ce) (wr := wr) hn hs hun (Nat.le_of_lt hsu)
    have ih' := ih (u + 1) (by omega) (by omega)
    have e : ¬ s = u := by omega
    obtain ⟨-, -, -, a5⟩ := h'.2.2.1 s hs
    obtain ⟨-, -, -, b5⟩ := h'.2.2.1 u hun
    rw [bX8_gatherGifts_36 (hP := hP)]
    simp (disch := omega) only [nI_lt', nI_le', nI_eq', inb_nI, clp, nI_add, nI_mul', cond_true, cond_false, callK_some, Option.toList_some, Option.toList_none, List.cons_append, List.nil_append, h'.1, cAh hP h' hs hun, bX8_gatherGifts_50 (hP := hP), ite_tI, cCe hP h' hs, cCe hP h' hun, bX8_gatherGifts_58 (hP := hP), bX8_gatherGifts_63 (hP := hP), cGO, bX8_gatherGifts_72 (hP := hP), cAdd hlen, bX8_gatherGifts_75 (hP := hP)]
    rw [if_neg (by omega), List.append_assoc]
    cases ha : ahB th s u with
    | false =>
      rw [if_neg (by decide)]
      rw [gU_f (by unfold gfB; rw [if_neg e, ha]; rfl)] at ih'
      exact ih'
    | true =>
      rw [if_pos rfl]
      by_cases hce : ce s = ce u
      · rw [if_pos hce]
        rw [gU_f (by unfold gfB; rw [if_neg e, ha]; simp [hce])] at ih'
        exact ih'
      · rw [if_neg hce, ← gU_t (Nat.le_of_lt hsu) (by unfold gfB; rw [if_neg e, ha]; simp [hce])]
        exact ih'
theorem cGg_out (hP : P = 4 ∨ P = 7) (h : RPx I P n th ce wr) : ∀ d s (z : Value), s + d = n → run mX8_gatherGifts (7, 0, 0, [.ref 10, .ref P, .int (nI s), z], [], cH (gxI I (gS th ce wr n s)) J pl st) = some (none, cH (gxI I (gS th ce wr n n)) J pl st) := by
  have hn := h.2.1
  intro d
  induction d with
  | zero =>
    intro s z hs
    have : s = n := by omega
    subst this
    have h' := h.gx hP (gS th ce wr s s)
    rw [bX8_gatherGifts_7 (hP := hP)]
    simp (disch := omega) only [nI_lt', nI_le', nI_eq', inb_nI, clp, nI_add, nI_mul', cond_true, cond_false, h'.1, Nat.le_refl, if_true]
  | succ d ih =>
    intro s z hs
    have hsn : s < n := by omega
    have h' := h.gx hP (gS th ce wr n s)
    have ih' := ih (s + 1) (.int (nI n)) (by omega)
    have hlen : (gS th ce wr n s).length < 36 := by
      have := gSU_lt (th := th) (ce := ce) (wr := wr) hn hsn hsn (Nat.le_refl s)
      rw [gU_0 (Nat.le_refl s), List.append_nil] at this
      exact this
    have e := cGg_in (J := J) (pl := pl) (st := st) hP h hsn (n - (s + 1)) (s + 1) (by omega) (by omega)
    rw [bX8_gatherGifts_7 (hP := hP)]
    simp (disch := omega) only [nI_lt', nI_le', nI_eq', inb_nI, clp, nI_add, nI_mul', cond_true, cond_false, callK_some, Option.toList_some, Option.toList_none, List.cons_append, List.nil_append, h'.1, cWr hP h' hsn, bX8_gatherGifts_20 (hP := hP), ite_tI, cGO, bX8_gatherGifts_29 (hP := hP), cAdd hlen, bX8_gatherGifts_32 (hP := hP)]
    rw [if_neg (by omega)]
    cases hw : wr s with
    | true =>
      rw [if_pos rfl]
      rw [gU_t (Nat.le_refl s) (by unfold gfB; rw [if_pos rfl]; exact hw), gU_0 (Nat.le_refl s), List.nil_append] at e
      rw [e]
      exact ih'
    | false =>
      rw [if_neg (by decide)]
      rw [gU_f (by unfold gfB; rw [if_pos rfl]; exact hw), gU_0 (Nat.le_refl s), List.append_nil] at e
      rw [e]
      exact ih'
theorem cGg (hP : P = 4 ∨ P = 7) (h : RPx I P n th ce wr) : fX8_gatherGifts [.ref 10, .ref P] (cH I J pl st) = some (none, cH (gxI I (gS th ce wr n n)) J pl st) := by
  rw [eX8_gatherGifts (hP := hP), gxI_nil]
  exact cGg_out hP h n 0 _ (by omega)
theorem cLd (hP : P = 4 ∨ P = 7) (h : RPx I P n th ce wr) (ha1 : a.1 < n) (ha2 : a.2 < n) (hb1 : b.1 < n) (hb2 : b.2 < n) : fX8_leadsTo [.ref 10, .ref P, .int (nI (kyN a)), .int (nI (kyN b))] (cH I J pl st) = some (some (.int (tI (ldB th ce wr a b))), cH I J pl st) := by
  have hn := h.2.1
  rw [eX8_leadsTo (hP := hP)]
  simp (disch := omega) only [callK_some, Option.toList_some, Option.toList_none, List.cons_append, List.nil_append, cLa (a := a) (show a.1 < 8 by omega) (show a.2 < 8 by omega), cFi (a := b) (show b.1 < 8 by omega) (show b.2 < 8 by omega), cAl (a := a) (show a.1 < 8 by omega) (show a.2 < 8 by omega), cAl (a := b) (show b.1 < 8 by omega) (show b.2 < 8 by omega), cCf hP h ha2 hb1, cWr hP h hb1, cWr hP h ha2, bX8_leadsTo_4 (hP := hP), bX8_leadsTo_10 (hP := hP), bX8_leadsTo_20 (hP := hP), bX8_leadsTo_29 (hP := hP), bX8_leadsTo_45 (hP := hP), bX8_leadsTo_38 (hP := hP), bX8_leadsTo_54 (hP := hP), ite_tI]
  unfold ldB
  cases cfB th ce wr a.2 b.1 <;> cases alB a <;> cases alB b <;> cases wr b.1 <;> cases wr a.2 <;> rfl
theorem cGa (hG : GRx I n G) (hi : i < G.length) : fX8_giftAt [.ref 10, .int (nI i)] (cH I J pl st) = some (some (.int (nI (kyN (gAt G i)))), cH I J pl st) := by
  have hl := hG.2.1
  rw [eX8_giftAt]
  simp (disch := omega) only [nI_lt', nI_le', nI_eq', inb_nI, clp, nI_add, nI_mul', cond_true, cond_false, (hG.2.2 i hi).1, Nat.not_lt_zero, if_false]
  rw [if_neg (by omega)]
theorem cCg {r : Int32} {v : Nat → Int32} (h1 : a.1 < 8) (h2 : a.2 < 8) : fX8_countGiven [.ref 10, .int (nI (kyN a))] (cH (rxI I r v) J pl st) = some (none, cH (rxI I r (fun q => v q + adk (kyN a) (nI 1) q)) J pl st) := by
  have hk : kyN a < 64 := by unfold kyN; omega
  have e12 : rxI I r v 12 = v := rfl
  rw [eX8_countGiven]
  simp (disch := omega) only [nI_lt', nI_le', inb_nI, clp, cond_true, rxI_12, e12, up1_add, Nat.not_lt_zero, if_false]
  rw [if_neg (by omega)]
end CR
