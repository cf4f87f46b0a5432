/-! both sides: step and pair -/
section ST
variable {A M : Nat → Nat → Int32} {N : Nat → Nat → Int64} {J : Nat → Nat → Int64} {pl st : Bool} {n T F K : Nat} {th ce c : Nat → Nat} {wr : Nat → Bool}
theorem lp_q (A : Nat → Nat → Int32) (L : List Nat) : qC A (lpI A L) := ⟨fun p _ p2 p3 _ => lpI_o A L p2 p3, fun k _ _ _ _ => by rw [lpI_o A L (by decide) (by decide)]⟩
theorem Inv_lp {L : List Nat} (h : Inv A pl M N) : Inv (lpI A L) pl M N := by
  obtain ⟨n, T, th, ce, wr, F, K, c, h1, r1, r2, r3⟩ := h
  exact ⟨n, T, th, ce, wr, F, K, c, h1.q (lp_q A L) (qM_refl M), r1, r2.cg (by rw [lpI_o A L (by decide) (by decide)]) (by rw [lpI_o A L (by decide) (by decide)]) (by rw [lpI_o A L (by decide) (by decide)]) (lpI_o A L (by decide) (by decide)) (lpI_o A L (by decide) (by decide)), r3.cg (by rw [lpI_o A L (by decide) (by decide)]) (lpI_o A L (by decide) (by decide)) (lpI_o A L (by decide) (by decide))⟩
/-- the row of loose pairs now -/
def lpN (th ce : Nat → Nat) (wr : Nat → Bool) (K n : Nat) : List Nat := loL (nV th ce wr (gS th ce wr n n)) ce wr K n
theorem cLN (h : iCo A pl M N n T th ce wr F K c) : fX11_looseNow [.ref 0] (cH A J pl st) = some (some (.ref 13), cH (lpI A (lpN th ce wr K n)) J pl st) := by
  rw [eX11_looseNow, h.2.1.2.2.2.1, cGt (plP_or pl) h.1.2.1 h.2.1.2.2.2.2.2.1 h.1.2.2.2.2.2.2.1]
  simp (disch := omega) only [callK_some, Option.toList_some, Option.toList_none, List.cons_append, List.nil_append, bX11_looseNow_22]
  rfl
theorem lpN_LP (h : iCo A pl M N n T th ce wr F K c) : LPx (lpI A (lpN th ce wr K n)) (lpN th ce wr K n) := lpI_LP h.hn
theorem e_step (h : Inv A pl M N) (x y : Int32) : eqv A J pl st M N (fX11_step [.ref 0, .int x, .int y]) (fX12_step [.ref 0, .int x, .int y]) := by
  have hI := h
  obtain ⟨n, T, th, ce, wr, F, K, c, hc, -⟩ := h
  have hn := hc.hn
  have hF := hc.F8
  have hm := hc.1.1
  have hx := hc.1.2.1
  have hP := plP_or pl
  have hV := hc.1.2.2.2.2.2.1
  obtain ⟨s1, s2, s3, s4, s5, s6, s7, s8⟩ := hc.2.1
  have e1 : fX11_step [.ref 0, .int x, .int y] (cH A J pl st) = _ := eX11_step A J pl st x y
  have e2 : fX12_step [.ref 0, .int x, .int y] (mH M N) = _ := eX12_step M N x y
  rw [cSt hP hx x, callK_some] at e1
  rw [mSt hm x, callK_some] at e2
  simp only [callK_some, Option.toList_some, Option.toList_none, List.cons_append, List.nil_append, bX11_step_8, bX12_step_5, ite_tI] at e1 e2
  cases hs : stX n x with
  | false =>
    rw [hs, if_neg (by decide)] at e1 e2
    exact eqv_same hI e1 e2
  | true =>
    rw [hs, if_pos rfl] at e1 e2
    obtain ⟨s, hsn, rfl⟩ := stX_of hn hs
    obtain ⟨q1, q2, q3, q4, q5⟩ := hm.2.2 s hsn
    by_cases w0 : y = nI 0
    · rw [if_pos w0] at e1 e2
      refine eqv_same hI (r := nI (th s)) ?_ ?_
      · rw [e1, cTh hP hx hsn]; simp only [callK_some, Option.toList_some, Option.toList_none, List.cons_append, List.nil_append, bX11_step_64]
      · rw [e2]; simp (disch := omega) only [nI_lt', nI_le', nI_eq', inb_nI, clp, nI_add, nI_mul', cond_true, cond_false, q1]
    rw [if_neg w0] at e1 e2
    by_cases w1 : y = nI 1
    · rw [if_pos w1] at e1 e2
      refine eqv_same hI (r := nI (ce s)) ?_ ?_
      · rw [e1, cCe hP hx hsn]; simp only [callK_some, Option.toList_some, Option.toList_none, List.cons_append, List.nil_append, bX11_step_73]
      · rw [e2]; simp (disch := omega) only [nI_lt', nI_le', nI_eq', inb_nI, clp, nI_add, nI_mul', cond_true, cond_false, q2]
    rw [if_neg w1] at e1 e2
    by_cases w2 : y = nI 2
    · rw [if_pos w2] at e1 e2
      refine eqv_same hI (r := if wr s = true then nI 1 else nI 0) ?_ ?_
      · rw [e1, cWr hP hx hsn]; simp only [callK_some, Option.toList_some, Option.toList_none, List.cons_append, List.nil_append, bX11_step_82, ite_tI]; cases wr s <;> rfl
      · rw [e2]; simp (disch := omega) only [nI_lt', nI_le', nI_eq', inb_nI, clp, nI_add, nI_mul', cond_true, cond_false, q3, ite_tI]; cases wr s <;> rfl
    rw [if_neg w2] at e1 e2
    by_cases w3 : y = nI 3
    · rw [if_pos w3] at e1 e2
      rw [cGp hP hx] at e1
      rw [mGp hm] at e2
      simp only [callK_some, Option.toList_some, Option.toList_none, List.cons_append, List.nil_append, bX11_step_99, bX12_step_90, ite_tI, gpX_nI hn hsn] at e1 e2
      cases hg : gpB th s with
      | false =>
        rw [hg, if_neg (by decide)] at e1 e2
        exact eqv_same hI e1 e2
      | true =>
        rw [hg, if_pos rfl] at e1 e2
        refine eqv_same hI (r := nI (c s)) ?_ ?_
        · rw [e1, cCo (P := 15) (by decide) (by omega)]; simp only [callK_some, Option.toList_some, Option.toList_none, List.cons_append, List.nil_append, bX11_step_110]; rw [(s8 s hsn hg).1]
        · rw [e2]; simp (disch := omega) only [nI_lt', nI_le', nI_eq', inb_nI, clp, nI_add, nI_mul', cond_true, cond_false]; rw [(s7 s hsn hg).1]
    rw [if_neg w3] at e1 e2
    by_cases w4 : y = nI 4
    · rw [if_pos w4] at e1 e2
      rw [cGp hP hx] at e1
      rw [mGp hm] at e2
      simp only [callK_some, Option.toList_some, Option.toList_none, List.cons_append, List.nil_append, bX11_step_123, bX12_step_109, ite_tI, gpX_nI hn hsn] at e1 e2
      cases hg : gpB th s with
      | false =>
        rw [hg, if_neg (by decide)] at e1 e2
        exact eqv_same hI e1 e2
      | true =>
        rw [hg, if_pos rfl] at e1 e2
        refine ⟨nI (hdN (lpN th ce wr K n) (2 ^ s)), lpI A (lpN th ce wr K n), J, pl, st, M, N, ?_, ?_, Inv_lp hI⟩
        · rw [e1, cLN hc]
          simp only [callK_some, Option.toList_some, Option.toList_none, List.cons_append, List.nil_append, bX11_step_130]
          rw [shl_nI s (by omega), cHd (lpN_LP hc)]
          simp only [callK_some, Option.toList_some, Option.toList_none, List.cons_append, List.nil_append, bX11_step_136]
        · rw [e2, shl_nI s (by omega), mHo hm s2 s6 hV]
          simp only [callK_some, Option.toList_some, Option.toList_none, List.cons_append, List.nil_append, bX12_step_119]
          rfl
    rw [if_neg w4] at e1 e2
    by_cases w5 : y = nI 5
    · rw [if_pos w5] at e1 e2
      refine eqv_same hI (r := nI (bset (wtB th ce wr F K s) s)) ?_ ?_
      · rw [e1, s3, s4, cWt hP hx hF s6 hsn]; simp only [callK_some, Option.toList_some, Option.toList_none, List.cons_append, List.nil_append, bX11_step_163]
      · rw [e2, mWt hm s1 s2 s6 hsn]; simp only [callK_some, Option.toList_some, Option.toList_none, List.cons_append, List.nil_append, bX12_step_129]
    rw [if_neg w5] at e1 e2
    by_cases w6 : y = nI 6
    · rw [if_pos w6] at e1 e2
      refine eqv_same hI (r := nI (bset (cfB th ce wr s) n)) ?_ ?_
      · rw [e1, cCs hP hx hsn]; simp only [callK_some, Option.toList_some, Option.toList_none, List.cons_append, List.nil_append, bX11_step_172]
      · rw [e2, mCs hm hsn]; simp only [callK_some, Option.toList_some, Option.toList_none, List.cons_append, List.nil_append, bX12_step_135]
    rw [if_neg w6] at e1 e2
    exact eqv_same hI e1 e2
theorem e_pair (h : Inv A pl M N) (x y z : Int32) : eqv A J pl st M N (fX11_pair [.ref 0, .int x, .int y, .int z]) (fX12_pair [.ref 0, .int x, .int y, .int z]) := by
  have hI := h
  obtain ⟨n, T, th, ce, wr, F, K, c, hc, -⟩ := h
  have hn := hc.hn
  have hF := hc.F8
  have hm := hc.1.1
  have hx := hc.1.2.1
  have hP := plP_or pl
  have hV := hc.1.2.2.2.2.2.1
  have hVx := hc.1.2.2.2.2.2.2.1
  obtain ⟨s1, s2, s3, s4, s5, s6, s7, s8⟩ := hc.2.1
  have e1 : fX11_pair [.ref 0, .int x, .int y, .int z] (cH A J pl st) = _ := eX11_pair A J pl st x y z
  have e2 : fX12_pair [.ref 0, .int x, .int y, .int z] (mH M N) = _ := eX12_pair M N x y z
  rw [cSt hP hx x, callK_some] at e1
  rw [mSt hm x, callK_some] at e2
  simp only [callK_some, Option.toList_some, Option.toList_none, List.cons_append, List.nil_append, bX11_pair_8, bX12_pair_5, ite_tI] at e1 e2
  cases hs : stX n x with
  | false =>
    rw [hs, if_neg (by decide)] at e1 e2
    exact eqv_same hI e1 e2
  | true =>
  rw [hs, if_pos rfl] at e1 e2
  rw [cSt hP hx y, callK_some] at e1
  rw [mSt hm y, callK_some] at e2
  simp only [callK_some, Option.toList_some, Option.toList_none, List.cons_append, List.nil_append, bX11_pair_19, bX12_pair_13, ite_tI] at e1 e2
  cases hu : stX n y with
  | false =>
    rw [hu, if_neg (by decide)] at e1 e2
    exact eqv_same hI e1 e2
  | true =>
  rw [hu, if_pos rfl] at e1 e2
  by_cases w0 : x = y
  · rw [if_pos w0] at e1 e2
    exact eqv_same hI e1 e2
  rw [if_neg w0] at e1 e2
  by_cases w1 : z < nI 0
  · rw [if_pos w1] at e1 e2
    exact eqv_same hI e1 e2
  rw [if_neg w1] at e1 e2
  by_cases w2 : z ≤ nI 3
  · rw [if_pos w2] at e1 e2
    obtain ⟨s, hsn, rfl⟩ := stX_of hn hs
    obtain ⟨u, hun, rfl⟩ := stX_of hn hu
    rw [cAh hP hx hsn hun, callK_some] at e1
    rw [mAh hm hsn hun, callK_some] at e2
    simp only [callK_some, Option.toList_some, Option.toList_none, List.cons_append, List.nil_append, bX11_pair_51, bX12_pair_42, ite_tI] at e1 e2
    cases ha : ahB th s u with
    | false =>
      rw [ha, if_neg (by decide)] at e1 e2
      exact eqv_same hI e1 e2
    | true =>
    rw [ha, if_pos rfl] at e1 e2
    have hsu : s < u := by
      unfold ahB at ha
      rw [Bool.and_eq_true] at ha
      exact of_decide_eq_true ha.1
    rw [cCw hsu (by omega) hVx] at e1
    simp only [callK_some, Option.toList_some, Option.toList_none, List.cons_append, List.nil_append, bX11_pair_66] at e1
    by_cases v0 : z = nI 0
    · rw [if_pos v0] at e1 e2
      rw [mPa hV hsu (by omega)] at e2
      simp only [callK_some, Option.toList_some, Option.toList_none, List.cons_append, List.nil_append, bX12_pair_82, ite_tI] at e2
      by_cases g : nV th ce wr (gS th ce wr n n) (8 * s + u) ≤ nI 0
      · rw [if_pos g] at e1
        rw [decide_eq_true g, if_neg (by decide)] at e2
        exact eqv_same hI e1 e2
      · rw [if_neg g] at e1
        rw [decide_eq_false g, Bool.not_false, if_pos rfl] at e2
        exact eqv_same hI e1 e2
    rw [if_neg v0] at e1 e2
    by_cases v1 : z = nI 1
    · rw [if_pos v1] at e1 e2
      rw [mLo hm s2 s6 hV hsu hun] at e2
      simp only [callK_some, Option.toList_some, Option.toList_none, List.cons_append, List.nil_append, bX12_pair_97, ite_tI] at e2
      unfold loB at e2
      by_cases g : nV th ce wr (gS th ce wr n n) (8 * s + u) ≤ nI 0
      · rw [if_pos g] at e1
        rw [decide_eq_true g, if_neg (by simp)] at e2
        exact eqv_same hI e1 e2
      · rw [if_neg g, s4, cMo hP hx s6 hsn hun] at e1
        simp only [callK_some, Option.toList_some, Option.toList_none, List.cons_append, List.nil_append, bX11_pair_128, ite_tI] at e1
        rw [decide_eq_false g, Bool.not_false, Bool.true_and] at e2
        by_cases b : (!bdB ce wr K s u) = true
        · rw [if_pos b] at e1 e2
          exact eqv_same hI e1 e2
        · rw [if_neg b] at e1 e2
          exact eqv_same hI e1 e2
    rw [if_neg v1] at e1 e2
    by_cases v2 : z = nI 2
    · rw [if_pos v2] at e1 e2
      rw [mPa hV hsu (by omega)] at e2
      simp only [callK_some, Option.toList_some, Option.toList_none, List.cons_append, List.nil_append, bX12_pair_112, ite_tI] at e2
      by_cases g : nV th ce wr (gS th ce wr n n) (8 * s + u) ≤ nI 0
      · rw [if_pos g] at e1
        rw [decide_eq_true g, if_neg (by decide)] at e2
        exact eqv_same hI e1 e2
      · rw [if_neg g, cGb hsu (by omega), s3] at e1
        rw [decide_eq_false g, Bool.not_false, if_pos rfl, mBtw hsu (by omega), s1] at e2
        simp only [callK_some, Option.toList_some, Option.toList_none, List.cons_append, List.nil_append, bX11_pair_154, bX12_pair_124] at e1 e2
        by_cases b : nI F &&& nI (btw s u) = nI 0
        · rw [if_pos b] at e1 e2
          exact eqv_same hI e1 e2
        · rw [if_neg b] at e1 e2
          exact eqv_same hI e1 e2
    rw [if_neg v2] at e1 e2
    refine eqv_same hI e1 ?_
    rw [e2]
    simp (disch := omega) only [nI_lt', nI_le', nI_eq', inb_nI, clp, nI_add, nI_mul', cond_true, cond_false]
    rw [hV s u hsu (by omega)]
  · rw [if_neg w2] at e1 e2
    exact eqv_same hI e1 e2
end ST
