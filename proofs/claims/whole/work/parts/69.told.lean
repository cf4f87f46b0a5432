/-! both sides: told -/
/-- the first entry that is wrong -/
def wrF (p say : Nat → Bool) : Nat → Nat → Int32
  | _, 0 => Int32.ofInt (-1)
  | k, d + 1 => if p k = say k then wrF p say (k + 1) d else nI k
section TO
variable {A M : Nat → Nat → Int32} {N : Nat → Nat → Int64} {J : Nat → Nat → Int64} {pl st : Bool} {n T F K : Nat} {th ce c : Nat → Nat} {wr : Nat → Bool}
theorem tI_inj {a b : Bool} : (tI a = tI b) = (a = b) := by cases a <;> cases b <;> decide
theorem cFW_loop {m mr : Nat} {say : Nat → Bool} {v : Nat → Nat} {S : Nat → Prop} (hm : m ≤ 20) (h2 : A 66 2 = nI m) (h1 : A 66 1 = nI (bset say m)) (h5 : ∀ i, i < m → A 67 i = nI (v i)) (hr : mr ≤ 256) (k1 : A 74 1 = nI mr) (k2 : SR (A 75) mr S) : ∀ d k, k + d = m → run mX0_firstWrong (2, 0, 0, [.ref 66, .ref 74, .int (nI k)], [], cH A J pl st) = some (some (.int (wrF (fun i => inR (A 75) (nI (v i)) mr) say k d)), cH A J pl st) := by
  have hb : bset say m < 2147483648 := Nat.lt_of_lt_of_le (bset_lt say m) (Nat.le_trans (Nat.pow_le_pow_right (by decide) hm) (by decide))
  intro d
  induction d with
  | zero =>
    intro k hk
    rw [bX0_firstWrong_2, h2]
    simp (disch := omega) only [nI_lt', nI_le', nI_eq', inb_nI, clp, nI_add, nI_mul', cond_true, cond_false]
    rw [if_pos (by omega)]
    rfl
  | succ d ih =>
    intro k hk
    have hbit : (bset say m).testBit k = say k := by
      rw [bset_bit, decide_eq_true (by omega)]; rfl
    rw [bX0_firstWrong_2, h2]
    simp (disch := omega) only [nI_lt', nI_le', nI_eq', inb_nI, clp, nI_add, nI_mul', cond_true, cond_false]
    rw [if_neg (by omega), if_neg (by omega), h5 k (by omega), cHo (P := 74) (Or.inl rfl) hr k1 k2]
    simp only [callK_some, Option.toList_some, Option.toList_none, List.cons_append, List.nil_append, bX0_firstWrong_29]
    rw [h1, cHas hb (by omega)]
    simp only [callK_some, Option.toList_some, Option.toList_none, List.cons_append, List.nil_append, bX0_firstWrong_37, hbit, tI_inj, nI_add]
    show _ = some (some (Value.int (if inR (A 75) (nI (v k)) mr = say k then wrF (fun i => inR (A 75) (nI (v i)) mr) say (k + 1) d else nI k)), _)
    by_cases w : inR (A 75) (nI (v k)) mr = say k
    · rw [if_pos w, if_pos w]; exact ih (k + 1) (by omega)
    · rw [if_neg w, if_neg w]
theorem mWr_loop (hC : CAPS) {m : Nat} {say p : Nat → Bool} {v : Nat → Nat} (hm : m ≤ 20) (hp : ∀ i, i < m → (p i = true ↔ inP (rdP th ce wr n F K) (nI (v i)))) : ∀ d k (M : Nat → Nat → Int32), k + d = m → iCo A pl M N n T th ce wr F K c → iRm M n th ce wr F K → M 0 37 = nI m → (∀ i, i < m → M 22 i = nI (v i) ∧ M 23 i = tI (say i)) → ∃ M' : Nat → Nat → Int32, run mX12_wrong (2, 0, 0, [.ref 0, .int (nI k)], [], mH M N) = some (some (.int (wrF p say k d)), mH M' N) ∧ qM M M' ∧ iRm M' n th ce wr F K := by
  intro d
  induction d with
  | zero =>
    intro k M hk hc hr h37 h22
    refine ⟨M, ?_, qM_refl M, hr⟩
    rw [bX12_wrong_2, h37]
    simp (disch := omega) only [nI_lt', nI_le', nI_eq', inb_nI, clp, nI_add, nI_mul', cond_true, cond_false]
    rw [if_pos (by omega)]
    rfl
  | succ d ih =>
    intro k M hk hc hr h37 h22
    obtain ⟨M1, a, b, e, q, r', ha, hb⟩ := mCan hC hc hr (nI (v k))
    have e23 : M1 23 k = tI (say k) := by rw [q.1 23 (by decide) (by decide) (by decide) (by decide) (by decide) (by decide) (by decide)]; exact (h22 k (by omega)).2
    have hpk : p k = b := by
      cases hb' : b with
      | true => exact (hp k (by omega)).mpr (hb.mp hb')
      | false =>
        cases hp' : p k with
        | false => rfl
        | true => rw [hb.mpr ((hp k (by omega)).mp hp')] at hb'; exact hb'
    have hab : a = true → b = true := by
      intro h1
      obtain ⟨x, x1, x2, x3⟩ := ha.mp h1
      exact hb.mpr ⟨x, x1, x2, rd_sub hc.hn x3⟩
    have hcn : (cnI a b ≤ nI 0) = (b = false) := by
      cases a <;> cases b <;> first | decide | exact absurd (hab rfl) (by decide)
    have step : run mX12_wrong (2, 0, 0, [.ref 0, .int (nI k)], [], mH M N) = if p k = say k then run mX12_wrong (2, 0, 0, [.ref 0, .int (nI (k + 1))], [], mH M1 N) else some (some (.int (nI k)), mH M1 N) := by
      rw [bX12_wrong_2, h37]
      simp (disch := omega) only [nI_lt', nI_le', nI_eq', inb_nI, clp, nI_add, nI_mul', cond_true, cond_false]
      rw [if_neg (by omega), (h22 k (by omega)).1, e]
      simp (disch := omega) only [callK_some, Option.toList_some, Option.toList_none, List.cons_append, List.nil_append, bX12_wrong_20, nI_lt', nI_le', nI_eq', inb_nI, clp, nI_add, nI_mul', cond_true, cond_false, hcn, e23]
      rw [hpk, show nI 0 = tI false from rfl, show nI 1 = tI true from rfl]
      simp only [tI_inj]
      cases b with
      | false => rw [if_pos rfl]
      | true => rw [if_neg (by decide)]
    rw [step]
    show ∃ M' : Nat → Nat → Int32, _ = some (some (Value.int (if p k = say k then wrF p say (k + 1) d else nI k)), mH M' N) ∧ _
    by_cases w : p k = say k
    · rw [if_pos w, if_pos w]
      obtain ⟨M2, e2, q2, r2⟩ := ih (k + 1) M1 (by omega) (hc.q (qC_refl A) q) r' (by rw [q.2 37 (by decide) (by decide)]; exact h37) (fun i hi => by rw [q.1 22 (by decide) (by decide) (by decide) (by decide) (by decide) (by decide) (by decide), q.1 23 (by decide) (by decide) (by decide) (by decide) (by decide) (by decide) (by decide)]; exact h22 i hi)
      exact ⟨M2, e2, qM_trans q q2, r2⟩
    · rw [if_neg w, if_neg w]
      exact ⟨M1, rfl, q, r'⟩
theorem cBS (h : iCo A pl M N n T th ce wr F K c) : ∃ b, bstP th c n (lpN th ce wr K n) b ∧ fX11_bestSet [.ref 0] (cH A J pl st) = some (some (.int (nI b)), cH (lpI A (lpN th ce wr K n)) J pl st) := by
  obtain ⟨b, b1, b2⟩ := cCh (I := lpI A (lpN th ce wr K n)) (J := J) (pl := pl) (st := st) (c := c) h.hn (lpN_LP h) (by
    have := h.2.1.2.2.2.2.2.2.2
    intro g x y
    rw [lpI_o A _ (by decide) (by decide)]
    exact this g x y) (feas_of h.hn h.1.2.2.2.2.1)
  refine ⟨b, b1, ?_⟩
  have hP := plP_or pl
  rw [eX11_bestSet, cLN h]
  simp only [callK_some, Option.toList_some, Option.toList_none, List.cons_append, List.nil_append, bX11_bestSet_4]
  rw [lpI_o A _ (by omega) (by omega), h.1.2.1.2.2.2.2]
  show callK (fX3_cheapestSet [.ref 13, .int (nI (gpS th n)), .ref 15] _) _ = _
  rw [b2]
  simp only [callK_some, Option.toList_some, Option.toList_none, List.cons_append, List.nil_append, bX11_bestSet_18]
theorem mBS (h : iCo A pl M N n T th ce wr F K c) : ∃ b, bstP th c n (lpN th ce wr K n) b ∧ fX12_cheapest [.ref 0] (mH M N) = some (some (.int (nI b)), mH M N) :=
  mCh h.1.1 h.2.1.2.1 h.2.1.2.2.2.2.2.1 h.1.2.2.2.2.2.1 h.2.1.2.2.2.2.2.2.1 (feas_of h.hn h.1.2.2.2.2.1)
theorem cOk_lp {L : List Nat} (h : cOk A 16 n th c) : cOk (lpI A L) 16 n th c := fun g x y => by rw [lpI_o A _ (by decide) (by decide)]; exact h g x y
theorem e_told (hC : CAPS) (h : Inv A pl M N) (x : Int32) : eqv A J pl st M N (fX11_told [.ref 0, .int x]) (fX12_told [.ref 0, .int x]) := by
  have hI := h
  obtain ⟨n, T, th, ce, wr, F, K, c, hc, r1, r2, r3⟩ := h
  have hn := hc.hn
  have hF := hc.F8
  have hm := hc.1.1
  have hx := hc.1.2.1
  have hP := plP_or pl
  have hV := hc.1.2.2.2.2.2.1
  obtain ⟨s1, s2, s3, s4, s5, s6, s7, s8⟩ := hc.2.1
  have hLP := lpN_LP hc
  have l15 : lpI A (lpN th ce wr K n) 15 = A 15 := lpI_o A _ (by decide) (by decide)
  have f1 : fX11_told [.ref 0, .int x] (cH A J pl st) = _ := eX11_told A J pl st x
  have f2 : fX12_told [.ref 0, .int x] (mH M N) = _ := eX12_told M N x
  by_cases w0 : x = nI 0
  · rw [if_pos w0] at f1 f2
    rw [hc.1.2.2.2.1] at f1
    rw [hc.1.2.2.1] at f2
    exact eqv_same hI f1 f2
  rw [if_neg w0] at f1 f2
  by_cases w1 : x = nI 1
  · rw [if_pos w1] at f1 f2
    rw [hx.1] at f1
    rw [hm.1] at f2
    exact eqv_same hI f1 f2
  rw [if_neg w1] at f1 f2
  by_cases w2 : x = nI 2
  · rw [if_pos w2] at f1 f2
    obtain ⟨L, m, t1, t2⟩ := hc.2.2.1
    rw [t1.1] at f1
    rw [t2.1] at f2
    exact eqv_same hI f1 f2
  rw [if_neg w2] at f1 f2
  by_cases w3 : x = nI 3
  · rw [if_pos w3] at f1 f2
    rw [s4] at f1
    rw [s2] at f2
    exact eqv_same hI f1 f2
  rw [if_neg w3] at f1 f2
  by_cases w4 : x = nI 4
  · rw [if_pos w4] at f1 f2
    rw [s3] at f1
    rw [s1] at f2
    exact eqv_same hI f1 f2
  rw [if_neg w4] at f1 f2
  by_cases w5 : x = nI 5
  · rw [if_pos w5] at f1 f2
    rw [s3, cPr hn s5 s8] at f1
    rw [s1, mPr hn s5 s7] at f2
    simp only [callK_some, Option.toList_some, Option.toList_none, List.cons_append, List.nil_append, bX11_told_146, bX12_told_89] at f1 f2
    exact eqv_same hI f1 f2
  rw [if_neg w5] at f1 f2
  by_cases w6 : x = nI 6
  · rw [if_pos w6] at f1 f2
    obtain ⟨A2, J2, st2, m2, e2, q2, l2, v1, v2, v3, v4, v5, v6⟩ := cRN (J := J) (st := st) hC hc r2
    obtain ⟨M', m, e, q, r', hm', l1, l2', l3, l4⟩ := mRd hC hc r1
    obtain ⟨em, -⟩ := SR_one l3 v3
    rw [e2] at f1
    rw [e] at f2
    simp only [callK_some, Option.toList_some, Option.toList_none, List.cons_append, List.nil_append, bX11_told_151, bX12_told_94] at f1 f2
    rw [v2, ← em] at f1
    exact ⟨_, A2, J2, pl, st2, M', N, f1, f2, n, T, th, ce, wr, F, K, c, hc.q q2 q, r', l2, r3.cg v4 v5 v6⟩
  rw [if_neg w6] at f1 f2
  by_cases w7 : x = nI 7
  · rw [if_pos w7] at f1 f2
    obtain ⟨A1, J1, st1, m1, e1, q1, t1, u1, u2, u3, u4, u5, u6, u7, u8⟩ := cSN (J := J) (st := st) hC hc r3
    have r1' := r1
    obtain ⟨-, -, ⟨ms, k1, k2, k3⟩, -⟩ := r1'
    obtain ⟨em, -⟩ := SR_one k3 u3
    rw [e1] at f1
    rw [k2] at f2
    simp only [callK_some, Option.toList_some, Option.toList_none, List.cons_append, List.nil_append, bX11_told_159] at f1
    rw [u2, ← em] at f1
    exact ⟨_, A1, J1, pl, st1, M, N, f1, f2, n, T, th, ce, wr, F, K, c, hc.q q1 (qM_refl M), r1, r2.cg u4 u5 u6 u7 u8, t1⟩
  rw [if_neg w7] at f1 f2
  by_cases w8 : x = nI 8
  · rw [if_pos w8] at f1 f2
    obtain ⟨A2, J2, st2, m2, e2, q2, l2, v1, v2, v3, v4, v5, v6⟩ := cRN (J := J) (st := st) hC hc r2
    obtain ⟨A1, J1, st1, m1, e1, q1, t1, u1, u2, u3, u4, u5, u6, u7, u8⟩ := cSN (J := J2) (st := st2) hC (hc.q q2 (qM_refl M)) (r3.cg v4 v5 v6)
    obtain ⟨M', m, e, q, r', hm', l1, l2', l3, l4⟩ := mRd hC hc r1
    have r1' := r1
    obtain ⟨-, -, ⟨ms, k1, k2, k3⟩, -⟩ := r1'
    obtain ⟨em, -⟩ := SR_one l3 v3
    obtain ⟨es, -⟩ := SR_one k3 u3
    have h75 : SR (A1 75) m2 (rdP th ce wr n F K) := by rw [u8]; exact v3
    obtain ⟨z1, z2⟩ := SR_cw h75 u3 (fun v => rd_sub hn)
    rw [e2] at f1
    rw [e] at f2
    simp only [callK_some, Option.toList_some, Option.toList_none, List.cons_append, List.nil_append, bX11_told_167, bX12_told_104] at f1 f2
    rw [e1] at f1
    simp only [callK_some, Option.toList_some, Option.toList_none, List.cons_append, List.nil_append, bX11_told_171] at f1
    rw [cCwo v1 (by rw [u7]; exact v2) u1 u2 u3, z2] at f1
    simp only [callK_some, Option.toList_some, Option.toList_none, List.cons_append, List.nil_append, bX11_told_174] at f1
    rw [q.2 10 (by decide) (by decide), k2, sub_nI (by omega), em, es] at f2
    exact ⟨_, A1, J1, pl, st1, M', N, f1, f2, n, T, th, ce, wr, F, K, c, hc.q (qC_trans q2 q1) q, r', l2.cg u4 u5 u6 u7 u8, t1⟩
  rw [if_neg w8] at f1 f2
  by_cases w9 : x = nI 9
  · rw [if_pos w9] at f1 f2
    rw [hc.1.2.2.2.2.2.2.2] at f1
    exact eqv_same hI f1 f2
  rw [if_neg w9] at f1 f2
  rw [eX12_toldMore] at f2
  by_cases w10 : x = nI 10
  · rw [if_pos w10] at f1 f2
    rw [cLN hc] at f1
    rw [mLp hm s2 s6 hV] at f2
    simp only [callK_some, Option.toList_some, Option.toList_none, List.cons_append, List.nil_append, bX11_told_187, bX12_toldMore_56, bX12_told_120] at f1 f2
    rw [hLP.1] at f1
    exact ⟨_, _, J, pl, st, M, N, f1, f2, Inv_lp hI⟩
  rw [if_neg w10] at f1 f2
  by_cases w11 : x = nI 11
  · rw [if_pos w11] at f1 f2
    rw [cLN hc] at f1
    rw [s1, mHo hm s2 s6 hV] at f2
    simp only [callK_some, Option.toList_some, Option.toList_none, List.cons_append, List.nil_append, bX11_told_195, bX12_toldMore_65, bX12_told_120] at f1 f2
    rw [l15, s3, cHd hLP] at f1
    simp only [callK_some, Option.toList_some, Option.toList_none, List.cons_append, List.nil_append, bX11_told_205] at f1
    exact ⟨_, _, J, pl, st, M, N, f1, f2, Inv_lp hI⟩
  rw [if_neg w11] at f1 f2
  by_cases w12 : x = nI 12
  · rw [if_pos w12] at f1 f2
    rw [cLN hc] at f1
    rw [s1, mHo hm s2 s6 hV] at f2
    simp only [callK_some, Option.toList_some, Option.toList_none, List.cons_append, List.nil_append, bX11_told_210, bX12_toldMore_74] at f1 f2
    rw [l15, s3, cAa hLP] at f1
    rw [mLp hm s2 s6 hV] at f2
    simp only [callK_some, Option.toList_some, Option.toList_none, List.cons_append, List.nil_append, bX11_told_220, bX12_toldMore_78, ite_tI] at f1 f2
    have hle := hLP.2.1
    have hle2 := hdN_le (lpN th ce wr K n) F
    have ew : (nI (hdN (lpN th ce wr K n) F) = nI (lpN th ce wr K n).length) = (hdN (lpN th ce wr K n) F = (lpN th ce wr K n).length) := nI_eq' (by omega) (by omega)
    by_cases g : hdN (lpN th ce wr K n) F = (lpN th ce wr K n).length
    · rw [decide_eq_true g, if_pos rfl] at f1
      have f2' : fX12_told [.ref 0, .int x] (mH M N) = some (some (.int (nI 1)), mH M N) := by
        rw [f2]
        show callK (if nI (hdN (lpN th ce wr K n) F) = nI (lpN th ce wr K n).length then _ else _) _ = _
        rw [if_pos (ew.mpr g)]
        simp only [callK_some, Option.toList_some, Option.toList_none, List.cons_append, List.nil_append, bX12_told_120]
      exact ⟨_, _, J, pl, st, M, N, f1, f2', Inv_lp hI⟩
    · rw [decide_eq_false g, if_neg (by decide)] at f1
      have f2' : fX12_told [.ref 0, .int x] (mH M N) = some (some (.int (nI 0)), mH M N) := by
        rw [f2]
        show callK (if nI (hdN (lpN th ce wr K n) F) = nI (lpN th ce wr K n).length then _ else _) _ = _
        rw [if_neg (fun z => g (ew.mp z))]
        simp only [callK_some, Option.toList_some, Option.toList_none, List.cons_append, List.nil_append, bX12_told_120]
      exact ⟨_, _, J, pl, st, M, N, f1, f2', Inv_lp hI⟩
  rw [if_neg w12] at f1 f2
  obtain ⟨b, b1, b2⟩ := cBS (J := J) (st := st) hc
  obtain ⟨b', b1', b2'⟩ := mBS hc
  have eb := bstP_one hn b1 b1'
  subst eb
  by_cases w13 : x = nI 13
  · rw [if_pos w13] at f1 f2
    rw [b2] at f1
    rw [b2'] at f2
    simp only [callK_some, Option.toList_some, Option.toList_none, List.cons_append, List.nil_append, bX11_told_233, bX12_toldMore_91, bX12_told_120] at f1 f2
    exact ⟨_, _, J, pl, st, M, N, f1, f2, Inv_lp hI⟩
  rw [if_neg w13] at f1 f2
  by_cases w14 : x = nI 14
  · rw [if_pos w14] at f1 f2
    rw [b2] at f1
    rw [b2'] at f2
    simp only [callK_some, Option.toList_some, Option.toList_none, List.cons_append, List.nil_append, bX11_told_242, bX12_toldMore_97] at f1 f2
    rw [cPr hn b1.1 (cOk_lp s8)] at f1
    rw [mPr hn b1.1 s7] at f2
    simp only [callK_some, Option.toList_some, Option.toList_none, List.cons_append, List.nil_append, bX11_told_245, bX12_toldMore_100, bX12_told_120] at f1 f2
    exact ⟨_, _, J, pl, st, M, N, f1, f2, Inv_lp hI⟩
  rw [if_neg w14] at f1 f2
  by_cases w15 : x = nI 15
  · rw [if_pos w15] at f1 f2
    rw [cLN hc] at f1
    rw [mNd hm s1 s5 s2 s6 hV] at f2
    simp only [callK_some, Option.toList_some, Option.toList_none, List.cons_append, List.nil_append, bX11_told_250, bX12_toldMore_105, bX12_told_120] at f1 f2
    rw [l15, s3, cNd hLP hF] at f1
    simp only [callK_some, Option.toList_some, Option.toList_none, List.cons_append, List.nil_append, bX11_told_260] at f1
    exact ⟨_, _, J, pl, st, M, N, f1, f2, Inv_lp hI⟩
  rw [if_neg w15] at f1 f2
  obtain ⟨m, say, v, k1, k2, k3, k4, k5⟩ := hc.2.2.2.2.2.1
  by_cases w16 : x = nI 16
  · rw [if_pos w16] at f1 f2
    rw [k3] at f1
    simp only [callK_some, Option.toList_some, Option.toList_none, List.cons_append, List.nil_append, bX12_told_120] at f2
    rw [k2] at f2
    exact eqv_same hI f1 f2
  rw [if_neg w16] at f1 f2
  by_cases w17 : x = nI 17
  · rw [if_pos w17] at f1 f2
    obtain ⟨A2, J2, st2, m2, e2, q2, l2, v1, v2, v3, v4, v5, v6⟩ := cRN (J := J) (st := st) hC hc r2
    have e66 := q2.1 66 (by decide) (by decide) (by decide) (by decide)
    have e67 := q2.1 67 (by decide) (by decide) (by decide) (by decide)
    have lp := cFW_loop (J := J2) (pl := pl) (st := st2) k1 (by rw [e66]; exact k3) (by rw [e66]; exact k4) (fun i hi => by rw [e67]; exact (k5 i hi).2.2.1) v1 v2 v3 m 0 (by omega)
    obtain ⟨M', e', q', r'⟩ := mWr_loop (N := N) (A := A) (pl := pl) (T := T) (c := c) hC (p := fun i => inR (A2 75) (nI (v i)) m2) (say := say) (v := v) k1 (fun i hi => SR_inX v3) m 0 M (by omega) hc r1 k2 (fun i hi => ⟨(k5 i hi).2.1, (k5 i hi).2.2.2⟩)
    rw [e2] at f1
    simp only [callK_some, Option.toList_some, Option.toList_none, List.cons_append, List.nil_append, bX11_told_277] at f1
    rw [eX0_firstWrong, lp] at f1
    simp only [callK_some, Option.toList_some, Option.toList_none, List.cons_append, List.nil_append, bX11_told_280] at f1
    rw [eX12_wrong, e'] at f2
    simp only [callK_some, Option.toList_some, Option.toList_none, List.cons_append, List.nil_append, bX12_toldMore_115, bX12_told_120] at f2
    exact ⟨_, A2, J2, pl, st2, M', N, f1, f2, n, T, th, ce, wr, F, K, c, hc.q q2 q', r', l2, r3.cg v4 v5 v6⟩
  rw [if_neg w17] at f1 f2
  by_cases w18 : x = nI 18
  · rw [if_pos w18] at f1 f2
    obtain ⟨mh, o, d1, d2, d3, d4, d5, d6⟩ := hc.2.2.2.1
    rw [d5] at f1
    simp only [callK_some, Option.toList_some, Option.toList_none, List.cons_append, List.nil_append, bX12_told_120] at f2
    rw [d3] at f2
    exact eqv_same hI f1 f2
  rw [if_neg w18] at f1 f2
  simp only [callK_some, Option.toList_some, Option.toList_none, List.cons_append, List.nil_append, bX12_told_120] at f2
  exact eqv_same hI f1 f2
end TO
