/-! both sides: drift, undo, keep, goBack -/
section MO
variable {A M A2 M2 : Nat → Nat → Int32} {N N2 : Nat → Nat → Int64} {J : Nat → Nat → Int64} {pl st : Bool} {n T F K F' K' : Nat} {th ce c c' : Nat → Nat} {wr : Nat → Bool}
theorem fn_xor {g : Nat} (hF : F < 256) (hg : g < 8) : F ^^^ 2 ^ g = fnF F g (!F.testBit g) := by
  apply Nat.eq_of_testBit_eq
  intro i
  rw [Nat.testBit_xor, pow_bit]
  unfold fnF
  cases hb : F.testBit g with
  | true =>
    rw [Bool.not_true, if_neg (by decide), adn_bit (by omega), pow_bit]
    by_cases w : g = i
    · subst w; rw [hb, decide_eq_true rfl]; rfl
    · rw [decide_eq_false w]; simp
  | false =>
    rw [Bool.not_false, if_pos rfl, Nat.testBit_or, pow_bit]
    by_cases w : g = i
    · subst w; rw [hb, decide_eq_true rfl]; rfl
    · rw [decide_eq_false w]; simp
/-- the seed moves on -/
theorem seed_on {s : Nat} (hc : iCo A pl M N n T th ce wr F K c) (r1 : iRm M n th ce wr F K) (r2 : iRl A n th ce wr) (r3 : iRs A n th ce wr) (hs : s < 2147483648) : iCo (up2 A 0 17 (nI s)) pl M (up2 N 0 36 (lN s)) n T th ce wr F K c ∧ iRl (up2 A 0 17 (nI s)) n th ce wr ∧ iRs (up2 A 0 17 (nI s)) n th ce wr := by
  have ag : agr [] [17] A (up2 A 0 17 (nI s)) := agr_u0 (agr_refl _ _ _) (by decide)
  have mg : agr [] [] M M := agr_refl _ _ _
  obtain ⟨h1, h2, h3, h4, h5, h6, h7, h8⟩ := hc
  have hn := h1.1.2.1
  exact ⟨⟨h1.ag ag mg, h2.ag hn ag mg, h3.ag ag mg, h4.ag hn ag mg, h5.ag hn ag mg (up2_ne (by decide)), h6.ag ag mg, ⟨s, hs, by rw [up2_eq, up1_eq], by rw [up2_eq, up1_eq]⟩, iFt.ag h8 ag mg⟩, r2.ag ag, r3.ag ag⟩
theorem one (h : Inv A pl M N) (hn0 : M 0 1 ≠ nI 0) : ∃ (A' M' : Nat → Nat → Int32) (N' : Nat → Nat → Int64), fX11_driftOnce [.ref 0] (cH A J pl st) = some (none, cH A' J pl st) ∧ fX12_drawn [.ref 0] (mH M N) = some (none, mH M' N') ∧ Inv A' pl M' N' ∧ M' 0 1 = M 0 1 := by
  obtain ⟨n, T, th, ce, wr, F, K, c, hc0, r1, r20, r30⟩ := h
  have hn := hc0.hn
  have hF := hc0.F8
  have hP := plP_or pl
  have hm1 := hc0.1.1.1
  have hx3 := hc0.1.2.1.1
  have hpos : 0 < n := by
    by_cases w : n = 0
    · rw [hm1, w] at hn0; exact absurd rfl hn0
    · omega
  obtain ⟨s, q1, q2, q3⟩ := hc0.2.2.2.2.2.2.1
  have f1 : fX11_driftOnce [.ref 0] (cH A J pl st) = _ := eX11_driftOnce A J pl st
  have f2 : fX12_drawn [.ref 0] (mH M N) = _ := eX12_drawn M N
  have l1 := sdN_lt s
  have l2 := sdN_lt (sdN s)
  have l3 := sdN_lt (sdN (sdN s))
  have l4 := sdN_lt (sdN (sdN (sdN s)))
  rw [cDr q3 q1 (by decide) (by decide)] at f1
  rw [mDr q2 q1 (by decide) (by decide)] at f2
  simp only [callK_some, Option.toList_some, Option.toList_none, List.cons_append, List.nil_append, bX11_driftOnce_5, bX12_drawn_5] at f1 f2
  rw [up2_ne (by omega), hx3, cDr (by rw [up2_eq, up1_eq]) l1 hpos (by omega), up2_up2] at f1
  rw [hm1, mDr (by rw [up2_eq, up1_eq]) l1 hpos (by omega), up2_up2] at f2
  simp only [callK_some, Option.toList_some, Option.toList_none, List.cons_append, List.nil_append, bX11_driftOnce_17, bX12_drawn_14] at f1 f2
  rw [cDr (by rw [up2_eq, up1_eq]) l2 (by decide) (by decide), up2_up2] at f1
  rw [mDr (by rw [up2_eq, up1_eq]) l2 (by decide) (by decide), up2_up2] at f2
  simp only [callK_some, Option.toList_some, Option.toList_none, List.cons_append, List.nil_append, bX11_driftOnce_24, bX12_drawn_21] at f1 f2
  rw [cDr (by rw [up2_eq, up1_eq]) l3 (by decide) (by decide), up2_up2] at f1
  rw [mDr (by rw [up2_eq, up1_eq]) l3 (by decide) (by decide), up2_up2] at f2
  simp only [callK_some, Option.toList_some, Option.toList_none, List.cons_append, List.nil_append, bX11_driftOnce_31, bX12_drawn_28] at f1 f2
  obtain ⟨hc, r2, r3⟩ := seed_on hc0 r1 r20 r30 l4
  obtain ⟨A1, M1, e1, e2, a, m, h12, hh⟩ := mark (J := J) (st := st) hc
  have hs1 := iSe_a hc.2.1 hn a m
  have d1 : drN s 4 < 4 := Nat.mod_lt _ (by decide)
  have d2 : drN (sdN s) n < n := Nat.mod_lt _ hpos
  have d3 : drN (sdN (sdN s)) 9 < 9 := Nat.mod_lt _ (by decide)
  have d4 : drN (sdN (sdN (sdN s))) 16 < 16 := Nat.mod_lt _ (by decide)
  generalize drN s 4 = k1 at *
  generalize drN (sdN s) n = k2 at *
  generalize drN (sdN (sdN s)) 9 = k3 at *
  generalize drN (sdN (sdN (sdN s))) 16 = k4 at *
  rw [e1] at f1
  rw [e2] at f2
  simp only [callK_some, Option.toList_some, Option.toList_none, List.cons_append, List.nil_append, bX11_driftOnce_44, bX12_drawn_34] at f1 f2
  have hM01 : M1 0 1 = M 0 1 := m.2 1 (by decide)
  have base := deed hc r1 r2 r3 a m h12 hh (A2 := A1) (M2 := M1) (agr_refl _ _ _) (agr_refl _ _ _) hs1
  have hx1 := base.1.1.2.1
  have hm1' := base.1.1.1
  by_cases w3 : k1 = 3
  · have w3' : nI k1 = nI 3 := by rw [w3]
    rw [if_pos w3'] at f1 f2
    obtain ⟨z1, z2, z3, z4⟩ := deed hc r1 r2 r3 a m h12 hh (A2 := up2 A1 15 2 (nI k4)) (M2 := up2 M1 0 7 (nI k4)) (agr_up (agr_refl _ _ _) (by decide) (by decide)) (agr_u0 (agr_refl _ _ _) (by decide)) (iSe_k hs1 hn d4)
    exact ⟨_, _, _, f1, f2, ⟨n, T, th, ce, wr, F, k4, c, z1, z2, z3, z4⟩, by rw [up2_eq, up1_ne (by decide)]; exact hM01⟩
  have w3' : ¬ nI k1 = nI 3 := by rw [nI_eq' (by omega) (by omega)]; exact w3
  rw [if_neg w3'] at f1 f2
  rw [cGp hP hx1] at f1
  rw [mGp hm1'] at f2
  simp only [callK_some, Option.toList_some, Option.toList_none, List.cons_append, List.nil_append, bX11_driftOnce_69, bX12_drawn_53, ite_tI, gpX_nI hn d2] at f1 f2
  cases hg : gpB th k2 with
  | false =>
    rw [hg, if_neg (by decide)] at f1 f2
    rw [mGp hm1'] at f2
    simp only [callK_some, Option.toList_some, Option.toList_none, List.cons_append, List.nil_append, bX12_drawn_78, ite_tI, gpX_nI hn d2] at f2
    rw [hg, if_neg (by decide)] at f2
    exact ⟨_, _, _, f1, f2, ⟨n, T, th, ce, wr, F, K, c, base⟩, hM01⟩
  | true =>
  rw [hg, if_pos rfl] at f1 f2
  by_cases w2 : k1 = 2
  · have w2' : nI k1 = nI 2 := by rw [w2]
    rw [if_pos w2'] at f1 f2
    rw [nI_add, cSC (by omega)] at f1
    simp only [callK_some, Option.toList_some, Option.toList_none, List.cons_append, List.nil_append, bX11_driftOnce_88] at f1
    have f2' : fX12_drawn [.ref 0] (mH M N) = some (none, mH (up2 M1 4 k2 (nI (k3 + 1))) (up2 N 0 36 (lN (sdN (sdN (sdN (sdN s))))))) := by
      rw [f2]
      simp (disch := omega) only [nI_lt', nI_le', nI_eq', inb_nI, clp, nI_add, nI_mul', cond_true, cond_false]
    obtain ⟨z1, z2, z3, z4⟩ := deed hc r1 r2 r3 a m h12 hh (A2 := up2 A1 16 k2 (nI (k3 + 1))) (M2 := up2 M1 4 k2 (nI (k3 + 1))) (agr_up (agr_refl _ _ _) (by decide) (by decide)) (agr_up (agr_refl _ _ _) (by decide) (by decide)) (iSe_c hs1 ⟨by omega, by omega⟩)
    exact ⟨_, _, _, f1, f2', ⟨n, T, th, ce, wr, F, K, _, z1, z2, z3, z4⟩, by rw [up2_ne (by decide)]; exact hM01⟩
  · have w2' : ¬ nI k1 = nI 2 := by rw [nI_eq' (by omega) (by omega)]; exact w2
    rw [if_neg w2'] at f1 f2
    rw [mGp hm1'] at f2
    simp only [callK_some, Option.toList_some, Option.toList_none, List.cons_append, List.nil_append, bX12_drawn_78, ite_tI, gpX_nI hn d2] at f2
    have s3 : A1 15 1 = nI F := hs1.2.2.1
    have s1 : M1 0 6 = nI F := hs1.1
    rw [hg, if_pos rfl, s1, shl_nI k2 (by omega), xor_nI, fn_xor hF (by omega)] at f2
    rw [s3, cHas (by omega) (by omega)] at f1
    simp only [callK_some, Option.toList_some, Option.toList_none, List.cons_append, List.nil_append, bX11_driftOnce_107, ite_tI] at f1
    have f1' : fX11_driftOnce [.ref 0] (cH A J pl st) = some (none, cH (up2 A1 15 1 (nI (fnF F k2 (!F.testBit k2)))) J pl st) := by
      rw [f1]
      cases hb : F.testBit k2 with
      | true =>
        rw [if_pos rfl, show nI 0 = tI false from rfl, cSF (by omega) s3]
        simp only [callK_some, Option.toList_some, Option.toList_none, List.cons_append, List.nil_append, bX11_driftOnce_118]
        rfl
      | false =>
        rw [if_neg (by decide), show nI 1 = tI true from rfl, cSF (by omega) s3]
        simp only [callK_some, Option.toList_some, Option.toList_none, List.cons_append, List.nil_append, bX11_driftOnce_118]
        rfl
    obtain ⟨z1, z2, z3, z4⟩ := deed hc r1 r2 r3 a m h12 hh (A2 := up2 A1 15 1 (nI (fnF F k2 (!F.testBit k2)))) (M2 := up2 M1 0 6 (nI (fnF F k2 (!F.testBit k2)))) (agr_up (agr_refl _ _ _) (by decide) (by decide)) (agr_u0 (agr_refl _ _ _) (by decide)) (iSe_f hs1 hn (sb_fn hF hs1.2.2.2.2.1 d2 hg))
    exact ⟨_, _, _, f1', f2, ⟨n, T, th, ce, wr, _, K, c, z1, z2, z3, z4⟩, by rw [up2_eq, up1_ne (by decide)]; exact hM01⟩
theorem drift_loop {k : Nat} (hk : k ≤ 20) : ∀ d i (A M : Nat → Nat → Int32) (N : Nat → Nat → Int64), i + d = k → Inv A pl M N → M 0 1 ≠ nI 0 → ¬ M 0 1 ≤ nI 0 → ∃ (r : Int32) (A' M' : Nat → Nat → Int32) (N' : Nat → Nat → Int64), run mX11_drift (26, 0, 0, [.ref 0, .int (nI k), .int (nI i)], [], cH A J pl st) = some (some (.int r), cH A' J pl st) ∧ run mX12_drift (16, 0, 0, [.ref 0, .int (nI k), .int (nI i)], [], mH M N) = some (some (.int r), mH M' N') ∧ Inv A' pl M' N' := by
  intro d
  induction d with
  | zero =>
    intro i A M N hi h h0 h1
    have hI := h
    obtain ⟨n, T, th, ce, wr, F, K, c, hc, -⟩ := h
    refine ⟨nI F, A, M, N, ?_, ?_, hI⟩
    · rw [bX11_drift_26, hc.2.1.2.2.1]
      simp (disch := omega) only [nI_lt', nI_le', nI_eq', inb_nI, clp, nI_add, nI_mul', cond_true, cond_false]
      rw [if_pos (by omega)]
    · rw [bX12_drift_16, hc.2.1.1]
      simp (disch := omega) only [nI_lt', nI_le', nI_eq', inb_nI, clp, nI_add, nI_mul', cond_true, cond_false]
      rw [if_pos (by omega)]
  | succ d ih =>
    intro i A M N hi h h0 h1
    obtain ⟨A1, M1, N1, e1, e2, h2, h3⟩ := one (J := J) (st := st) h h0
    obtain ⟨r, A', M', N', g1, g2, g3⟩ := ih (i + 1) A1 M1 N1 (by omega) h2 (by rw [h3]; exact h0) (by rw [h3]; exact h1)
    refine ⟨r, A', M', N', ?_, ?_, g3⟩
    · rw [bX11_drift_26, e1]
      simp (disch := omega) only [nI_lt', nI_le', nI_eq', inb_nI, clp, nI_add, nI_mul', cond_true, cond_false, callK_some, Option.toList_some, Option.toList_none, List.cons_append, List.nil_append, bX11_drift_35]
      rw [if_neg (by omega)]
      exact g1
    · rw [bX12_drift_16, e2, if_neg h1]
      simp (disch := omega) only [nI_lt', nI_le', nI_eq', inb_nI, clp, nI_add, nI_mul', cond_true, cond_false, callK_some, Option.toList_some, Option.toList_none, List.cons_append, List.nil_append, bX12_drift_32]
      rw [if_neg (by omega)]
      exact g2
theorem e_drift (h : Inv A pl M N) (x : Int32) : eqv A J pl st M N (fX11_drift [.ref 0, .int x]) (fX12_drift [.ref 0, .int x]) := by
  have hI := h
  obtain ⟨n, T, th, ce, wr, F, K, c, hc, -⟩ := h
  have f1 : fX11_drift [.ref 0, .int x] (cH A J pl st) = _ := eX11_drift A J pl st x
  have f2 : fX12_drift [.ref 0, .int x] (mH M N) = _ := eX12_drift M N x
  by_cases x1 : x < nI 1
  · rw [if_pos x1] at f1 f2
    exact eqv_same hI f1 f2
  rw [if_neg x1] at f1 f2
  by_cases x2 : x ≤ nI 20
  · rw [if_pos x2] at f1 f2
    have x0 : ¬ x < nI 0 := fun z => x1 (Int32.lt_trans z (by decide))
    obtain ⟨k, hk, rfl⟩ := nI_of x0
    rw [nI_lt' (by omega) (by omega)] at x1
    rw [nI_le' (by omega) (by omega)] at x2
    have hn := hc.hn
    rw [hc.1.2.1.1] at f1
    by_cases w : n = 0
    · subst w
      rw [if_pos (by decide), hc.2.1.2.2.1] at f1
      refine eqv_same hI f1 ?_
      rw [f2, bX12_drift_16, hc.1.1.1, hc.2.1.1]
      simp (disch := omega) only [nI_lt', nI_le', nI_eq', inb_nI, clp, nI_add, nI_mul', cond_true, cond_false, Nat.le_refl, if_true]
      rw [if_neg (by omega)]
    · have hne : M 0 1 ≠ nI 0 := by rw [hc.1.1.1]; intro z; rw [nI_eq' (by omega) (by omega)] at z; exact w z
      have hnl : ¬ M 0 1 ≤ nI 0 := by rw [hc.1.1.1]; intro z; rw [nI_le' (by omega) (by omega)] at z; omega
      rw [if_neg (by rw [nI_le' (by omega) (by omega)]; omega)] at f1
      obtain ⟨r, A', M', N', g1, g2, g3⟩ := drift_loop (J := J) (st := st) (k := k) (by omega) k 0 A M N (by omega) hI hne hnl
      exact ⟨r, A', J, pl, st, M', N', by rw [f1]; exact g1, by rw [f2]; exact g2, g3⟩
  · rw [if_neg x2] at f1 f2
    exact eqv_same hI f1 f2
theorem mUn_loop {k : Nat} (hk : k < 20) : ∀ d g (M : Nat → Nat → Int32) (z : Value), g + d = 8 → M 0 32 = nI k → ∃ M' : Nat → Nat → Int32, run mX12_undo (63, 0, 0, [.ref 0, z, .int (nI g)], [], mH M N) = some (some (.int (nI k)), mH M' N) ∧ M' 0 12 = nI 0 ∧ agr [4] [12] M M' ∧ (∀ g', g ≤ g' → g' < 8 → M' 4 g' = M 21 (8 * k + g')) ∧ ∀ g', g' < g → M' 4 g' = M 4 g' := by
  intro d
  induction d with
  | zero =>
    intro g M z hg h0
    have : g = 8 := by omega
    subst this
    refine ⟨up2 M 0 12 (nI 0), ?_, by rw [up2_eq, up1_eq], agr_u0 (agr_refl _ _ _) (by decide), fun g' a b => by omega, fun g' _ => by rw [up2_ne (by decide)]⟩
    rw [bX12_undo_63, h0]
    simp (disch := omega) only [nI_lt', nI_le', nI_eq', inb_nI, clp, nI_add, nI_mul', cond_true, cond_false, Nat.le_refl, if_true]
  | succ d ih =>
    intro g M z hg h0
    obtain ⟨M', e, a1, a2, a3, a4⟩ := ih (g + 1) (up2 M 4 g (M 21 (8 * k + g))) .null (by omega) (by rw [up2_ne (by decide)]; exact h0)
    refine ⟨M', ?_, a1, agr_trans (agr_up (agr_refl _ _ _) (by decide) (by decide)) a2, fun g' x y => ?_, fun g' x => by rw [a4 g' (by omega), up2_eq, up1_ne (by omega)]⟩
    · rw [bX12_undo_63, h0]
      simp (disch := omega) only [nI_lt', nI_le', nI_eq', inb_nI, clp, nI_add, nI_mul', cond_true, cond_false]
      rw [if_neg (by omega)]
      exact e
    · by_cases w : g' = g
      · rw [w, a4 g (by omega), up2_eq, up1_eq]
      · rw [a3 g' (by omega) y, up2_ne (by decide)]
theorem e_undo (h : Inv A pl M N) (x : Int32) : eqv A J pl st M N (fX11_undo [.ref 0, .int x]) (fX12_undo [.ref 0, .int x]) := by
  have hI := h
  obtain ⟨n, T, th, ce, wr, F, K, c, hc, r1, r2, r3⟩ := h
  have hn := hc.hn
  have f1 : fX11_undo [.ref 0, .int x] (cH A J pl st) = _ := eX11_undo A J pl st x
  have f2 : fX12_undo [.ref 0, .int x] (mH M N) = _ := eX12_undo M N x
  obtain ⟨m, o, d1, d2, d3, d4, d5, d6⟩ := hc.2.2.2.1
  by_cases x1 : x < nI 1
  · rw [if_pos x1] at f1 f2
    exact eqv_same hI f1 f2
  rw [if_neg x1] at f1 f2
  by_cases x2 : x ≤ nI 20
  · rw [if_pos x2] at f1 f2
    have x0 : ¬ x < nI 0 := fun z => x1 (Int32.lt_trans z (by decide))
    obtain ⟨k, hk, rfl⟩ := nI_of x0
    rw [nI_lt' (by omega) (by omega)] at x1
    rw [nI_le' (by omega) (by omega)] at x2
    rw [d5] at f1
    rw [d3] at f2
    by_cases w : k ≤ m
    · have w' : nI k ≤ nI m := by rw [nI_le' (by omega) (by omega)]; exact w
      rw [if_pos w'] at f1 f2
      rw [sub_nI w] at f2
      obtain ⟨A1, P, e1, eP, b1, b2, b3, b4, b5, b6⟩ := cTb (J := J) (pl := pl) (st := st) d4 d2 d5 d1 (show 1 ≤ k by omega) w
      rw [e1] at f1
      simp only [callK_some, Option.toList_some, Option.toList_none, List.cons_append, List.nil_append, bX11_undo_40] at f1
      rw [b2] at f1
      obtain ⟨F1, K1, c1, k1, k2, k3, k4, k5, k6, k7, k8⟩ := d6 (m - k) (by omega)
      rw [← eP] at k5 k6 k7
      obtain ⟨M1, e2, g1, g2, g3, -⟩ := mUn_loop (N := N) (k := m - k) (by omega) 8 0 (up2 (up2 (up2 M 0 32 (nI (m - k))) 0 6 (M 19 (m - k))) 0 7 (M 20 (m - k))) (.int (nI k)) (by omega) (by rw [up2_eq, up1_ne (by decide), up2_eq, up1_ne (by decide), up2_eq, up1_eq])
      have f2' : fX12_undo [.ref 0, .int (nI k)] (mH M N) = some (some (.int (nI (m - k))), mH M1 N) := by
        rw [f2]
        simp (disch := omega) only [nI_lt', nI_le', nI_eq', inb_nI, clp, nI_add, nI_mul', cond_true, cond_false]
        exact e2
      have am : agr [4] [6, 7, 12, 32] M M1 := agr_trans (agr_u0 (agr_u0 (agr_u0 (agr_refl _ _ _) (by decide)) (by decide)) (by decide)) (agr_mono g2 (by decide))
      have aa : agr [15, 16, 17] [] A A1 := ⟨fun p p0 hp => b3 p (fun z => hp (by rw [z]; decide)) (fun z => hp (by rw [z]; decide)) (fun z => hp (by rw [z]; decide)), fun q _ => by rw [b3 0 (by decide) (by decide) (by decide)]⟩
      have z1 := setOk hc r1 r2 r3 (A2 := A1) (M2 := M1) (N2 := N) (F' := F1) (K' := K1) (c' := c1) (agr_mono aa (by decide +kernel)) (agr_mono am (by decide +kernel)) rfl g1 ⟨by rw [g2.2 6 (by decide), up2_eq, up1_ne (by decide), up2_eq, up1_eq]; exact k3, by rw [g2.2 7 (by decide), up2_eq, up1_eq]; exact k4, by rw [b4]; exact k5, by rw [b5]; exact k6, k1, k2, fun g x y => ⟨by rw [g3 g (by omega) (by omega), up2_ne (by decide), up2_ne (by decide), up2_ne (by decide)]; exact k8 g x y, (k7 g x y).2⟩, k7.cg b6 hn⟩ ⟨m - k, o, by omega, d2, by rw [g2.2 32 (by decide), up2_eq, up1_ne (by decide), up2_eq, up1_ne (by decide), up2_eq, up1_eq], b1, b2, fun i hi => ?_⟩ (hc.2.2.2.2.2.2.1.ag aa rfl)
      · exact ⟨_, A1, J, pl, st, M1, N, f1, f2', n, T, th, ce, wr, F1, K1, c1, z1⟩
      · obtain ⟨F0, K0, c0, t1, t2, t3, t4, t5, t6, t7, t8⟩ := d6 i (by omega)
        have hq : (o + i) % 20 < 20 := Nat.mod_lt _ (by decide)
        have u1 : A1 (19 + 2 * ((o + i) % 20)) = A (19 + 2 * ((o + i) % 20)) := b3 _ (by omega) (by omega) (by omega)
        have u2 : A1 (19 + 2 * ((o + i) % 20) + 1) = A (19 + 2 * ((o + i) % 20) + 1) := b3 _ (by omega) (by omega) (by omega)
        exact ⟨F0, K0, c0, t1, t2, by rw [am.1 19 (by decide) (by decide)]; exact t3, by rw [am.1 20 (by decide) (by decide)]; exact t4, by rw [u1]; exact t5, by rw [u1]; exact t6, t7.cg (fun g _ => by rw [u2]) hn, fun g x y => by rw [am.1 21 (by decide) (by decide)]; exact t8 g x y⟩
    · have w' : ¬ nI k ≤ nI m := by rw [nI_le' (by omega) (by omega)]; exact w
      rw [if_neg w'] at f1 f2
      exact eqv_same hI f1 f2
  · rw [if_neg x2] at f1 f2
    exact eqv_same hI f1 f2
end MO
