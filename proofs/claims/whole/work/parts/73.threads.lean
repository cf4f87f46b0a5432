/-! both sides: threads -/
section TH
variable {A M A2 M2 : Nat → Nat → Int32} {N N2 : Nat → Nat → Int64} {J : Nat → Nat → Int64} {pl st : Bool} {n T F K F' K' : Nat} {th ce c c' : Nat → Nat} {wr : Nat → Bool}
theorem RX_pl : up2 (up2 (RX pl st) 0 2 (plP (!pl))) 0 3 (plP pl) = RX (!pl) st := by
  funext p k
  by_cases hp : p = 0
  · subst hp
    rw [up2_eq, up2_eq]
    match k with
    | 0 => rfl
    | 1 => rfl
    | 2 => rfl
    | 3 =>
      show plP pl = plP (!!pl)
      rw [Bool.not_not]
    | k + 4 => rfl
  · have hb : Nat.beq p 0 = false := by
      cases hq : Nat.beq p 0
      · rfl
      · exact absurd (Nat.eq_of_beq_eq_true hq) hp
    rw [up2_ne hp, up2_ne hp]
    unfold RX
    rw [hb]
    rfl
theorem iPl.cd (h : iPl A pl M n T th ce wr) (a0 : A2 (plP pl) = A (plP pl)) (a1 : A2 (plP pl + 1) = A (plP pl + 1)) (a1' : A2 (plP pl + 2) = A (plP pl + 2)) (a2 : A2 10 3 = A 10 3) (a3 : A2 12 = A 12) (m0 : M2 0 0 = M 0 0) (m1 : M2 0 1 = M 0 1) (m2 : M2 0 18 = M 0 18) (m3 : ∀ p, p = 1 ∨ p = 2 ∨ p = 3 ∨ p = 12 → M2 p = M p) : iPl A2 pl M2 n T th ce wr := by
  obtain ⟨h1, h2, h3, h4, h5, h6, h7, h8⟩ := h
  exact ⟨h1.cong m1 (m3 1 (by omega)) (m3 2 (by omega)) (m3 3 (by omega)), h2.cong (by rw [a0]) (by rw [a0]) (by rw [a0]) a1 a1', by rw [m0]; exact h3, by rw [a0]; exact h4, h5, fun s u x y => by rw [m3 12 (by omega)]; exact h6 s u x y, fun s u x y => by rw [a3]; exact h7 s u x y, by rw [a2, m2]; exact h8⟩
theorem cFl_loop : ∀ d k (A : Nat → Nat → Int32), k + d = 8 → (∀ q, q < k → A 16 q = nI 1) → ∃ A' : Nat → Nat → Int32, run mJ7_fill_53178 (5, 0, 0, [.ref 16, .int (nI 1), .int (nI k), .int (nI 8)], [], cH A J pl st) = some (none, cH A' J pl st) ∧ (∀ p, p ≠ 16 → A' p = A p) ∧ ∀ q, q < 8 → A' 16 q = nI 1 := by
  intro d
  induction d with
  | zero =>
    intro k A hk h
    have : k = 8 := by omega
    subst this
    refine ⟨A, ?_, fun _ _ => rfl, h⟩
    rw [bJ7_fill_53178_5_s]
    simp (disch := omega) only [nI_lt', nI_le', nI_eq', inb_nI, clp, nI_add, nI_mul', cond_true, cond_false, Nat.le_refl, if_true]
  | succ d ih =>
    intro k A hk h
    obtain ⟨A', e, a1, a2⟩ := ih (k + 1) (up2 A 16 k (nI 1)) (by omega) (fun q hq => by
      rw [up2_eq]
      by_cases w : q = k
      · rw [w, up1_eq]
      · rw [up1_ne w]; exact h q (by omega))
    refine ⟨A', ?_, fun p hp => by rw [a1 p hp, up2_ne hp], a2⟩
    rw [bJ7_fill_53178_5_s]
    simp (disch := omega) only [nI_lt', nI_le', nI_eq', inb_nI, clp, nI_add, nI_mul', cond_true, cond_false]
    rw [if_neg (by omega)]
    exact e
def SA : List Nat := [10, 11, 12, 15, 16, 17, 60, 63, 66]
theorem cStart (h : RPx A (plP pl) n th ce wr) : ∃ A' : Nat → Nat → Int32, fX11_startAnew [.ref 0] (cH A J pl st) = some (none, cH A' J pl st) ∧ agr SA [13, 16] A A' ∧ A' 10 3 = nR th ce wr (gS th ce wr n n) ∧ vOk A' (nV th ce wr (gS th ce wr n n)) ∧ A' 15 1 = nI 0 ∧ A' 15 2 = nI 15 ∧ (∀ g, g < 8 → A' 16 g = nI 1) ∧ A' 17 1 = nI 0 ∧ A' 17 2 = nI 0 ∧ A' 60 2 = nI 0 ∧ A' 63 2 = nI 0 ∧ A' 66 1 = nI 0 ∧ A' 66 2 = nI 0 ∧ A' 0 13 = nI 0 ∧ A' 0 16 = nI 0 := by
  have hP := plP_or pl
  obtain ⟨A1, e1, a1, a2, a3⟩ := cRings (J := J) (pl := pl) (st := st) hP h
  obtain ⟨A2, e2, b1, b2⟩ := cFl_loop (J := J) (pl := pl) (st := st) 8 0 A1 (by omega) (fun q hq => absurd hq (Nat.not_lt_zero q))
  have g1 : agr SA [13, 16] A A1 := ⟨fun p p0 hp => a1 p (fun z => hp (by rw [z]; decide)) (fun z => hp (by rw [z]; decide)) (fun z => hp (by rw [z]; decide)), fun k _ => by rw [a1 0 (by decide) (by decide) (by decide)]⟩
  have g2 : agr SA [13, 16] A A2 := agr_trans g1 ⟨fun p p0 hp => b1 p (fun z => hp (by rw [z]; decide)), fun k _ => by rw [b1 0 (by decide)]⟩
  refine ⟨up2 (up2 (up2 (up2 (up2 (up2 (up2 (up2 (up2 (up2 A2 15 1 (nI 0)) 15 2 (nI 15)) 17 1 (nI 0)) 17 2 (nI 0)) 60 2 (nI 0)) 63 2 (nI 0)) 66 1 (nI 0)) 66 2 (nI 0)) 0 13 (nI 0)) 0 16 (nI 0), ?_, agr_u0 (agr_u0 (agr_up (agr_up (agr_up (agr_up (agr_up (agr_up (agr_up (agr_up g2 (by decide) (by decide)) (by decide) (by decide)) (by decide) (by decide)) (by decide) (by decide)) (by decide) (by decide)) (by decide) (by decide)) (by decide) (by decide)) (by decide) (by decide)) (by decide)) (by decide), ?_, fun s u x y => ?_, ?_, ?_, fun g hg => ?_, ?_, ?_, ?_, ?_, ?_, ?_, ?_, ?_⟩
  · rw [eX11_startAnew, e1]
    simp only [callK_some, Option.toList_some, Option.toList_none, List.cons_append, List.nil_append, bX11_startAnew_11, eX9_clear, eJ7_fill_53178_s, e2, bX9_clear_8, bX11_startAnew_18, eX1_clear, bX11_startAnew_25, eX0_clear, bX11_startAnew_59]
  · rw [up2_ne (by decide), up2_ne (by decide), up2_ne (by decide), up2_ne (by decide), up2_ne (by decide), up2_ne (by decide), up2_ne (by decide), up2_ne (by decide), up2_ne (by decide), up2_ne (by decide), b1 10 (by decide)]; exact a2
  · rw [up2_ne (by decide), up2_ne (by decide), up2_ne (by decide), up2_ne (by decide), up2_ne (by decide), up2_ne (by decide), up2_ne (by decide), up2_ne (by decide), up2_ne (by decide), up2_ne (by decide), b1 12 (by decide)]; exact a3 s u x y
  · rw [up2_ne (by decide), up2_ne (by decide), up2_ne (by decide), up2_ne (by decide), up2_ne (by decide), up2_ne (by decide), up2_ne (by decide), up2_ne (by decide), up2_eq, up1_ne (by decide), up2_eq, up1_eq]
  · rw [up2_ne (by decide), up2_ne (by decide), up2_ne (by decide), up2_ne (by decide), up2_ne (by decide), up2_ne (by decide), up2_ne (by decide), up2_ne (by decide), up2_eq, up1_eq]
  · rw [up2_ne (by decide), up2_ne (by decide), up2_ne (by decide), up2_ne (by decide), up2_ne (by decide), up2_ne (by decide), up2_ne (by decide), up2_ne (by decide), up2_ne (by decide), up2_ne (by decide)]; exact b2 g hg
  · rw [up2_ne (by decide), up2_ne (by decide), up2_ne (by decide), up2_ne (by decide), up2_ne (by decide), up2_ne (by decide), up2_eq, up1_ne (by decide), up2_eq, up1_eq]
  · rw [up2_ne (by decide), up2_ne (by decide), up2_ne (by decide), up2_ne (by decide), up2_ne (by decide), up2_ne (by decide), up2_eq, up1_eq]
  · rw [up2_ne (by decide), up2_ne (by decide), up2_ne (by decide), up2_ne (by decide), up2_ne (by decide), up2_eq, up1_eq]
  · rw [up2_ne (by decide), up2_ne (by decide), up2_ne (by decide), up2_ne (by decide), up2_eq, up1_eq]
  · rw [up2_ne (by decide), up2_ne (by decide), up2_eq, up1_ne (by decide), up2_eq, up1_eq]
  · rw [up2_ne (by decide), up2_ne (by decide), up2_eq, up1_eq]
  · rw [up2_eq, up1_ne (by decide), up2_eq, up1_eq]
  · rw [up2_eq, up1_eq]
theorem mTc_loop : ∀ d k (M : Nat → Nat → Int32) (z : Value), k + d = 8 → (∀ q, q < k → M 4 q = nI 1) → ∃ M' : Nat → Nat → Int32, run mX12_threads (102, 0, 0, [.ref 0, z, .int (nI k)], [], mH M N) = callK (fX12_goes [.ref 0, .ref 5, .int (nI 1)] (mH (up2 (up2 (up2 M' 0 6 (nI 0)) 0 7 (nI 15)) 0 12 (nI 0)) N)) (fun r h' => run mX12_threads (147, 0, 0, [.ref 0, .null, .int (nI 8)], r.toList ++ [.ref 0], h')) ∧ (∀ p, p ≠ 4 → M' p = M p) ∧ ∀ q, q < 8 → M' 4 q = nI 1 := by
  intro d
  induction d with
  | zero =>
    intro k M z hk h
    have : k = 8 := by omega
    subst this
    refine ⟨M, ?_, fun _ _ => rfl, h⟩
    rw [bX12_threads_102]
    simp (disch := omega) only [nI_lt', nI_le', nI_eq', inb_nI, clp, nI_add, nI_mul', cond_true, cond_false, Nat.le_refl, if_true]
  | succ d ih =>
    intro k M z hk h
    obtain ⟨M', e, a1, a2⟩ := ih (k + 1) (up2 M 4 k (nI 1)) .null (by omega) (fun q hq => by
      rw [up2_eq]
      by_cases w : q = k
      · rw [w, up1_eq]
      · rw [up1_ne w]; exact h q (by omega))
    refine ⟨M', ?_, fun p hp => by rw [a1 p hp, up2_ne hp], a2⟩
    rw [bX12_threads_102]
    simp (disch := omega) only [nI_lt', nI_le', nI_eq', inb_nI, clp, nI_add, nI_mul', cond_true, cond_false]
    rw [if_neg (by omega)]
    exact e
theorem mTp_loop (hn : n ≤ 8) : ∀ d k (M : Nat → Nat → Int32) (z : Value), k + d = n → M 0 1 = nI n → (∀ s, s < n → M 16 s = nI (th s) ∧ M 17 s = nI (ce s) ∧ M 18 s = tI (wr s)) → (∀ s, s < k → M 1 s = nI (th s) ∧ M 2 s = nI (ce s) ∧ M 3 s = tI (wr s)) → ∃ M' : Nat → Nat → Int32, run mX12_threads (50, 0, 0, [.ref 0, z, .int (nI k)], [], mH M N) = run mX12_threads (102, 0, 0, [.ref 0, .null, .int (nI 0)], [], mH M' N) ∧ (∀ p, p ≠ 1 → p ≠ 2 → p ≠ 3 → M' p = M p) ∧ ∀ s, s < n → M' 1 s = nI (th s) ∧ M' 2 s = nI (ce s) ∧ M' 3 s = tI (wr s) := by
  intro d
  induction d with
  | zero =>
    intro k M z hk h1 h2 h3
    have : k = n := by omega
    subst this
    refine ⟨M, ?_, fun _ _ _ _ => rfl, h3⟩
    rw [bX12_threads_50, h1]
    simp (disch := omega) only [nI_lt', nI_le', nI_eq', inb_nI, clp, nI_add, nI_mul', cond_true, cond_false, Nat.le_refl, if_true]
  | succ d ih =>
    intro k M z hk h1 h2 h3
    obtain ⟨t1, t2, t3⟩ := h2 k (by omega)
    obtain ⟨M', e, a1, a2⟩ := ih (k + 1) (up2 (up2 (up2 M 1 k (M 16 k)) 2 k (M 17 k)) 3 k (M 18 k)) .null (by omega) (by rw [up2_ne (by decide), up2_ne (by decide), up2_ne (by decide)]; exact h1) (fun s hs => by
      rw [up2_ne (by decide), up2_ne (by decide), up2_ne (by decide), up2_ne (by decide), up2_ne (by decide), up2_ne (by decide), up2_ne (by decide), up2_ne (by decide), up2_ne (by decide)]
      exact h2 s hs) (fun s hs => by
      rw [up2_ne (by decide), up2_ne (by decide), up2_eq, up2_ne (by decide), up2_eq, up2_ne (by decide), up2_eq, up2_ne (by decide), up2_ne (by decide)]
      by_cases w : s = k
      · rw [w, up1_eq, up1_eq, up1_eq]; exact ⟨t1, t2, t3⟩
      · rw [up1_ne w, up1_ne w, up1_ne w]; exact h3 s (by omega))
    refine ⟨M', ?_, fun p p1 p2 p3 => by rw [a1 p p1 p2 p3, up2_ne p3, up2_ne p2, up2_ne p1], a2⟩
    have e17 : up2 M 1 k (M 16 k) 17 = M 17 := up2_ne (by decide)
    have e18 : up2 (up2 M 1 k (M 16 k)) 2 k (M 17 k) 18 = M 18 := by rw [up2_ne (by decide), up2_ne (by decide)]
    rw [bX12_threads_50, h1]
    simp (disch := omega) only [nI_lt', nI_le', nI_eq', inb_nI, clp, nI_add, nI_mul', cond_true, cond_false, t3, tI_B, Bool.and_true]
    rw [if_neg (by omega)]
    rw [t3] at e
    exact e
theorem e_threads (hC : CAPS) (h : Inv A pl M N) : eqv A J pl st M N (fX11_threads [.ref 0]) (fX12_threads [.ref 0]) := by
  obtain ⟨n, T, th, ce, wr, F, K, c, ⟨h1, h2, ⟨L, m, t1, t2⟩, h4, h5, h6, h7, h8⟩, r1, r2, r3⟩ := h
  have hn := h1.1.2.1
  have hP := plP_or pl
  have hQ := plP_or (!pl)
  have hPQ : plP (!pl) ≠ plP pl ∧ (plP (!pl) = 4 ∧ plP pl = 7 ∨ plP (!pl) = 7 ∧ plP pl = 4) := by cases pl <;> decide
  obtain ⟨A1, e1, a1, a2, a3⟩ := cParse (J := J) (pl := pl) (st := st) hQ t1
  obtain ⟨M1, e2, b1, b2, b3⟩ := mReads (J := N) t2
  obtain ⟨hO, hf3⟩ := pa_O (L := L) (m := m) m 0 0 ps0 ps0_O (fun z => abn z rfl)
  generalize hpa : pa L m m 0 0 ps0 = R at *
  obtain ⟨f, k, g⟩ := R
  have f1 : fX11_threads [.ref 0] (cH A J pl st) = _ := eX11_threads A J pl st
  have f2 : fX12_threads [.ref 0] (mH M N) = _ := eX12_threads M N
  rw [e1] at f1
  rw [e2] at f2
  simp only [callK_some, Option.toList_some, Option.toList_none, List.cons_append, List.nil_append, bX11_threads_15, eX10_clear, bX11_threads_34, bX12_threads_4] at f1 f2
  by_cases w : f = 0
  · subst w
    rw [if_pos rfl] at f1
    rw [if_pos (by decide)] at f2
    rw [RX_pl] at f1
    obtain ⟨g1, g2, g3, g4⟩ : psO g := hO
    obtain ⟨p1, p2⟩ := a2 rfl
    obtain ⟨n1, n2, n3⟩ := b3 rfl
    have pr : RPx (up2 (up2 A1 0 18 (A1 3 0)) 1 1 (nI 0)) (plP (!pl)) g.n g.th g.ce g.wr := p1.cong (by rw [up2_ne (by omega), up2_ne (by omega)]) (by rw [up2_ne (by omega), up2_ne (by omega)]) (by rw [up2_ne (by omega), up2_ne (by omega)]) (by rw [up2_ne (by omega), up2_ne (by omega)]) (by rw [up2_ne (by omega), up2_ne (by omega)])
    obtain ⟨A2, e3, aa, s1, s2, s3, s4, s5, s6, s7, s8, s9, s10, s11, s12, s13⟩ := cStart (J := J) (pl := !pl) (st := st) pr
    have e3' : fX11_startAnew [.ref 0] (78, shX, up2 (up2 A1 0 18 (A1 3 0)) 1 1 (nI 0), J, RX (!pl) st) = some (none, cH A2 J (!pl) st) := e3
    rw [e3'] at f1
    simp only [callK_some, Option.toList_some, Option.toList_none, List.cons_append, List.nil_append, bX11_threads_65] at f1
    obtain ⟨M2, e4, q1, q2⟩ := mTp_loop (N := N) (th := g.th) (ce := g.ce) (wr := g.wr) g1 g.n 0 (up2 (up2 (up2 (up2 M1 0 24 (nI 0)) 0 25 (Int32.ofInt (-1))) 0 0 (M1 0 27)) 0 1 (M1 0 28)) (.int (nI 0)) (by omega) (by rw [up2_eq, up1_eq]; exact n2) (fun s hs => by
      rw [up2_ne (by decide), up2_ne (by decide), up2_ne (by decide), up2_ne (by decide), up2_ne (by decide), up2_ne (by decide), up2_ne (by decide), up2_ne (by decide), up2_ne (by decide), up2_ne (by decide), up2_ne (by decide), up2_ne (by decide)]
      exact n3 s hs) (fun s hs => absurd hs (Nat.not_lt_zero s))
    obtain ⟨M3, e5, q3, q4⟩ := mTc_loop (N := N) 8 0 M2 .null (by omega) (fun q hq => absurd hq (Nat.not_lt_zero q))
    -- the row 0 of the reference now
    have z0 : ∀ j, j ≠ 0 → j ≠ 1 → j ≠ 24 → j ≠ 25 → M3 0 j = M1 0 j := fun j j0 j1 j2 j3 => by rw [q3 0 (by decide), q1 0 (by decide) (by decide) (by decide), up2_eq, up1_ne j1, up2_eq, up1_ne j0, up2_eq, up1_ne j3, up2_eq, up1_ne j2]
    have z1 : M3 0 1 = nI g.n := by rw [q3 0 (by decide), q1 0 (by decide) (by decide) (by decide), up2_eq, up1_eq]; exact n2
    have z2 : M3 0 0 = nI g.T := by rw [q3 0 (by decide), q1 0 (by decide) (by decide) (by decide), up2_eq, up1_ne (by decide), up2_eq, up1_eq]; exact n1
    have z3 : M3 0 24 = nI 0 := by rw [q3 0 (by decide), q1 0 (by decide) (by decide) (by decide), up2_eq, up1_ne (by decide), up2_eq, up1_ne (by decide), up2_eq, up1_ne (by decide), up2_eq, up1_eq]
    have z4 : M3 0 25 = Int32.ofInt (-1) := by rw [q3 0 (by decide), q1 0 (by decide) (by decide) (by decide), up2_eq, up1_ne (by decide), up2_eq, up1_ne (by decide), up2_eq, up1_eq]
    have y0 : ∀ p, p ≠ 0 → p ≠ 1 → p ≠ 2 → p ≠ 3 → p ≠ 4 → p ≠ 16 → p ≠ 17 → p ≠ 18 → M3 p = M p := fun p p0 p1 p2 p3 p4 p5 p6 p7 => by rw [q3 p p4, q1 p p1 p2 p3, up2_ne p0, up2_ne p0, up2_ne p0, up2_ne p0, b1.1 p p0 p5 p6 p7]
    have rm : RPm (up2 (up2 (up2 M3 0 6 (nI 0)) 0 7 (nI 15)) 0 12 (nI 0)) g.n g.th g.ce g.wr := by
      refine ⟨by rw [up2_eq, up1_ne (by decide), up2_eq, up1_ne (by decide), up2_eq, up1_ne (by decide)]; exact z1, g1, fun s hs => ?_⟩
      obtain ⟨x1, x2, x3⟩ := q2 s hs
      obtain ⟨x4, x5⟩ := g3 s hs
      exact ⟨by rw [up2_ne (by decide), up2_ne (by decide), up2_ne (by decide), q3 1 (by decide)]; exact x1, by rw [up2_ne (by decide), up2_ne (by decide), up2_ne (by decide), q3 2 (by decide)]; exact x2, by rw [up2_ne (by decide), up2_ne (by decide), up2_ne (by decide), q3 3 (by decide)]; exact x3, by omega, x5⟩
    have cp := hC g.n g.th g.ce g.wr 0 0 g1 (fun s hs => ⟨by have := (g3 s hs).1; omega, (g3 s hs).2⟩) g4
    obtain ⟨M4, ms, e6, u1, u2, u3, u4⟩ := mGo (J := N) (P := 5) (F := 0) (K := 0) (x := nI 1) (Or.inl rfl) (Or.inr ⟨rfl, rfl, rfl⟩) (by decide) rm (fun z => absurd z (by decide)) (by rw [up2_ne (by decide), up2_ne (by decide), up2_ne (by decide), y0 10 (by decide) (by decide) (by decide) (by decide) (by decide) (by decide) (by decide) (by decide)]; exact r1.1) (fun c hc => by rw [up2_ne (by decide), up2_ne (by decide), up2_ne (by decide), y0 11 (by decide) (by decide) (by decide) (by decide) (by decide) (by decide) (by decide) (by decide)]; exact r1.2.1 c hc) (fun A' m' S' a b => Nat.lt_of_le_of_lt (capR_SR cp.2 a b) (by decide))
    have hms : ms ≤ 256 := capR_SR cp.2 u1 (fun v x => x)
    have m40 := u2 0 (by decide) (by decide) (by decide) (by decide) (by decide) (by decide)
    have rm4 : RPm (up2 M4 0 10 (nI ms)) g.n g.th g.ce g.wr := rm.cong (by rw [up2_eq, up1_ne (by decide), m40]) (by rw [up2_ne (by decide), u2 1 (by decide) (by decide) (by decide) (by decide) (by decide) (by decide)]) (by rw [up2_ne (by decide), u2 2 (by decide) (by decide) (by decide) (by decide) (by decide) (by decide)]) (by rw [up2_ne (by decide), u2 3 (by decide) (by decide) (by decide) (by decide) (by decide) (by decide)])
    obtain ⟨M5, e7, v1, v2, v3, v4⟩ := mRings (J := N) rm4
    have x0 : ∀ j, j ≠ 10 → j ≠ 18 → j ≠ 22 → j ≠ 6 → j ≠ 7 → j ≠ 12 → M5 0 j = M3 0 j := fun j j1 j2 j3 j4 j5 j6 => by rw [v2 j j2 j3, up2_eq, up1_ne j1, m40, up2_eq, up1_ne j6, up2_eq, up1_ne j5, up2_eq, up1_ne j4]
    have x10 : M5 0 10 = nI ms := by rw [v2 10 (by decide) (by decide), up2_eq, up1_eq]
    have x6 : M5 0 6 = nI 0 := by rw [v2 6 (by decide) (by decide), up2_eq, up1_ne (by decide), m40, up2_eq, up1_ne (by decide), up2_eq, up1_ne (by decide), up2_eq, up1_eq]
    have x7 : M5 0 7 = nI 15 := by rw [v2 7 (by decide) (by decide), up2_eq, up1_ne (by decide), m40, up2_eq, up1_ne (by decide), up2_eq, up1_eq]
    have x12 : M5 0 12 = nI 0 := by rw [v2 12 (by decide) (by decide), up2_eq, up1_ne (by decide), m40, up2_eq, up1_eq]
    have xp : ∀ p, p ≠ 0 → p ≠ 12 → p ≠ 13 → p ≠ 14 → p ≠ 5 → p ≠ 7 → p ≠ 8 → p ≠ 9 → p ≠ 10 → p ≠ 11 → M5 p = M3 p := fun p p0 p1 p2 p3 p4 p5 p6 p7 p8 p9 => by rw [v1 p p0 p1 p2 p3, up2_ne p0, u2 p p4 p5 p6 p7 p8 p9, up2_ne p0, up2_ne p0, up2_ne p0]
    rw [e4, e5, e6] at f2
    simp only [callK_some, Option.toList_some, Option.toList_none, List.cons_append, List.nil_append, bX12_threads_147] at f2
    rw [e7] at f2
    simp only [callK_some, Option.toList_some, Option.toList_none, List.cons_append, List.nil_append, bX12_threads_154] at f2
    rw [x0 1 (by decide) (by decide) (by decide) (by decide) (by decide) (by decide), z1] at f2
    have fn : fX11_threads [.ref 0] (cH A J pl st) = some (some (.int (nI g.n)), cH A2 J (!pl) st) := by
      rw [f1, aa.1 _ (by omega) (by cases pl <;> decide), pr.1]
    have d0 : ∀ (x : Nat) (M6 : Nat → Nat → Int32), x ≠ 0 → x ≠ 24 → up2 (up2 (up2 (up2 M6 0 37 (nI 0)) 0 32 (nI 0)) 24 0 (nI 0)) 24 1 (nI 0) x = M6 x := fun x M6 a b => by rw [up2_ne b, up2_ne b, up2_ne a, up2_ne a]
    have d1 : ∀ (j : Nat) (M6 : Nat → Nat → Int32), j ≠ 37 → j ≠ 32 → up2 (up2 (up2 (up2 M6 0 37 (nI 0)) 0 32 (nI 0)) 24 0 (nI 0)) 24 1 (nI 0) 0 j = M6 0 j := fun j M6 a b => by rw [up2_ne (by decide), up2_ne (by decide), up2_eq, up1_ne b, up2_eq, up1_ne a]
    have o1 : ∀ p, p ≠ 0 → p ≠ 1 → p ≠ 3 → p ≠ plP (!pl) → p ≠ plP (!pl) + 1 → p ≠ plP (!pl) + 2 → p ∉ SA → A2 p = A p := fun p p0 p1 p2 p3 p4 p5 p6 => by rw [aa.1 p p0 p6, up2_ne p1, up2_ne p0, a3 p p2 p3 p4 p5]
    refine ⟨nI g.n, A2, J, !pl, st, _, N, fn, f2, g.n, g.T, g.th, g.ce, g.wr, 0, 15, fun _ => 1, ⟨⟨?_, ?_, ?_, ?_, g4, ?_, s2, ?_⟩, ⟨?_, ?_, s3, s4, ?_, by decide, ?_, ?_⟩, ⟨fun _ => 0, 0, ⟨?_, by decide, fun i hi => absurd hi (Nat.not_lt_zero i)⟩, ⟨?_, by decide, fun i hi => absurd hi (Nat.not_lt_zero i)⟩⟩, ⟨0, 0, by decide, by decide, ?_, s6, s7, fun i hi => absurd hi (Nat.not_lt_zero i)⟩, ?_, ⟨0, fun _ => false, fun _ => 0, by decide, ?_, s11, s10, fun i hi => absurd hi (Nat.not_lt_zero i)⟩, ?_, ?_⟩, ⟨?_, fun c hc => ?_, ⟨ms, hms, ?_, ?_⟩, false, ?_, fun z => Bool.noConfusion z⟩, ⟨false, s12, fun z => Bool.noConfusion z⟩, ⟨false, s13, fun z => Bool.noConfusion z⟩⟩
    · exact rm4.cong (by rw [d1 1 _ (by decide) (by decide), v2 1 (by decide) (by decide)]) (by rw [d0 1 _ (by decide) (by decide), v1 1 (by decide) (by decide) (by decide) (by decide)]) (by rw [d0 2 _ (by decide) (by decide), v1 2 (by decide) (by decide) (by decide) (by decide)]) (by rw [d0 3 _ (by decide) (by decide), v1 3 (by decide) (by decide) (by decide) (by decide)])
    · have o4 : ∀ p, p = plP (!pl) ∨ p = plP (!pl) + 1 ∨ p = plP (!pl) + 2 → A2 p = up2 (up2 A1 0 18 (A1 3 0)) 1 1 (nI 0) p := fun p hp => aa.1 p (by omega) (by
        have : p = 4 ∨ p = 5 ∨ p = 6 ∨ p = 7 ∨ p = 8 ∨ p = 9 := by omega
        rcases this with rfl | rfl | rfl | rfl | rfl | rfl <;> decide)
      exact pr.cong (by rw [o4 _ (Or.inl rfl)]) (by rw [o4 _ (Or.inl rfl)]) (by rw [o4 _ (Or.inl rfl)]) (o4 _ (Or.inr (Or.inl rfl))) (o4 _ (Or.inr (Or.inr rfl)))
    · rw [d1 0 _ (by decide) (by decide), x0 0 (by decide) (by decide) (by decide) (by decide) (by decide) (by decide)]; exact z2
    · rw [aa.1 _ (by omega) (by cases pl <;> decide), up2_ne (by omega), up2_ne (by omega)]; exact p2
    · intro s u x y
      rw [d0 12 _ (by decide) (by decide)]; exact v4 _ (by omega)
    · rw [d1 18 _ (by decide) (by decide), v3]; exact s1
    · rw [d1 6 _ (by decide) (by decide)]; exact x6
    · rw [d1 7 _ (by decide) (by decide)]; exact x7
    · intro i hi; rw [Nat.zero_testBit] at hi; exact Bool.noConfusion hi
    · intro g' x y
      rw [d0 4 _ (by decide) (by decide), xp 4 (by decide) (by decide) (by decide) (by decide) (by decide) (by decide) (by decide) (by decide) (by decide) (by decide), q4 g' (by omega)]
      exact ⟨rfl, Nat.le_refl 1, show 1 ≤ 9 by decide⟩
    · intro g' x y
      rw [s5 g' (by omega)]
      exact ⟨rfl, Nat.le_refl 1, show 1 ≤ 9 by decide⟩
    · rw [aa.1 1 (by decide) (by decide), up2_eq, up1_eq]
    · rw [d1 24 _ (by decide) (by decide), x0 24 (by decide) (by decide) (by decide) (by decide) (by decide) (by decide)]; exact z3
    · rw [up2_ne (by decide), up2_ne (by decide), up2_eq, up1_eq]
    · intro i hi
      have hi' : i = 0 ∨ i = 1 := by omega
      rcases hi' with rfl | rfl
      · exact ⟨false, by rw [up2_eq, up1_ne (by decide), up2_eq, up1_eq]; rfl, s8, fun z => Bool.noConfusion z⟩
      · exact ⟨false, by rw [up2_eq, up1_eq]; rfl, s9, fun z => Bool.noConfusion z⟩
    · rw [up2_ne (by decide), up2_ne (by decide), up2_eq, up1_ne (by decide), up2_eq, up1_eq]
    · obtain ⟨s, k1, k2, k3⟩ := h7
      exact ⟨s, k1, k2, by rw [aa.2 17 (by decide), up2_ne (by decide), up2_eq, up1_ne (by decide), a3 0 (by decide) (by omega) (by omega) (by omega)]; exact k3⟩
    · rw [d1 25 _ (by decide) (by decide), x0 25 (by decide) (by decide) (by decide) (by decide) (by decide) (by decide), z4, aa.2 18 (by decide), up2_ne (by decide), up2_eq, up1_eq, a1]
      rfl
    · rw [d0 10 _ (by decide) (by decide), v1 10 (by decide) (by decide) (by decide) (by decide), up2_ne (by decide)]; exact u3
    · rw [d0 11 _ (by decide) (by decide), v1 11 (by decide) (by decide) (by decide) (by decide), up2_ne (by decide)]; exact u4 c hc
    · rw [d1 10 _ (by decide) (by decide)]; exact x10
    · rw [d0 5 _ (by decide) (by decide), v1 5 (by decide) (by decide) (by decide) (by decide), up2_ne (by decide)]; exact u1
    · rw [d1 12 _ (by decide) (by decide)]; exact x12
  · have hf0 : 0 < f := Nat.pos_of_ne_zero w
    have hf3' : f ≤ 3 := hf3
    have w1 : ¬ nI f = nI 0 := by rw [nI_eq' (by omega) (by omega)]; exact w
    have w2 : ¬ nI f ≤ nI 0 := by rw [nI_le' (by omega) (by omega)]; omega
    have f1' : fX11_threads [.ref 0] (cH A J pl st) = some (some (.int (Int32.ofInt (-10) - nI f)), cH (up2 (up2 A1 0 18 (A1 3 0)) 1 1 (nI 0)) J pl st) := by rw [f1, if_neg w1]
    have f2' : fX12_threads [.ref 0] (mH M N) = some (some (.int (Int32.ofInt (-10) - nI f)), mH (up2 (up2 M1 0 24 (nI 0)) 0 25 (M1 0 26)) N) := by rw [f2, if_neg w2]
    have aa : agr [1, 3, 4, 5, 6, 7, 8, 9] [18] A (up2 (up2 A1 0 18 (A1 3 0)) 1 1 (nI 0)) := agr_up (agr_u0 ⟨fun p p0 hp => a3 p (fun z => hp (by rw [z]; decide)) (fun z => hp (by rw [z]; cases pl <;> decide)) (fun z => hp (by rw [z]; cases pl <;> decide)) (fun z => hp (by rw [z]; cases pl <;> decide)), fun j _ => by rw [a3 0 (by decide) (by omega) (by omega) (by omega)]⟩ (by decide)) (by decide) (by decide)
    have am : agr [16, 17, 18] [24, 25, 26, 27, 28] M (up2 (up2 M1 0 24 (nI 0)) 0 25 (M1 0 26)) := agr_u0 (agr_u0 ⟨fun p p0 hp => b1.1 p p0 (fun z => hp (by rw [z]; decide)) (fun z => hp (by rw [z]; decide)) (fun z => hp (by rw [z]; decide)), fun j hj => b1.2 j (fun z => hj (by rw [z]; decide)) (fun z => hj (by rw [z]; decide)) (fun z => hj (by rw [z]; decide))⟩ (by decide)) (by decide)
    have ap : ∀ p, p = plP pl ∨ p = plP pl + 1 ∨ p = plP pl + 2 → up2 (up2 A1 0 18 (A1 3 0)) 1 1 (nI 0) p = A p := fun p hp => by rw [up2_ne (by omega), up2_ne (by omega), a3 p (by omega) (by omega) (by omega) (by omega)]
    refine ⟨_, _, J, pl, st, _, N, f1', f2', n, T, th, ce, wr, F, K, c, ⟨?_, h2.ag hn aa am, ⟨fun _ => 0, 0, ⟨?_, by decide, fun i hi => absurd hi (Nat.not_lt_zero i)⟩, ⟨?_, by decide, fun i hi => absurd hi (Nat.not_lt_zero i)⟩⟩, h4.ag hn aa am, h5.ag hn aa am rfl, h6.ag aa am, h7.ag aa rfl, ?_⟩, r1.ag am, r2.ag aa, r3.ag aa⟩
    · refine h1.cd (ap _ (Or.inl rfl)) (ap _ (Or.inr (Or.inl rfl))) (ap _ (Or.inr (Or.inr rfl))) (by rw [aa.1 10 (by decide) (by decide)]) (aa.1 12 (by decide) (by decide)) (am.2 0 (by decide)) (am.2 1 (by decide)) (am.2 18 (by decide)) (fun p hp => ?_)
      rcases hp with rfl | rfl | rfl | rfl
      · exact am.1 _ (by decide) (by decide)
      · exact am.1 _ (by decide) (by decide)
      · exact am.1 _ (by decide) (by decide)
      · exact am.1 _ (by decide) (by decide)
    · rw [up2_eq, up1_eq]
    · rw [up2_eq, up1_ne (by decide), up2_eq, up1_eq]
    · rw [up2_ne (by decide), up2_eq, up1_eq, up2_eq, up1_eq, a1, b2 hf0]
      show (if f = 0 then _ else _) = _
      rw [if_neg w]
end TH
