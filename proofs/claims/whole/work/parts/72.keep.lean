/-! both sides: keep and goBack -/
section KE
variable {A M A2 M2 : Nat → Nat → Int32} {N N2 : Nat → Nat → Int64} {J : Nat → Nat → Int64} {pl st : Bool} {n T F K F' K' : Nat} {th ce c c' : Nat → Nat} {wr : Nat → Bool}
theorem im_oth : ∀ i, i < 2 → 61 + 3 * i ∈ othL := by decide
theorem cHold {i : Nat} {x : Int32} (hi : i < 2) : ∃ A' : Nat → Nat → Int32, fX2_hold [.ref (60 + 3 * i), .ref 15, .int x] (cH A J pl st) = some (none, cH A' J pl st) ∧ A' (60 + 3 * i) 1 = x ∧ A' (60 + 3 * i) 2 = nI 1 ∧ A' (61 + 3 * i) 1 = A 15 1 ∧ A' (61 + 3 * i) 2 = A 15 2 ∧ (∀ g, g < 8 → A' (62 + 3 * i) g = A 16 g) ∧ ∀ p, p ≠ 60 + 3 * i → p ≠ 61 + 3 * i → p ≠ 62 + 3 * i → A' p = A p := by
  have hP : 60 + 3 * i = 60 ∨ 60 + 3 * i = 63 := by omega
  have hQ : 60 + 3 * i + 1 ∈ othL := by rw [show 60 + 3 * i + 1 = 61 + 3 * i by omega]; exact im_oth i hi
  obtain ⟨A1, e, a1, a2, a3, a4, a5⟩ := cCpT (I := A) (J := J) (pl := pl) (st := st) hQ
  refine ⟨up2 (up2 A1 (60 + 3 * i) 1 x) (60 + 3 * i) 2 (nI 1), ?_, by rw [up2_eq, up1_ne (by decide), up2_eq, up1_eq], by rw [up2_eq, up1_eq], ?_, ?_, fun g hg => ?_, fun p p1 p2 p3 => ?_⟩
  · rw [eX2_hold (hP := hP), e]
    simp only [callK_some, Option.toList_some, Option.toList_none, List.cons_append, List.nil_append, bX2_hold_8 (hP := hP)]
  · rw [up2_ne (by omega), up2_ne (by omega), show 61 + 3 * i = 60 + 3 * i + 1 by omega, a2]
  · rw [up2_ne (by omega), up2_ne (by omega), show 61 + 3 * i = 60 + 3 * i + 1 by omega, a3]
  · rw [up2_ne (by omega), up2_ne (by omega), show 62 + 3 * i = 60 + 3 * i + 1 + 1 by omega, a5 g hg]
  · rw [up2_ne p1, up2_ne p1]; exact a1 p (by omega) (by omega)
theorem cKeep {i : Nat} (hi : i < 2) : ∃ A' : Nat → Nat → Int32, fX11_keep [.ref 0, .int (nI i)] (cH A J pl st) = some (some (.int (nI 1)), cH A' J pl st) ∧ A' (60 + 3 * i) 1 = A 0 17 ∧ A' (60 + 3 * i) 2 = nI 1 ∧ A' (61 + 3 * i) 1 = A 15 1 ∧ A' (61 + 3 * i) 2 = A 15 2 ∧ (∀ g, g < 8 → A' (62 + 3 * i) g = A 16 g) ∧ A' 17 1 = nI 0 ∧ A' 17 2 = nI 0 ∧ ∀ p, p ≠ 17 → p ≠ 60 + 3 * i → p ≠ 61 + 3 * i → p ≠ 62 + 3 * i → A' p = A p := by
  obtain ⟨A1, e, a1, a2, a3, a4, a5, a6⟩ := cHold (A := A) (J := J) (pl := pl) (st := st) (x := A 0 17) hi
  refine ⟨up2 (up2 A1 17 1 (nI 0)) 17 2 (nI 0), ?_, by rw [up2_ne (by omega), up2_ne (by omega)]; exact a1, by rw [up2_ne (by omega), up2_ne (by omega)]; exact a2, by rw [up2_ne (by omega), up2_ne (by omega)]; exact a3, by rw [up2_ne (by omega), up2_ne (by omega)]; exact a4, fun g hg => by rw [up2_ne (by omega), up2_ne (by omega)]; exact a5 g hg, by rw [up2_eq, up1_ne (by decide), up2_eq, up1_eq], by rw [up2_eq, up1_eq], fun p p0 p1 p2 p3 => by rw [up2_ne p0, up2_ne p0]; exact a6 p p1 p2 p3⟩
  rw [eX11_keep]
  simp (disch := omega) only [nI_lt', nI_le', nI_eq', inb_nI, clp, nI_add, nI_mul', cond_true, cond_false, Nat.not_lt_zero, if_false]
  rw [if_pos hi]
  have hc : i = 0 ∨ i = 1 := by omega
  rcases hc with rfl | rfl
  · refine (bX11_keep_16_v0 A J pl st).trans ?_
    rw [show fX2_hold [.ref 60, .ref 15, .int (A 0 17)] (cH A J pl st) = _ from e]
    simp only [callK_some, Option.toList_some, Option.toList_none, List.cons_append, List.nil_append, bX11_keep_33_v0, eX1_clear, bX11_keep_40_v0]
  · refine (bX11_keep_16_v1 A J pl st).trans ?_
    rw [show fX2_hold [.ref 63, .ref 15, .int (A 0 17)] (cH A J pl st) = _ from e]
    simp only [callK_some, Option.toList_some, Option.toList_none, List.cons_append, List.nil_append, bX11_keep_33_v1, eX1_clear, bX11_keep_40_v1]
theorem mKe_loop {i : Nat} (hi : i < 2) : ∀ d g (M : Nat → Nat → Int32), g + d = 8 → ∃ M' : Nat → Nat → Int32, run mX12_keep (51, 0, 0, [.ref 0, .int (nI i), .int (nI g)], [], mH M N) = some (some (.int (nI 1)), mH M' N) ∧ M' 0 32 = nI 0 ∧ agr [27] [32] M M' ∧ (∀ g', g ≤ g' → g' < 8 → M' 27 (8 * i + g') = M 4 g') ∧ ∀ k, k < 8 * i + g ∨ 8 * i + 8 ≤ k → M' 27 k = M 27 k := by
  intro d
  induction d with
  | zero =>
    intro g M hg
    have : g = 8 := by omega
    subst this
    refine ⟨up2 M 0 32 (nI 0), ?_, by rw [up2_eq, up1_eq], agr_u0 (agr_refl _ _ _) (by decide), fun g' a b => by omega, fun k _ => by rw [up2_ne (by decide)]⟩
    rw [bX12_keep_51]
    simp (disch := omega) only [nI_lt', nI_le', nI_eq', inb_nI, clp, nI_add, nI_mul', cond_true, cond_false, Nat.le_refl, if_true]
  | succ d ih =>
    intro g M hg
    obtain ⟨M', e, a1, a2, a3, a4⟩ := ih (g + 1) (up2 M 27 (8 * i + g) (M 4 g)) (by omega)
    refine ⟨M', ?_, a1, agr_trans (agr_up (agr_refl _ _ _) (by decide) (by decide)) a2, fun g' x y => ?_, fun k hk => by rw [a4 k (by omega), up2_eq, up1_ne (by omega)]⟩
    · rw [bX12_keep_51]
      simp (disch := omega) only [nI_lt', nI_le', nI_eq', inb_nI, clp, nI_add, nI_mul', cond_true, cond_false]
      rw [if_neg (by omega)]
      exact e
    · by_cases w : g' = g
      · rw [w, a4 (8 * i + g) (by omega), up2_eq, up1_eq]
      · rw [a3 g' (by omega) y, up2_ne (by decide)]
theorem e_keep (h : Inv A pl M N) (x : Int32) : eqv A J pl st M N (fX11_keep [.ref 0, .int x]) (fX12_keep [.ref 0, .int x]) := by
  have hI := h
  obtain ⟨n, T, th, ce, wr, F, K, c, hc, r1, r2, r3⟩ := h
  have hn := hc.hn
  by_cases x0 : x < nI 0
  · exact eqv_same hI (by rw [eX11_keep, if_pos x0]) (by rw [eX12_keep, if_pos x0])
  obtain ⟨i, hi0, rfl⟩ := nI_of x0
  by_cases hi : i < 2
  · obtain ⟨A1, e1, a1, a2, a3, a4, a5, a6, a7, a8⟩ := cKeep (A := A) (J := J) (pl := pl) (st := st) hi
    obtain ⟨M1, e2, b1, b2, b3, b4⟩ := mKe_loop (N := up2 N 28 i (N 0 36)) hi 8 0 (up2 (up2 (up2 M 24 i (nI 1)) 25 i (M 0 6)) 26 i (M 0 7)) (by omega)
    have f2 : fX12_keep [.ref 0, .int (nI i)] (mH M N) = some (some (.int (nI 1)), mH M1 (up2 N 28 i (N 0 36))) := by
      rw [eX12_keep]
      simp (disch := omega) only [nI_lt', nI_le', nI_eq', inb_nI, clp, nI_add, nI_mul', cond_true, cond_false, Nat.not_lt_zero, if_false, Bool.and_true]
      rw [if_pos (by omega)]
      exact e2
    have am : agr [24, 25, 26, 27] [32] M M1 := agr_trans (agr_up (agr_up (agr_up (agr_refl _ _ _) (by decide) (by decide)) (by decide) (by decide)) (by decide) (by decide)) (agr_mono b2 (by decide))
    have i6 : ∀ k, k < 2 → 60 + 3 * k ∈ [17, 60, 61, 62, 63, 64, 65] ∧ 61 + 3 * k ∈ [17, 60, 61, 62, 63, 64, 65] ∧ 62 + 3 * k ∈ [17, 60, 61, 62, 63, 64, 65] := by decide
    have aa : agr [17, 60, 61, 62, 63, 64, 65] [] A A1 := ⟨fun p p0 hp => a8 p (fun z => hp (by rw [z]; decide)) (fun z => hp (by rw [z]; exact (i6 i hi).1)) (fun z => hp (by rw [z]; exact (i6 i hi).2.1)) (fun z => hp (by rw [z]; exact (i6 i hi).2.2)), fun k _ => by rw [a8 0 (by omega) (by omega) (by omega) (by omega)]⟩
    obtain ⟨h1, h2, h3, h4, h5, h6, h7, h8⟩ := hc
    obtain ⟨s, t1, t2, t3⟩ := h7
    obtain ⟨s1, s2, s3, s4, s5, s6, s7, s8⟩ := h2
    have o24 : ∀ k, k ≠ i → M1 24 k = M 24 k := fun k hk => by rw [b2.1 24 (by decide) (by decide), up2_ne (by decide), up2_ne (by decide), up2_eq, up1_ne hk]
    have o25 : ∀ k, k ≠ i → M1 25 k = M 25 k := fun k hk => by rw [b2.1 25 (by decide) (by decide), up2_ne (by decide), up2_eq, up1_ne hk, up2_ne (by decide)]
    have o26 : ∀ k, k ≠ i → M1 26 k = M 26 k := fun k hk => by rw [b2.1 26 (by decide) (by decide), up2_eq, up1_ne hk, up2_ne (by decide), up2_ne (by decide)]
    refine ⟨nI 1, A1, J, pl, st, M1, _, e1, f2, n, T, th, ce, wr, F, K, c, ⟨h1.ag aa am, iSe.ag ⟨s1, s2, s3, s4, s5, s6, s7, s8⟩ hn aa am, h3.ag aa am, ⟨0, 0, by omega, by omega, b1, a6, a7, fun i hi => absurd hi (Nat.not_lt_zero i)⟩, fun k hk => ?_, h6.ag aa am, ⟨s, t1, by rw [up2_ne (by decide)]; exact t2, by rw [aa.2 17 (by decide)]; exact t3⟩, iFt.ag h8 aa am⟩, r1.ag am, r2.ag aa, r3.ag aa⟩
    by_cases w : k = i
    · subst w
      refine ⟨true, by rw [b2.1 24 (by decide) (by decide), up2_ne (by decide), up2_ne (by decide), up2_eq, up1_eq]; rfl, by rw [a2]; rfl, fun _ => ⟨F, K, s, c, s5, s6, t1, ?_, ?_, by rw [a3]; exact s3, by rw [a4]; exact s4, s8.cg a5 hn, fun g x y => ?_, by rw [up2_eq, up1_eq]; exact t2, by rw [a1]; exact t3⟩⟩
      · rw [b2.1 25 (by decide) (by decide), up2_ne (by decide), up2_eq, up1_eq]; exact s1
      · rw [b2.1 26 (by decide) (by decide), up2_eq, up1_eq]; exact s2
      · rw [b3 g (by omega) (by omega), up2_ne (by decide), up2_ne (by decide), up2_ne (by decide)]; exact (s7 g x y).1
    · obtain ⟨b, q1, q2, q3⟩ := h5 k hk
      have u0 : A1 (60 + 3 * k) = A (60 + 3 * k) := a8 _ (by omega) (by omega) (by omega) (by omega)
      have u1 : A1 (61 + 3 * k) = A (61 + 3 * k) := a8 _ (by omega) (by omega) (by omega) (by omega)
      have u2 : A1 (62 + 3 * k) = A (62 + 3 * k) := a8 _ (by omega) (by omega) (by omega) (by omega)
      refine ⟨b, by rw [o24 k w]; exact q1, by rw [u0]; exact q2, fun hb => ?_⟩
      obtain ⟨F1, K1, v, c1, k1, k2, k3, k4, k5, k6, k7, k8, k9, k10, k11⟩ := q3 hb
      exact ⟨F1, K1, v, c1, k1, k2, k3, by rw [o25 k w]; exact k4, by rw [o26 k w]; exact k5, by rw [u1]; exact k6, by rw [u1]; exact k7, k8.cg (fun g _ => by rw [u2]) hn, fun g x y => by rw [b4 _ (by omega), up2_ne (by decide), up2_ne (by decide), up2_ne (by decide)]; exact k9 g x y, by rw [up2_eq, up1_ne w]; exact k10, by rw [u0]; exact k11⟩
  · refine eqv_same (r := -1000000001) hI ?_ ?_
    · rw [eX11_keep]
      simp (disch := omega) only [nI_lt', nI_le', nI_eq', inb_nI, clp, nI_add, nI_mul', cond_true, cond_false, Nat.not_lt_zero, if_false]
      rw [if_neg hi]
    · rw [eX12_keep]
      simp (disch := omega) only [nI_lt', nI_le', nI_eq', inb_nI, clp, nI_add, nI_mul', cond_true, cond_false, Nat.not_lt_zero, if_false]
      rw [if_neg (by omega)]
theorem cGoB {i : Nat} {b : Bool} (hi : i < 2) (hb : A (60 + 3 * i) 2 = tI b) : (b = false → fX11_goBack [.ref 0, .int (nI i)] (cH A J pl st) = some (some (.int (-1000000003)), cH A J pl st)) ∧ (b = true → ∃ A' : Nat → Nat → Int32, fX11_goBack [.ref 0, .int (nI i)] (cH A J pl st) = some (some (.int (nI 1)), cH A' J pl st) ∧ A' 0 17 = A (60 + 3 * i) 1 ∧ A' 15 1 = A (61 + 3 * i) 1 ∧ A' 15 2 = A (61 + 3 * i) 2 ∧ (∀ g, g < 8 → A' 16 g = A (62 + 3 * i) g) ∧ A' 17 1 = nI 0 ∧ A' 17 2 = nI 0 ∧ agr [15, 16, 17] [17] A A') := by
  have hQ := im_oth i hi
  obtain ⟨A1, e, a1, a2, a3, a4, a5⟩ := cCpF (I := A) (J := J) (pl := pl) (st := st) hQ
  have ag : agr [15, 16, 17] [17] A (up2 (up2 (up2 A1 0 17 (A1 (60 + 3 * i) 1)) 17 1 (nI 0)) 17 2 (nI 0)) := agr_up (agr_up (agr_u0 ⟨fun p p0 hp => a1 p (fun z => hp (by rw [z]; decide)) (fun z => hp (by rw [z]; decide)), fun k _ => by rw [a1 0 (by decide) (by decide)]⟩ (by decide)) (by decide) (by decide)) (by decide) (by decide)
  have hcs : i = 0 ∨ i = 1 := by omega
  constructor
  · intro hf
    subst hf
    rw [eX11_goBack]
    simp (disch := omega) only [nI_lt', nI_le', nI_eq', inb_nI, clp, nI_add, nI_mul', cond_true, cond_false, Nat.not_lt_zero, if_false]
    rw [if_pos hi]
    rcases hcs with rfl | rfl
    · refine (bX11_goBack_16_v0 A J pl st .null).trans ?_
      rw [show A 60 2 = tI false from hb, if_pos tI_f]
    · refine (bX11_goBack_16_v1 A J pl st .null).trans ?_
      rw [show A 63 2 = tI false from hb, if_pos tI_f]
  · intro hf
    subst hf
    refine ⟨_, ?_, ?_, ?_, ?_, ?_, ?_, ?_, ag⟩
    · rw [eX11_goBack]
      simp (disch := omega) only [nI_lt', nI_le', nI_eq', inb_nI, clp, nI_add, nI_mul', cond_true, cond_false, Nat.not_lt_zero, if_false]
      rw [if_pos hi]
      rcases hcs with rfl | rfl
      · refine (bX11_goBack_16_v0 A J pl st .null).trans ?_
        rw [show A 60 2 = tI true from hb, if_neg (by decide), show fX9_copy [.ref 15, .ref 61] (cH A J pl st) = _ from e]
        simp only [callK_some, Option.toList_some, Option.toList_none, List.cons_append, List.nil_append, bX11_goBack_44_v0, eX1_clear, bX11_goBack_59_v0]
      · refine (bX11_goBack_16_v1 A J pl st .null).trans ?_
        rw [show A 63 2 = tI true from hb, if_neg (by decide), show fX9_copy [.ref 15, .ref 64] (cH A J pl st) = _ from e]
        simp only [callK_some, Option.toList_some, Option.toList_none, List.cons_append, List.nil_append, bX11_goBack_44_v1, eX1_clear, bX11_goBack_59_v1]
    · rw [up2_ne (by decide), up2_ne (by decide), up2_eq, up1_eq, a1 _ (by omega) (by omega)]
    · rw [up2_ne (by decide), up2_ne (by decide), up2_ne (by decide)]; exact a2
    · rw [up2_ne (by decide), up2_ne (by decide), up2_ne (by decide)]; exact a3
    · intro g hg
      rw [up2_ne (by decide), up2_ne (by decide), up2_ne (by decide), a5 g hg, show 61 + 3 * i + 1 = 62 + 3 * i by omega]
    · rw [up2_eq, up1_ne (by decide), up2_eq, up1_eq]
    · rw [up2_eq, up1_eq]
theorem mGB_loop {i : Nat} (hi : i < 2) : ∀ d g (M : Nat → Nat → Int32), g + d = 8 → ∃ M' : Nat → Nat → Int32, run mX12_goBack (56, 0, 0, [.ref 0, .int (nI i), .int (nI g)], [], mH M N) = some (some (.int (nI 1)), mH M' N) ∧ M' 0 32 = nI 0 ∧ M' 0 12 = nI 0 ∧ agr [4] [32, 12] M M' ∧ (∀ g', g ≤ g' → g' < 8 → M' 4 g' = M 27 (8 * i + g')) ∧ ∀ k, k < g → M' 4 k = M 4 k := by
  intro d
  induction d with
  | zero =>
    intro g M hg
    have : g = 8 := by omega
    subst this
    refine ⟨up2 (up2 M 0 32 (nI 0)) 0 12 (nI 0), ?_, by rw [up2_eq, up1_ne (by decide), up2_eq, up1_eq], by rw [up2_eq, up1_eq], agr_u0 (agr_u0 (agr_refl _ _ _) (by decide)) (by decide), fun g' a b => by omega, fun k _ => by rw [up2_ne (by decide), up2_ne (by decide)]⟩
    rw [bX12_goBack_56]
    simp (disch := omega) only [nI_lt', nI_le', nI_eq', inb_nI, clp, nI_add, nI_mul', cond_true, cond_false, Nat.le_refl, if_true]
  | succ d ih =>
    intro g M hg
    obtain ⟨M', e, a1, a1', a2, a3, a4⟩ := ih (g + 1) (up2 M 4 g (M 27 (8 * i + g))) (by omega)
    refine ⟨M', ?_, a1, a1', agr_trans (agr_up (agr_refl _ _ _) (by decide) (by decide)) a2, fun g' x y => ?_, fun k hk => by rw [a4 k (by omega), up2_eq, up1_ne (by omega)]⟩
    · rw [bX12_goBack_56]
      simp (disch := omega) only [nI_lt', nI_le', nI_eq', inb_nI, clp, nI_add, nI_mul', cond_true, cond_false]
      rw [if_neg (by omega)]
      exact e
    · by_cases w : g' = g
      · rw [w, a4 g (by omega), up2_eq, up1_eq]
      · rw [a3 g' (by omega) y, up2_ne (by decide)]
theorem e_goBack (h : Inv A pl M N) (x : Int32) : eqv A J pl st M N (fX11_goBack [.ref 0, .int x]) (fX12_goBack [.ref 0, .int x]) := by
  have hI := h
  obtain ⟨n, T, th, ce, wr, F, K, c, hc, r1, r2, r3⟩ := h
  have hn := hc.hn
  by_cases x0 : x < nI 0
  · exact eqv_same hI (by rw [eX11_goBack, if_pos x0]) (by rw [eX12_goBack, if_pos x0])
  obtain ⟨i, hi0, rfl⟩ := nI_of x0
  by_cases hi : i < 2
  · obtain ⟨b, q1, q2, q3⟩ := hc.2.2.2.2.1 i hi
    obtain ⟨g1, g2⟩ := cGoB (J := J) (pl := pl) (st := st) hi q2
    have f2 : fX12_goBack [.ref 0, .int (nI i)] (mH M N) = _ := eX12_goBack M N (nI i)
    simp (disch := omega) only [nI_lt', nI_le', nI_eq', inb_nI, clp, nI_add, nI_mul', cond_true, cond_false, Nat.not_lt_zero, if_false, q1, ite_tI] at f2
    rw [if_pos (show i ≤ 1 by omega)] at f2
    cases b with
    | false =>
      rw [if_neg (by decide)] at f2
      exact eqv_same hI (g1 rfl) f2
    | true =>
      rw [if_pos rfl] at f2
      obtain ⟨A1, e1, a1, a2, a3, a4, a5, a6, aa⟩ := g2 rfl
      obtain ⟨F1, K1, s, c1, k1, k2, k3, k4, k5, k6, k7, k8, k9, k10, k11⟩ := q3 rfl
      obtain ⟨M1, e2, b1, b1', b2, b3, -⟩ := mGB_loop (N := up2 N 0 36 (N 28 i)) hi 8 0 (up2 (up2 M 0 6 (M 25 i)) 0 7 (M 26 i)) (by omega)
      rw [e2] at f2
      have am : agr [4] [6, 7, 12, 32] M M1 := agr_trans (agr_u0 (agr_u0 (agr_refl _ _ _) (by decide)) (by decide)) (agr_mono b2 (by decide))
      have z := setOk hc r1 r2 r3 (A2 := A1) (M2 := M1) (N2 := up2 N 0 36 (N 28 i)) (F' := F1) (K' := K1) (c' := c1) (agr_mono aa (by decide +kernel)) (agr_mono am (by decide +kernel)) (up2_ne (by decide)) b1' ⟨by rw [b2.2 6 (by decide), up2_eq, up1_ne (by decide), up2_eq, up1_eq]; exact k4, by rw [b2.2 7 (by decide), up2_eq, up1_eq]; exact k5, by rw [a2]; exact k6, by rw [a3]; exact k7, k1, k2, fun g x y => ⟨by rw [b3 g (by omega) (by omega), up2_ne (by decide), up2_ne (by decide)]; exact k9 g x y, (k8 g x y).2⟩, k8.cg a4 hn⟩ ⟨0, 0, by omega, by omega, b1, a5, a6, fun i hi => absurd hi (Nat.not_lt_zero i)⟩ ⟨s, k3, by rw [up2_eq, up1_eq]; exact k10, by rw [a1]; exact k11⟩
      exact ⟨_, A1, J, pl, st, M1, _, e1, f2, n, T, th, ce, wr, F1, K1, c1, z⟩
  · refine eqv_same (r := -1000000001) hI ?_ ?_
    · rw [eX11_goBack]
      simp (disch := omega) only [nI_lt', nI_le', nI_eq', inb_nI, clp, nI_add, nI_mul', cond_true, cond_false, Nat.not_lt_zero, if_false]
      rw [if_neg hi]
    · rw [eX12_goBack]
      simp (disch := omega) only [nI_lt', nI_le', nI_eq', inb_nI, clp, nI_add, nI_mul', cond_true, cond_false, Nat.not_lt_zero, if_false]
      rw [if_neg (by omega)]
end KE
