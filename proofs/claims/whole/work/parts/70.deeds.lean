/-! both sides: deeds -/
def HS : List Nat := [17, 19, 20, 21, 22, 23, 24, 25, 26, 27, 28, 29, 30, 31, 32, 33, 34, 35, 36, 37, 38, 39, 40, 41, 42, 43, 44, 45, 46, 47, 48, 49, 50, 51, 52, 53, 54, 55, 56, 57, 58]
def DS : List Nat := 15 :: 16 :: HS
def DM : List Nat := [4, 19, 20, 21]
def DM0 : List Nat := [6, 7, 12, 32]
theorem HS_in : ∀ k, k < 20 → 19 + 2 * k ∈ HS ∧ 19 + 2 * k + 1 ∈ HS := by decide +kernel
theorem agr_mono {S S0 S' S0' : List Nat} {A A' : Nat → Nat → Int32} (h : agr S S0 A A') (hs : (∀ x, x ∈ S → x ∈ S') ∧ ∀ x, x ∈ S0 → x ∈ S0') : agr S' S0' A A' := ⟨fun p a b => h.1 p a (fun z => b (hs.1 p z)), fun k a => h.2 k (fun z => a (hs.2 k z))⟩
section DE
variable {A M A2 M2 : Nat → Nat → Int32} {N N2 : Nat → Nat → Int64} {J : Nat → Nat → Int64} {pl st : Bool} {n T F K F' K' : Nat} {th ce c c' : Nat → Nat} {wr : Nat → Bool}
theorem mark (h : iCo A pl M N n T th ce wr F K c) : ∃ A1 M1 : Nat → Nat → Int32, fX1_add [.ref 17, .ref 15] (cH A J pl st) = some (none, cH A1 J pl st) ∧ fX12_marks [.ref 0] (mH M N) = some (none, mH M1 N) ∧ agr HS [] A A1 ∧ agr [19, 20, 21] [12, 32] M M1 ∧ M1 0 12 = nI 0 ∧ iHi A1 M1 n th := by
  have hn := h.hn
  obtain ⟨s1, s2, s3, s4, s5, s6, s7, s8⟩ := h.2.1
  obtain ⟨m, o, d1, d2, d3, d4, d5, d6⟩ := h.2.2.2.1
  obtain ⟨A1, o', m', P, e1, eP, b1, b2, b3, b4, b5, b6, b7, b8⟩ := cHad (J := J) (pl := pl) (st := st) d4 d2 d5 d1
  obtain ⟨M1, m0, sh, e2, g1, g2, g3, g4, g5, g6, g7, g8, g9, g10, g11⟩ := mMk (J := N) d1 d3
  have hmod : (o + m) % 20 < 20 := Nat.mod_lt _ (by decide)
  obtain ⟨i1, i2⟩ := HS_in _ hmod
  rw [← eP] at i1 i2
  have hm' : m' = m0 + 1 ∧ o' < 20 ∧ ∀ i, (o' + i) % 20 = (o + (i + sh)) % 20 := by
    rcases g3 with g3 | ⟨g3, g3'⟩
    · obtain ⟨c1, c2⟩ := b3 (by omega)
      refine ⟨by omega, by omega, fun i => by omega⟩
    · obtain ⟨c1, c2⟩ := b4 g3'
      refine ⟨by omega, by omega, fun i => by omega⟩
  obtain ⟨z1, z2, z3⟩ := hm'
  refine ⟨A1, M1, e1, e2, ⟨fun p p0 hp => b5 p (fun z => hp (by rw [z]; decide)) (fun z => hp (by rw [z]; exact i1)) (fun z => hp (by rw [z]; exact i2)), fun k _ => by rw [b5 0 (by decide) (by omega) (by omega)]⟩, ⟨fun p p0 hp => g7 p p0 (fun z => hp (by rw [z]; decide)) (fun z => hp (by rw [z]; decide)) (fun z => hp (by rw [z]; decide)), fun k hk => g6 k (fun z => hk (by rw [z]; decide)) (fun z => hk (by rw [z]; decide))⟩, g5, m0 + 1, o', by omega, z2, g4, b1, by rw [b2, z1], fun i hi => ?_⟩
  rw [z3 i]
  by_cases w : i = m0
  · have ep : (o + (i + sh)) % 20 = (o + m) % 20 := by rw [show i + sh = m by omega]
    rw [ep, ← eP, w]
    exact ⟨F, K, c, s5, s6, by rw [g9]; exact s1, by rw [g10]; exact s2, by rw [b6]; exact s3, by rw [b7]; exact s4, s8.cg b8 hn, fun g x y => by rw [g11 g (by omega)]; exact (s7 g x y).1⟩
  · obtain ⟨F0, K0, c0, k1, k2, k3, k4, k5, k6, k7, k8⟩ := d6 (i + sh) (by omega)
    have hq : (o + (i + sh)) % 20 < 20 := Nat.mod_lt _ (by decide)
    have hne : (o + (i + sh)) % 20 ≠ (o + m) % 20 := by omega
    obtain ⟨t1, t2, t3⟩ := g8 i (by omega)
    have c1 : A1 (19 + 2 * ((o + (i + sh)) % 20)) = A (19 + 2 * ((o + (i + sh)) % 20)) := b5 _ (by omega) (by omega) (by omega)
    have c2 : A1 (19 + 2 * ((o + (i + sh)) % 20) + 1) = A (19 + 2 * ((o + (i + sh)) % 20) + 1) := b5 _ (by omega) (by omega) (by omega)
    exact ⟨F0, K0, c0, k1, k2, by rw [t1]; exact k3, by rw [t2]; exact k4, by rw [c1]; exact k5, by rw [c1]; exact k6, k7.cg (fun g _ => by rw [c2]) hn, fun g x y => by rw [t3 g (by omega)]; exact k8 g x y⟩
theorem setOk (hc : iCo A pl M N n T th ce wr F K c) (r1 : iRm M n th ce wr F K) (r2 : iRl A n th ce wr) (r3 : iRs A n th ce wr) (a : agr DS [17] A A2) (m : agr DM DM0 M M2) (j : N2 28 = N 28) (h12 : M2 0 12 = nI 0) (hs : iSe A2 M2 n th F' K' c') (hh : iHi A2 M2 n th) (hd : iSd A2 N2) : iCo A2 pl M2 N2 n T th ce wr F' K' c' ∧ iRm M2 n th ce wr F' K' ∧ iRl A2 n th ce wr ∧ iRs A2 n th ce wr :=
  ⟨⟨hc.1.ag a m (by decide +kernel), hs, hc.2.2.1.ag a m (by decide +kernel), hh, hc.2.2.2.2.1.ag hc.hn a m j (by decide +kernel), hc.2.2.2.2.2.1.ag a m (by decide +kernel), hd, iFt.ag hc.2.2.2.2.2.2.2 a m (by decide +kernel)⟩, r1.an m h12 (by decide +kernel), r2.ag a (by decide +kernel), r3.ag a (by decide +kernel)⟩
theorem DS_a {A1 : Nat → Nat → Int32} (h : agr HS [] A A1) (h' : agr [15, 16] [] A1 A2) : agr DS [17] A A2 := agr_trans (agr_mono h (by decide +kernel)) (agr_mono h' (by decide +kernel))
theorem DM_a {M1 : Nat → Nat → Int32} (h : agr [19, 20, 21] [12, 32] M M1) (h' : agr [4] [6, 7] M1 M2) : agr DM DM0 M M2 := agr_trans (agr_mono h (by decide +kernel)) (agr_mono h' (by decide +kernel))
/-- a deed: what was is kept, then the setting is another -/
theorem deed {A1 M1 : Nat → Nat → Int32} (hc : iCo A pl M N n T th ce wr F K c) (r1 : iRm M n th ce wr F K) (r2 : iRl A n th ce wr) (r3 : iRs A n th ce wr) (a : agr HS [] A A1) (m : agr [19, 20, 21] [12, 32] M M1) (h12 : M1 0 12 = nI 0) (hh : iHi A1 M1 n th) (a' : agr [15, 16] [] A1 A2) (m' : agr [4] [6, 7] M1 M2) (hs : iSe A2 M2 n th F' K' c') : iCo A2 pl M2 N n T th ce wr F' K' c' ∧ iRm M2 n th ce wr F' K' ∧ iRl A2 n th ce wr ∧ iRs A2 n th ce wr := by
  have a2 := DS_a a a'
  have m2 := DM_a m m'
  refine setOk hc r1 r2 r3 a2 m2 rfl ?_ hs (hh.ag hc.hn a' m' (by decide +kernel)) ?_
  · rw [m'.2 12 (by decide)]; exact h12
  · obtain ⟨s, q1, q2, q3⟩ := hc.2.2.2.2.2.2.1
    refine ⟨s, q1, q2, ?_⟩
    rw [a'.2 17 (by decide), a.2 17 (by decide)]
    exact q3
theorem iSe_a {A1 M1 : Nat → Nat → Int32} (h : iSe A M n th F K c) (hn : n ≤ 8) (a : agr HS [] A A1) (m : agr [19, 20, 21] [12, 32] M M1) : iSe A1 M1 n th F K c := h.ag hn a m (by decide +kernel)
theorem sb_or {g : Nat} (h : sbG th n F) (hg : g < n) (hgp : gpB th g = true) : sbG th n (F ||| 2 ^ g) := by
  intro i hi
  rw [Nat.testBit_or, pow_bit, Bool.or_eq_true] at hi
  rcases hi with hi | hi
  · exact h i hi
  · have : g = i := of_decide_eq_true hi
    subst this
    exact ⟨hg, hgp⟩
theorem sb_adn {G : Nat} (hF : F < 256) (h : sbG th n F) : sbG th n (adn F G) := by
  intro i hi
  rw [adn_bit (by omega), Bool.and_eq_true] at hi
  exact h i hi.1
/-- fences with a gap put or taken -/
def fnF (F g : Nat) (b : Bool) : Nat := if b = true then F ||| 2 ^ g else adn F (2 ^ g)
theorem sb_fn {g : Nat} {b : Bool} (hF : F < 256) (h : sbG th n F) (hg : g < n) (hgp : gpB th g = true) : sbG th n (fnF F g b) := by
  unfold fnF
  cases b with
  | true => rw [if_pos rfl]; exact sb_or h hg hgp
  | false => rw [if_neg (by decide)]; exact sb_adn hF h
theorem cSF {g : Nat} {b : Bool} (hg : g < 8) (h : A 15 1 = nI F) : fX9_setFence [.ref 15, .int (nI g), .int (tI b)] (cH A J pl st) = some (none, cH (up2 A 15 1 (nI (fnF F g b))) J pl st) := by
  rw [eX9_setFence, h, shl_nI g (by omega), adn_I, or_nI, ite_tI]
  unfold fnF
  cases b <;> rfl
theorem e_fence (h : Inv A pl M N) (x : Int32) (b : Bool) : eqv A J pl st M N (fX11_fence [.ref 0, .int x, .int (tI b)]) (fX12_fence [.ref 0, .int x, .int (tI b)]) := by
  have hI := h
  obtain ⟨n, T, th, ce, wr, F, K, c, hc, r1, r2, r3⟩ := h
  have hn := hc.hn
  have hF := hc.F8
  have hP := plP_or pl
  have f1 : fX11_fence [.ref 0, .int x, .int (tI b)] (cH A J pl st) = _ := eX11_fence A J pl st x (tI b)
  have f2 : fX12_fence [.ref 0, .int x, .int (tI b)] (mH M N) = _ := eX12_fence M N x (tI b)
  rw [cGp hP hc.1.2.1 x] at f1
  rw [mGp hc.1.1 x] at f2
  simp only [callK_some, Option.toList_some, Option.toList_none, List.cons_append, List.nil_append, bX11_fence_8, bX12_fence_5, ite_tI] at f1 f2
  cases hg : gpX n th x with
  | false =>
    rw [hg, if_neg (by decide)] at f1 f2
    exact eqv_same hI f1 f2
  | true =>
  rw [hg, if_pos rfl] at f1 f2
  obtain ⟨g, g1, rfl, g2⟩ := gpX_of hn hg
  obtain ⟨A1, M1, e1, e2, a, m, h12, hh⟩ := mark (J := J) (st := st) hc
  have hs1 := iSe_a hc.2.1 hn a m
  have hs1' := hs1
  obtain ⟨s1, s2, s3, s4, s5, s6, s7, s8⟩ := hs1'
  have hsb : sbG th n (fnF F g b) := sb_fn hF s5 g1 g2
  rw [e1] at f1
  rw [e2] at f2
  simp only [callK_some, Option.toList_some, Option.toList_none, List.cons_append, List.nil_append, bX11_fence_25, bX12_fence_15] at f1 f2
  rw [cSF (by omega) s3] at f1
  simp only [callK_some, Option.toList_some, Option.toList_none, List.cons_append, List.nil_append, bX11_fence_34] at f1
  have c2 : cOk (up2 A1 15 1 (nI (fnF F g b))) 16 n th c := s8.cg (fun g _ => by rw [up2_ne (by decide)]) hn
  have c4 : cOk (up2 M1 0 6 (nI (fnF F g b))) 4 n th c := s7.cg (fun g _ => by rw [up2_ne (by decide)]) hn
  rw [up2_eq, up1_eq, cPr hn hsb c2] at f1
  simp only [callK_some, Option.toList_some, Option.toList_none, List.cons_append, List.nil_append, bX11_fence_48] at f1
  have f2' : fX12_fence [.ref 0, .int (nI g), .int (tI b)] (mH M N) = some (some (.int (nI (prN c (fnF F g b) 8))), mH (up2 M1 0 6 (nI (fnF F g b))) N) := by
    rw [f2, s1, shl_nI g (by omega), adn_I, or_nI, ite_tI]
    have e3 := mPr (J := N) hn hsb c4
    unfold fnF at e3 ⊢
    cases b with
    | true =>
      rw [if_pos rfl] at e3 ⊢
      simp only [if_true]
      rw [e3]
      simp only [callK_some, Option.toList_some, Option.toList_none, List.cons_append, List.nil_append, bX12_fence_52]
    | false =>
      rw [if_neg (by decide)] at e3 ⊢
      simp only [Bool.false_eq_true, if_false]
      rw [e3]
      simp only [callK_some, Option.toList_some, Option.toList_none, List.cons_append, List.nil_append, bX12_fence_52]
  obtain ⟨z1, z2, z3, z4⟩ := deed hc r1 r2 r3 a m h12 hh (A2 := up2 A1 15 1 (nI (fnF F g b))) (M2 := up2 M1 0 6 (nI (fnF F g b))) (F' := fnF F g b) (K' := K) (c' := c) (agr_up (agr_refl _ _ _) (by decide) (by decide)) (agr_u0 (agr_refl _ _ _) (by decide)) ⟨by rw [up2_eq, up1_eq], by rw [up2_eq, up1_ne (by decide)]; exact s2, by rw [up2_eq, up1_eq], by rw [up2_eq, up1_ne (by decide)]; exact s4, hsb, s6, c4, c2⟩
  exact ⟨_, _, J, pl, st, _, N, f1, f2', n, T, th, ce, wr, fnF F g b, K, c, z1, z2, z3, z4⟩
theorem cOk_up {I : Nat → Nat → Int32} {P g v : Nat} (h : cOk I P n th c) (hv : 1 ≤ v ∧ v ≤ 9) : cOk (up2 I P g (nI v)) P n th (up1 c g v) := by
  intro k x y
  rw [up2_eq]
  by_cases w : k = g
  · rw [w, up1_eq, up1_eq]; exact ⟨rfl, hv⟩
  · rw [up1_ne w, up1_ne w]; exact h k x y
theorem iSe_c {A1 M1 : Nat → Nat → Int32} {g v : Nat} (h : iSe A1 M1 n th F K c) (hv : 1 ≤ v ∧ v ≤ 9) : iSe (up2 A1 16 g (nI v)) (up2 M1 4 g (nI v)) n th F K (up1 c g v) := by
  obtain ⟨s1, s2, s3, s4, s5, s6, s7, s8⟩ := h
  exact ⟨by rw [up2_ne (by decide)]; exact s1, by rw [up2_ne (by decide)]; exact s2, by rw [up2_ne (by decide)]; exact s3, by rw [up2_ne (by decide)]; exact s4, s5, s6, cOk_up s7 hv, cOk_up s8 hv⟩
theorem iSe_k {A1 M1 : Nat → Nat → Int32} {k : Nat} (h : iSe A1 M1 n th F K c) (hn : n ≤ 8) (hk : k < 16) : iSe (up2 A1 15 2 (nI k)) (up2 M1 0 7 (nI k)) n th F k c := by
  obtain ⟨s1, s2, s3, s4, s5, s6, s7, s8⟩ := h
  exact ⟨by rw [up2_eq, up1_ne (by decide)]; exact s1, by rw [up2_eq, up1_eq], by rw [up2_eq, up1_ne (by decide)]; exact s3, by rw [up2_eq, up1_eq], s5, hk, s7.cg (fun g _ => by rw [up2_ne (by decide)]) hn, s8.cg (fun g _ => by rw [up2_ne (by decide)]) hn⟩
theorem iSe_f {A1 M1 : Nat → Nat → Int32} {f : Nat} (h : iSe A1 M1 n th F K c) (hn : n ≤ 8) (hf : sbG th n f) : iSe (up2 A1 15 1 (nI f)) (up2 M1 0 6 (nI f)) n th f K c := by
  obtain ⟨s1, s2, s3, s4, s5, s6, s7, s8⟩ := h
  exact ⟨by rw [up2_eq, up1_eq], by rw [up2_eq, up1_ne (by decide)]; exact s2, by rw [up2_eq, up1_eq], by rw [up2_eq, up1_ne (by decide)]; exact s4, hf, s6, s7.cg (fun g _ => by rw [up2_ne (by decide)]) hn, s8.cg (fun g _ => by rw [up2_ne (by decide)]) hn⟩
theorem cSC {g : Nat} {x : Int32} (hg : g < 8) : fX9_setCost [.ref 15, .int (nI g), .int x] (cH A J pl st) = some (none, cH (up2 A 16 g x) J pl st) := by
  rw [eX9_setCost]
  simp (disch := omega) only [nI_lt', nI_le', nI_eq', inb_nI, clp, nI_add, nI_mul', cond_true, cond_false, Nat.not_lt_zero, if_false]
  rw [if_neg (by omega)]
theorem e_cost (h : Inv A pl M N) (x y : Int32) : eqv A J pl st M N (fX11_cost [.ref 0, .int x, .int y]) (fX12_cost [.ref 0, .int x, .int y]) := by
  have hI := h
  obtain ⟨n, T, th, ce, wr, F, K, c, hc, r1, r2, r3⟩ := h
  have hn := hc.hn
  have hP := plP_or pl
  have f1 : fX11_cost [.ref 0, .int x, .int y] (cH A J pl st) = _ := eX11_cost A J pl st x y
  have f2 : fX12_cost [.ref 0, .int x, .int y] (mH M N) = _ := eX12_cost M N x y
  rw [cGp hP hc.1.2.1 x] at f1
  rw [mGp hc.1.1 x] at f2
  simp only [callK_some, Option.toList_some, Option.toList_none, List.cons_append, List.nil_append, bX11_cost_8, bX12_cost_5, ite_tI] at f1 f2
  cases hg : gpX n th x with
  | false =>
    rw [hg, if_neg (by decide)] at f1 f2
    exact eqv_same hI f1 f2
  | true =>
  rw [hg, if_pos rfl] at f1 f2
  obtain ⟨g, g1, rfl, g2⟩ := gpX_of hn hg
  by_cases y1 : y < nI 1
  · rw [if_pos y1] at f1 f2
    exact eqv_same hI f1 f2
  rw [if_neg y1] at f1 f2
  by_cases y2 : y ≤ nI 9
  · rw [if_pos y2] at f1 f2
    have y0 : ¬ y < nI 0 := fun z => y1 (Int32.lt_trans z (by decide))
    obtain ⟨v, hv, rfl⟩ := nI_of y0
    rw [nI_lt' (by omega) (by omega)] at y1
    rw [nI_le' (by omega) (by omega)] at y2
    have hv9 : 1 ≤ v ∧ v ≤ 9 := ⟨by omega, y2⟩
    obtain ⟨A1, M1, e1, e2, a, m, h12, hh⟩ := mark (J := J) (st := st) hc
    have hs1 := iSe_a hc.2.1 hn a m
    rw [cCo (P := 15) (by decide) (by omega)] at f1
    simp only [callK_some, Option.toList_some, Option.toList_none, List.cons_append, List.nil_append, bX11_cost_36] at f1
    rw [e1] at f1
    rw [e2] at f2
    simp only [callK_some, Option.toList_some, Option.toList_none, List.cons_append, List.nil_append, bX11_cost_48] at f1
    rw [cSC (by omega)] at f1
    simp only [callK_some, Option.toList_some, Option.toList_none, List.cons_append, List.nil_append, bX11_cost_57] at f1
    rw [(hc.2.1.2.2.2.2.2.2.2 g g1 g2).1] at f1
    have f2' : fX12_cost [.ref 0, .int (nI g), .int (nI v)] (mH M N) = some (some (.int (nI (c g))), mH (up2 M1 4 g (nI v)) N) := by
      rw [f2]
      simp (disch := omega) only [callK_some, Option.toList_some, Option.toList_none, List.cons_append, List.nil_append, bX12_cost_29, nI_lt', nI_le', nI_eq', inb_nI, clp, nI_add, nI_mul', cond_true, cond_false]
      rw [(hs1.2.2.2.2.2.2.1 g g1 g2).1]
    obtain ⟨z1, z2, z3, z4⟩ := deed hc r1 r2 r3 a m h12 hh (A2 := up2 A1 16 g (nI v)) (M2 := up2 M1 4 g (nI v)) (agr_up (agr_refl _ _ _) (by decide) (by decide)) (agr_up (agr_refl _ _ _) (by decide) (by decide)) (iSe_c hs1 hv9)
    exact ⟨_, _, J, pl, st, _, N, f1, f2', n, T, th, ce, wr, F, K, _, z1, z2, z3, z4⟩
  · rw [if_neg y2] at f1 f2
    exact eqv_same hI f1 f2
theorem e_overtaking (hC : CAPS) (h : Inv A pl M N) (x : Int32) : eqv A J pl st M N (fX11_overtaking [.ref 0, .int x]) (fX12_overtaking [.ref 0, .int x]) := by
  have hI := h
  obtain ⟨n, T, th, ce, wr, F, K, c, hc, r1, r2, r3⟩ := h
  have hn := hc.hn
  have f1 : fX11_overtaking [.ref 0, .int x] (cH A J pl st) = _ := eX11_overtaking A J pl st x
  have f2 : fX12_overtaking [.ref 0, .int x] (mH M N) = _ := eX12_overtaking M N x
  by_cases x0 : x < nI 0
  · rw [if_pos x0] at f1 f2
    exact eqv_same hI f1 f2
  rw [if_neg x0] at f1 f2
  by_cases x1 : x ≤ nI 15
  · rw [if_pos x1] at f1 f2
    obtain ⟨k, hk, rfl⟩ := nI_of x0
    rw [nI_le' (by omega) (by omega)] at x1
    obtain ⟨A1, M1, e1, e2, a, m, h12, hh⟩ := mark (J := J) (st := st) hc
    have hs1 := iSe_a hc.2.1 hn a m
    obtain ⟨z1, z2, z3, z4⟩ := deed hc r1 r2 r3 a m h12 hh (A2 := up2 A1 15 2 (nI k)) (M2 := up2 M1 0 7 (nI k)) (agr_up (agr_refl _ _ _) (by decide) (by decide)) (agr_u0 (agr_refl _ _ _) (by decide)) (iSe_k hs1 hn (show k < 16 by omega))
    rw [e1] at f1
    rw [e2] at f2
    simp only [callK_some, Option.toList_some, Option.toList_none, List.cons_append, List.nil_append, bX11_overtaking_24, bX12_overtaking_17] at f1 f2
    obtain ⟨A2, J2, st2, m2, e3, q2, l2, v1, v2, v3, v4, v5, v6⟩ := cRN (J := J) (st := st) hC z1 z3
    obtain ⟨M', m', e4, q, r', hm', l1, l2', l3, l4⟩ := mRd hC z1 z2
    obtain ⟨em, -⟩ := SR_one l3 v3
    rw [e3] at f1
    rw [e4] at f2
    simp only [callK_some, Option.toList_some, Option.toList_none, List.cons_append, List.nil_append, bX11_overtaking_36, bX12_overtaking_26] at f1 f2
    rw [v2, ← em] at f1
    exact ⟨_, A2, J2, pl, st2, M', N, f1, f2, n, T, th, ce, wr, F, k, c, z1.q q2 q, r', l2, z4.cg v4 v5 v6⟩
  · rw [if_neg x1] at f1 f2
    exact eqv_same hI f1 f2
theorem e_best (h : Inv A pl M N) : eqv A J pl st M N (fX11_best [.ref 0]) (fX12_best [.ref 0]) := by
  obtain ⟨n, T, th, ce, wr, F, K, c, hc0, r1, r20, r30⟩ := h
  have hn := hc0.hn
  have f1 : fX11_best [.ref 0] (cH A J pl st) = _ := eX11_best A J pl st
  have f2 : fX12_best [.ref 0] (mH M N) = _ := eX12_best M N
  obtain ⟨b, b1, b2⟩ := cBS (J := J) (st := st) hc0
  have hc := hc0.q (lp_q A (lpN th ce wr K n)) (qM_refl M)
  have r2 : iRl (lpI A (lpN th ce wr K n)) n th ce wr := r20.cg (by rw [lpI_o A _ (by decide) (by decide)]) (by rw [lpI_o A _ (by decide) (by decide)]) (by rw [lpI_o A _ (by decide) (by decide)]) (lpI_o A _ (by decide) (by decide)) (lpI_o A _ (by decide) (by decide))
  have r3 : iRs (lpI A (lpN th ce wr K n)) n th ce wr := r30.cg (by rw [lpI_o A _ (by decide) (by decide)]) (lpI_o A _ (by decide) (by decide)) (lpI_o A _ (by decide) (by decide))
  obtain ⟨A1, M1, e1, e2, a, m, h12, hh⟩ := mark (J := J) (st := st) hc
  have hs1 := iSe_a hc.2.1 hn a m
  obtain ⟨y1, -, -, -⟩ := deed hc r1 r2 r3 a m h12 hh (A2 := A1) (M2 := M1) (agr_refl _ _ _) (agr_refl _ _ _) hs1
  obtain ⟨b', b1', b2'⟩ := mBS y1
  have eb := bstP_one hn b1 b1'
  subst eb
  have hsf := iSe_f hs1 hn b1.1
  obtain ⟨z1, z2, z3, z4⟩ := deed hc r1 r2 r3 a m h12 hh (A2 := up2 A1 15 1 (nI b)) (M2 := up2 M1 0 6 (nI b)) (agr_up (agr_refl _ _ _) (by decide) (by decide)) (agr_u0 (agr_refl _ _ _) (by decide)) hsf
  rw [b2] at f1
  rw [e2] at f2
  simp only [callK_some, Option.toList_some, Option.toList_none, List.cons_append, List.nil_append, bX11_best_4, bX12_best_4] at f1 f2
  rw [e1] at f1
  rw [b2'] at f2
  simp only [callK_some, Option.toList_some, Option.toList_none, List.cons_append, List.nil_append, bX11_best_16, bX12_best_9] at f1 f2
  rw [cPr hn b1.1 hsf.2.2.2.2.2.2.2] at f1
  rw [mPr hn b1.1 hsf.2.2.2.2.2.2.1] at f2
  simp only [callK_some, Option.toList_some, Option.toList_none, List.cons_append, List.nil_append, bX11_best_32, bX12_best_20] at f1 f2
  exact ⟨_, _, J, pl, st, _, N, f1, f2, n, T, th, ce, wr, b, K, c, z1, z2, z3, z4⟩
end DE
