/-! heaps that differ at some places alone -/
def agr (S S0 : List Nat) (A A' : Nat → Nat → Int32) : Prop := (∀ p, p ≠ 0 → p ∉ S → A' p = A p) ∧ ∀ k, k ∉ S0 → A' 0 k = A 0 k
theorem agr_refl (S S0 : List Nat) (A : Nat → Nat → Int32) : agr S S0 A A := ⟨fun _ _ _ => rfl, fun _ _ => rfl⟩
theorem agr_trans {S S0 : List Nat} {A A1 A2 : Nat → Nat → Int32} (h : agr S S0 A A1) (h' : agr S S0 A1 A2) : agr S S0 A A2 := ⟨fun p a b => by rw [h'.1 p a b, h.1 p a b], fun k a => by rw [h'.2 k a, h.2 k a]⟩
theorem agr_up {S S0 : List Nat} {A A1 : Nat → Nat → Int32} {p k : Nat} {x : Int32} (h : agr S S0 A A1) (hp : p ∈ S) (h0 : p ≠ 0) : agr S S0 A (up2 A1 p k x) := ⟨fun q a b => by rw [up2_ne (show q ≠ p from fun e => b (by rw [e]; exact hp))]; exact h.1 q a b, fun j a => by rw [up2_ne (fun e => h0 e.symm)]; exact h.2 j a⟩
theorem agr_u0 {S S0 : List Nat} {A A1 : Nat → Nat → Int32} {k : Nat} {x : Int32} (h : agr S S0 A A1) (hk : k ∈ S0) : agr S S0 A (up2 A1 0 k x) := ⟨fun q a b => by rw [up2_ne a]; exact h.1 q a b, fun j a => by rw [up2_eq, up1_ne (show j ≠ k from fun e => a (by rw [e]; exact hk))]; exact h.2 j a⟩
section AG
variable {A A' M M' : Nat → Nat → Int32} {N N' : Nat → Nat → Int64} {pl st : Bool} {n T F K : Nat} {th ce c : Nat → Nat} {wr : Nat → Bool} {S S0 R R0 : List Nat}
theorem iPl.ag (h : iPl A pl M n T th ce wr) (a : agr S S0 A A') (m : agr R R0 M M') (hs : ((∀ p, p < 13 → (4 ≤ p → p ≠ 11 → p ∉ S)) ∧ 0 ∉ R0 ∧ 1 ∉ R0 ∧ 18 ∉ R0 ∧ 1 ∉ R ∧ 2 ∉ R ∧ 3 ∉ R ∧ 12 ∉ R) := by decide) : iPl A' pl M' n T th ce wr := by
  obtain ⟨s1, r0, r1, r2, r3, r4, r5, r6⟩ := hs
  refine h.cg (fun p x y => a.1 p (by omega) (s1 p (by omega) x (by omega))) (by rw [a.1 10 (by decide) (s1 10 (by decide) (by decide) (by decide))]) (a.1 12 (by decide) (s1 12 (by decide) (by decide) (by decide))) (m.2 _ r0) (m.2 _ r1) (m.2 _ r2) (fun p hp => ?_)
  rcases hp with rfl | rfl | rfl | rfl
  · exact m.1 _ (by decide) r3
  · exact m.1 _ (by decide) r4
  · exact m.1 _ (by decide) r5
  · exact m.1 _ (by decide) r6
theorem iSe.ag (h : iSe A M n th F K c) (hn : n ≤ 8) (a : agr S S0 A A') (m : agr R R0 M M') (hs : (15 ∉ S ∧ 16 ∉ S ∧ 6 ∉ R0 ∧ 7 ∉ R0 ∧ 4 ∉ R) := by decide) : iSe A' M' n th F K c := by
  obtain ⟨s1, s2, r0, r1, r2⟩ := hs
  exact h.cg hn (by rw [a.1 15 (by decide) s1]) (by rw [a.1 15 (by decide) s1]) (a.1 16 (by decide) s2) (m.2 _ r0) (m.2 _ r1) (m.1 4 (by decide) r2)
theorem iTx.ag (h : iTx A M) (a : agr S S0 A A') (m : agr R R0 M M') (hs : (1 ∉ S ∧ 2 ∉ S ∧ 24 ∉ R0 ∧ 15 ∉ R) := by decide) : iTx A' M' :=
  h.cg (by rw [a.1 1 (by decide) hs.1]) (a.1 2 (by decide) hs.2.1) (m.2 _ hs.2.2.1) (m.1 15 (by decide) hs.2.2.2)
theorem iHi.ag (h : iHi A M n th) (hn : n ≤ 8) (a : agr S S0 A A') (m : agr R R0 M M') (hs : (17 ∉ S ∧ (∀ p, p < 59 → (19 ≤ p → p ∉ S)) ∧ 32 ∉ R0 ∧ 19 ∉ R ∧ 20 ∉ R ∧ 21 ∉ R) := by decide) : iHi A' M' n th := by
  obtain ⟨s1, s2, r0, r1, r2, r3⟩ := hs
  exact h.cg hn (by rw [a.1 17 (by decide) s1]) (by rw [a.1 17 (by decide) s1]) (fun p x y => a.1 p (by omega) (s2 p y x)) (m.2 _ r0) (m.1 _ (by decide) r1) (m.1 _ (by decide) r2) (m.1 _ (by decide) r3)
theorem iIm.ag (h : iIm A M N n th) (hn : n ≤ 8) (a : agr S S0 A A') (m : agr R R0 M M') (j : N' 28 = N 28) (hs : ((∀ p, p < 66 → (60 ≤ p → p ∉ S)) ∧ (∀ p, p < 28 → (24 ≤ p → p ∉ R))) := by decide) : iIm A' M' N' n th :=
  h.cg hn (fun p x y => a.1 p (by omega) (hs.1 p y x)) (fun p x y => m.1 p (by omega) (hs.2 p y x)) j
theorem iBk.ag (h : iBk A M) (a : agr S S0 A A') (m : agr R R0 M M') (hs : (66 ∉ S ∧ 67 ∉ S ∧ 37 ∉ R0 ∧ 22 ∉ R ∧ 23 ∉ R) := by decide) : iBk A' M' :=
  h.cg (a.1 66 (by decide) hs.1) (a.1 67 (by decide) hs.2.1) (m.2 _ hs.2.2.1) (m.1 22 (by decide) hs.2.2.2.1) (m.1 23 (by decide) hs.2.2.2.2)
theorem iSd.ag (h : iSd A N) (a : agr S S0 A A') (j : N' 0 36 = N 0 36) (hs : (17 ∉ S0) := by decide) : iSd A' N' := h.cg (a.2 17 hs) j
theorem iFt.ag (h : A 0 18 = M 0 25) (a : agr S S0 A A') (m : agr R R0 M M') (hs : (18 ∉ S0 ∧ 25 ∉ R0) := by decide) : A' 0 18 = M' 0 25 := by rw [a.2 18 hs.1, m.2 25 hs.2]; exact h
theorem iRm.ag (h : iRm M n th ce wr F K) (m : agr R R0 M M') (hs : (10 ∉ R0 ∧ 11 ∉ R0 ∧ 12 ∉ R0 ∧ 5 ∉ R ∧ 6 ∉ R ∧ 10 ∉ R ∧ 11 ∉ R) := by decide) : iRm M' n th ce wr F K := by
  obtain ⟨r1, r2, r3, r4, r5, r6, r7⟩ := hs
  refine h.cg (m.2 _ r1) (m.2 _ r2) (m.2 _ r3) (fun p hp => ?_)
  rcases hp with rfl | rfl | rfl | rfl
  · exact m.1 _ (by decide) r4
  · exact m.1 _ (by decide) r5
  · exact m.1 _ (by decide) r6
  · exact m.1 _ (by decide) r7
theorem iRm.an {F' K' : Nat} (h : iRm M n th ce wr F K) (m : agr R R0 M M') (m0 : M' 0 12 = nI 0) (hs : (10 ∉ R0 ∧ 5 ∉ R ∧ 10 ∉ R ∧ 11 ∉ R) := by decide) : iRm M' n th ce wr F' K' := by
  obtain ⟨r1, r4, r6, r7⟩ := hs
  refine h.no (m.2 _ r1) m0 (fun p hp => ?_)
  rcases hp with rfl | rfl | rfl
  · exact m.1 _ (by decide) r4
  · exact m.1 _ (by decide) r6
  · exact m.1 _ (by decide) r7
theorem iRl.ag (h : iRl A n th ce wr) (a : agr S S0 A A') (hs : (13 ∉ S0 ∧ 14 ∉ S0 ∧ 15 ∉ S0 ∧ 74 ∉ S ∧ 75 ∉ S) := by decide) : iRl A' n th ce wr := h.cg (a.2 _ hs.1) (a.2 _ hs.2.1) (a.2 _ hs.2.2.1) (a.1 74 (by decide) hs.2.2.2.1) (a.1 75 (by decide) hs.2.2.2.2)
theorem iRs.ag (h : iRs A n th ce wr) (a : agr S S0 A A') (hs : (16 ∉ S0 ∧ 76 ∉ S ∧ 77 ∉ S) := by decide) : iRs A' n th ce wr := h.cg (a.2 _ hs.1) (a.1 76 (by decide) hs.2.1) (a.1 77 (by decide) hs.2.2)
/-- both answer alike, and go on alike -/
def eqv (A : Nat → Nat → Int32) (J : Nat → Nat → Int64) (pl st : Bool) (M : Nat → Nat → Int32) (N : Nat → Nat → Int64) (f g : HP → Option (Option Value × HP)) : Prop := ∃ (r : Int32) (A' : Nat → Nat → Int32) (J' : Nat → Nat → Int64) (pl' st' : Bool) (M' : Nat → Nat → Int32) (N' : Nat → Nat → Int64), f (cH A J pl st) = some (some (.int r), cH A' J' pl' st') ∧ g (mH M N) = some (some (.int r), mH M' N') ∧ Inv A' pl' M' N'
variable {J : Nat → Nat → Int64}
theorem eqv_same {f g : HP → Option (Option Value × HP)} {r : Int32} (hI : Inv A pl M N) (h1 : f (cH A J pl st) = some (some (.int r), cH A J pl st)) (h2 : g (mH M N) = some (some (.int r), mH M N)) : eqv A J pl st M N f g := ⟨r, A, J, pl, st, M, N, h1, h2, hI⟩
theorem e_fault (h : Inv A pl M N) : eqv A J pl st M N (fX11_fault [.ref 0]) (fX12_fault [.ref 0]) := by
  refine eqv_same (r := M 0 25) h ?_ (eX12_fault M N)
  obtain ⟨n, T, th, ce, wr, F, K, c, h1, -⟩ := h
  rw [eX11_fault, h1.2.2.2.2.2.2.2]
theorem e_feed (h : Inv A pl M N) (x : Int32) : eqv A J pl st M N (fX11_feed [.ref 0, .int x]) (fX12_feed [.ref 0, .int x]) := by
  by_cases x0 : x < nI 0
  · exact eqv_same h (by rw [eX11_feed, if_pos x0]) (by rw [eX12_feed, if_pos x0])
  · obtain ⟨a, ha, rfl⟩ := nI_of x0
    have ha' : a < 2147483648 := by omega
    by_cases a1 : a ≤ 255
    · obtain ⟨n, T, th, ce, wr, F, K, c, ⟨h1, h2, ⟨L, m, t1, t2⟩, h4, h5, h6, h7, h8⟩, r1, r2, r3⟩ := h
      have hn := h1.1.2.1
      have hm := t1.2.1
      by_cases m1 : m = 120
      · refine eqv_same (r := -1000000004) ⟨n, T, th, ce, wr, F, K, c, ⟨h1, h2, ⟨L, m, t1, t2⟩, h4, h5, h6, h7, h8⟩, r1, r2, r3⟩ ?_ ?_
        · rw [eX11_feed, eX10_add, t1.1]
          simp (disch := omega) only [nI_lt', nI_le', nI_eq', inb_nI, clp, nI_add, nI_mul', cond_true, cond_false, callK_some, Option.toList_some, Option.toList_none, List.cons_append, List.nil_append, bX11_feed_22, Nat.not_lt_zero, if_false, if_true]
          rw [if_pos a1, if_neg (by omega)]
          simp (disch := omega) only [nI_lt', nI_le', nI_eq', inb_nI, clp, nI_add, nI_mul', cond_true, cond_false, callK_some, Option.toList_some, Option.toList_none, List.cons_append, List.nil_append, bX11_feed_22, if_true]
        · rw [eX12_feed, t2.1]
          simp (disch := omega) only [nI_lt', nI_le', nI_eq', inb_nI, clp, nI_add, nI_mul', cond_true, cond_false, Nat.not_lt_zero, if_false]
          rw [if_pos a1, if_pos m1]
      · have ag : agr [1, 2] [] A (up2 (up2 A 2 m (nI a)) 1 1 (nI (m + 1))) := agr_up (agr_up (agr_refl _ _ _) (by decide) (by decide)) (by decide) (by decide)
        have mg : agr [15] [24] M (up2 (up2 M 15 m (nI a)) 0 24 (nI (m + 1))) := agr_u0 (agr_up (agr_refl _ _ _) (by decide) (by decide)) (by decide)
        refine ⟨nI (m + 1), up2 (up2 A 2 m (nI a)) 1 1 (nI (m + 1)), J, pl, st, up2 (up2 M 15 m (nI a)) 0 24 (nI (m + 1)), N, ?_, ?_, n, T, th, ce, wr, F, K, c, ⟨h1.ag ag mg, h2.ag hn ag mg, ⟨up1 L m a, m + 1, ⟨by rw [up2_eq, up1_eq], by omega, fun i hi => ?_⟩, ⟨by rw [up2_eq, up1_eq], by omega, fun i hi => ?_⟩⟩, h4.ag hn ag mg, h5.ag hn ag mg rfl, h6.ag ag mg, h7.ag ag rfl, iFt.ag h8 ag mg⟩, r1.ag mg, r2.ag ag, r3.ag ag⟩
        · rw [eX11_feed, eX10_add, t1.1]
          simp (disch := omega) only [nI_lt', nI_le', nI_eq', inb_nI, clp, nI_add, nI_mul', cond_true, cond_false, Nat.not_lt_zero, if_false]
          rw [if_pos a1, if_pos (show m < 120 by omega)]
          simp (disch := omega) only [nI_lt', nI_le', nI_eq', inb_nI, clp, nI_add, nI_mul', cond_true, cond_false, callK_some, Option.toList_some, Option.toList_none, List.cons_append, List.nil_append, bX11_feed_22]
          rw [if_neg (by omega), up2_eq, up1_eq]
        · rw [eX12_feed, t2.1]
          simp (disch := omega) only [nI_lt', nI_le', nI_eq', inb_nI, clp, nI_add, nI_mul', cond_true, cond_false, Nat.not_lt_zero, if_false]
          rw [if_pos a1, if_neg m1]
        · rw [up2_ne (by decide), up2_eq]
          by_cases w : i = m
          · rw [w, up1_eq, up1_eq]; exact ⟨rfl, by omega⟩
          · rw [up1_ne w, up1_ne w]; exact t1.2.2 i (by omega)
        · rw [up2_ne (by decide), up2_eq]
          by_cases w : i = m
          · rw [w, up1_eq, up1_eq]; exact ⟨rfl, by omega⟩
          · rw [up1_ne w, up1_ne w]; exact t2.2.2 i (by omega)
    · refine eqv_same (r := -1000000002) h ?_ ?_
      · rw [eX11_feed]
        simp (disch := omega) only [nI_lt', nI_le', nI_eq', inb_nI, clp, nI_add, nI_mul', cond_true, cond_false, Nat.not_lt_zero, if_false]
        rw [if_neg a1]
      · rw [eX12_feed]
        simp (disch := omega) only [nI_lt', nI_le', nI_eq', inb_nI, clp, nI_add, nI_mul', cond_true, cond_false, Nat.not_lt_zero, if_false]
        rw [if_neg a1]
theorem e_tear (h : Inv A pl M N) : eqv A J pl st M N (fX11_tear [.ref 0]) (fX12_tear [.ref 0]) := by
  obtain ⟨n, T, th, ce, wr, F, K, c, ⟨h1, h2, h3, h4, h5, ⟨m, say, v, b1, b2, b3, b4, b5⟩, h7, h8⟩, r1, r2, r3⟩ := h
  have hn := h1.1.2.1
  have ag : agr [66] [] A (up2 (up2 A 66 1 (nI 0)) 66 2 (nI 0)) := agr_up (agr_up (agr_refl _ _ _) (by decide) (by decide)) (by decide) (by decide)
  have mg : agr [] [37] M (up2 M 0 37 (nI 0)) := agr_u0 (agr_refl _ _ _) (by decide)
  refine ⟨nI m, up2 (up2 A 66 1 (nI 0)) 66 2 (nI 0), J, pl, st, up2 M 0 37 (nI 0), N, ?_, ?_, n, T, th, ce, wr, F, K, c, ⟨h1.ag ag mg, h2.ag hn ag mg, h3.ag ag mg, h4.ag hn ag mg, h5.ag hn ag mg rfl, ⟨0, say, v, by omega, by rw [up2_eq, up1_eq], by rw [up2_eq, up1_eq], by rw [up2_eq, up1_ne (by decide), up2_eq, up1_eq]; rfl, fun i hi => absurd hi (Nat.not_lt_zero i)⟩, h7.ag ag rfl, iFt.ag h8 ag mg⟩, r1.ag mg, r2.ag ag, r3.ag ag⟩
  · rw [eX11_tear, eX0_clear, b3]
    simp (disch := omega) only [callK_some, Option.toList_some, Option.toList_none, List.cons_append, List.nil_append, bX11_tear_15]
  · rw [eX12_tear, b2]
theorem e_write (h : Inv A pl M N) (x : Int32) (b : Bool) : eqv A J pl st M N (fX11_write [.ref 0, .int x, .int (tI b)]) (fX12_write [.ref 0, .int x, .int (tI b)]) := by
  by_cases x0 : x < nI 0
  · exact eqv_same h (by rw [eX11_write, if_pos x0]) (by rw [eX12_write, if_pos x0])
  · obtain ⟨a, ha, rfl⟩ := nI_of x0
    have ha' : a < 2147483648 := by omega
    by_cases a1 : a ≤ 43046720
    · obtain ⟨n, T, th, ce, wr, F, K, c, ⟨h1, h2, h3, h4, h5, ⟨m, say, v, b1, b2, b3, b4, b5⟩, h7, h8⟩, r1, r2, r3⟩ := h
      have hn := h1.1.2.1
      by_cases m1 : m = 20
      · refine eqv_same (r := -1000000004) ⟨n, T, th, ce, wr, F, K, c, ⟨h1, h2, h3, h4, h5, ⟨m, say, v, b1, b2, b3, b4, b5⟩, h7, h8⟩, r1, r2, r3⟩ ?_ ?_
        · rw [eX11_write, eX0_add, b3]
          simp (disch := omega) only [nI_lt', nI_le', nI_eq', inb_nI, clp, nI_add, nI_mul', cond_true, cond_false, Nat.not_lt_zero, if_false]
          rw [if_pos a1, if_neg (show ¬ m < 20 by omega)]
          simp (disch := omega) only [nI_lt', nI_le', nI_eq', inb_nI, clp, nI_add, nI_mul', cond_true, cond_false, callK_some, Option.toList_some, Option.toList_none, List.cons_append, List.nil_append, bX11_write_23, if_true]
        · rw [eX12_write, b2]
          simp (disch := omega) only [nI_lt', nI_le', nI_eq', inb_nI, clp, nI_add, nI_mul', cond_true, cond_false, Nat.not_lt_zero, if_false]
          rw [if_pos a1, if_pos m1]
      · have key : ∀ A1 : Nat → Nat → Int32, agr [66, 67] [] A A1 → A1 66 2 = nI (m + 1) → A1 66 1 = nI (bset (up1 say m b) (m + 1)) → A1 67 = up1 (A 67) m (nI a) → fX11_write [.ref 0, .int (nI a), .int (tI b)] (cH A J pl st) = some (some (.int (nI (m + 1))), cH A1 J pl st) → eqv A J pl st M N (fX11_write [.ref 0, .int (nI a), .int (tI b)]) (fX12_write [.ref 0, .int (nI a), .int (tI b)]) := by
          intro A1 ag e2 e1 e67 ef
          have mg : agr [22, 23] [37] M (up2 (up2 (up2 M 22 m (nI a)) 23 m (tI b)) 0 37 (nI (m + 1))) := agr_u0 (agr_up (agr_up (agr_refl _ _ _) (by decide) (by decide)) (by decide) (by decide)) (by decide)
          refine ⟨nI (m + 1), A1, J, pl, st, _, N, ef, ?_, n, T, th, ce, wr, F, K, c, ⟨h1.ag ag mg, h2.ag hn ag mg, h3.ag ag mg, h4.ag hn ag mg, h5.ag hn ag mg rfl, ⟨m + 1, up1 say m b, up1 v m a, by omega, by rw [up2_eq, up1_eq], e2, e1, fun i hi => ?_⟩, h7.ag ag rfl, iFt.ag h8 ag mg⟩, r1.ag mg, r2.ag ag, r3.ag ag⟩
          · rw [eX12_write, b2]
            simp (disch := omega) only [nI_lt', nI_le', nI_eq', inb_nI, clp, nI_add, nI_mul', cond_true, cond_false, Nat.not_lt_zero, if_false, tI_B, Bool.true_and]
            rw [if_pos a1, if_neg m1]
          · rw [e67, up2_ne (by decide), up2_ne (by decide), up2_eq, up2_ne (by decide), up2_eq, up2_ne (by decide)]
            by_cases w : i = m
            · rw [w, up1_eq, up1_eq, up1_eq, up1_eq, up1_eq]; exact ⟨ha', rfl, rfl, rfl⟩
            · rw [up1_ne w, up1_ne w, up1_ne w, up1_ne w, up1_ne w]; exact b5 i (by omega)
        cases b with
        | false =>
          refine key (up2 (up2 A 67 m (nI a)) 66 2 (nI (m + 1))) (agr_up (agr_up (agr_refl _ _ _) (by decide) (by decide)) (by decide) (by decide)) (by rw [up2_eq, up1_eq]) ?_ (by rw [up2_ne (by decide), up2_eq]) ?_
          · rw [up2_eq, up1_ne (by decide), up2_ne (by decide), b4, bset_up]
            simp
          · rw [eX11_write, eX0_add, b3]
            simp (disch := omega) only [nI_lt', nI_le', nI_eq', inb_nI, clp, nI_add, nI_mul', cond_true, cond_false, Nat.not_lt_zero, if_false, ite_tI]
            rw [if_pos a1, if_pos (show m < 20 by omega)]
            simp (disch := omega) only [nI_lt', nI_le', nI_eq', inb_nI, clp, nI_add, nI_mul', cond_true, cond_false, callK_some, Option.toList_some, Option.toList_none, List.cons_append, List.nil_append, bX11_write_23, Bool.false_eq_true, if_false]
            rw [if_neg (by omega), up2_eq, up1_eq]
        | true =>
          refine key (up2 (up2 (up2 A 67 m (nI a)) 66 1 (nI (bset (up1 say m true) (m + 1)))) 66 2 (nI (m + 1))) (agr_up (agr_up (agr_up (agr_refl _ _ _) (by decide) (by decide)) (by decide) (by decide)) (by decide) (by decide)) (by rw [up2_eq, up1_eq]) (by rw [up2_eq, up1_ne (by decide), up2_eq, up1_eq]) (by rw [up2_ne (by decide), up2_ne (by decide), up2_eq]) ?_
          rw [eX11_write, eX0_add, b3, b4, shl_nI m (by omega), or_nI]
          have eb : bset (up1 say m true) (m + 1) = bset say m ||| 2 ^ m := by rw [bset_up, if_pos rfl]
          simp (disch := omega) only [nI_lt', nI_le', nI_eq', inb_nI, clp, nI_add, nI_mul', cond_true, cond_false, Nat.not_lt_zero, if_false, ite_tI]
          rw [if_pos a1, if_pos (show m < 20 by omega)]
          simp (disch := omega) only [nI_lt', nI_le', nI_eq', inb_nI, clp, nI_add, nI_mul', cond_true, cond_false, callK_some, Option.toList_some, Option.toList_none, List.cons_append, List.nil_append, bX11_write_23, if_true]
          rw [if_neg (by omega), up2_eq, up1_eq, eb]
    · refine eqv_same (r := -1000000002) h ?_ ?_
      · rw [eX11_write]
        simp (disch := omega) only [nI_lt', nI_le', nI_eq', inb_nI, clp, nI_add, nI_mul', cond_true, cond_false, Nat.not_lt_zero, if_false]
        rw [if_neg a1]
      · rw [eX12_write]
        simp (disch := omega) only [nI_lt', nI_le', nI_eq', inb_nI, clp, nI_add, nI_mul', cond_true, cond_false, Nat.not_lt_zero, if_false]
        rw [if_neg a1]
theorem e_seed (h : Inv A pl M N) (x : Int32) : eqv A J pl st M N (fX11_seed [.ref 0, .int x]) (fX12_seed [.ref 0, .int x]) := by
  by_cases x0 : x < nI 0
  · have hx : ¬ nI 0 ≤ x := fun z => Int32.not_lt.mpr z x0
    exact eqv_same h (by rw [eX11_seed, if_neg hx]) (by rw [eX12_seed, if_neg hx])
  · have hx : nI 0 ≤ x := Int32.not_lt.mp x0
    obtain ⟨a, ha, rfl⟩ := nI_of x0
    have ha' : a < 2147483648 := by omega
    obtain ⟨n, T, th, ce, wr, F, K, c, ⟨h1, h2, h3, h4, h5, h6, ⟨s, s1, s2, s3⟩, h8⟩, r1, r2, r3⟩ := h
    have hn := h1.1.2.1
    have ag : agr [] [17] A (up2 A 0 17 (nI a)) := agr_u0 (agr_refl _ _ _) (by decide)
    have mg : agr [] [] M M := agr_refl _ _ _
    have j : up2 N 0 36 (lN a) 28 = N 28 := up2_ne (by decide)
    refine ⟨nI s, up2 A 0 17 (nI a), J, pl, st, M, up2 N 0 36 (lN a), ?_, ?_, n, T, th, ce, wr, F, K, c, ⟨h1.ag ag mg, h2.ag hn ag mg, h3.ag ag mg, h4.ag hn ag mg, h5.ag hn ag mg j, h6.ag ag mg, ⟨a, ha', by rw [up2_eq, up1_eq], by rw [up2_eq, up1_eq]⟩, iFt.ag h8 ag mg⟩, r1.ag mg, r2.ag ag, r3.ag ag⟩
    · rw [eX11_seed, if_pos hx, s3]
    · rw [eX12_seed, if_pos hx, s2, lN_i, nI_l (by omega)]
end AG
