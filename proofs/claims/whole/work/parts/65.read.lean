/-! both sides: the rows of readings as they are now -/
section RDN
variable {A M : Nat → Nat → Int32} {N : Nat → Nat → Int64} {J : Nat → Nat → Int64} {pl st : Bool} {n T F K : Nat} {th ce c : Nat → Nat} {wr : Nat → Bool}
theorem iCo.hn (h : iCo A pl M N n T th ce wr F K c) : n ≤ 8 := h.1.1.2.1
theorem iCo.caps (hC : CAPS) (h : iCo A pl M N n T th ce wr F K c) (F K : Nat) : capL ce wr n (wtN th ce wr F K) ∧ capR th ce wr n F K := hC n th ce wr F K h.hn (fun s hs => ⟨(h.1.1.2.2 s hs).2.2.2.1, (h.1.1.2.2 s hs).2.2.2.2⟩) h.1.2.2.2.2.1
theorem iCo.F8 (h : iCo A pl M N n T th ce wr F K c) : F < 256 := sbG_lt h.hn h.2.1.2.2.2.2.1
theorem cRN (hC : CAPS) (h : iCo A pl M N n T th ce wr F K c) (hl : iRl A n th ce wr) : ∃ (A' : Nat → Nat → Int32) (J' : Nat → Nat → Int64) (st' : Bool) (m : Nat), fX11_readingsNow [.ref 0] (cH A J pl st) = some (some (.ref 74), cH A' J' pl st') ∧ qC A A' ∧ iRl A' n th ce wr ∧ m ≤ 256 ∧ A' 74 1 = nI m ∧ SR (A' 75) m (rdP th ce wr n F K) ∧ A' 0 16 = A 0 16 ∧ A' 76 = A 76 ∧ A' 77 = A 77 := by
  have hF := h.F8
  have hs := h.2.1
  have hK := hs.2.2.2.2.2.1
  have h1 : A 15 1 = nI F := hs.2.2.1
  have h2 : A 15 2 = nI K := hs.2.2.2.1
  obtain ⟨A1, J1, st1, m1, e1, b1, b2, b3, b4⟩ := cFR (J := J) (pl := pl) (st := st) (Q := 74) (plP_or pl) (Or.inl rfl) h.1.2.1 hF hK (h.caps hC F K).1 (h.caps hC F K).2
  have main : ∃ (A' : Nat → Nat → Int32) (J' : Nat → Nat → Int64) (st' : Bool) (m : Nat), callK (fX4_findReadings [.ref 68, .ref (plP pl), .int (A 15 1), .int (A 15 2), .ref 74] (cH A J pl st)) (fun r h' => run mX11_readingsNow (64, 0, 0, [.ref 0], r.toList ++ [], h')) = some (some (.ref 74), cH A' J' pl st') ∧ qC A A' ∧ iRl A' n th ce wr ∧ m ≤ 256 ∧ A' 74 1 = nI m ∧ SR (A' 75) m (rdP th ce wr n F K) ∧ A' 0 16 = A 0 16 ∧ A' 76 = A 76 ∧ A' 77 = A 77 := by
    refine ⟨up2 (up2 (up2 A1 0 13 (nI 1)) 0 14 (A1 15 1)) 0 15 (A1 15 2), J1, st1, m1, ?_, ⟨fun p p1 p2 p3 p4 => ?_, fun k k1 k2 k3 k4 => ?_⟩, ?_, b2, ?_, ?_, ?_, ?_, ?_⟩
    · rw [h1, h2, e1]
      simp (disch := omega) only [callK_some, Option.toList_some, Option.toList_none, List.cons_append, List.nil_append, bX11_readingsNow_64]
    · rw [up2_ne p1, up2_ne p1, up2_ne p1]; exact b4 p (by omega) (by omega) (by omega) (by omega) (by omega) (by omega)
    · rw [up2_eq, up1_ne k3, up2_eq, up1_ne k2, up2_eq, up1_ne k1, b4 0 (by omega) (by omega) (by omega) (by omega) (by omega) (by omega)]
    · refine ⟨true, by rw [up2_eq, up1_ne (by decide), up2_eq, up1_ne (by decide), up2_eq, up1_eq]; rfl, fun _ => ⟨F, K, m1, hF, hK, b2, ?_, ?_, ?_, ?_⟩⟩
      · rw [up2_eq, up1_ne (by decide), up2_eq, up1_eq, b4 15 (by omega) (by omega) (by omega) (by omega) (by omega) (by omega)]; exact h1
      · rw [up2_eq, up1_eq, b4 15 (by omega) (by omega) (by omega) (by omega) (by omega) (by omega)]; exact h2
      · rw [up2_ne (by decide), up2_ne (by decide), up2_ne (by decide)]; exact b1
      · rw [up2_ne (by decide), up2_ne (by decide), up2_ne (by decide)]; exact b3
    · rw [up2_ne (by decide), up2_ne (by decide), up2_ne (by decide)]; exact b1
    · rw [up2_ne (by decide), up2_ne (by decide), up2_ne (by decide)]; exact b3
    · rw [up2_eq, up1_ne (by decide), up2_eq, up1_ne (by decide), up2_eq, up1_ne (by decide), b4 0 (by omega) (by omega) (by omega) (by omega) (by omega) (by omega)]
    · rw [up2_ne (by decide), up2_ne (by decide), up2_ne (by decide)]; exact b4 76 (by omega) (by omega) (by omega) (by omega) (by omega) (by omega)
    · rw [up2_ne (by decide), up2_ne (by decide), up2_ne (by decide)]; exact b4 77 (by omega) (by omega) (by omega) (by omega) (by omega) (by omega)
  rw [eX11_readingsNow]
  obtain ⟨b, q1, q2⟩ := hl
  rw [q1]
  cases b with
  | false =>
    rw [if_pos tI_f]
    exact main
  | true =>
    rw [if_neg (by decide)]
    by_cases w1 : A 0 14 = A 15 1
    · rw [if_pos w1]
      by_cases w2 : A 0 15 = A 15 2
      · rw [if_pos w2]
        obtain ⟨F', K', m, u1, u2, u3, u4, u5, u6, u7⟩ := q2 rfl
        have eF : F' = F := (nI_eq (by omega) (by omega)).mp (by rw [← u4, w1, h1])
        have eK : K' = K := (nI_eq (by omega) (by omega)).mp (by rw [← u5, w2, h2])
        subst eF
        subst eK
        exact ⟨A, J, st, m, rfl, qC_refl A, ⟨true, q1, q2⟩, u3, u6, u7, rfl, rfl, rfl⟩
      · rw [if_neg w2]; exact main
    · rw [if_neg w1]; exact main
theorem cSN (hC : CAPS) (h : iCo A pl M N n T th ce wr F K c) (hl : iRs A n th ce wr) : ∃ (A' : Nat → Nat → Int32) (J' : Nat → Nat → Int64) (st' : Bool) (m : Nat), fX11_strictNow [.ref 0] (cH A J pl st) = some (some (.ref 76), cH A' J' pl st') ∧ qC A A' ∧ iRs A' n th ce wr ∧ m ≤ 256 ∧ A' 76 1 = nI m ∧ SR (A' 77) m (rdP th ce wr n 0 0) ∧ A' 0 13 = A 0 13 ∧ A' 0 14 = A 0 14 ∧ A' 0 15 = A 0 15 ∧ A' 74 = A 74 ∧ A' 75 = A 75 := by
  obtain ⟨A1, J1, st1, m1, e1, b1, b2, b3, b4⟩ := cFR (J := J) (pl := pl) (st := st) (Q := 76) (F := 0) (K := 0) (plP_or pl) (Or.inr rfl) h.1.2.1 (by decide) (by decide) (h.caps hC 0 0).1 (h.caps hC 0 0).2
  rw [eX11_strictNow]
  obtain ⟨b, q1, q2⟩ := hl
  rw [q1]
  cases b with
  | false =>
    rw [if_pos tI_f, e1]
    have o0 := b4 0 (by omega) (by omega) (by omega) (by omega) (by omega) (by omega)
    refine ⟨up2 A1 0 16 (nI 1), J1, st1, m1, ?_, ⟨fun p p1 p2 p3 p4 => ?_, fun k k1 k2 k3 k4 => ?_⟩, ⟨true, ?_, fun _ => ⟨m1, b2, ?_, ?_⟩⟩, b2, ?_, ?_, ?_, ?_, ?_, ?_, ?_⟩
    · simp (disch := omega) only [callK_some, Option.toList_some, Option.toList_none, List.cons_append, List.nil_append, bX11_strictNow_24]
    · rw [up2_ne p1]; exact b4 p (by omega) (by omega) (by omega) (by omega) (by omega) (by omega)
    · rw [up2_eq, up1_ne k4, o0]
    · rw [up2_eq, up1_eq]; rfl
    · rw [up2_ne (by decide)]; exact b1
    · rw [up2_ne (by decide)]; exact b3
    · rw [up2_ne (by decide)]; exact b1
    · rw [up2_ne (by decide)]; exact b3
    · rw [up2_eq, up1_ne (by decide), o0]
    · rw [up2_eq, up1_ne (by decide), o0]
    · rw [up2_eq, up1_ne (by decide), o0]
    · rw [up2_ne (by decide)]; exact b4 74 (by omega) (by omega) (by omega) (by omega) (by omega) (by omega)
    · rw [up2_ne (by decide)]; exact b4 75 (by omega) (by omega) (by omega) (by omega) (by omega) (by omega)
  | true =>
    rw [if_neg (by decide)]
    obtain ⟨m, u3, u6, u7⟩ := q2 rfl
    exact ⟨A, J, st, m, rfl, qC_refl A, ⟨true, q1, q2⟩, u3, u6, u7, rfl, rfl, rfl, rfl, rfl⟩
theorem mRd (hC : CAPS) (h : iCo A pl M N n T th ce wr F K c) (hr : iRm M n th ce wr F K) : ∃ (M' : Nat → Nat → Int32) (m : Nat), fX12_readings [.ref 0] (mH M N) = some (some (.int (nI m)), mH M' N) ∧ qM M M' ∧ iRm M' n th ce wr F K ∧ m ≤ 256 ∧ M' 0 12 = tI true ∧ M' 0 11 = nI m ∧ SR (M' 6) m (rdP th ce wr n F K) ∧ M' 5 = M 5 := by
  have hs := h.2.1
  have hK := hs.2.2.2.2.2.1
  rw [eX12_readings]
  obtain ⟨r1, r2, r3, b, q1, q2⟩ := hr
  rw [q1]
  cases b with
  | true =>
    rw [if_neg (by decide)]
    obtain ⟨m, u1, u2, u3⟩ := q2 rfl
    refine ⟨M, m, by rw [u2], qM_refl M, ⟨r1, r2, r3, true, q1, q2⟩, u1, q1, u2, u3, rfl⟩
  | false =>
    obtain ⟨M1, m, e, b1, b2, b3, b4⟩ := mGo (J := N) (P := 6) (F := F) (K := K) (x := nI 0) (Or.inr rfl) (Or.inl rfl) hK h.1.1 (fun _ => ⟨hs.1, hs.2.1⟩) r1 r2 (fun A' m' S' a b => Nat.lt_of_le_of_lt (capR_SR (h.caps hC F K).2 a b) (by decide))
    have hm : m ≤ 256 := capR_SR (h.caps hC F K).2 b1 (fun v x => x)
    have e0 := b2 0 (by decide) (by decide) (by decide) (by decide) (by decide) (by decide)
    have e5 : up2 (up2 M1 0 11 (nI m)) 0 12 (nI 1) 5 = M 5 := by rw [up2_ne (by decide), up2_ne (by decide)]; exact b2 5 (by decide) (by decide) (by decide) (by decide) (by decide) (by decide)
    refine ⟨up2 (up2 M1 0 11 (nI m)) 0 12 (nI 1), m, ?_, ⟨fun p p1 p2 p3 p4 p5 p6 p7 => by rw [up2_ne p1, up2_ne p1]; exact b2 p p2 p3 p4 p5 p6 p7, fun k k1 k2 => by rw [up2_eq, up1_ne k2, up2_eq, up1_ne k1, e0]⟩, ⟨?_, fun c hc => ?_, ?_, true, ?_, fun _ => ⟨m, hm, ?_, ?_⟩⟩, hm, ?_, ?_, ?_, e5⟩
    · rw [if_pos tI_f, e]
      simp (disch := omega) only [callK_some, Option.toList_some, Option.toList_none, List.cons_append, List.nil_append, bX12_readings_17]
    · rw [up2_ne (by decide), up2_ne (by decide)]; exact b3
    · rw [up2_ne (by decide), up2_ne (by decide)]; exact b4 c hc
    · rw [e5, up2_eq, up1_ne (by decide), up2_eq, up1_ne (by decide), e0]; exact r3
    · rw [up2_eq, up1_eq]; rfl
    · rw [up2_eq, up1_ne (by decide), up2_eq, up1_eq]
    · rw [up2_ne (by decide), up2_ne (by decide)]; exact b1
    · rw [up2_eq, up1_eq]; rfl
    · rw [up2_eq, up1_ne (by decide), up2_eq, up1_eq]
    · rw [up2_ne (by decide), up2_ne (by decide)]; exact b1
end RDN
