/-! what holds between the class and the reference -/
def CAPS : Prop := ∀ (n : Nat) (th ce : Nat → Nat) (wr : Nat → Bool) (F K : Nat), n ≤ 8 → (∀ s, s < n → th s < 3 ∧ ce s < 3) → mono th n → capL ce wr n (wtN th ce wr F K) ∧ capR th ce wr n F K
def iPl (A : Nat → Nat → Int32) (pl : Bool) (M : Nat → Nat → Int32) (n T : Nat) (th ce : Nat → Nat) (wr : Nat → Bool) : Prop := RPm M n th ce wr ∧ RPx A (plP pl) n th ce wr ∧ M 0 0 = nI T ∧ A (plP pl) 2 = nI T ∧ mono th n ∧ vOk M (nV th ce wr (gS th ce wr n n)) ∧ vOk A (nV th ce wr (gS th ce wr n n)) ∧ A 10 3 = M 0 18
def iSe (A M : Nat → Nat → Int32) (n : Nat) (th : Nat → Nat) (F K : Nat) (c : Nat → Nat) : Prop := M 0 6 = nI F ∧ M 0 7 = nI K ∧ A 15 1 = nI F ∧ A 15 2 = nI K ∧ sbG th n F ∧ K < 16 ∧ cOk M 4 n th c ∧ cOk A 16 n th c
def iTx (A M : Nat → Nat → Int32) : Prop := ∃ L m, TXx A L m ∧ TXm M L m
def hEn (A M : Nat → Nat → Int32) (n : Nat) (th : Nat → Nat) (i P : Nat) : Prop := ∃ (F K : Nat) (c : Nat → Nat), sbG th n F ∧ K < 16 ∧ M 19 i = nI F ∧ M 20 i = nI K ∧ A P 1 = nI F ∧ A P 2 = nI K ∧ cOk A (P + 1) n th c ∧ ∀ g, g < n → gpB th g = true → M 21 (8 * i + g) = nI (c g)
def iHi (A M : Nat → Nat → Int32) (n : Nat) (th : Nat → Nat) : Prop := ∃ m o, m ≤ 20 ∧ o < 20 ∧ M 0 32 = nI m ∧ A 17 1 = nI o ∧ A 17 2 = nI m ∧ ∀ i, i < m → hEn A M n th i (19 + 2 * ((o + i) % 20))
def iIe (A M : Nat → Nat → Int32) (N : Nat → Nat → Int64) (n : Nat) (th : Nat → Nat) (i : Nat) : Prop := ∃ (F K s : Nat) (c : Nat → Nat), sbG th n F ∧ K < 16 ∧ s < 2147483648 ∧ M 25 i = nI F ∧ M 26 i = nI K ∧ A (61 + 3 * i) 1 = nI F ∧ A (61 + 3 * i) 2 = nI K ∧ cOk A (62 + 3 * i) n th c ∧ (∀ g, g < n → gpB th g = true → M 27 (8 * i + g) = nI (c g)) ∧ N 28 i = lN s ∧ A (60 + 3 * i) 1 = nI s
def iIm (A M : Nat → Nat → Int32) (N : Nat → Nat → Int64) (n : Nat) (th : Nat → Nat) : Prop := ∀ i, i < 2 → ∃ b, M 24 i = tI b ∧ A (60 + 3 * i) 2 = tI b ∧ (b = true → iIe A M N n th i)
def iBk (A M : Nat → Nat → Int32) : Prop := ∃ (m : Nat) (say : Nat → Bool) (v : Nat → Nat), m ≤ 20 ∧ M 0 37 = nI m ∧ A 66 2 = nI m ∧ A 66 1 = nI (bset say m) ∧ ∀ i, i < m → v i < 2147483648 ∧ M 22 i = nI (v i) ∧ A 67 i = nI (v i) ∧ M 23 i = tI (say i)
def iSd (A : Nat → Nat → Int32) (N : Nat → Nat → Int64) : Prop := ∃ s, s < 2147483648 ∧ N 0 36 = lN s ∧ A 0 17 = nI s
def iRm (M : Nat → Nat → Int32) (n : Nat) (th ce : Nat → Nat) (wr : Nat → Bool) (F K : Nat) : Prop := M 10 0 = nI 0 ∧ (∀ c, c < 3 → M 11 c = nI 0) ∧ (∃ m, m ≤ 256 ∧ M 0 10 = nI m ∧ SR (M 5) m (rdP th ce wr n 0 0)) ∧ ∃ b, M 0 12 = tI b ∧ (b = true → ∃ m, m ≤ 256 ∧ M 0 11 = nI m ∧ SR (M 6) m (rdP th ce wr n F K))
def iRl (A : Nat → Nat → Int32) (n : Nat) (th ce : Nat → Nat) (wr : Nat → Bool) : Prop := ∃ b, A 0 13 = tI b ∧ (b = true → ∃ F K m, F < 256 ∧ K < 16 ∧ m ≤ 256 ∧ A 0 14 = nI F ∧ A 0 15 = nI K ∧ A 74 1 = nI m ∧ SR (A 75) m (rdP th ce wr n F K))
def iRs (A : Nat → Nat → Int32) (n : Nat) (th ce : Nat → Nat) (wr : Nat → Bool) : Prop := ∃ b, A 0 16 = tI b ∧ (b = true → ∃ m, m ≤ 256 ∧ A 76 1 = nI m ∧ SR (A 77) m (rdP th ce wr n 0 0))
/-- all but the readings -/
def iCo (A : Nat → Nat → Int32) (pl : Bool) (M : Nat → Nat → Int32) (N : Nat → Nat → Int64) (n T : Nat) (th ce : Nat → Nat) (wr : Nat → Bool) (F K : Nat) (c : Nat → Nat) : Prop := iPl A pl M n T th ce wr ∧ iSe A M n th F K c ∧ iTx A M ∧ iHi A M n th ∧ iIm A M N n th ∧ iBk A M ∧ iSd A N ∧ A 0 18 = M 0 25
def Inv (A : Nat → Nat → Int32) (pl : Bool) (M : Nat → Nat → Int32) (N : Nat → Nat → Int64) : Prop := ∃ (n T : Nat) (th ce : Nat → Nat) (wr : Nat → Bool) (F K : Nat) (c : Nat → Nat), iCo A pl M N n T th ce wr F K c ∧ iRm M n th ce wr F K ∧ iRl A n th ce wr ∧ iRs A n th ce wr
section IV
variable {A A' M M' : Nat → Nat → Int32} {N N' : Nat → Nat → Int64} {pl st : Bool} {n T F K : Nat} {th ce c : Nat → Nat} {wr : Nat → Bool}
theorem plP_or (pl : Bool) : plP pl = 4 ∨ plP pl = 7 := by cases pl <;> decide
theorem iPl.cg (h : iPl A pl M n T th ce wr) (a1 : ∀ p, 4 ≤ p → p ≤ 9 → A' p = A p) (a2 : A' 10 3 = A 10 3) (a3 : A' 12 = A 12) (m0 : M' 0 0 = M 0 0) (m1 : M' 0 1 = M 0 1) (m2 : M' 0 18 = M 0 18) (m3 : ∀ p, p = 1 ∨ p = 2 ∨ p = 3 ∨ p = 12 → M' p = M p) : iPl A' pl M' n T th ce wr := by
  obtain ⟨h1, h2, h3, h4, h5, h6, h7, h8⟩ := h
  have hP := plP_or pl
  have e0 := a1 (plP pl) (by omega) (by omega)
  exact ⟨h1.cong m1 (m3 1 (by omega)) (m3 2 (by omega)) (m3 3 (by omega)), h2.cong (by rw [e0]) (by rw [e0]) (by rw [e0]) (a1 _ (by omega) (by omega)) (a1 _ (by omega) (by omega)), by rw [m0]; exact h3, by rw [e0]; exact h4, h5, fun s u x y => by rw [m3 12 (by omega)]; exact h6 s u x y, fun s u x y => by rw [a3]; exact h7 s u x y, by rw [a2, m2]; exact h8⟩
theorem cOk.cg {P P' : Nat} (h : cOk M P n th c) (e : ∀ g, g < 8 → M' P' g = M P g) (hn : n ≤ 8) : cOk M' P' n th c := fun g x y => by rw [e g (by omega)]; exact h g x y
theorem iSe.cg (h : iSe A M n th F K c) (hn : n ≤ 8) (a1 : A' 15 1 = A 15 1) (a2 : A' 15 2 = A 15 2) (a3 : A' 16 = A 16) (m1 : M' 0 6 = M 0 6) (m2 : M' 0 7 = M 0 7) (m3 : M' 4 = M 4) : iSe A' M' n th F K c := by
  obtain ⟨h1, h2, h3, h4, h5, h6, h7, h8⟩ := h
  exact ⟨by rw [m1]; exact h1, by rw [m2]; exact h2, by rw [a1]; exact h3, by rw [a2]; exact h4, h5, h6, h7.cg (fun g _ => by rw [m3]) hn, h8.cg (fun g _ => by rw [a3]) hn⟩
theorem iTx.cg (h : iTx A M) (a1 : A' 1 1 = A 1 1) (a2 : A' 2 = A 2) (m1 : M' 0 24 = M 0 24) (m2 : M' 15 = M 15) : iTx A' M' := by
  obtain ⟨L, m, h1, h2⟩ := h
  exact ⟨L, m, ⟨by rw [a1]; exact h1.1, h1.2.1, fun i hi => by rw [a2]; exact h1.2.2 i hi⟩, ⟨by rw [m1]; exact h2.1, h2.2.1, fun i hi => by rw [m2]; exact h2.2.2 i hi⟩⟩
theorem iHi.cg (h : iHi A M n th) (hn : n ≤ 8) (a1 : A' 17 1 = A 17 1) (a2 : A' 17 2 = A 17 2) (a3 : ∀ p, 19 ≤ p → p < 59 → A' p = A p) (m1 : M' 0 32 = M 0 32) (m2 : M' 19 = M 19) (m3 : M' 20 = M 20) (m4 : M' 21 = M 21) : iHi A' M' n th := by
  obtain ⟨m, o, h1, h2, h3, h4, h5, h6⟩ := h
  refine ⟨m, o, h1, h2, by rw [m1]; exact h3, by rw [a1]; exact h4, by rw [a2]; exact h5, fun i hi => ?_⟩
  obtain ⟨F, K, c, k1, k2, k3, k4, k5, k6, k7, k8⟩ := h6 i hi
  have hm : (o + i) % 20 < 20 := Nat.mod_lt _ (by decide)
  exact ⟨F, K, c, k1, k2, by rw [m2]; exact k3, by rw [m3]; exact k4, by rw [a3 _ (by omega) (by omega)]; exact k5, by rw [a3 _ (by omega) (by omega)]; exact k6, k7.cg (fun g _ => by rw [a3 _ (by omega) (by omega)]) hn, fun g x y => by rw [m4]; exact k8 g x y⟩
theorem iIm.cg (h : iIm A M N n th) (hn : n ≤ 8) (a1 : ∀ p, 60 ≤ p → p < 66 → A' p = A p) (m1 : ∀ p, 24 ≤ p → p < 28 → M' p = M p) (j1 : N' 28 = N 28) : iIm A' M' N' n th := by
  intro i hi
  obtain ⟨b, h1, h2, h3⟩ := h i hi
  refine ⟨b, by rw [m1 24 (by omega) (by omega)]; exact h1, by rw [a1 _ (by omega) (by omega)]; exact h2, fun hb => ?_⟩
  obtain ⟨F, K, s, c, k1, k2, k3, k4, k5, k6, k7, k8, k9, k10, k11⟩ := h3 hb
  exact ⟨F, K, s, c, k1, k2, k3, by rw [m1 25 (by omega) (by omega)]; exact k4, by rw [m1 26 (by omega) (by omega)]; exact k5, by rw [a1 _ (by omega) (by omega)]; exact k6, by rw [a1 _ (by omega) (by omega)]; exact k7, k8.cg (fun g _ => by rw [a1 _ (by omega) (by omega)]) hn, fun g x y => by rw [m1 27 (by omega) (by omega)]; exact k9 g x y, by rw [j1]; exact k10, by rw [a1 _ (by omega) (by omega)]; exact k11⟩
theorem iBk.cg (h : iBk A M) (a1 : A' 66 = A 66) (a2 : A' 67 = A 67) (m1 : M' 0 37 = M 0 37) (m2 : M' 22 = M 22) (m3 : M' 23 = M 23) : iBk A' M' := by
  obtain ⟨m, say, v, h1, h2, h3, h4, h5⟩ := h
  exact ⟨m, say, v, h1, by rw [m1]; exact h2, by rw [a1]; exact h3, by rw [a1]; exact h4, fun i hi => by rw [m2, a2, m3]; exact h5 i hi⟩
theorem iSd.cg (h : iSd A N) (a1 : A' 0 17 = A 0 17) (j1 : N' 0 36 = N 0 36) : iSd A' N' := by
  obtain ⟨s, h1, h2, h3⟩ := h
  exact ⟨s, h1, by rw [j1]; exact h2, by rw [a1]; exact h3⟩
theorem iRm.cg {n : Nat} (h : iRm M n th ce wr F K) (m0 : M' 0 10 = M 0 10) (m1 : M' 0 11 = M 0 11) (m2 : M' 0 12 = M 0 12) (m3 : ∀ p, p = 5 ∨ p = 6 ∨ p = 10 ∨ p = 11 → M' p = M p) : iRm M' n th ce wr F K := by
  unfold iRm at h ⊢
  rw [m0, m1, m2, m3 10 (by omega), m3 11 (by omega), m3 5 (by omega), m3 6 (by omega)]
  exact h
/-- behind a deed -/
theorem iRm.no {n F' K' : Nat} (h : iRm M n th ce wr F K) (m0 : M' 0 10 = M 0 10) (m2 : M' 0 12 = nI 0) (m3 : ∀ p, p = 5 ∨ p = 10 ∨ p = 11 → M' p = M p) : iRm M' n th ce wr F' K' := by
  obtain ⟨h1, h2, h3, h4⟩ := h
  refine ⟨by rw [m3 10 (by omega)]; exact h1, fun c hc => by rw [m3 11 (by omega)]; exact h2 c hc, by rw [m0, m3 5 (by omega)]; exact h3, false, m2, fun q => Bool.noConfusion q⟩
theorem iRl.cg {n : Nat} (h : iRl A n th ce wr) (a1 : A' 0 13 = A 0 13) (a2 : A' 0 14 = A 0 14) (a3 : A' 0 15 = A 0 15) (a4 : A' 74 = A 74) (a5 : A' 75 = A 75) : iRl A' n th ce wr := by
  unfold iRl at h ⊢
  rw [a1, a2, a3, a4, a5]
  exact h
theorem iRs.cg {n : Nat} (h : iRs A n th ce wr) (a1 : A' 0 16 = A 0 16) (a4 : A' 76 = A 76) (a5 : A' 77 = A 77) : iRs A' n th ce wr := by
  unfold iRs at h ⊢
  rw [a1, a4, a5]
  exact h
/-- quiet: nothing but rows of readings and of loose pairs -/
def qC (A A' : Nat → Nat → Int32) : Prop := (∀ p, p ≠ 0 → p ≠ 13 → p ≠ 14 → p < 68 → A' p = A p) ∧ ∀ k, k ≠ 13 → k ≠ 14 → k ≠ 15 → k ≠ 16 → A' 0 k = A 0 k
def qM (M M' : Nat → Nat → Int32) : Prop := (∀ p, p ≠ 0 → p ≠ 6 → p ≠ 7 → p ≠ 8 → p ≠ 9 → p ≠ 10 → p ≠ 11 → M' p = M p) ∧ ∀ k, k ≠ 11 → k ≠ 12 → M' 0 k = M 0 k
theorem qC_refl (A : Nat → Nat → Int32) : qC A A := ⟨fun _ _ _ _ _ => rfl, fun _ _ _ _ _ => rfl⟩
theorem qM_refl (M : Nat → Nat → Int32) : qM M M := ⟨fun _ _ _ _ _ _ _ _ => rfl, fun _ _ _ => rfl⟩
theorem qC_trans {A1 A2 A3 : Nat → Nat → Int32} (h : qC A1 A2) (h' : qC A2 A3) : qC A1 A3 := ⟨fun p a b c d => by rw [h'.1 p a b c d, h.1 p a b c d], fun k a b c d => by rw [h'.2 k a b c d, h.2 k a b c d]⟩
theorem qM_trans {A1 A2 A3 : Nat → Nat → Int32} (h : qM A1 A2) (h' : qM A2 A3) : qM A1 A3 := ⟨fun p a b c d e f g => by rw [h'.1 p a b c d e f g, h.1 p a b c d e f g], fun k a b => by rw [h'.2 k a b, h.2 k a b]⟩
theorem iCo.q (h : iCo A pl M N n T th ce wr F K c) (qc : qC A A') (qm : qM M M') : iCo A' pl M' N n T th ce wr F K c := by
  obtain ⟨h1, h2, h3, h4, h5, h6, h7, h8⟩ := h
  have hn := h1.1.2.1
  have C := qc.1
  have c0 := qc.2
  have Q := qm.1
  have m0 := qm.2
  refine ⟨h1.cg (fun p x y => C p (by omega) (by omega) (by omega) (by omega)) (by rw [C 10 (by omega) (by omega) (by omega) (by omega)]) (C 12 (by omega) (by omega) (by omega) (by omega)) (m0 _ (by omega) (by omega)) (m0 _ (by omega) (by omega)) (m0 _ (by omega) (by omega)) (fun p hp => Q p (by omega) (by omega) (by omega) (by omega) (by omega) (by omega) (by omega)), ?_, ?_, ?_, ?_, ?_, ?_, ?_⟩
  · exact h2.cg hn (by rw [C 15 (by omega) (by omega) (by omega) (by omega)]) (by rw [C 15 (by omega) (by omega) (by omega) (by omega)]) (C 16 (by omega) (by omega) (by omega) (by omega)) (m0 _ (by omega) (by omega)) (m0 _ (by omega) (by omega)) (Q 4 (by omega) (by omega) (by omega) (by omega) (by omega) (by omega) (by omega))
  · exact h3.cg (by rw [C 1 (by omega) (by omega) (by omega) (by omega)]) (C 2 (by omega) (by omega) (by omega) (by omega)) (m0 _ (by omega) (by omega)) (Q 15 (by omega) (by omega) (by omega) (by omega) (by omega) (by omega) (by omega))
  · exact h4.cg hn (by rw [C 17 (by omega) (by omega) (by omega) (by omega)]) (by rw [C 17 (by omega) (by omega) (by omega) (by omega)]) (fun p x y => C p (by omega) (by omega) (by omega) (by omega)) (m0 _ (by omega) (by omega)) (Q 19 (by omega) (by omega) (by omega) (by omega) (by omega) (by omega) (by omega)) (Q 20 (by omega) (by omega) (by omega) (by omega) (by omega) (by omega) (by omega)) (Q 21 (by omega) (by omega) (by omega) (by omega) (by omega) (by omega) (by omega))
  · exact h5.cg hn (fun p x y => C p (by omega) (by omega) (by omega) (by omega)) (fun p x y => Q p (by omega) (by omega) (by omega) (by omega) (by omega) (by omega) (by omega)) rfl
  · exact h6.cg (C 66 (by omega) (by omega) (by omega) (by omega)) (C 67 (by omega) (by omega) (by omega) (by omega)) (m0 _ (by omega) (by omega)) (Q 22 (by omega) (by omega) (by omega) (by omega) (by omega) (by omega) (by omega)) (Q 23 (by omega) (by omega) (by omega) (by omega) (by omega) (by omega) (by omega))
  · exact h7.cg (c0 17 (by omega) (by omega) (by omega) (by omega)) rfl
  · rw [c0 18 (by omega) (by omega) (by omega) (by omega), m0 25 (by omega) (by omega)]; exact h8
end IV
