/-! at the start -/
def I00 : Nat → Nat → Int32 := fun _ _ => 0
def J00 : Nat → Nat → Int64 := fun _ _ => 0
def A00 : Nat → Nat → Int32 := xIf (zrI I00 0)
def B00 : Nat → Nat → Int64 := xJf (zrJ J00 0)
def M00 : Nat → Nat → Int32 := yI (zrI I00 0)
def N00 : Nat → Nat → Int64 := yJ (zrJ J00 0)
theorem cNew : fX11_init [.ref 0] (1, shX, zrI I00 0, zrJ J00 0, xR0) = some (none, cH A00 B00 false false) := by
  rw [jX11, xr]
  rfl
def th00 : Nat → Nat := fun _ => 0
def wr00 : Nat → Bool := fun _ => false
set_option maxRecDepth 100000 in
theorem mNew (hC : CAPS) : ∃ (M : Nat → Nat → Int32) (m : Nat), fX12_init [.ref 0] (1, shM, zrI I00 0, zrJ J00 0, yR0) = some (none, mH M N00) ∧ m ≤ 256 ∧ M 0 10 = nI m ∧ SR (M 5) m (rdP th00 th00 wr00 0 0 0) ∧ M 10 0 = nI 0 ∧ (∀ c, c < 3 → M 11 c = nI 0) ∧ (∀ k, k ≠ 10 → M 0 k = M00 0 k) ∧ ∀ p, p ≠ 0 → p ≠ 5 → p ≠ 7 → p ≠ 8 → p ≠ 9 → p ≠ 10 → p ≠ 11 → M p = M00 p := by
  have hr : RPm M00 0 th00 th00 wr00 := ⟨rfl, Nat.zero_le 8, fun s hs => absurd hs (Nat.not_lt_zero s)⟩
  have cp := hC 0 th00 th00 wr00 0 0 (Nat.zero_le 8) (fun s hs => absurd hs (Nat.not_lt_zero s)) (fun s u _ hu => absurd hu (Nat.not_lt_zero u))
  obtain ⟨M1, m, e, b1, b2, b3, b4⟩ := mGo (J := N00) (P := 5) (F := 0) (K := 0) (x := nI 1) (Or.inl rfl) (Or.inr ⟨rfl, rfl, rfl⟩) (by decide) hr (fun z => absurd z (by decide)) rfl (fun c hc => rfl) (fun A' m' S' a b => Nat.lt_of_le_of_lt (capR_SR cp.2 a b) (by decide))
  refine ⟨up2 M1 0 10 (nI m), m, ?_, capR_SR cp.2 b1 (fun v x => x), by rw [up2_eq, up1_eq], by rw [up2_ne (by decide)]; exact b1, by rw [up2_ne (by decide)]; exact b3, fun c hc => by rw [up2_ne (by decide)]; exact b4 c hc, fun k hk => by rw [up2_eq, up1_ne hk, b2 0 (by decide) (by decide) (by decide) (by decide) (by decide) (by decide)], fun p p0 p1 p2 p3 p4 p5 p6 => by rw [up2_ne p0]; exact b2 p p1 p2 p3 p4 p5 p6⟩
  rw [jm2]
  refine (congrArg (fun x => callK x _) e).trans ?_
  exact jm1 M1 N00 (nI m)
set_option maxRecDepth 100000 in
theorem inv_0 (hC : CAPS) : ∃ M : Nat → Nat → Int32, fX12_init [.ref 0] (1, shM, zrI I00 0, zrJ J00 0, yR0) = some (none, mH M N00) ∧ Inv A00 false M N00 := by
  obtain ⟨M, m, e, hm, h10, h5, h100, h11, h0, hp⟩ := mNew hC
  have hr : RPm M 0 th00 th00 wr00 := ⟨by rw [h0 1 (by decide)]; rfl, Nat.zero_le 8, fun s hs => absurd hs (Nat.not_lt_zero s)⟩
  refine ⟨M, e, 0, 0, th00, th00, wr00, 0, 15, th00, ⟨⟨hr, ⟨rfl, Nat.zero_le 8, fun s hs => absurd hs (Nat.not_lt_zero s), rfl, rfl⟩, by rw [h0 0 (by decide)]; rfl, rfl, fun s u _ hu => absurd hu (Nat.not_lt_zero u), fun s u _ _ => by rw [hp 12 (by decide) (by decide) (by decide) (by decide) (by decide) (by decide) (by decide)]; rfl, fun s u _ _ => rfl, by rw [h0 18 (by decide)]; rfl⟩, ⟨by rw [h0 6 (by decide)]; rfl, by rw [h0 7 (by decide)]; rfl, rfl, rfl, fun i hi => by rw [Nat.zero_testBit] at hi; exact Bool.noConfusion hi, by decide, fun g x _ => absurd x (Nat.not_lt_zero g), fun g x _ => absurd x (Nat.not_lt_zero g)⟩, ⟨th00, 0, ⟨rfl, Nat.zero_le _, fun i hi => absurd hi (Nat.not_lt_zero i)⟩, ⟨by rw [h0 24 (by decide)]; rfl, Nat.zero_le _, fun i hi => absurd hi (Nat.not_lt_zero i)⟩⟩, ⟨0, 0, Nat.zero_le _, by decide, by rw [h0 32 (by decide)]; rfl, rfl, rfl, fun i hi => absurd hi (Nat.not_lt_zero i)⟩, fun i hi => ?_, ⟨0, wr00, th00, Nat.zero_le _, by rw [h0 37 (by decide)]; rfl, rfl, rfl, fun i hi => absurd hi (Nat.not_lt_zero i)⟩, ⟨0, by decide, rfl, rfl⟩, by rw [h0 25 (by decide)]; rfl⟩, ⟨h100, h11, ⟨m, hm, h10, h5⟩, false, by rw [h0 12 (by decide)]; rfl, fun z => Bool.noConfusion z⟩, ⟨false, rfl, fun z => Bool.noConfusion z⟩, ⟨false, rfl, fun z => Bool.noConfusion z⟩⟩
  have hi' : i = 0 ∨ i = 1 := by omega
  rcases hi' with rfl | rfl
  · exact ⟨false, by rw [hp 24 (by decide) (by decide) (by decide) (by decide) (by decide) (by decide) (by decide)]; rfl, rfl, fun z => Bool.noConfusion z⟩
  · exact ⟨false, by rw [hp 24 (by decide) (by decide) (by decide) (by decide) (by decide) (by decide) (by decide)]; rfl, rfl, fun z => Bool.noConfusion z⟩
