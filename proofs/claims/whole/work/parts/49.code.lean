/-! a state as one long -/
def enc (g : Sg) : Nat := g.D + 256 * g.H 0 + 4096 * g.H 1 + 65536 * g.H 2 + 1048576 * g.R
/-- a state's numbers are small enough -/
def sgE (g : Sg) : Prop := g.D < 256 ∧ (∀ c, c < 3 → g.H c < 16) ∧ g.R < 536870912
theorem sgO_E {n k : Nat} {g : Sg} (hn : n ≤ 8) (hk : k ≤ n) (h : sgO n k g) : sgE g := by
  obtain ⟨h1, h2, h3⟩ := h
  refine ⟨Nat.lt_of_lt_of_le h1 (Nat.pow_le_pow_right (by decide) hn), fun c hc => by have := h2 c hc; omega, ?_⟩
  have : k * 38263752 ≤ 8 * 38263752 := Nat.mul_le_mul_right _ (by omega)
  omega
theorem enc_lt {g : Sg} (h : sgE g) : enc g < 562949953421312 := by
  obtain ⟨h1, h2, h3⟩ := h
  have a := h2 0 (by decide)
  have b := h2 1 (by decide)
  have c := h2 2 (by decide)
  unfold enc
  omega
theorem enc_R {g : Sg} (h : sgE g) : enc g / 1048576 = g.R := by
  obtain ⟨h1, h2, h3⟩ := h
  have a := h2 0 (by decide)
  have b := h2 1 (by decide)
  have c := h2 2 (by decide)
  unfold enc
  omega
theorem enc_D {g : Sg} (h : sgE g) : enc g % 256 = g.D := by
  have := h.1
  unfold enc
  omega
theorem enc_H {g : Sg} (h : sgE g) {c : Nat} (hc : c < 3) : enc g / 2 ^ (8 + 4 * c) % 16 = g.H c := by
  obtain ⟨h1, h2, h3⟩ := h
  have a := h2 0 (by decide)
  have b := h2 1 (by decide)
  have e := h2 2 (by decide)
  have hc' : c = 0 ∨ c = 1 ∨ c = 2 := by omega
  unfold enc
  rcases hc' with rfl | rfl | rfl
  · show _ / 256 % 16 = _; omega
  · show _ / 4096 % 16 = _; omega
  · show _ / 65536 % 16 = _; omega
theorem enc_Db {g : Sg} (h : sgE g) {i : Nat} (hi : i < 8) : (enc g).testBit i = g.D.testBit i := by
  have e := enc_D h
  rw [← e]
  have : (enc g % 2 ^ 8).testBit i = (enc g).testBit i := by
    rw [Nat.testBit_mod_two_pow, decide_eq_true hi, Bool.true_and]
  exact this.symm
/-- a bit more below -/
theorem or_low {r D s : Nat} (hD : D < 256) (hs : s < 8) : (256 * r + D) ||| 2 ^ s = 256 * r + (D ||| 2 ^ s) := by
  have h1 : D ||| 2 ^ s < 2 ^ 8 := Nat.or_lt_two_pow hD (Nat.pow_lt_pow_right (by decide) hs)
  have e1 := Nat.two_pow_add_eq_or_of_lt (i := 8) (b := D) hD r
  have e2 := Nat.two_pow_add_eq_or_of_lt (i := 8) (b := D ||| 2 ^ s) h1 r
  have e1' : 256 * r + D = 256 * r ||| D := e1
  have e2' : 256 * r + (D ||| 2 ^ s) = 256 * r ||| (D ||| 2 ^ s) := e2
  rw [e1', e2', Nat.or_assoc]
/-- a figure of four bits put anew -/
theorem put4 {lo h hi sh x : Nat} (hlo : lo < 2 ^ sh) (hh : h < 16) (hx : x < 16) (hsh : sh + 4 < 64) : ((2 ^ sh * (16 * hi + h) + lo) &&& ((15 * 2 ^ sh) ^^^ 18446744073709551615)) ||| (x * 2 ^ sh) = (2 ^ sh * (16 * hi + x) + lo) % 2 ^ 64 := by
  apply Nat.eq_of_testBit_eq
  intro j
  have e64 : (18446744073709551615 : Nat) = 2 ^ 64 - 1 := rfl
  have e15 : (15 : Nat) = 2 ^ 4 - 1 := rfl
  rw [Nat.testBit_or, Nat.testBit_and, Nat.testBit_xor, e64, Nat.testBit_two_pow_sub_one, Nat.mul_comm 15, Nat.mul_comm x, Nat.testBit_two_pow_mul, Nat.testBit_two_pow_mul, Nat.testBit_mod_two_pow, Nat.testBit_two_pow_mul_add _ hlo, Nat.testBit_two_pow_mul_add _ hlo, e15, Nat.testBit_two_pow_sub_one]
  have eh : ∀ y, y < 16 → ∀ i, (16 * hi + y).testBit i = if i < 4 then y.testBit i else hi.testBit (i - 4) := fun y hy i => Nat.testBit_two_pow_mul_add (i := 4) hi hy i
  rw [eh h hh, eh x hx]
  by_cases h1 : j < sh
  · have : ¬ j ≥ sh := by omega
    have h2 : j < 64 := by omega
    simp [h1, this, h2]
  · have h1' : j ≥ sh := by omega
    by_cases h3 : j - sh < 4
    · have h2 : j < 64 := by omega
      simp [h1, h1', h3, h2]
    · have hx0 : x.testBit (j - sh) = false := Nat.testBit_lt_two_pow (Nat.lt_of_lt_of_le hx (Nat.pow_le_pow_right (n := 2) (i := 4) (j := j - sh) (by decide) (by omega)))
      by_cases h2 : j < 64
      · simp [h1, h1', h3, h2, hx0]
      · simp [h1, h1', h3, h2, hx0]
theorem m1_lN : (-1 : Int64) = lN 18446744073709551615 := by decide
theorem l15 : (15 : Int64) = lN 15 := rfl
theorem l1 : (1 : Int64) = lN 1 := rfl
theorem enc_wr {ce : Nat → Nat} {wr : Nat → Bool} {n s : Nat} {g : Sg} (h : sgE g) (hs : s < 8) (hc : ce s < 3) (hw : wr s = true) : ((enc g ||| 2 ^ s) &&& ((15 * 2 ^ (8 + 4 * ce s)) ^^^ 18446744073709551615)) ||| ((s + 1) * 2 ^ (8 + 4 * ce s)) = enc (sgN ce wr n g s) := by
  have hR : (sgN ce wr n g s).R = g.R := by show (bif wr s then g.R else _) = _; rw [hw]; rfl
  have hH : (sgN ce wr n g s).H = up1 g.H (ce s) (s + 1) := by show (bif wr s then _ else g.H) = _; rw [hw]; rfl
  have hD : (sgN ce wr n g s).D = g.D ||| 2 ^ s := rfl
  have hdl : g.D ||| 2 ^ s < 256 := Nat.or_lt_two_pow (n := 8) h.1 (Nat.pow_lt_pow_right (by decide) hs)
  obtain ⟨h1, h2, h3⟩ := h
  have a0 := h2 0 (by decide)
  have a1 := h2 1 (by decide)
  have a2 := h2 2 (by decide)
  have e1 : enc g ||| 2 ^ s = 256 * (g.H 0 + 16 * g.H 1 + 256 * g.H 2 + 4096 * g.R) + (g.D ||| 2 ^ s) := by
    rw [← or_low h1 hs]
    congr 1
    unfold enc
    omega
  rw [e1]
  have e2 : enc (sgN ce wr n g s) = (g.D ||| 2 ^ s) + 256 * up1 g.H (ce s) (s + 1) 0 + 4096 * up1 g.H (ce s) (s + 1) 1 + 65536 * up1 g.H (ce s) (s + 1) 2 + 1048576 * g.R := by
    unfold enc
    rw [hR, hH, hD]
  rw [e2]
  generalize g.D ||| 2 ^ s = D' at hdl
  have hc' : ce s = 0 ∨ ce s = 1 ∨ ce s = 2 := by omega
  rcases hc' with hc' | hc' | hc'
  · rw [hc', up1_eq, up1_ne (by decide), up1_ne (by decide)]
    have := put4 (lo := D') (h := g.H 0) (hi := g.H 1 + 16 * g.H 2 + 256 * g.R) (sh := 8) (x := s + 1) hdl a0 (by omega) (by decide)
    have e3 : 256 * (g.H 0 + 16 * g.H 1 + 256 * g.H 2 + 4096 * g.R) + D' = 2 ^ 8 * (16 * (g.H 1 + 16 * g.H 2 + 256 * g.R) + g.H 0) + D' := by omega
    rw [e3]
    rw [show 8 + 4 * 0 = 8 from rfl, this]
    omega
  · rw [hc', up1_eq, up1_ne (by decide), up1_ne (by decide)]
    have := put4 (lo := D' + 256 * g.H 0) (h := g.H 1) (hi := g.H 2 + 16 * g.R) (sh := 12) (x := s + 1) (by omega) a1 (by omega) (by decide)
    have e3 : 256 * (g.H 0 + 16 * g.H 1 + 256 * g.H 2 + 4096 * g.R) + D' = 2 ^ 12 * (16 * (g.H 2 + 16 * g.R) + g.H 1) + (D' + 256 * g.H 0) := by omega
    rw [e3]
    rw [show 8 + 4 * 1 = 12 from rfl, this]
    omega
  · rw [hc', up1_eq, up1_ne (by decide), up1_ne (by decide)]
    have := put4 (lo := D' + 256 * g.H 0 + 4096 * g.H 1) (h := g.H 2) (hi := g.R) (sh := 16) (x := s + 1) (by omega) a2 (by omega) (by decide)
    have e3 : 256 * (g.H 0 + 16 * g.H 1 + 256 * g.H 2 + 4096 * g.R) + D' = 2 ^ 16 * (16 * g.R + g.H 2) + (D' + 256 * g.H 0 + 4096 * g.H 1) := by omega
    rw [e3]
    rw [show 8 + 4 * 2 = 16 from rfl, this]
    omega
theorem enc_rd {ce : Nat → Nat} {wr : Nat → Bool} {n s : Nat} {g : Sg} (h : sgE g) (hs : s < 8) (hw : wr s = false) : (enc g ||| 2 ^ s) + g.H (ce s) * wgN wr n s * 1048576 = enc (sgN ce wr n g s) := by
  have hR : (sgN ce wr n g s).R = g.R + g.H (ce s) * wgN wr n s := by show (bif wr s then g.R else _) = _; rw [hw]; rfl
  have hH : (sgN ce wr n g s).H = g.H := by show (bif wr s then _ else g.H) = _; rw [hw]; rfl
  have hD : (sgN ce wr n g s).D = g.D ||| 2 ^ s := rfl
  have e1 : enc g ||| 2 ^ s = 256 * (g.H 0 + 16 * g.H 1 + 256 * g.H 2 + 4096 * g.R) + (g.D ||| 2 ^ s) := by
    rw [← or_low h.1 hs]
    congr 1
    unfold enc
    omega
  unfold enc
  rw [hR, hH, hD]
  unfold enc at e1
  rw [e1]
  generalize g.H (ce s) * wgN wr n s = q
  omega
