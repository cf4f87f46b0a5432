/-! drawn numbers -/
def sdN (s : Nat) : Nat := (s * 1103515245 + 12345) % 2147483648
def drN (s n : Nat) : Nat := sdN s / 65536 % n
theorem sdN_lt (s : Nat) : sdN s < 2147483648 := Nat.mod_lt _ (by decide)
section DR
variable {I : Nat → Nat → Int32} {J : Nat → Nat → Int64} {pl st : Bool} {s n : Nat}
theorem mDr (hs : J 0 36 = lN s) (hl : s < 2147483648) (hn : 0 < n) (hn2 : n < 2147483648) : fX12_draw [.ref 0, .int (nI n)] (mH I J) = some (some (.int (nI (drN s n))), mH I (up2 J 0 36 (lN (sdN s)))) := by
  have hx : s * 1103515245 + 12345 < 2 ^ 63 := by omega
  have hsd := sdN_lt s
  have e1 : lN s * 1103515245 + 12345 = lN (s * 1103515245 + 12345) := by
    rw [show (1103515245 : Int64) = lN 1103515245 from rfl, show (12345 : Int64) = lN 12345 from rfl, lN_mul, lN_add]
  have e2 : lN (s * 1103515245 + 12345) - lN (s * 1103515245 + 12345) / 2147483648 * 2147483648 = lN (sdN s) := by
    rw [show (2147483648 : Int64) = lN 2147483648 from rfl]
    exact pk_lRem hx (by decide) (by decide)
  have e3 : lN (sdN s) / 65536 = lN (sdN s / 65536) := by
    rw [show (65536 : Int64) = lN 65536 from rfl]
    exact pk_lDiv (by omega) (by decide) (by decide)
  have e4 : lN (sdN s / 65536) - lN (sdN s / 65536) / lN n * lN n = lN (drN s n) := pk_lRem (by omega) hn (by omega)
  have e5 : Int32.toInt64 (nI n) = lN n := nI_l (by omega)
  have e6 : ¬ lN n = 0 := by
    rw [show (0 : Int64) = lN 0 from rfl, fb_lN_inj (by omega) (by decide)]
    omega
  rw [eX12_draw, hs, e5, if_neg e6, e1, e2, e3, e4, lN_i]
theorem cDr (hs : I 0 17 = nI s) (hl : s < 2147483648) (hn : 0 < n) (hn2 : n < 2147483648) : fX11_draw [.ref 0, .int (nI n)] (cH I J pl st) = some (some (.int (nI (drN s n))), cH (up2 I 0 17 (nI (sdN s))) J pl st) := by
  have hx : s * 1103515245 + 12345 < 2 ^ 63 := by omega
  have hsd := sdN_lt s
  have e0 : Int32.toInt64 (nI s) = lN s := nI_l (by omega)
  have e1 : lN s * 1103515245 + 12345 = lN (s * 1103515245 + 12345) := by
    rw [show (1103515245 : Int64) = lN 1103515245 from rfl, show (12345 : Int64) = lN 12345 from rfl, lN_mul, lN_add]
  have e2 : Int64.toInt32 (lN (s * 1103515245 + 12345) &&& 2147483647) = nI (sdN s) := by
    rw [show (2147483647 : Int64) = lN (2 ^ 31 - 1) from rfl, wb_mask (by omega) (by decide), lN_i]
    rfl
  have e3 : ((nI (sdN s)).toUInt32 >>> ((nI 16).toUInt32 &&& Int32.toUInt32 31)).toInt32 = nI (sdN s / 2 ^ 16) := pk_ushrN (by omega) (nI 16) 16 (s_u 16 (by omega))
  have e4 : nI (sdN s / 2 ^ 16) - nI (sdN s / 2 ^ 16) / nI n * nI n = nI (sdN s / 2 ^ 16 % n) := pk_rem (by omega) hn (by omega)
  have e5 : ¬ nI n = 0 := by
    rw [show (0 : Int32) = nI 0 from rfl, nI_eq' hn2 (by decide)]
    omega
  have e6 : ¬ nI n ≤ nI 0 := by
    rw [nI_le' hn2 (by decide)]
    omega
  rw [eX11_draw, hs, e0, e1, e2, if_neg e6, if_neg e5, e3, e4]
  rfl
end DR
