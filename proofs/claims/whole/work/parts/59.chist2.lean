/-! the class: a setting comes to the round, and is taken back -/
section CHJ
variable {J : Nat → Nat → Int64} {pl st : Bool}
theorem RX_18 : ∀ pl st : Bool, ∀ k, k < 20 → RX pl st 18 k = 19 + 2 * k := by decide +kernel
theorem his_mem : ∀ k, k < 20 → 19 + 2 * k ∈ hisL := by decide +kernel
theorem cFm {I : Nat → Nat → Int32} {a : Nat} (ha : a < 2147483648) : fJ9_floorMod_7cf53 [.int (nI a), .int (nI 20)] (cH I J pl st) = some (some (.int (nI (a % 20))), cH I J pl st) := by
  show (if 0 ≤ nI a ∧ 0 < nI 20 then some (some (Value.int (nI a - nI a / nI 20 * nI 20)), cH I J pl st) else none) = _
  have h1 : (0 : Int32) ≤ nI a := (nI_leI (a := 0) (by decide) ha).mpr (Nat.zero_le a)
  have h2 : (0 : Int32) < nI 20 := by decide
  rw [if_pos ⟨h1, h2⟩, pk_rem (by omega) (by decide) (by decide)]
theorem cSa {I : Nat → Nat → Int32} {o i : Nat} (h1 : I 17 1 = nI o) (ho : o < 20) (hi : i ≤ 20) : fX1_settingAt [.ref 17, .int (nI i)] (cH I J pl st) = some (some (.ref (19 + 2 * ((o + i) % 20))), cH I J pl st) := by
  have hm : (o + i) % 20 < 20 := Nat.mod_lt _ (by decide)
  rw [eX1_settingAt, h1, nI_add, cFm (by omega)]
  simp (disch := omega) only [callK_some, Option.toList_some, Option.toList_none, List.cons_append, List.nil_append, bX1_settingAt_11, nI_lt', nI_le', nI_eq', inb_nI, clp, nI_add, nI_mul', cond_true, cond_false]
  rw [if_neg (by omega), RX_18 pl st _ hm, if_pos (by omega)]
theorem cHad {I : Nat → Nat → Int32} {o m : Nat} (h1 : I 17 1 = nI o) (ho : o < 20) (h2 : I 17 2 = nI m) (hm : m ≤ 20) : ∃ (I' : Nat → Nat → Int32) (o' m' P : Nat), fX1_add [.ref 17, .ref 15] (cH I J pl st) = some (none, cH I' J pl st) ∧ P = 19 + 2 * ((o + m) % 20) ∧ I' 17 1 = nI o' ∧ I' 17 2 = nI m' ∧ (m < 20 → o' = o ∧ m' = m + 1) ∧ (m = 20 → o' = (o + 1) % 20 ∧ m' = 20) ∧ (∀ p, p ≠ 17 → p ≠ P → p ≠ P + 1 → I' p = I p) ∧ I' P 1 = I 15 1 ∧ I' P 2 = I 15 2 ∧ ∀ g, g < 8 → I' (P + 1) g = I 16 g := by
  have hmod : (o + m) % 20 < 20 := Nat.mod_lt _ (by decide)
  have hP := his_mem _ hmod
  have hb := oth_lt (his_oth hP)
  obtain ⟨I1, e1, a1, a2, a3, a4, a5⟩ := cCpT (I := I) (J := J) (pl := pl) (st := st) (his_oth hP)
  have h17 : I1 17 = I 17 := a1 17 (by omega) (by omega)
  by_cases h20 : m = 20
  · refine ⟨up2 I1 17 1 (nI ((o + 1) % 20)), (o + 1) % 20, 20, _, ?_, rfl, by rw [up2_eq, up1_eq], by rw [up2_eq, up1_ne (by decide), h17, h2, h20], fun q => by omega, fun _ => ⟨rfl, rfl⟩, fun p p1 p2 p3 => by rw [up2_ne p1, a1 p p2 p3], by rw [up2_ne (by omega)]; exact a2, by rw [up2_ne (by omega)]; exact a3, fun g hg => by rw [up2_ne (by omega)]; exact a5 g hg⟩
    rw [eX1_add (hP := hP), h2, cSa h1 ho hm]
    simp (disch := omega) only [callK_some, Option.toList_some, Option.toList_none, List.cons_append, List.nil_append, bX1_add_8 (hP := hP), e1, bX1_add_12 (hP := hP), h17, h1, h2, nI_lt', nI_le', nI_eq', inb_nI, clp, nI_add, nI_mul', cond_true, cond_false]
    rw [if_pos (by omega), pk_rem (by omega) (by decide) (by decide)]
  · refine ⟨up2 I1 17 2 (nI (m + 1)), o, m + 1, _, ?_, rfl, by rw [up2_eq, up1_ne (by decide), h17, h1], by rw [up2_eq, up1_eq], fun _ => ⟨rfl, rfl⟩, fun q => absurd q h20, fun p p1 p2 p3 => by rw [up2_ne p1, a1 p p2 p3], by rw [up2_ne (by omega)]; exact a2, by rw [up2_ne (by omega)]; exact a3, fun g hg => by rw [up2_ne (by omega)]; exact a5 g hg⟩
    rw [eX1_add (hP := hP), h2, cSa h1 ho hm]
    simp (disch := omega) only [callK_some, Option.toList_some, Option.toList_none, List.cons_append, List.nil_append, bX1_add_8 (hP := hP), e1, bX1_add_12 (hP := hP), h17, h1, h2, nI_lt', nI_le', nI_eq', inb_nI, clp, nI_add, nI_mul', cond_true, cond_false]
    rw [if_neg (by omega)]
theorem cTb {I : Nat → Nat → Int32} {o m k : Nat} (h1 : I 17 1 = nI o) (ho : o < 20) (h2 : I 17 2 = nI m) (hm : m ≤ 20) (hk : 1 ≤ k) (hkm : k ≤ m) : ∃ (I' : Nat → Nat → Int32) (P : Nat), fX1_takeBack [.ref 17, .int (nI k), .ref 15] (cH I J pl st) = some (none, cH I' J pl st) ∧ P = 19 + 2 * ((o + (m - k)) % 20) ∧ I' 17 1 = nI o ∧ I' 17 2 = nI (m - k) ∧ (∀ p, p ≠ 15 → p ≠ 16 → p ≠ 17 → I' p = I p) ∧ I' 15 1 = I P 1 ∧ I' 15 2 = I P 2 ∧ ∀ g, g < 8 → I' 16 g = I (P + 1) g := by
  have hmod : (o + (m - k)) % 20 < 20 := Nat.mod_lt _ (by decide)
  have hP := his_mem _ hmod
  have hb := oth_lt (his_oth hP)
  obtain ⟨I1, e1, a1, a2, a3, a4, a5⟩ := cCpF (I := up2 I 17 2 (nI (m - k))) (J := J) (pl := pl) (st := st) (his_oth hP)
  have h17 : I1 17 = up1 (I 17) 2 (nI (m - k)) := by rw [a1 17 (by decide) (by decide), up2_eq]
  have hs := cSa (I := up2 I 17 2 (nI (m - k))) (J := J) (pl := pl) (st := st) (o := o) (i := m - k) (by rw [up2_eq, up1_ne (by decide)]; exact h1) ho (by omega)
  refine ⟨I1, _, ?_, rfl, by rw [h17, up1_ne (by decide), h1], by rw [h17, up1_eq], fun p p1 p2 p3 => by rw [a1 p p1 p2, up2_ne p3], by rw [a2, up2_ne (by omega)], by rw [a3, up2_ne (by omega)], fun g hg => by rw [a5 g hg, up2_ne (by omega)]⟩
  rw [eX1_takeBack (hP := hP), h2]
  simp (disch := omega) only [nI_lt', nI_le', nI_eq', inb_nI, clp, nI_add, nI_mul', cond_true, cond_false, sub_nI, hs, callK_some, Option.toList_some, Option.toList_none, List.cons_append, List.nil_append, bX1_takeBack_33 (hP := hP), e1, bX1_takeBack_36 (hP := hP)]
  rw [if_neg (by omega), if_pos hkm]
end CHJ
