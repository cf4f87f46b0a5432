/-! the class: weights, a step done, states without likes -/
section HA
variable {I : Nat → Nat → Int32} {J : Nat → Nat → Int64} {pl st : Bool} {n : Nat} {th ce : Nat → Nat} {wr : Nat → Bool} {s P : Nat}
theorem stX_no {k : Nat} (hn : n ≤ k) (hk : k < 2147483648) : stX n (nI k) = false := by
  unfold stX
  have : nI n ≤ nI k := (nI_leI (by omega) hk).mpr hn
  rw [decide_eq_true this]
  simp
theorem cWe_loop (hP : P = 4 ∨ P = 7) : ∀ k (I : Nat → Nat → Int32), k ≤ 8 → RPx I P n th ce wr → ∃ I' : Nat → Nat → Int32, run mX4_weigh (10, 0, 0, [.ref 68, .ref P, .int (nI (wgF wr k (n - k))), .int (nI k + Int32.ofInt (-1))], [], cH I J pl st) = some (none, cH I' J pl st) ∧ (∀ p, p ≠ 73 → I' p = I p) ∧ (∀ s, s < k → I' 73 s = nI (wgN wr n s)) ∧ ∀ s, k ≤ s → I' 73 s = I 73 s := by
  intro k
  induction k with
  | zero =>
    intro I _ _
    refine ⟨I, ?_, fun _ _ => rfl, fun s hs => absurd hs (Nat.not_lt_zero s), fun _ _ => rfl⟩
    rw [bX4_weigh_10 (hP := hP), if_pos m1_lt]
  | succ k ih =>
    intro I hk h
    have hn := h.2.1
    have r1 : RPx (up2 I 73 k (nI (wgN wr n k))) P n th ce wr := by
      refine h.cong ?_ ?_ ?_ ?_ ?_
      · rw [up2_ne (by omega)]
      · rw [up2_ne (by omega)]
      · rw [up2_ne (by omega)]
      · exact up2_ne (by omega)
      · exact up2_ne (by omega)
    obtain ⟨I', e, o, w, w2⟩ := ih (up2 I 73 k (nI (wgN wr n k))) (by omega) r1
    refine ⟨I', ?_, fun p hp => by rw [o p hp, up2_ne hp], fun s hs => ?_, fun s hs => by rw [w2 s (by omega), up2_eq, up1_ne (by omega)]⟩
    · have e1 : wgF wr (k + 1) (n - (k + 1)) = wgN wr n k := rfl
      rw [e1, bX4_weigh_10 (hP := hP), m1_nI]
      simp (disch := omega) only [nI_lt', nI_le', nI_eq', inb_nI, clp, nI_add, nI_mul', cond_true, cond_false, callK_some, Option.toList_some, Option.toList_none, List.cons_append, List.nil_append, Nat.not_lt_zero, if_false, cSt hP r1, bX4_weigh_26 (hP := hP), ite_tI]
      by_cases hkn : k < n
      · have e2 : wgF wr k (n - k) = (bif wr k then 1 else 9) * wgN wr n k := by
          rw [show n - k = (n - (k + 1)) + 1 by omega]
          rfl
        rw [stX_nI hn hkn]
        simp (disch := omega) only [if_true, callK_some, Option.toList_some, Option.toList_none, List.cons_append, List.nil_append, cWr hP r1 hkn, bX4_weigh_34 (hP := hP), ite_tI]
        rw [e2] at e
        cases hw : wr k with
        | true =>
          rw [hw, cond_true, Nat.one_mul] at e
          simp only [if_true]
          exact e
        | false =>
          rw [hw, cond_false, Nat.mul_comm] at e
          simp only [Bool.false_eq_true, if_false, nI_mul']
          exact e
      · have e2 : wgF wr k (n - k) = wgN wr n k := by
          unfold wgN
          rw [show n - k = 0 by omega, show n - (k + 1) = 0 by omega]
          rfl
        rw [stX_no (by omega) (by omega)]
        simp only [Bool.false_eq_true, if_false]
        rw [e2] at e
        exact e
    · by_cases q : s = k
      · rw [q, w2 k (Nat.le_refl k), up2_eq, up1_eq]
      · exact w s (by omega)
theorem cWe (hP : P = 4 ∨ P = 7) (h : RPx I P n th ce wr) : ∃ I' : Nat → Nat → Int32, fX4_weigh [.ref 68, .ref P] (cH I J pl st) = some (none, cH I' J pl st) ∧ (∀ p, p ≠ 73 → I' p = I p) ∧ ∀ s, s < 8 → I' 73 s = nI (wgN wr n s) := by
  have hn := h.2.1
  obtain ⟨I', e, o, w, -⟩ := cWe_loop (J := J) (pl := pl) (st := st) hP 8 I (Nat.le_refl 8) h
  refine ⟨I', ?_, o, w⟩
  have e1 : wgF wr 8 (n - 8) = 1 := by rw [show n - 8 = 0 by omega]; rfl
  have e2 : nI 8 + Int32.ofInt (-1) = nI 8 - nI 1 := by decide
  rw [e1, e2] at e
  rw [eX4_weigh (hP := hP)]
  exact e
theorem cBe {g : Sg} (hP : P = 4 ∨ P = 7) (h : RPx I P n th ce wr) (hs : s < n) (hw : I 73 s = nI (wgN wr n s)) (hg : sgE g) : fX4_behind [.ref 68, .ref P, .long (lN (enc g)), .int (nI s)] (cH I J pl st) = some (some (.long (lN (enc (sgN ce wr n g s)))), cH I J pl st) := by
  have hn := h.2.1
  have hlt := enc_lt hg
  have hc := (h.2.2.1 s hs).2.2.2
  have hH := hg.2.1 _ hc
  have hwg := wgN_le (wr := wr) hn hs
  rw [eX4_behind (hP := hP)]
  have e1 : lN (enc g) ||| (1 <<< (Int32.toInt64 (nI s) &&& 63)) = lN (enc g ||| 2 ^ s) := by
    rw [l1, wb_shl 1 (show s < 64 by omega), fb_orL, Nat.one_mul]
  rw [e1]
  simp (disch := omega) only [callK_some, Option.toList_some, Option.toList_none, List.cons_append, List.nil_append, nI_lt', nI_le', nI_eq', inb_nI, clp, nI_add, nI_mul', cond_true, cond_false, cCe hP h hs, bX4_behind_17 (hP := hP), cWr hP h hs, bX4_behind_27 (hP := hP), ite_tI, hw, Nat.not_lt_zero, if_false]
  rw [if_neg (show ¬ 8 ≤ s by omega)]
  cases hws : wr s with
  | true =>
    simp only [if_true]
    rw [← enc_wr (n := n) hg (by omega) hc hws, l15, wb_shl 15 (by omega), m1_lN, fb_xorL, fb_andL, nI_l (by omega), wb_shl (s + 1) (by omega), fb_orL]
  | false =>
    simp only [Bool.false_eq_true, if_false]
    rw [← enc_rd (n := n) (ce := ce) hg (by omega) hws, wb_shr (by omega) (by omega), l15, show lN 15 = lN (2 ^ 4 - 1) from rfl, wb_mask (Nat.lt_of_le_of_lt (Nat.div_le_self _ _) (by omega)) (by decide), nI_l (by omega), lN_mul, wb_shl _ (by decide), lN_add]
    have := enc_H hg hc
    rw [show (2 : Nat) ^ 4 = 16 from rfl, this]
/-- the slot where a state is looked for first -/
def hN (x : Int64) : Nat := (x * (-7046029254386353131)).toBitVec.toNat / 2 ^ 54
theorem lN_self (y : Int64) : y = lN y.toBitVec.toNat := wb_inj (by rw [wb_tb]; simp)
theorem hN_lt (x : Int64) : hN x < 1024 := by
  unfold hN
  have := (x * (-7046029254386353131)).toBitVec.isLt
  omega
theorem hN_I (x : Int64) : Int64.toInt32 ((Int64.toUInt64 (x * (-7046029254386353131)) >>> ((Int32.toInt64 (nI 54)).toUInt64 &&& Int64.toUInt64 63)).toInt64) = nI (hN x) := by
  unfold hN
  have hl := (x * (-7046029254386353131)).toBitVec.isLt
  have e := lN_self (x * (-7046029254386353131))
  generalize (x * (-7046029254386353131)).toBitVec.toNat = y at e hl
  rw [e, wb_shr (by omega) (by decide), lN_i]
theorem lg0 (x y : Int64) : (lg_cmp x y = nI 0) = (x = y) := by
  apply propext
  unfold lg_cmp
  by_cases h : x = y
  · subst h
    have : ¬ x > x := Int64.lt_irrefl
    rw [if_neg this, if_pos rfl]
    exact ⟨fun _ => rfl, fun _ => rfl⟩
  · constructor
    · intro q
      split at q
      · exact absurd q (by decide)
      · exact absurd q (by decide)
    · intro q; exact absurd q h
theorem pigeon : ∀ c m (f : Nat → Nat), (∀ j, j < m → f j < c) → (∀ j j', j < m → j' < m → f j = f j' → j = j') → m ≤ c := by
  intro c
  induction c with
  | zero =>
    intro m f h1 _
    cases m with
    | zero => exact Nat.le_refl 0
    | succ m => exact absurd (h1 0 (by omega)) (Nat.not_lt_zero _)
  | succ c ih =>
    intro m f h1 h2
    cases m with
    | zero => exact Nat.zero_le _
    | succ m =>
      have : m ≤ c := by
        refine ih m (fun j => if f m < f j then f j - 1 else f j) (fun j hj => ?_) (fun j j' hj hj' e => ?_)
        · show (if f m < f j then f j - 1 else f j) < c
          have a := h1 j (by omega)
          have b := h1 m (by omega)
          have d : f j ≠ f m := fun q => by have := h2 j m (by omega) (by omega) q; omega
          split <;> omega
        · have d : f j ≠ f m := fun q => by have := h2 j m (by omega) (by omega) q; omega
          have d' : f j' ≠ f m := fun q => by have := h2 j' m (by omega) (by omega) q; omega
          apply h2 j j' (by omega) (by omega)
          have e' : (if f m < f j then f j - 1 else f j) = (if f m < f j' then f j' - 1 else f j') := e
          split at e' <;> split at e' <;> omega
      omega
/-- states in their slots -/
def HT (I : Nat → Nat → Int32) (J : Nat → Nat → Int64) (st : Bool) (c : Nat) (xs : Nat → Int64) (sl : Nat → Nat) : Prop :=
  I 68 6 = nI c ∧ c ≤ 512 ∧ (∀ j, j < 1024 → I 71 j = nI (sl j) ∧ sl j ≤ c) ∧ (∀ j j', j < 1024 → j' < 1024 → sl j = sl j' → sl j ≠ 0 → j = j') ∧ (∀ i, i < c → J (stA (!st)) i = xs i) ∧ (∀ i, i < c → ∃ t, t < 1024 ∧ sl ((hN (xs i) + t) % 1024) = i + 1 ∧ ∀ t', t' < t → sl ((hN (xs i) + t') % 1024) ≠ 0) ∧ ∀ i i', i < c → i' < c → xs i = xs i' → i = i'
theorem hmsk {a : Nat} : nI a &&& nI 1023 = nI (a % 1024) := fa_mask a 10
theorem cAN_old {c : Nat} {xs : Nat → Int64} {sl : Nat → Nat} (h : HT I J st c xs sl) {i : Nat} (hi : i < c) {t : Nat} (ht : t < 1024) (h1 : sl ((hN (xs i) + t) % 1024) = i + 1) (h2 : ∀ t', t' < t → sl ((hN (xs i) + t') % 1024) ≠ 0) : ∀ d t0 (z5 z6 : Value), t0 + d = t → run mX4_addNext (13, 0, 0, [.ref 68, .long (xs i), .null, .int (nI (hN (xs i))), .int (nI t0), z5, z6], [], cH I J pl st) = some (none, cH I J pl st) := by
  obtain ⟨a1, a2, a3, a4, a5, a6, a7⟩ := h
  have hh := hN_lt (xs i)
  intro d
  induction d with
  | zero =>
    intro t0 z5 z6 e
    have : t0 = t := by omega
    subst this
    rw [bX4_addNext_13]
    have b := (a3 ((hN (xs i) + t0) % 1024) (by omega)).1
    rw [h1] at b
    simp (disch := omega) only [nI_lt', nI_le', nI_eq', inb_nI, clp, nI_add, nI_mul', cond_true, cond_false, hmsk, b, sub1_nI, Nat.add_sub_cancel, Nat.not_lt_zero, if_false, a5 i hi, lg0]
    rw [if_neg (by omega), if_pos (by omega), if_pos trivial]
  | succ d ih =>
    intro t0 z5 z6 e
    rw [bX4_addNext_13]
    obtain ⟨b, b2⟩ := a3 ((hN (xs i) + t0) % 1024) (by omega)
    have hne := h2 t0 (by omega)
    generalize hq : sl ((hN (xs i) + t0) % 1024) = q at b b2 hne
    simp (disch := omega) only [nI_lt', nI_le', nI_eq', inb_nI, clp, nI_add, nI_mul', cond_true, cond_false, hmsk, b, sub1_nI, Nat.not_lt_zero, if_false, a5 (q - 1) (by omega), lg0]
    rw [if_neg (by omega), if_pos (by omega)]
    split
    · rfl
    · exact ih (t0 + 1) _ _ (by omega)
theorem cAN_new {c : Nat} {xs : Nat → Int64} {sl : Nat → Nat} (h : HT I J st c xs sl) (hc : c < 512) {x : Int64} (hx : ∀ i, i < c → xs i ≠ x) : ∀ d t0 (z5 z6 : Value), t0 + d = 1024 → (∀ t', t' < t0 → sl ((hN x + t') % 1024) ≠ 0) → ∃ t, t < 1024 ∧ sl ((hN x + t) % 1024) = 0 ∧ (∀ t', t' < t → sl ((hN x + t') % 1024) ≠ 0) ∧ run mX4_addNext (13, 0, 0, [.ref 68, .long x, .null, .int (nI (hN x)), .int (nI t0), z5, z6], [], cH I J pl st) = some (none, cH (up2 (up2 I 68 6 (nI (c + 1))) 71 ((hN x + t) % 1024) (nI (c + 1))) (up2 J (stA (!st)) c x) pl st) := by
  obtain ⟨a1, a2, a3, a4, a5, a6, a7⟩ := h
  have hh := hN_lt x
  intro d
  induction d with
  | zero =>
    intro t0 z5 z6 e hall
    exfalso
    have := pigeon c 1024 (fun j => sl ((hN x + j) % 1024) - 1) (fun j hj => by
      show sl ((hN x + j) % 1024) - 1 < c
      have u1 := (a3 ((hN x + j) % 1024) (by omega)).2
      have u2 := hall j (by omega)
      omega) (fun j j' hj hj' q => by
      have q' : sl ((hN x + j) % 1024) - 1 = sl ((hN x + j') % 1024) - 1 := q
      have u1 := hall j (by omega)
      have u2 := hall j' (by omega)
      have := a4 ((hN x + j) % 1024) ((hN x + j') % 1024) (by omega) (by omega) (by omega) u1
      omega)
    omega
  | succ d ih =>
    intro t0 z5 z6 e hall
    obtain ⟨b, b2⟩ := a3 ((hN x + t0) % 1024) (by omega)
    by_cases hq : sl ((hN x + t0) % 1024) = 0
    · refine ⟨t0, by omega, hq, hall, ?_⟩
      rw [hq] at b
      have hm : nI 0 - nI 1 < nI 0 := by decide
      rw [bX4_addNext_13]
      simp (disch := omega) only [nI_lt', nI_le', nI_eq', inb_nI, clp, nI_add, nI_mul', cond_true, cond_false, hmsk, b, if_pos hm, eX4_putNext, a1, Nat.not_lt_zero, if_false]
      rw [if_neg (by omega), if_neg (by omega), if_neg (by omega)]
      simp (disch := omega) only [callK_some, Option.toList_some, Option.toList_none, List.cons_append, List.nil_append, bX4_addNext_64]
    · obtain ⟨t, t1, t2, t3, t4⟩ := ih (t0 + 1) (.int (nI ((hN x + t0) % 1024))) (.int (nI (sl ((hN x + t0) % 1024) - 1))) (by omega) (fun t' ht' => by
        by_cases w : t' = t0
        · rw [w]; exact hq
        · exact hall t' (by omega))
      refine ⟨t, t1, t2, t3, ?_⟩
      have hxi := hx (sl ((hN x + t0) % 1024) - 1) (by omega)
      rw [bX4_addNext_13]
      generalize sl ((hN x + t0) % 1024) = q at b b2 hq t4 hxi
      simp (disch := omega) only [nI_lt', nI_le', nI_eq', inb_nI, clp, nI_add, nI_mul', cond_true, cond_false, hmsk, b, sub1_nI, Nat.not_lt_zero, if_false, a5 (q - 1) (by omega), lg0, if_neg hxi]
      rw [if_neg (by omega), if_pos (by omega)]
      exact t4
theorem stA_ne : ∀ b, stA (!b) ≠ stA b := by decide
theorem cAN {c : Nat} {xs : Nat → Int64} {sl : Nat → Nat} (h : HT I J st c xs sl) (x : Int64) (hroom : (∀ i, i < c → xs i ≠ x) → c < 512) : ∃ (I' : Nat → Nat → Int32) (J' : Nat → Nat → Int64) (c' : Nat) (xs' : Nat → Int64) (sl' : Nat → Nat), fX4_addNext [.ref 68, .long x] (cH I J pl st) = some (none, cH I' J' pl st) ∧ HT I' J' st c' xs' sl' ∧ (∀ y, (∃ i, i < c' ∧ xs' i = y) ↔ (∃ i, i < c ∧ xs i = y) ∨ y = x) ∧ (∀ p, p ≠ 68 → p ≠ 71 → I' p = I p) ∧ (∀ k, k ≠ 6 → I' 68 k = I 68 k) ∧ (∀ p, p ≠ stA (!st) → J' p = J p) := by
  by_cases hx : ∃ i, i < c ∧ xs i = x
  · obtain ⟨i, hi, rfl⟩ := hx
    obtain ⟨t, t1, t2, t3⟩ := h.2.2.2.2.2.1 i hi
    refine ⟨I, J, c, xs, sl, ?_, h, fun y => ⟨Or.inl, fun q => ?_⟩, fun _ _ _ => rfl, fun _ _ => rfl, fun _ _ => rfl⟩
    · rw [eX4_addNext, hN_I]
      exact cAN_old h hi t1 t2 t3 t 0 _ _ (by omega)
    · rcases q with q | q
      · exact q
      · exact ⟨i, hi, q.symm⟩
  · have hx' : ∀ i, i < c → xs i ≠ x := fun i hi q => hx ⟨i, hi, q⟩
    have hc := hroom hx'
    obtain ⟨t, t1, t2, t3, e⟩ := cAN_new (pl := pl) h hc hx' 1024 0 .null .null (by omega) (fun t' ht' => absurd ht' (Nat.not_lt_zero t'))
    obtain ⟨a1, a2, a3, a4, a5, a6, a7⟩ := h
    have hp : (hN x + t) % 1024 < 1024 := Nat.mod_lt _ (by decide)
    refine ⟨_, _, c + 1, up1 xs c x, up1 sl ((hN x + t) % 1024) (c + 1), by rw [eX4_addNext, hN_I]; exact e, ⟨?_, by omega, fun j hj => ?_, fun j j' hj hj' q w => ?_, fun i hi => ?_, fun i hi => ?_, fun i i' hi hi' q => ?_⟩, fun y => ?_, fun p p1 p2 => by rw [up2_ne p2, up2_ne p1], fun k hk => by rw [up2_ne (by decide), up2_eq, up1_ne hk], fun p hp => up2_ne hp⟩
    · rw [up2_ne (by decide), up2_eq, up1_eq]
    · rw [up2_eq, up2_ne (by decide)]
      by_cases w : j = (hN x + t) % 1024
      · rw [w, up1_eq, up1_eq]; exact ⟨rfl, Nat.le_refl _⟩
      · rw [up1_ne w, up1_ne w]; exact ⟨(a3 j hj).1, by have := (a3 j hj).2; omega⟩
    · by_cases w1 : j = (hN x + t) % 1024
      · by_cases w2 : j' = (hN x + t) % 1024
        · omega
        · rw [w1, up1_eq, up1_ne w2] at q
          have := (a3 j' hj').2
          omega
      · rw [up1_ne w1] at q w
        by_cases w2 : j' = (hN x + t) % 1024
        · rw [w2, up1_eq] at q
          have := (a3 j hj).2
          omega
        · rw [up1_ne w2] at q
          exact a4 j j' hj hj' q w
    · rw [up2_eq]
      by_cases w : i = c
      · rw [w, up1_eq, up1_eq]
      · rw [up1_ne w, up1_ne w]; exact a5 i (by omega)
    · by_cases w : i = c
      · subst w
        rw [up1_eq]
        refine ⟨t, t1, by rw [up1_eq], fun t' ht' => ?_⟩
        by_cases w2 : (hN x + t') % 1024 = (hN x + t) % 1024
        · rw [w2, up1_eq]; omega
        · rw [up1_ne w2]; exact t3 t' ht'
      · rw [up1_ne w]
        obtain ⟨u, u1, u2, u3⟩ := a6 i (by omega)
        refine ⟨u, u1, ?_, fun t' ht' => ?_⟩
        · rw [up1_ne]
          · exact u2
          · intro q; rw [q, t2] at u2; omega
        · by_cases w2 : (hN (xs i) + t') % 1024 = (hN x + t) % 1024
          · rw [w2, up1_eq]; omega
          · rw [up1_ne w2]; exact u3 t' ht'
    · by_cases w1 : i = c
      · by_cases w2 : i' = c
        · omega
        · rw [w1, up1_eq, up1_ne w2] at q
          exact absurd q.symm (hx' i' (by omega))
      · rw [up1_ne w1] at q
        by_cases w2 : i' = c
        · rw [w2, up1_eq] at q
          exact absurd q (hx' i (by omega))
        · rw [up1_ne w2] at q
          exact a7 i i' (by omega) (by omega) q
    · constructor
      · rintro ⟨i, i1, i2⟩
        by_cases w : i = c
        · rw [w, up1_eq] at i2; exact Or.inr i2.symm
        · rw [up1_ne w] at i2; exact Or.inl ⟨i, by omega, i2⟩
      · rintro (⟨i, i1, i2⟩ | rfl)
        · exact ⟨i, by omega, by rw [up1_ne (by omega)]; exact i2⟩
        · exact ⟨c, by omega, by rw [up1_eq]⟩
end HA
