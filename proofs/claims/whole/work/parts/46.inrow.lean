/-! what is in a row -/
def inR (A : Nat → Int32) (x : Int32) : Nat → Bool
  | 0 => false
  | k + 1 => inR A x k || decide (A k = x)
theorem inR_iff {A : Nat → Int32} {x : Int32} : ∀ {m}, inR A x m = true ↔ ∃ i, i < m ∧ A i = x := by
  intro m
  induction m with
  | zero =>
    constructor
    · intro h; cases h
    · rintro ⟨i, h, -⟩; exact absurd h (Nat.not_lt_zero i)
  | succ m ih =>
    show (inR A x m || decide (A m = x)) = true ↔ _
    rw [Bool.or_eq_true, ih, decide_eq_true_eq]
    constructor
    · rintro (⟨i, h1, h2⟩ | h)
      · exact ⟨i, by omega, h2⟩
      · exact ⟨m, by omega, h⟩
    · rintro ⟨i, h1, h2⟩
      by_cases e : i = m
      · subst e; exact Or.inr h2
      · exact Or.inl ⟨i, by omega, h2⟩
theorem inR_cong {A A' : Nat → Int32} {x : Int32} : ∀ {m}, (∀ i, i < m → A i = A' i) → inR A x m = inR A' x m := by
  intro m
  induction m with
  | zero => intro _; rfl
  | succ m ih =>
    intro h
    show (inR A x m || decide (A m = x)) = (inR A' x m || decide (A' m = x))
    rw [ih (fun i hi => h i (by omega)), h m (by omega)]
theorem inR_mono {A : Nat → Int32} {x : Int32} {k m : Nat} (hkm : k ≤ m) (h : inR A x k = true) : inR A x m = true := by
  obtain ⟨i, h1, h2⟩ := inR_iff.mp h
  exact inR_iff.mpr ⟨i, by omega, h2⟩
theorem SR_in {A : Nat → Int32} {m : Nat} {S : Nat → Prop} (h : SR A m S) {v : Nat} (hv : v < 2147483648) : inR A (nI v) m = true ↔ S v := by
  obtain ⟨f, a1, a2, a3⟩ := h
  rw [inR_iff, a3]
  constructor
  · rintro ⟨i, h1, h2⟩
    refine ⟨i, h1, ?_⟩
    rw [(a1 i h1).1, nI_eq' (a1 i h1).2 hv] at h2
    exact h2
  · rintro ⟨i, h1, h2⟩
    exact ⟨i, h1, by rw [(a1 i h1).1, h2]⟩
/-- the i-th that is not in another -/
def stF (A : Nat → Int32) (q : Int32 → Bool) : Nat → Nat → Nat → Int32
  | _, 0, _ => Int32.ofInt (-1)
  | k, d + 1, i => bif q (A k) then stF A q (k + 1) d i else (if i = 0 then A k else stF A q (k + 1) d (i - 1))
theorem stF_cong {A A' : Nat → Int32} {q q' : Int32 → Bool} : ∀ {d k i m}, k + d = m → (∀ i, i < m → A i = A' i) → (∀ i, i < m → q (A i) = q' (A i)) → stF A q k d i = stF A' q' k d i := by
  intro d
  induction d with
  | zero => intro k i m _ _ _; rfl
  | succ d ih =>
    intro k i m hk hA hq
    show (bif q (A k) then stF A q (k + 1) d i else (if i = 0 then A k else stF A q (k + 1) d (i - 1))) = (bif q' (A' k) then stF A' q' (k + 1) d i else (if i = 0 then A' k else stF A' q' (k + 1) d (i - 1)))
    rw [ih (by omega) hA hq, ih (by omega) hA hq, hq k (by omega), hA k (by omega)]
/-- how many are not in another -/
def cwN (A : Nat → Int32) (q : Int32 → Bool) : Nat → Nat
  | 0 => 0
  | k + 1 => cwN A q k + (bif q (A k) then 0 else 1)
theorem cwN_le (A : Nat → Int32) (q : Int32 → Bool) : ∀ k, cwN A q k ≤ k := by
  intro k
  induction k with
  | zero => exact Nat.le_refl 0
  | succ k ih =>
    show cwN A q k + (bif q (A k) then 0 else 1) ≤ k + 1
    cases q (A k)
    · show _ + 1 ≤ _; omega
    · show _ + 0 ≤ _; omega
/-- the part of a row that is in a smaller set -/
theorem SR_part {A : Nat → Int32} {S' : Nat → Prop} {q : Int32 → Bool} {f : Nat → Nat} {m : Nat} (a1 : ∀ i, i < m → A i = nI (f i) ∧ f i < 2147483648) (a2 : ∀ i j, i < j → j < m → f i < f j) (hq : ∀ i, i < m → (q (A i) = true ↔ S' (f i))) : ∀ k, k ≤ m → ∃ h : Nat → Nat, (∀ i, i < k - cwN A q k → h i < 2147483648 ∧ ∃ j, j < k ∧ h i = f j) ∧ (∀ i j, i < j → j < k - cwN A q k → h i < h j) ∧ ∀ v, (∃ i, i < k ∧ f i = v ∧ S' v) ↔ ∃ i, i < k - cwN A q k ∧ h i = v := by
  intro k
  induction k with
  | zero =>
    intro _
    refine ⟨fun _ => 0, fun i h => absurd h (by omega), fun i j _ h => absurd h (by omega), fun v => ?_⟩
    constructor
    · rintro ⟨i, h, -⟩; exact absurd h (Nat.not_lt_zero i)
    · rintro ⟨i, h, -⟩; exact absurd h (by omega)
  | succ k ih =>
    intro hk
    obtain ⟨h, h1, h2, h3⟩ := ih (by omega)
    have hle := cwN_le A q k
    have e : cwN A q (k + 1) = cwN A q k + (bif q (A k) then 0 else 1) := rfl
    cases hqk : q (A k) with
    | false =>
      rw [hqk] at e
      have e2 : k + 1 - cwN A q (k + 1) = k - cwN A q k := by rw [e]; show k + 1 - (cwN A q k + 1) = _; omega
      rw [e2]
      refine ⟨h, fun i hi => ⟨(h1 i hi).1, ?_⟩, h2, fun v => ?_⟩
      · obtain ⟨j, j1, j2⟩ := (h1 i hi).2; exact ⟨j, by omega, j2⟩
      · rw [← h3 v]
        constructor
        · rintro ⟨i, i1, i2, i3⟩
          by_cases w : i = k
          · subst w
            have := (hq i (by omega)).mpr (by rw [i2]; exact i3)
            rw [hqk] at this; cases this
          · exact ⟨i, by omega, i2, i3⟩
        · rintro ⟨i, i1, i2⟩; exact ⟨i, by omega, i2⟩
    | true =>
      rw [hqk] at e
      have e2 : k + 1 - cwN A q (k + 1) = k - cwN A q k + 1 := by rw [e]; show k + 1 - (cwN A q k + 0) = _; omega
      rw [e2]
      refine ⟨up1 h (k - cwN A q k) (f k), fun i hi => ?_, fun i j hij hj => ?_, fun v => ?_⟩
      · by_cases w : i = k - cwN A q k
        · rw [w, up1_eq]; exact ⟨(a1 k (by omega)).2, k, by omega, rfl⟩
        · rw [up1_ne w]
          obtain ⟨g1, j, j1, j2⟩ := h1 i (by omega)
          exact ⟨g1, j, by omega, j2⟩
      · rw [up1_ne (show i ≠ k - cwN A q k by omega)]
        by_cases w : j = k - cwN A q k
        · rw [w, up1_eq]
          obtain ⟨g1, j', j1, j2⟩ := h1 i (by omega)
          rw [j2]; exact a2 j' k j1 (by omega)
        · rw [up1_ne w]; exact h2 i j hij (by omega)
      · constructor
        · rintro ⟨i, i1, i2, i3⟩
          by_cases w : i = k
          · subst w; exact ⟨i - cwN A q i, by omega, by rw [up1_eq]; exact i2⟩
          · obtain ⟨j, j1, j2⟩ := (h3 v).mp ⟨i, by omega, i2, i3⟩
            exact ⟨j, by omega, by rw [up1_ne (by omega)]; exact j2⟩
        · rintro ⟨i, i1, i2⟩
          by_cases w : i = k - cwN A q k
          · rw [w, up1_eq] at i2
            exact ⟨k, by omega, i2, by rw [← i2]; exact (hq k (by omega)).mp hqk⟩
          · rw [up1_ne w] at i2
            obtain ⟨j, j1, j2⟩ := (h3 v).mpr ⟨i, by omega, i2⟩
            exact ⟨j, by omega, j2⟩
theorem SR_cw {A A' : Nat → Int32} {m m' : Nat} {S S' : Nat → Prop} (h : SR A m S) (h' : SR A' m' S') (hS : ∀ v, S' v → S v) : m' ≤ m ∧ cwN A (fun x => inR A' x m') m = m - m' := by
  have hin := fun v hv => SR_in h' (v := v) hv
  obtain ⟨f, a1, a2, a3⟩ := h
  obtain ⟨g, h1, h2, h3⟩ := SR_part (q := fun x => inR A' x m') a1 a2 (S' := S') (fun i hi => by
    show inR A' (A i) m' = true ↔ S' (f i)
    rw [(a1 i hi).1]; exact hin _ (a1 i hi).2) m (Nat.le_refl m)
  have hle := cwN_le A (fun x => inR A' x m') m
  have e := SR_one (A := fun i => nI (g i)) (m := m - cwN A (fun x => inR A' x m') m) (S := S') ⟨g, fun i hi => ⟨rfl, (h1 i hi).1⟩, h2, fun v => by
    rw [← h3 v]
    constructor
    · intro hv
      obtain ⟨i, i1, i2⟩ := (a3 v).mp (hS v hv)
      exact ⟨i, i1, i2, hv⟩
    · rintro ⟨i, i1, i2, i3⟩; exact i3⟩ h'
  omega
section IR
variable {I : Nat → Nat → Int32} {J : Nat → Nat → Int64} {pl st : Bool} {P m v : Nat} {f : Nat → Nat}
theorem mIn_loop (hP : P = 5 ∨ P = 6) (hm : m ≤ 1024) {x : Int32} : ∀ d k, k + d = m → run mX12_isIn (5, 0, 0, [.ref P, .int (nI m), .int x, .int (tI (inR (I P) x k)), .int (nI k)], [], mH I J) = some (some (.int (tI (inR (I P) x m))), mH I J) := by
  intro d
  induction d with
  | zero =>
    intro k hk
    have : k = m := by omega
    subst this
    rw [bX12_isIn_5 (hP := hP)]
    simp (disch := omega) only [nI_lt', nI_le', nI_eq', inb_nI, clp, nI_add, nI_mul', cond_true, cond_false, tI_B, Nat.le_refl, if_true]
  | succ d ih =>
    intro k hk
    have ih' := ih (k + 1) (by omega)
    have e : inR (I P) x (k + 1) = (inR (I P) x k || decide (I P k = x)) := rfl
    rw [bX12_isIn_5 (hP := hP)]
    simp (disch := omega) only [nI_lt', nI_le', nI_eq', inb_nI, clp, nI_add, nI_mul', cond_true, cond_false, tI_B, ite_tI]
    rw [if_neg (by omega)]
    cases hq : inR (I P) x k with
    | true => rw [inR_mono (show k ≤ m by omega) hq]; rfl
    | false =>
      rw [hq] at e
      simp only [Bool.false_eq_true, if_false]
      by_cases w : I P k = x
      · rw [e, decide_eq_true w] at ih'
        rw [if_pos w]; exact ih'
      · rw [e, decide_eq_false w] at ih'
        rw [if_neg w]; exact ih'
theorem mIn (hP : P = 5 ∨ P = 6) (hm : m ≤ 1024) (x : Int32) : fX12_isIn [.ref P, .int (nI m), .int x] (mH I J) = some (some (.int (tI (inR (I P) x m))), mH I J) := by
  rw [eX12_isIn (hP := hP)]
  exact mIn_loop hP hm m 0 (by omega)
theorem cHo {S : Nat → Prop} (hP : P = 74 ∨ P = 76) (hm : m ≤ 256) (h0 : I P 1 = nI m) (h : SR (I (P + 1)) m S) (x : Int32) : fX7_holds [.ref P, .int x] (cH I J pl st) = some (some (.int (tI (inR (I (P + 1)) x m))), cH I J pl st) := by
  obtain ⟨f, a1, a2, a3⟩ := h
  rw [eX7_holds (hP := hP)]
  by_cases hx : x < nI 0
  · rw [if_pos hx]
    have : inR (I (P + 1)) x m = false := by
      cases hq : inR (I (P + 1)) x m
      · rfl
      · obtain ⟨i, h1, h2⟩ := inR_iff.mp hq
        rw [(a1 i h1).1] at h2
        rw [← h2] at hx
        exact absurd hx (nI_pos (a1 i h1).2)
    rw [this]; rfl
  · rw [if_neg hx]
    obtain ⟨v, hv, rfl⟩ := nI_of hx
    have hv' : v < 2147483648 := by omega
    obtain ⟨p, hp, e⟩ := cPo (J := J) (pl := pl) (st := st) hP hm h0 hv' a1 a2
    have hpm := hp.1
    simp (disch := omega) only [callK_some, Option.toList_some, Option.toList_none, List.cons_append, List.nil_append, e, bX7_holds_10 (hP := hP), cAt hP hm h0, bX7_holds_13 (hP := hP)]
    cases hq : inR (I (P + 1)) (nI v) m with
    | true =>
      obtain ⟨i, h1, h2⟩ := inR_iff.mp hq
      rw [(a1 i h1).1, nI_eq' (a1 i h1).2 hv'] at h2
      have hpi : p = i := by
        rcases Nat.lt_trichotomy i p with w | w | w
        · have := hp.2.1 i w; omega
        · exact w.symm
        · have w1 := hp.2.2 p (Nat.le_refl p) (by omega)
          have w2 := a2 p i w h1
          omega
      subst hpi
      rw [if_pos h1, (a1 p h1).1, h2, if_pos rfl]; rfl
    | false =>
      rw [if_neg]
      · rfl
      · intro w
        by_cases w2 : p < m
        · rw [if_pos w2] at w
          have := inR_iff.mpr ⟨p, w2, w⟩
          rw [hq] at this; cases this
        · rw [if_neg w2] at w; exact m1_nn hv' w
theorem cCw_loop {m' : Nat} {S S' : Nat → Prop} (hm : m ≤ 256) (h0 : I 74 1 = nI m) (hm' : m' ≤ 256) (h0' : I 76 1 = nI m') (h' : SR (I 77) m' S') : ∀ d k, k + d = m → run mX7_countWithout (4, 0, 0, [.ref 74, .ref 76, .int (nI (cwN (I 75) (fun x => inR (I 77) x m') k)), .int (nI k)], [], cH I J pl st) = some (some (.int (nI (cwN (I 75) (fun x => inR (I 77) x m') m))), cH I J pl st) := by
  intro d
  induction d with
  | zero =>
    intro k hk
    have : k = m := by omega
    subst this
    rw [bX7_countWithout_4, h0]
    simp (disch := omega) only [nI_lt', nI_le', nI_eq', inb_nI, clp, nI_add, nI_mul', cond_true, cond_false, Nat.le_refl, if_true]
  | succ d ih =>
    intro k hk
    have ih' := ih (k + 1) (by omega)
    have hkm : k < m := by omega
    have e : cwN (I 75) (fun x => inR (I 77) x m') (k + 1) = cwN (I 75) (fun x => inR (I 77) x m') k + (bif inR (I 77) (I 75 k) m' then 0 else 1) := rfl
    have hat := cAt (J := J) (pl := pl) (st := st) (P := 74) (Or.inl rfl) hm h0 (i := k) (by omega)
    rw [if_pos hkm] at hat
    have hho := cHo (J := J) (pl := pl) (st := st) (P := 76) (Or.inr rfl) hm' h0' h' (I 75 k)
    rw [bX7_countWithout_4, h0]
    simp (disch := omega) only [nI_lt', nI_le', nI_eq', inb_nI, clp, nI_add, nI_mul', cond_true, cond_false, callK_some, Option.toList_some, Option.toList_none, List.cons_append, List.nil_append, hat, bX7_countWithout_18, hho, bX7_countWithout_21, ite_tI]
    rw [if_neg (by omega)]
    cases hq : inR (I 77) (I 75 k) m' with
    | true =>
      rw [hq] at e
      rw [e] at ih'
      simp only [if_true]
      exact ih'
    | false =>
      rw [hq] at e
      rw [e] at ih'
      simp only [Bool.false_eq_true, if_false]
      exact ih'
theorem cCwo {m' : Nat} {S' : Nat → Prop} (hm : m ≤ 256) (h0 : I 74 1 = nI m) (hm' : m' ≤ 256) (h0' : I 76 1 = nI m') (h' : SR (I 77) m' S') : fX7_countWithout [.ref 74, .ref 76] (cH I J pl st) = some (some (.int (nI (cwN (I 75) (fun x => inR (I 77) x m') m))), cH I J pl st) := by
  rw [eX7_countWithout]
  exact cCw_loop (S := S') hm h0 hm' h0' h' m 0 (by omega)
theorem cAw_loop {m' : Nat} {S' : Nat → Prop} (hm : m ≤ 256) (h0 : I 74 1 = nI m) (hm' : m' ≤ 256) (h0' : I 76 1 = nI m') (h' : SR (I 77) m' S') {i : Nat} (hi : i < 2147483648) : ∀ d k l, k + d = m → l ≤ i → l ≤ k → run mX7_atWithout (5, 0, 0, [.ref 74, .int (nI i), .ref 76, .int (nI l), .int (nI k)], [], cH I J pl st) = some (some (.int (stF (I 75) (fun x => inR (I 77) x m') k d (i - l))), cH I J pl st) := by
  intro d
  induction d with
  | zero =>
    intro k l hk hl hlk
    have : k = m := by omega
    subst this
    rw [bX7_atWithout_5, h0]
    simp (disch := omega) only [nI_lt', nI_le', nI_eq', inb_nI, clp, nI_add, nI_mul', cond_true, cond_false, Nat.le_refl, if_true]
    rfl
  | succ d ih =>
    intro k l hk hl hlk
    have hkm : k < m := by omega
    have hat := cAt (J := J) (pl := pl) (st := st) (P := 74) (Or.inl rfl) hm h0 (i := k) (by omega)
    rw [if_pos hkm] at hat
    have hho := cHo (J := J) (pl := pl) (st := st) (P := 76) (Or.inr rfl) hm' h0' h' (I 75 k)
    rw [bX7_atWithout_5, h0]
    simp (disch := omega) only [nI_lt', nI_le', nI_eq', inb_nI, clp, nI_add, nI_mul', cond_true, cond_false, callK_some, Option.toList_some, Option.toList_none, List.cons_append, List.nil_append, hat, bX7_atWithout_21, hho, bX7_atWithout_24, ite_tI, bX7_atWithout_38]
    rw [if_neg (by omega)]
    show _ = some (some (Value.int (bif inR (I 77) (I 75 k) m' then stF (I 75) (fun x => inR (I 77) x m') (k + 1) d (i - l) else (if i - l = 0 then I 75 k else stF (I 75) (fun x => inR (I 77) x m') (k + 1) d (i - l - 1)))), _)
    cases hq : inR (I 77) (I 75 k) m' with
    | true =>
      simp only [if_true, cond_true]
      exact ih (k + 1) l (by omega) hl (by omega)
    | false =>
      simp only [Bool.false_eq_true, if_false, cond_false]
      by_cases w : l = i
      · rw [if_pos w, if_pos (by omega)]
      · rw [if_neg w, if_neg (by omega), show i - l - 1 = i - (l + 1) by omega]
        exact ih (k + 1) (l + 1) (by omega) (by omega) (by omega)
theorem cAw_neg {m' : Nat} {S' : Nat → Prop} (hm : m ≤ 256) (h0 : I 74 1 = nI m) (hm' : m' ≤ 256) (h0' : I 76 1 = nI m') (h' : SR (I 77) m' S') {x : Int32} (hx : x < nI 0) : ∀ d k l, k + d = m → l ≤ k → run mX7_atWithout (5, 0, 0, [.ref 74, .int x, .ref 76, .int (nI l), .int (nI k)], [], cH I J pl st) = some (some (.int (Int32.ofInt (-1))), cH I J pl st) := by
  intro d
  induction d with
  | zero =>
    intro k l hk hlk
    have : k = m := by omega
    subst this
    rw [bX7_atWithout_5, h0]
    simp (disch := omega) only [nI_lt', nI_le', nI_eq', inb_nI, clp, nI_add, nI_mul', cond_true, cond_false, Nat.le_refl, if_true]
  | succ d ih =>
    intro k l hk hlk
    have hkm : k < m := by omega
    have hat := cAt (J := J) (pl := pl) (st := st) (P := 74) (Or.inl rfl) hm h0 (i := k) (by omega)
    rw [if_pos hkm] at hat
    have hho := cHo (J := J) (pl := pl) (st := st) (P := 76) (Or.inr rfl) hm' h0' h' (I 75 k)
    have hne : ¬ nI l = x := by
      intro w
      rw [← w] at hx
      exact nI_pos (show l < 2147483648 by omega) hx
    rw [bX7_atWithout_5, h0]
    simp (disch := omega) only [nI_lt', nI_le', nI_eq', inb_nI, clp, nI_add, nI_mul', cond_true, cond_false, callK_some, Option.toList_some, Option.toList_none, List.cons_append, List.nil_append, hat, bX7_atWithout_21, hho, bX7_atWithout_24, ite_tI, bX7_atWithout_38, if_neg hne]
    rw [if_neg (by omega)]
    split
    · exact ih (k + 1) l (by omega) (by omega)
    · exact ih (k + 1) (l + 1) (by omega) (by omega)
theorem cAw {m' : Nat} {S' : Nat → Prop} (hm : m ≤ 256) (h0 : I 74 1 = nI m) (hm' : m' ≤ 256) (h0' : I 76 1 = nI m') (h' : SR (I 77) m' S') (x : Int32) : fX7_atWithout [.ref 74, .int x, .ref 76] (cH I J pl st) = some (some (.int (if x < nI 0 then Int32.ofInt (-1) else stF (I 75) (fun x => inR (I 77) x m') 0 m x.toNatClampNeg)), cH I J pl st) := by
  rw [eX7_atWithout]
  by_cases hx : x < nI 0
  · rw [if_pos hx]
    exact cAw_neg hm h0 hm' h0' h' hx m 0 0 (by omega) (by omega)
  · rw [if_neg hx]
    obtain ⟨i, hi, rfl⟩ := nI_of hx
    have hi' : i < 2147483648 := by omega
    rw [clp hi']
    exact cAw_loop hm h0 hm' h0' h' hi' m 0 0 (by omega) (by omega) (by omega)
end IR
