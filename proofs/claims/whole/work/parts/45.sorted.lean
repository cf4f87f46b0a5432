/-! rows in order, without likes -/
def SR (A : Nat → Int32) (m : Nat) (S : Nat → Prop) : Prop := ∃ f : Nat → Nat, (∀ i, i < m → A i = nI (f i) ∧ f i < 2147483648) ∧ (∀ i j, i < j → j < m → f i < f j) ∧ ∀ v, S v ↔ ∃ i, i < m ∧ f i = v
theorem SR_half {m m' : Nat} {f f' : Nat → Nat} (h2 : ∀ i j, i < j → j < m → f i < f j) (h2' : ∀ i j, i < j → j < m' → f' i < f' j) (hS : ∀ v, (∃ i, i < m ∧ f i = v) ↔ ∃ i, i < m' ∧ f' i = v) : ∀ i, i < m → i < m' ∧ f i = f' i := by
  intro i
  induction i using Nat.strongRecOn with
  | _ i ih =>
    intro hi
    obtain ⟨j, hj, ej⟩ := (hS (f i)).mp ⟨i, hi, rfl⟩
    have hij : i ≤ j := by
      by_cases q : j < i
      · have e := (ih j q (by omega)).2
        have := h2 j i q hi
        omega
      · omega
    refine ⟨by omega, ?_⟩
    have h3 : f' i ≤ f i := by
      by_cases q : i = j
      · subst q; omega
      · have := h2' i j (by omega) hj; omega
    obtain ⟨k, hk, ek⟩ := (hS (f' i)).mpr ⟨i, by omega, rfl⟩
    have hik : i ≤ k := by
      by_cases q : k < i
      · have e := (ih k q (by omega)).2
        have := h2' k i q (by omega)
        omega
      · omega
    have h4 : f i ≤ f' i := by
      by_cases q : i = k
      · subst q; omega
      · have := h2 i k (by omega) hk; omega
    omega
theorem SR_one {A A' : Nat → Int32} {m m' : Nat} {S : Nat → Prop} (h : SR A m S) (h' : SR A' m' S) : m = m' ∧ ∀ i, i < m → A i = A' i := by
  obtain ⟨f, a1, a2, a3⟩ := h
  obtain ⟨f', b1, b2, b3⟩ := h'
  have hS : ∀ v, (∃ i, i < m ∧ f i = v) ↔ ∃ i, i < m' ∧ f' i = v := fun v => (a3 v).symm.trans (b3 v)
  have h1 := SR_half a2 b2 hS
  have h2 := SR_half b2 a2 (fun v => (hS v).symm)
  have hm : m = m' := by
    rcases Nat.lt_trichotomy m m' with q | q | q
    · have := (h2 m q).1; omega
    · exact q
    · have := (h1 m' q).1; omega
  refine ⟨hm, fun i hi => ?_⟩
  rw [(a1 i hi).1, (h1 i hi).2, ← (b1 i (h1 i hi).1).1]
theorem SR_cong {A A' : Nat → Int32} {m : Nat} {S : Nat → Prop} (h : SR A m S) (hA : ∀ i, i < m → A' i = A i) : SR A' m S := by
  obtain ⟨f, a1, a2, a3⟩ := h
  exact ⟨f, fun i hi => ⟨(hA i hi).trans (a1 i hi).1, (a1 i hi).2⟩, a2, a3⟩
theorem SR_iff {A : Nat → Int32} {m : Nat} {S S' : Nat → Prop} (h : SR A m S) (hS : ∀ v, S v ↔ S' v) : SR A m S' := by
  obtain ⟨f, a1, a2, a3⟩ := h
  exact ⟨f, a1, a2, fun v => (hS v).symm.trans (a3 v)⟩
theorem SR_nil (A : Nat → Int32) : SR A 0 (fun _ => False) := ⟨fun _ => 0, fun i h => absurd h (Nat.not_lt_zero i), fun i j _ h => absurd h (Nat.not_lt_zero j), fun v => ⟨False.elim, fun ⟨i, h, _⟩ => absurd h (Nat.not_lt_zero i)⟩⟩
/-- the place of a number -/
def plc (f : Nat → Nat) (m v p : Nat) : Prop := p ≤ m ∧ (∀ i, i < p → f i < v) ∧ ∀ i, p ≤ i → i < m → v ≤ f i
def shA (A : Nat → Int32) (m k : Nat) : Nat → Int32 := fun i => if k < i ∧ i ≤ m then A (i - 1) else A i
theorem shA_m (A : Nat → Int32) (m : Nat) : shA A m m = A := by
  funext i
  unfold shA
  rw [if_neg (by omega)]
theorem shA_s (A : Nat → Int32) {m k : Nat} (hk : k < m) : up1 (shA A m (k + 1)) (k + 1) (shA A m (k + 1) k) = shA A m k := by
  funext i
  unfold shA up1
  by_cases h : i = k + 1
  · subst h
    rw [if_pos rfl, if_neg (by omega), if_pos (by omega), Nat.add_sub_cancel]
  · rw [if_neg h]
    show (if k + 1 < i ∧ i ≤ m then A (i - 1) else A i) = _
    by_cases h2 : k < i ∧ i ≤ m
    · rw [if_pos h2, if_pos (by omega)]
    · rw [if_neg h2, if_neg (by omega)]
theorem SR_ins {A : Nat → Int32} {m v p : Nat} {f : Nat → Nat} {S : Nat → Prop} (hv : v < 2147483648) (a1 : ∀ i, i < m → A i = nI (f i) ∧ f i < 2147483648) (a2 : ∀ i j, i < j → j < m → f i < f j) (a3 : ∀ w, S w ↔ ∃ i, i < m ∧ f i = w) (hp : plc f m v p) (hne : ¬ (p < m ∧ f p = v)) : SR (up1 (shA A m p) p (nI v)) (m + 1) (fun w => S w ∨ w = v) := by
  obtain ⟨p1, p2, p3⟩ := hp
  have p4 : ∀ i, p ≤ i → i < m → v < f i := by
    intro i h1 h2
    have := p3 i h1 h2
    by_cases q : f i = v
    · by_cases e : p = i
      · subst e; exact absurd ⟨h2, q⟩ hne
      · have w1 := a2 p i (by omega) h2
        have w2 := p3 p (Nat.le_refl p) (by omega)
        omega
    · omega
  refine ⟨fun i => if i < p then f i else if i = p then v else f (i - 1), fun i hi => ?_, fun i j hij hj => ?_, fun w => ?_⟩
  · show up1 (shA A m p) p (nI v) i = nI (if i < p then f i else if i = p then v else f (i - 1)) ∧ (if i < p then f i else if i = p then v else f (i - 1)) < 2147483648
    have e : up1 (shA A m p) p (nI v) i = if i = p then nI v else (if p < i ∧ i ≤ m then A (i - 1) else A i) := rfl
    rw [e]
    by_cases h1 : i < p
    · rw [if_neg (by omega), if_neg (by omega), if_pos h1]; exact a1 i (by omega)
    · by_cases h2 : i = p
      · rw [if_pos h2, if_neg h1, if_pos h2]; exact ⟨rfl, hv⟩
      · rw [if_neg h2, if_pos (by omega), if_neg h1, if_neg h2]; exact a1 (i - 1) (by omega)
  · show (if i < p then f i else if i = p then v else f (i - 1)) < (if j < p then f j else if j = p then v else f (j - 1))
    by_cases h1 : j < p
    · rw [if_pos (show i < p by omega), if_pos h1]; exact a2 i j hij (by omega)
    · rw [if_neg h1]
      by_cases h2 : j = p
      · rw [if_pos h2, if_pos (show i < p by omega)]; exact p2 i (by omega)
      · rw [if_neg h2]
        by_cases h3 : i < p
        · rw [if_pos h3]
          have := p2 i h3
          have := p4 (j - 1) (by omega) (by omega)
          omega
        · rw [if_neg h3]
          by_cases h4 : i = p
          · rw [if_pos h4]; exact p4 (j - 1) (by omega) (by omega)
          · rw [if_neg h4]; exact a2 (i - 1) (j - 1) (by omega) (by omega)
  · show (S w ∨ w = v) ↔ ∃ i, i < m + 1 ∧ (if i < p then f i else if i = p then v else f (i - 1)) = w
    rw [a3]
    constructor
    · rintro (⟨i, h1, h2⟩ | rfl)
      · by_cases h : i < p
        · exact ⟨i, by omega, by rw [if_pos h]; exact h2⟩
        · refine ⟨i + 1, by omega, ?_⟩
          rw [if_neg (by omega), if_neg (by omega), Nat.add_sub_cancel]; exact h2
      · exact ⟨p, by omega, by rw [if_neg (by omega), if_pos rfl]⟩
    · rintro ⟨i, h1, h2⟩
      by_cases h : i < p
      · rw [if_pos h] at h2; exact Or.inl ⟨i, by omega, h2⟩
      · rw [if_neg h] at h2
        by_cases h3 : i = p
        · rw [if_pos h3] at h2; exact Or.inr h2.symm
        · rw [if_neg h3] at h2; exact Or.inl ⟨i - 1, by omega, h2⟩
theorem SR_has {A : Nat → Int32} {m v p : Nat} {f : Nat → Nat} {S : Nat → Prop} (a1 : ∀ i, i < m → A i = nI (f i) ∧ f i < 2147483648) (a2 : ∀ i j, i < j → j < m → f i < f j) (a3 : ∀ w, S w ↔ ∃ i, i < m ∧ f i = w) (hp : p < m ∧ f p = v) : SR A m (fun w => S w ∨ w = v) := by
  refine ⟨f, a1, a2, fun w => ?_⟩
  rw [← a3 w]
  constructor
  · rintro (h | rfl)
    · exact h
    · exact (a3 _).mpr ⟨p, hp⟩
  · exact Or.inl
theorem div2 {a : Nat} (h : a < 2147483648) : nI a / nI 2 = nI (a / 2) := pk_div (by omega) (by decide) (by decide)
section SO
variable {I : Nat → Nat → Int32} {J : Nat → Nat → Int64} {pl st : Bool} {P m v : Nat} {f : Nat → Nat}
theorem mCo_sh (hP : P = 5 ∨ P = 6) {A : Nat → Int32} {p : Nat} (hm : m < 1024) : ∀ d k (I : Nat → Nat → Int32) (z : Value), k = p + d → k ≤ m → I P = shA A m k → ∃ I' : Nat → Nat → Int32, run mX12_comes (66, 0, 0, [.ref P, .int (nI m), .int (nI v), .int (nI p), z, .int (nI k)], [], mH I J) = some (some (.int (nI (m + 1))), mH I' J) ∧ (∀ q, q ≠ P → I' q = I q) ∧ I' P = up1 (shA A m p) p (nI v) := by
  intro d
  induction d with
  | zero =>
    intro k I z hk hkm hI
    have : k = p := by omega
    subst this
    refine ⟨up2 I P k (nI v), ?_, fun q hq => up2_ne hq, by rw [up2_eq, hI]⟩
    rw [bX12_comes_66 (hP := hP)]
    simp (disch := omega) only [nI_lt', nI_le', nI_eq', inb_nI, clp, nI_add, nI_mul', cond_true, cond_false, Nat.le_refl, if_true]
  | succ d ih =>
    intro k I z hk hkm hI
    obtain ⟨k', rfl⟩ : ∃ k', k = k' + 1 := ⟨k - 1, by omega⟩
    obtain ⟨I', h1, h2, h3⟩ := ih k' (up2 I P (k' + 1) (I P k')) .null (by omega) (by omega) (by rw [up2_eq, hI, shA_s A (by omega)])
    refine ⟨I', ?_, fun q hq => by rw [h2 q hq, up2_ne hq], h3⟩
    rw [bX12_comes_66 (hP := hP)]
    simp (disch := omega) only [nI_lt', nI_le', nI_eq', inb_nI, clp, nI_add, nI_mul', cond_true, cond_false, sub1_nI, Nat.add_sub_cancel, m1_nI]
    rw [if_neg (by omega)]
    exact h1
theorem mCo_loop (hP : P = 5 ∨ P = 6) (hm : m < 1024) (hv : v < 2147483648) (a1 : ∀ i, i < m → I P i = nI (f i) ∧ f i < 2147483648) (a2 : ∀ i j, i < j → j < m → f i < f j) : ∀ d lo hi (z : Value), hi - lo ≤ d → lo ≤ hi → hi ≤ m → (∀ i, i < lo → f i < v) → (∀ i, hi ≤ i → i < m → v ≤ f i) → ∃ (p : Nat) (z1 z2 : Value), plc f m v p ∧ run mX12_comes (5, 0, 0, [.ref P, .int (nI m), .int (nI v), .int (nI lo), .int (nI hi), z], [], mH I J) = (if p < m ∧ f p = v then some (some (.int (nI m)), mH I J) else run mX12_comes (66, 0, 0, [.ref P, .int (nI m), .int (nI v), .int (nI p), z1, .int (nI m)], [], mH I J)) := by
  intro d
  induction d with
  | zero =>
    intro lo hi z hd hl hh h1 h2
    have : lo = hi := by omega
    subst this
    refine ⟨lo, .int (nI lo), .null, ⟨hh, h1, h2⟩, ?_⟩
    rw [bX12_comes_5 (hP := hP)]
    simp (disch := omega) only [nI_lt', nI_le', nI_eq', inb_nI, clp, nI_add, nI_mul', cond_true, cond_false, Nat.le_refl, if_true]
    by_cases q : m ≤ lo
    · rw [if_pos q, if_neg (by omega), if_neg (by omega)]
    · have b := a1 lo (by omega)
      rw [if_neg q, b.1]
      simp only [nI_eq' b.2 hv]
      by_cases e : f lo = v
      · rw [if_pos e, if_pos ⟨by omega, e⟩]
      · rw [if_neg e, if_neg (by omega), if_neg (fun w => e w.2)]
  | succ d ih =>
    intro lo hi z hd hl hh h1 h2
    by_cases e : lo = hi
    · exact ih lo hi z (by omega) hl hh h1 h2
    · have b := a1 ((lo + hi) / 2) (by omega)
      by_cases q : v ≤ f ((lo + hi) / 2)
      · obtain ⟨p, z1, z2, hp, e2⟩ := ih lo ((lo + hi) / 2) (.int (nI ((lo + hi) / 2))) (by omega) (by omega) (by omega) h1 (fun i g1 g2 => by
          by_cases w : (lo + hi) / 2 = i
          · rw [← w]; exact q
          · have := a2 ((lo + hi) / 2) i (by omega) g2; omega)
        refine ⟨p, z1, z2, hp, ?_⟩
        rw [bX12_comes_5 (hP := hP)]
        simp (disch := omega) only [nI_lt', nI_le', nI_eq', inb_nI, clp, nI_add, nI_mul', cond_true, cond_false, div2, b.1]
        rw [if_neg (by omega), if_pos q]
        exact e2
      · obtain ⟨p, z1, z2, hp, e2⟩ := ih ((lo + hi) / 2 + 1) hi (.int (nI ((lo + hi) / 2))) (by omega) (by omega) hh (fun i g1 => by
          by_cases w : i = (lo + hi) / 2
          · rw [w]; omega
          · have := a2 i ((lo + hi) / 2) (by omega) (by omega); omega) h2
        refine ⟨p, z1, z2, hp, ?_⟩
        rw [bX12_comes_5 (hP := hP)]
        simp (disch := omega) only [nI_lt', nI_le', nI_eq', inb_nI, clp, nI_add, nI_mul', cond_true, cond_false, div2, b.1]
        rw [if_neg (by omega), if_neg q]
        exact e2
theorem mCo {S : Nat → Prop} (hP : P = 5 ∨ P = 6) (hm : m < 1024) (hv : v < 2147483648) (h : SR (I P) m S) : ∃ (I' : Nat → Nat → Int32) (m' : Nat), fX12_comes [.ref P, .int (nI m), .int (nI v)] (mH I J) = some (some (.int (nI m')), mH I' J) ∧ (∀ q, q ≠ P → I' q = I q) ∧ SR (I' P) m' (fun w => S w ∨ w = v) := by
  obtain ⟨f, a1, a2, a3⟩ := h
  obtain ⟨p, z1, z2, hp, e⟩ := mCo_loop (J := J) hP hm hv a1 a2 m 0 m .null (by omega) (by omega) (Nat.le_refl m) (fun i h => absurd h (Nat.not_lt_zero i)) (fun i h1 h2 => by omega)
  rw [eX12_comes (hP := hP), e]
  by_cases q : p < m ∧ f p = v
  · rw [if_pos q]
    exact ⟨I, m, rfl, fun _ _ => rfl, SR_has a1 a2 a3 q⟩
  · rw [if_neg q]
    obtain ⟨I', h1, h2, h3⟩ := mCo_sh (J := J) (v := v) (p := p) (A := I P) hP hm (m - p) m I z1 (by have := hp.1; omega) (Nat.le_refl m) (shA_m _ _).symm
    exact ⟨I', m + 1, h1, h2, by rw [h3]; exact SR_ins hv a1 a2 a3 hp q⟩
/-! the class's rows -/
theorem cAt (hP : P = 74 ∨ P = 76) (hm : m ≤ 256) (h0 : I P 1 = nI m) {i : Nat} (hi : i < 2147483648) : fX7_at [.ref P, .int (nI i)] (cH I J pl st) = some (some (.int (if i < m then I (P + 1) i else Int32.ofInt (-1))), cH I J pl st) := by
  rw [eX7_at (hP := hP), h0]
  by_cases q : i < m
  · simp (disch := omega) only [nI_lt', nI_le', nI_eq', inb_nI, clp, nI_add, nI_mul', cond_true, cond_false, Nat.not_lt_zero, if_false, if_pos q]
    rw [if_neg (by omega), if_neg (by omega)]
  · simp (disch := omega) only [nI_lt', nI_le', Nat.not_lt_zero, if_false, if_neg q]
    rw [if_pos (by omega)]
theorem cPo_loop (hP : P = 74 ∨ P = 76) (hm : m ≤ 256) (h0 : I P 1 = nI m) (hv : v < 2147483648) (a1 : ∀ i, i < m → I (P + 1) i = nI (f i) ∧ f i < 2147483648) (a2 : ∀ i j, i < j → j < m → f i < f j) : ∀ d lo hi r (z : Value), hi - lo ≤ d → r + (hi - lo) ≤ 256 → lo ≤ hi → hi ≤ m → (∀ i, i < lo → f i < v) → (∀ i, hi ≤ i → i < m → v ≤ f i) → ∃ p, plc f m v p ∧ run mX7_placeOf (10, 0, 0, [.ref P, .int (nI v), .int (nI lo), .int (nI hi), .int (nI r), z], [], cH I J pl st) = some (some (.int (nI p)), cH I J pl st) := by
  intro d
  induction d with
  | zero =>
    intro lo hi r z hd hr hl hh h1 h2
    have : lo = hi := by omega
    subst this
    refine ⟨lo, ⟨hh, h1, h2⟩, ?_⟩
    rw [bX7_placeOf_10 (hP := hP)]
    simp (disch := omega) only [nI_lt', nI_le', nI_eq', inb_nI, clp, nI_add, nI_mul', cond_true, cond_false, Nat.le_refl, if_true]
  | succ d ih =>
    intro lo hi r z hd hr hl hh h1 h2
    by_cases e : lo = hi
    · exact ih lo hi r z (by omega) hr hl hh h1 h2
    · have b := a1 ((lo + hi) / 2) (by omega)
      have hmid : (lo + hi) / 2 < m := by omega
      by_cases q : v ≤ f ((lo + hi) / 2)
      · obtain ⟨p, hp, e2⟩ := ih lo ((lo + hi) / 2) (r + 1) (.int (nI ((lo + hi) / 2))) (by omega) (by omega) (by omega) (by omega) h1 (fun i g1 g2 => by
          by_cases w : (lo + hi) / 2 = i
          · rw [← w]; exact q
          · have := a2 ((lo + hi) / 2) i (by omega) g2; omega)
        refine ⟨p, hp, ?_⟩
        rw [bX7_placeOf_10 (hP := hP)]
        simp (disch := omega) only [nI_lt', nI_le', nI_eq', inb_nI, clp, nI_add, nI_mul', cond_true, cond_false, callK_some, Option.toList_some, Option.toList_none, List.cons_append, List.nil_append, div2, cAt hP hm h0, if_pos hmid, b.1, bX7_placeOf_36 (hP := hP)]
        rw [if_neg (by omega), if_neg (by omega), if_pos q]
        exact e2
      · obtain ⟨p, hp, e2⟩ := ih ((lo + hi) / 2 + 1) hi (r + 1) (.int (nI ((lo + hi) / 2))) (by omega) (by omega) (by omega) hh (fun i g1 => by
          by_cases w : i = (lo + hi) / 2
          · rw [w]; omega
          · have := a2 i ((lo + hi) / 2) (by omega) (by omega); omega) h2
        refine ⟨p, hp, ?_⟩
        rw [bX7_placeOf_10 (hP := hP)]
        simp (disch := omega) only [nI_lt', nI_le', nI_eq', inb_nI, clp, nI_add, nI_mul', cond_true, cond_false, callK_some, Option.toList_some, Option.toList_none, List.cons_append, List.nil_append, div2, cAt hP hm h0, if_pos hmid, b.1, bX7_placeOf_36 (hP := hP)]
        rw [if_neg (by omega), if_neg (by omega), if_neg q]
        exact e2
theorem cPo (hP : P = 74 ∨ P = 76) (hm : m ≤ 256) (h0 : I P 1 = nI m) (hv : v < 2147483648) (a1 : ∀ i, i < m → I (P + 1) i = nI (f i) ∧ f i < 2147483648) (a2 : ∀ i j, i < j → j < m → f i < f j) : ∃ p, plc f m v p ∧ fX7_placeOf [.ref P, .int (nI v)] (cH I J pl st) = some (some (.int (nI p)), cH I J pl st) := by
  obtain ⟨p, hp, e⟩ := cPo_loop (J := J) (pl := pl) (st := st) hP hm h0 hv a1 a2 m 0 m 0 .null (by omega) (by omega) (by omega) (Nat.le_refl m) (fun i h => absurd h (Nat.not_lt_zero i)) (fun i h1 h2 => by omega)
  refine ⟨p, hp, ?_⟩
  rw [eX7_placeOf (hP := hP), h0]
  exact e
theorem m1_nn {v : Nat} (h : v < 2147483648) : ¬ Int32.ofInt (-1) = nI v := by
  intro e
  have h1 : ¬ nI v < 0 := nI_pos h
  rw [← e] at h1
  exact h1 (by decide)
theorem cAd_sh (hP : P = 74 ∨ P = 76) {A : Nat → Int32} {p : Nat} (hm : m < 256) : ∀ d k (I : Nat → Nat → Int32), k = p + d → k ≤ m → I (P + 1) = shA A m k → I P 1 = nI m → ∃ I' : Nat → Nat → Int32, run mX7_add (45, 0, 0, [.ref P, .int (nI v), .int (nI p), .int (nI k)], [], cH I J pl st) = some (none, cH I' J pl st) ∧ (∀ q, q ≠ P → q ≠ P + 1 → I' q = I q) ∧ I' (P + 1) = up1 (shA A m p) p (nI v) ∧ I' P = up1 (I P) 1 (nI (m + 1)) := by
  intro d
  induction d with
  | zero =>
    intro k I hk hkm hI h0
    have : k = p := by omega
    subst this
    refine ⟨up2 (up2 I (P + 1) k (nI v)) P 1 (nI (m + 1)), ?_, fun q hq hq2 => by rw [up2_ne hq, up2_ne hq2], by rw [up2_ne (by omega), up2_eq, hI], by rw [up2_eq, up2_ne (by omega)]⟩
    rw [bX7_add_45 (hP := hP)]
    simp (disch := omega) only [nI_lt', nI_le', nI_eq', inb_nI, clp, nI_add, nI_mul', cond_true, cond_false, h0, Nat.le_refl, if_true]
  | succ d ih =>
    intro k I hk hkm hI h0
    obtain ⟨k', rfl⟩ : ∃ k', k = k' + 1 := ⟨k - 1, by omega⟩
    obtain ⟨I', h1, h2, h3, h4⟩ := ih k' (up2 I (P + 1) (k' + 1) (I (P + 1) k')) (by omega) (by omega) (by rw [up2_eq, hI, shA_s A (by omega)]) (by rw [up2_ne (by omega)]; exact h0)
    refine ⟨I', ?_, fun q hq hq2 => by rw [h2 q hq hq2, up2_ne hq2], h3, by rw [h4, up2_ne (by omega)]⟩
    rw [bX7_add_45 (hP := hP)]
    simp (disch := omega) only [nI_lt', nI_le', nI_eq', inb_nI, clp, nI_add, nI_mul', cond_true, cond_false, sub1_nI, Nat.add_sub_cancel, m1_nI]
    rw [if_neg (by omega)]
    exact h1
theorem cAd {S : Nat → Prop} (hP : P = 74 ∨ P = 76) (hm : m ≤ 256) (hv : v < 2147483648) (h0 : I P 1 = nI m) (h : SR (I (P + 1)) m S) (hroom : ¬ S v → m < 256) : ∃ (I' : Nat → Nat → Int32) (m' : Nat), fX7_add [.ref P, .int (nI v)] (cH I J pl st) = some (none, cH I' J pl st) ∧ (∀ q, q ≠ P → q ≠ P + 1 → I' q = I q) ∧ (∀ k, k ≠ 1 → I' P k = I P k) ∧ I' P 1 = nI m' ∧ m' ≤ 256 ∧ SR (I' (P + 1)) m' (fun w => S w ∨ w = v) := by
  obtain ⟨f, a1, a2, a3⟩ := h
  obtain ⟨p, hp, e⟩ := cPo (J := J) (pl := pl) (st := st) hP hm h0 hv a1 a2
  have hpm := hp.1
  rw [eX7_add (hP := hP), e]
  simp (disch := omega) only [callK_some, Option.toList_some, Option.toList_none, List.cons_append, List.nil_append, bX7_add_5 (hP := hP), cAt hP hm h0, bX7_add_11 (hP := hP)]
  by_cases q : p < m ∧ f p = v
  · rw [if_pos (show (if p < m then I (P + 1) p else Int32.ofInt (-1)) = nI v by rw [if_pos q.1, (a1 p q.1).1, q.2])]
    exact ⟨I, m, rfl, fun _ _ _ => rfl, fun _ _ => rfl, h0, hm, SR_has a1 a2 a3 q⟩
  · have hnS : ¬ S v := by
      rw [a3]
      rintro ⟨i, h1, h2⟩
      apply q
      by_cases w : i < p
      · have := hp.2.1 i w; omega
      · have w2 := hp.2.2 p (Nat.le_refl p) (by omega)
        by_cases w3 : p = i
        · subst w3; exact ⟨h1, h2⟩
        · have := a2 p i (by omega) h1; omega
    have hm2 := hroom hnS
    rw [if_neg (show ¬ (if p < m then I (P + 1) p else Int32.ofInt (-1)) = nI v by
      by_cases w : p < m
      · have b := a1 p w
        rw [if_pos w, b.1, nI_eq' b.2 hv]; exact fun z => q ⟨w, z⟩
      · rw [if_neg w]; exact m1_nn hv)]
    obtain ⟨I', h1, h2, h3, h4⟩ := cAd_sh (J := J) (pl := pl) (st := st) (v := v) (p := p) (A := I (P + 1)) hP hm2 (m - p) m I (by omega) (Nat.le_refl m) (shA_m _ _).symm h0
    simp (disch := omega) only [h0, nI_lt', nI_le', nI_eq', inb_nI, clp, nI_add, nI_mul', cond_true, cond_false, Nat.not_lt_zero, if_false]
    rw [if_neg (by omega), if_pos hm2]
    refine ⟨I', m + 1, h1, h2, fun k hk => by rw [h4, up1_ne hk], by rw [h4, up1_eq], by omega, by rw [h3]; exact SR_ins hv a1 a2 a3 hp q⟩
end SO
