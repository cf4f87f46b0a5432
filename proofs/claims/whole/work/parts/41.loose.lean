/-! loose pairs -/
/-- what stands between the steps of the pairs that f names -/
def pU (f : Nat → Nat → Bool) (s : Nat) : Nat → List Nat
  | 0 => []
  | k + 1 => pU f s k ++ (if s < k ∧ f s k = true then [btw s k] else [])
def pS (f : Nat → Nat → Bool) (n : Nat) : Nat → List Nat
  | 0 => []
  | s + 1 => pS f n s ++ pU f s n
theorem pU_t {f : Nat → Nat → Bool} {s k : Nat} (h : s < k) (hf : f s k = true) : pU f s (k + 1) = pU f s k ++ [btw s k] := by
  show pU f s k ++ (if s < k ∧ f s k = true then [btw s k] else []) = _
  rw [if_pos ⟨h, hf⟩]
theorem pU_f {f : Nat → Nat → Bool} {s k : Nat} (h : ¬ (s < k ∧ f s k = true)) : pU f s (k + 1) = pU f s k := by
  show pU f s k ++ (if s < k ∧ f s k = true then [btw s k] else []) = _
  rw [if_neg h, List.append_nil]
theorem pU_0 {f : Nat → Nat → Bool} {s : Nat} : ∀ {k}, k ≤ s + 1 → pU f s k = [] := by
  intro k
  induction k with
  | zero => intro _; rfl
  | succ k ih => intro h; rw [pU_f (by omega), ih (by omega)]
theorem pU_len {f : Nat → Nat → Bool} {s : Nat} : ∀ k, (pU f s k).length ≤ k - 1 - s := by
  intro k
  induction k with
  | zero => exact Nat.zero_le _
  | succ k ih =>
    by_cases h : s < k ∧ f s k = true
    · rw [pU_t h.1 h.2, List.length_append]
      show _ + 1 ≤ _
      omega
    · rw [pU_f h]; omega
def trp (n : Nat) : Nat → Nat
  | 0 => 0
  | s + 1 => trp n s + (n - 1 - s)
theorem pS_len {f : Nat → Nat → Bool} {n : Nat} : ∀ s, (pS f n s).length ≤ trp n s := by
  intro s
  induction s with
  | zero => exact Nat.le_refl 0
  | succ s ih =>
    show (pS f n s ++ pU f s n).length ≤ trp n s + (n - 1 - s)
    rw [List.length_append]
    have := pU_len (f := f) (s := s) n
    omega
theorem trp_lt : ∀ n, n ≤ 8 → ∀ s, s < n → ∀ u, u < n → s < u → trp n s + (u - 1 - s) < 28 := by decide +kernel
theorem trp_le : ∀ n, n ≤ 8 → trp n n ≤ 28 := by decide +kernel
theorem pSU_lt {f : Nat → Nat → Bool} {n s u : Nat} (hn : n ≤ 8) (hs : s < n) (hu : u < n) (h : s < u) : (pS f n s ++ pU f s u).length < 28 := by
  rw [List.length_append]
  have h1 := pS_len (f := f) (n := n) s
  have h2 := pU_len (f := f) (s := s) u
  have h3 := trp_lt n hn s hs u hu h
  omega
theorem pS_le {f : Nat → Nat → Bool} {n : Nat} (hn : n ≤ 8) : (pS f n n).length ≤ 28 := Nat.le_trans (pS_len n) (trp_le n hn)
theorem pU_mem {f : Nat → Nat → Bool} {s : Nat} : ∀ {k x}, x ∈ pU f s k → ∃ u, s < u ∧ u < k ∧ f s u = true ∧ x = btw s u := by
  intro k
  induction k with
  | zero => intro x h; cases h
  | succ k ih =>
    intro x h
    by_cases hc : s < k ∧ f s k = true
    · rw [pU_t hc.1 hc.2, List.mem_append] at h
      rcases h with h | h
      · obtain ⟨u, h1, h2, h3⟩ := ih h; exact ⟨u, h1, by omega, h3⟩
      · exact ⟨k, hc.1, by omega, hc.2, List.mem_singleton.mp h⟩
    · rw [pU_f hc] at h
      obtain ⟨u, h1, h2, h3⟩ := ih h; exact ⟨u, h1, by omega, h3⟩
theorem pS_mem {f : Nat → Nat → Bool} {n : Nat} : ∀ {s x}, x ∈ pS f n s → ∃ t u, t < s ∧ t < u ∧ u < n ∧ f t u = true ∧ x = btw t u := by
  intro s
  induction s with
  | zero => intro x h; cases h
  | succ s ih =>
    intro x h
    have h' : x ∈ pS f n s ++ pU f s n := h
    rw [List.mem_append] at h'
    rcases h' with h' | h'
    · obtain ⟨t, u, h1, h2⟩ := ih h'; exact ⟨t, u, by omega, h2⟩
    · obtain ⟨u, h1, h2, h3⟩ := pU_mem h'; exact ⟨s, u, by omega, h1, h2, h3⟩
/-- a pair is in a ring and may be overtaken -/
def loB (V : Nat → Int32) (ce : Nat → Nat) (wr : Nat → Bool) (K s u : Nat) : Bool := !decide (V (8 * s + u) ≤ nI 0) && !bdB ce wr K s u
/-- the row of loose pairs -/
def loL (V : Nat → Int32) (ce : Nat → Nat) (wr : Nat → Bool) (K n : Nat) : List Nat := pS (loB V ce wr K) n n
/-- how many a set holds -/
def hdB (F x : Nat) : Bool := decide (x &&& F ≠ 0)
def hdN (L : List Nat) (F : Nat) : Nat := L.countP (hdB F)
theorem btw_pos : ∀ s, s < 8 → ∀ u, u < 8 → s < u → btw s u ≠ 0 := by decide +kernel
/-- the counts of pairs, as a heap has them -/
def vOk (I : Nat → Nat → Int32) (V : Nat → Int32) : Prop := ∀ s u, s < u → u < 8 → I 12 (8 * s + u) = V (8 * s + u)
section LO
variable {I : Nat → Nat → Int32} {J : Nat → Nat → Int64} {pl st : Bool} {n : Nat} {th ce c : Nat → Nat} {wr : Nat → Bool} {s u F K P : Nat} {V : Nat → Int32}
theorem mPa (hV : vOk I V) (hs : s < u) (hu : u < 8) : fX12_isPair [.ref 0, .int (nI s), .int (nI u)] (mH I J) = some (some (.int (tI (!decide (V (8 * s + u) ≤ nI 0)))), mH I J) := by
  rw [eX12_isPair]
  simp (disch := omega) only [nI_lt', nI_le', nI_eq', inb_nI, clp, nI_add, nI_mul', cond_true, cond_false, hV s u hs hu]
  by_cases h : V (8 * s + u) ≤ nI 0 <;> simp [h, tI]
theorem mLo (h : RPm I n th ce wr) (hK : I 0 7 = nI K) (hKl : K < 16) (hV : vOk I V) (hs : s < u) (hu : u < n) : fX12_isLoose [.ref 0, .int (nI s), .int (nI u)] (mH I J) = some (some (.int (tI (loB V ce wr K s u))), mH I J) := by
  have hn := h.2.1
  rw [eX12_isLoose]
  simp (disch := omega) only [callK_some, Option.toList_some, Option.toList_none, List.cons_append, List.nil_append, mPa hV hs (show u < 8 by omega), bX12_isLoose_6, ite_tI]
  unfold loB
  cases decide (V (8 * s + u) ≤ nI 0) with
  | true => rfl
  | false =>
    simp (disch := omega) only [callK_some, Option.toList_some, Option.toList_none, List.cons_append, List.nil_append, Bool.not_false, if_true, mBd h hK hKl (show s < n by omega) hu, bX12_isLoose_15, ite_tI]
    cases bdB ce wr K s u <;> rfl
theorem mHo_in (h : RPm I n th ce wr) (hK : I 0 7 = nI K) (hKl : K < 16) (hV : vOk I V) {x : Int32} {q : Nat → Bool} (hq : ∀ s u, s < u → u < 8 → ((x &&& nI (btw s u)) = nI 0) = (q (btw s u) = false)) (hs : s < n) : ∀ d u, u + d = n → s < u → ∀ m, run mX12_holds (17, 0, 0, [.ref 0, .int x, .int (nI (m + (pU (loB V ce wr K) s u).countP q)), .int (nI s), .int (nI u)], [], mH I J) = run mX12_holds (4, 0, 0, [.ref 0, .int x, .int (nI (m + (pU (loB V ce wr K) s n).countP q)), .int (nI (s + 1)), .int (nI n)], [], mH I J) := by
  have hn := h.2.1
  intro d
  induction d with
  | zero =>
    intro u hu _ m
    have : u = n := by omega
    subst this
    rw [bX12_holds_17]
    simp (disch := omega) only [nI_lt', nI_le', nI_eq', inb_nI, clp, nI_add, nI_mul', cond_true, cond_false, h.1, Nat.le_refl, if_true]
  | succ d ih =>
    intro u hu hsu m
    have ih' := ih (u + 1) (by omega) (by omega) m
    rw [bX12_holds_17]
    simp (disch := omega) only [nI_lt', nI_le', nI_eq', inb_nI, clp, nI_add, nI_mul', cond_true, cond_false, callK_some, Option.toList_some, Option.toList_none, List.cons_append, List.nil_append, h.1, mLo h hK hKl hV hsu (show u < n by omega), bX12_holds_34, ite_tI]
    rw [if_neg (by omega)]
    cases hl : loB V ce wr K s u with
    | false =>
      rw [pU_f (by rw [hl]; simp)] at ih'
      exact ih'
    | true =>
      rw [pU_t hsu hl, List.countP_append] at ih'
      simp (disch := omega) only [if_true, callK_some, Option.toList_some, Option.toList_none, List.cons_append, List.nil_append, mBtw hsu (show u < 8 by omega), bX12_holds_44, hq s u hsu (show u < 8 by omega)]
      cases hb : q (btw s u) with
      | false =>
        have e : List.countP q [btw s u] = 0 := by rw [List.countP_cons_of_neg (by rw [hb]; simp)]; rfl
        rw [e] at ih'
        simp only [if_true, nI_add]
        exact ih'
      | true =>
        have e : List.countP q [btw s u] = 1 := by rw [List.countP_cons_of_pos hb]; rfl
        rw [e] at ih'
        simp only [Bool.true_eq_false, if_false, nI_add]
        exact ih'
theorem mHo_out (h : RPm I n th ce wr) (hK : I 0 7 = nI K) (hKl : K < 16) (hV : vOk I V) {x : Int32} {q : Nat → Bool} (hq : ∀ s u, s < u → u < 8 → ((x &&& nI (btw s u)) = nI 0) = (q (btw s u) = false)) : ∀ d s (z : Value), s + d = n → run mX12_holds (4, 0, 0, [.ref 0, .int x, .int (nI ((pS (loB V ce wr K) n s).countP q)), .int (nI s), z], [], mH I J) = some (some (.int (nI ((loL V ce wr K n).countP q))), mH I J) := by
  have hn := h.2.1
  intro d
  induction d with
  | zero =>
    intro s z hs
    have : s = n := by omega
    subst this
    rw [bX12_holds_4]
    simp (disch := omega) only [nI_lt', nI_le', nI_eq', inb_nI, clp, nI_add, nI_mul', cond_true, cond_false, h.1, Nat.le_refl, if_true]
    rfl
  | succ d ih =>
    intro s z hs
    have ih' := ih (s + 1) (.int (nI n)) (by omega)
    have e : pS (loB V ce wr K) n (s + 1) = pS (loB V ce wr K) n s ++ pU (loB V ce wr K) s n := rfl
    rw [e, List.countP_append] at ih'
    rw [bX12_holds_4]
    simp (disch := omega) only [nI_lt', nI_le', nI_eq', inb_nI, clp, nI_add, nI_mul', cond_true, cond_false, h.1]
    rw [if_neg (by omega)]
    have := mHo_in (J := J) h hK hKl hV hq (show s < n by omega) (n - (s + 1)) (s + 1) (by omega) (by omega) ((pS (loB V ce wr K) n s).countP q)
    rw [pU_0 (Nat.le_refl _)] at this
    exact this.trans ih'
theorem mHoX (h : RPm I n th ce wr) (hK : I 0 7 = nI K) (hKl : K < 16) (hV : vOk I V) {x : Int32} {q : Nat → Bool} (hq : ∀ s u, s < u → u < 8 → ((x &&& nI (btw s u)) = nI 0) = (q (btw s u) = false)) : fX12_holds [.ref 0, .int x] (mH I J) = some (some (.int (nI ((loL V ce wr K n).countP q))), mH I J) := by
  rw [eX12_holds]
  exact mHo_out h hK hKl hV hq n 0 _ (by omega)
theorem mHo (h : RPm I n th ce wr) (hK : I 0 7 = nI K) (hKl : K < 16) (hV : vOk I V) : fX12_holds [.ref 0, .int (nI F)] (mH I J) = some (some (.int (nI (hdN (loL V ce wr K n) F))), mH I J) := by
  refine mHoX h hK hKl hV (q := hdB F) fun s u hs hu => ?_
  have hb := btw_lt s (by omega) u hu
  have hlt : F &&& btw s u < 512 := and_lt hb
  rw [and_nI, nI_eq' (by omega) (by omega), Nat.and_comm]
  unfold hdB
  simp
theorem mLp (h : RPm I n th ce wr) (hK : I 0 7 = nI K) (hKl : K < 16) (hV : vOk I V) : fX12_loosePairs [.ref 0] (mH I J) = some (some (.int (nI (loL V ce wr K n).length)), mH I J) := by
  rw [eX12_loosePairs, mHoX h hK hKl hV (q := fun _ => true) (fun s u hs hu => by
    have hb := btw_lt s (by omega) u hu
    have hp := btw_pos s (by omega) u hu hs
    have e : Int32.ofInt (-1) &&& nI (btw s u) = nI (btw s u) := Int32.neg_one_and
    rw [e, nI_eq' (by omega) (by omega)]
    simp [hp])]
  simp only [callK_some, Option.toList_some, Option.toList_none, List.cons_append, List.nil_append, bX12_loosePairs_5]
  rw [List.countP_eq_length.mpr (fun _ _ => rfl)]
/-! the class's row -/
def lpI (I : Nat → Nat → Int32) (L : List Nat) : Nat → Nat → Int32 := fun p k => if p = 14 then lsf L nI (I 14) k else if p = 13 then (if k = 1 then nI L.length else I 13 k) else I p k
theorem lpI_push (I : Nat → Nat → Int32) (L : List Nat) (x : Nat) : up2 (up2 (lpI I L) 14 L.length (nI x)) 13 1 (nI L.length + nI 1) = lpI I (L ++ [x]) := by
  have e := lst_push L x nI (I 14)
  funext p k
  by_cases h14 : p = 14
  · subst h14
    rw [up2_ne (by decide), up2_eq]
    show up1 (lsf L nI (I 14)) L.length (nI x) k = _
    rw [e]; rfl
  · by_cases h13 : p = 13
    · subst h13
      rw [up2_eq, up2_ne (by decide)]
      show up1 (fun k => if k = 1 then nI L.length else I 13 k) 1 (nI L.length + nI 1) k = if k = 1 then nI (L ++ [x]).length else I 13 k
      unfold up1
      by_cases hk : k = 1
      · rw [if_pos hk, if_pos hk, nI_add, List.length_append]; rfl
      · rw [if_neg hk, if_neg hk]; exact if_neg hk
    · rw [up2_ne h13, up2_ne h14]
      show (if p = 14 then _ else if p = 13 then _ else I p k) = (if p = 14 then _ else if p = 13 then _ else I p k)
      rw [if_neg h14, if_neg h13, if_neg h14, if_neg h13]
theorem lpI_nil (I : Nat → Nat → Int32) : up2 I 13 1 (nI 0) = lpI I [] := by
  funext p k
  by_cases h13 : p = 13
  · subst h13; rw [up2_eq]; rfl
  · rw [up2_ne h13]
    show I p k = (if p = 14 then lsf [] nI (I 14) k else if p = 13 then _ else I p k)
    by_cases h14 : p = 14
    · subst h14; rfl
    · rw [if_neg h14, if_neg h13]
theorem lpI_o (I : Nat → Nat → Int32) (L : List Nat) {p : Nat} (h1 : p ≠ 13) (h2 : p ≠ 14) : lpI I L p = I p := by
  funext k
  show (if p = 14 then _ else if p = 13 then _ else I p k) = I p k
  rw [if_neg h2, if_neg h1]
theorem RPx.lp (hP : P = 4 ∨ P = 7) (h : RPx I P n th ce wr) (L : List Nat) : RPx (lpI I L) P n th ce wr := by
  rcases hP with rfl | rfl <;> exact h.cong rfl rfl rfl rfl rfl
theorem cCw (hs : s < u) (hu : u < 8) (hV : vOk I V) : fX8_countWith [.ref 10, .int (nI s), .int (nI u)] (cH I J pl st) = some (some (.int (V (8 * s + u))), cH I J pl st) := by
  rw [eX8_countWith]
  simp (disch := omega) only [callK_some, Option.toList_some, Option.toList_none, List.cons_append, List.nil_append, cGO, bX8_countWith_5]
  unfold kyN
  simp (disch := omega) only [nI_lt', nI_le', nI_eq', inb_nI, clp, nI_add, nI_mul', cond_true, cond_false, hV s u hs hu, Nat.not_lt_zero, if_false]
  rw [if_neg (by omega)]
theorem cLAdd {L : List Nat} {x : Nat} (hL : L.length < 28) : fX3_add [.ref 13, .int (nI x)] (cH (lpI I L) J pl st) = some (none, cH (lpI I (L ++ [x])) J pl st) := by
  have e : lpI I L 13 1 = nI L.length := rfl
  rw [eX3_add, e]
  simp (disch := omega) only [nI_lt', nI_le', nI_eq', inb_nI, clp, nI_add, nI_mul', cond_true, cond_false, Nat.not_lt_zero, if_false]
  rw [if_neg (by omega), ← lpI_push, nI_add]
theorem cGt_in (hP : P = 4 ∨ P = 7) (h : RPx I P n th ce wr) (hKl : K < 16) (hV : vOk I V) (hs : s < n) : ∀ d u, u + d = n → s < u → run mX3_gather (23, 0, 0, [.ref 13, .ref P, .ref 10, .int (nI K), .int (nI s), .int (nI u)], [], cH (lpI I (pS (loB V ce wr K) n s ++ pU (loB V ce wr K) s u)) J pl st) = run mX3_gather (8, 0, 0, [.ref 13, .ref P, .ref 10, .int (nI K), .int (nI (s + 1)), .int (nI n)], [], cH (lpI I (pS (loB V ce wr K) n (s + 1))) J pl st) := by
  have hn := h.2.1
  intro d
  induction d with
  | zero =>
    intro u hu _
    have : u = n := by omega
    subst this
    rw [bX3_gather_23 (hP := hP), (RPx.lp hP h _).1]
    simp (disch := omega) only [nI_lt', nI_le', nI_eq', inb_nI, clp, nI_add, nI_mul', cond_true, cond_false, Nat.le_refl, if_true]
    rfl
  | succ d ih =>
    intro u hu hsu
    have ih' := ih (u + 1) (by omega) (by omega)
    have hV' : ∀ L, vOk (lpI I L) V := fun L s u h1 h2 => hV s u h1 h2
    have hlt := pSU_lt (f := loB V ce wr K) hn hs (show u < n by omega) hsu
    rw [bX3_gather_23 (hP := hP), (RPx.lp hP h _).1]
    simp (disch := omega) only [nI_lt', nI_le', nI_eq', inb_nI, clp, nI_add, nI_mul', cond_true, cond_false, callK_some, Option.toList_some, Option.toList_none, List.cons_append, List.nil_append, cCw hsu (show u < 8 by omega) (hV' _), bX3_gather_40 (hP := hP)]
    rw [if_neg (by omega)]
    by_cases hv : V (8 * s + u) ≤ nI 0
    · rw [if_pos hv]
      have hl : loB V ce wr K s u = false := by unfold loB; simp [hv]
      rw [pU_f (by rw [hl]; simp)] at ih'
      exact ih'
    · rw [if_neg hv]
      simp (disch := omega) only [callK_some, Option.toList_some, Option.toList_none, List.cons_append, List.nil_append, cMo hP (RPx.lp hP h _) hKl hs (show u < n by omega), bX3_gather_52 (hP := hP), ite_tI]
      cases hb : bdB ce wr K s u with
      | true =>
        have hl : loB V ce wr K s u = false := by unfold loB; simp [hb]
        rw [pU_f (by rw [hl]; simp)] at ih'
        simp only [Bool.not_true, Bool.false_eq_true, if_false, nI_add]
        exact ih'
      | false =>
        have hl : loB V ce wr K s u = true := by unfold loB; simp [hb, hv]
        rw [pU_t hsu hl, ← List.append_assoc] at ih'
        simp (disch := omega) only [Bool.not_false, if_true, callK_some, Option.toList_some, Option.toList_none, List.cons_append, List.nil_append, cGb hsu (show u < 8 by omega), bX3_gather_63 (hP := hP), cLAdd hlt, bX3_gather_66 (hP := hP), nI_add]
        exact ih'
theorem cGt_out (hP : P = 4 ∨ P = 7) (h : RPx I P n th ce wr) (hKl : K < 16) (hV : vOk I V) : ∀ d s (z : Value), s + d = n → run mX3_gather (8, 0, 0, [.ref 13, .ref P, .ref 10, .int (nI K), .int (nI s), z], [], cH (lpI I (pS (loB V ce wr K) n s)) J pl st) = some (none, cH (lpI I (loL V ce wr K n)) J pl st) := by
  have hn := h.2.1
  intro d
  induction d with
  | zero =>
    intro s z hs
    have : s = n := by omega
    subst this
    rw [bX3_gather_8 (hP := hP), (RPx.lp hP h _).1]
    simp (disch := omega) only [nI_lt', nI_le', nI_eq', inb_nI, clp, nI_add, nI_mul', cond_true, cond_false, Nat.le_refl, if_true]
    rfl
  | succ d ih =>
    intro s z hs
    have ih' := ih (s + 1) (.int (nI n)) (by omega)
    rw [bX3_gather_8 (hP := hP), (RPx.lp hP h _).1]
    simp (disch := omega) only [nI_lt', nI_le', nI_eq', inb_nI, clp, nI_add, nI_mul', cond_true, cond_false]
    rw [if_neg (by omega)]
    have := cGt_in (J := J) (pl := pl) (st := st) hP h hKl hV (show s < n by omega) (n - (s + 1)) (s + 1) (by omega) (by omega)
    rw [pU_0 (Nat.le_refl _), List.append_nil] at this
    exact this.trans ih'
theorem cGt (hP : P = 4 ∨ P = 7) (h : RPx I P n th ce wr) (hKl : K < 16) (hV : vOk I V) : fX3_gather [.ref 13, .ref P, .ref 10, .int (nI K)] (cH I J pl st) = some (none, cH (lpI I (loL V ce wr K n)) J pl st) := by
  rw [eX3_gather (hP := hP), lpI_nil]
  exact cGt_out hP h hKl hV n 0 _ (by omega)
end LO
