/-! the cheapest set -/
/-- the one that best puts -/
def bstP (th c : Nat → Nat) (n : Nat) (L : List Nat) (b : Nat) : Prop := sbG th n b ∧ hdN L b = L.length ∧ ∀ s, s < 256 → sbG th n s → hdN L s = L.length → prN c b 8 ≤ prN c s 8 ∧ (s < b → prN c b 8 < prN c s 8)
theorem bstP_one {th c : Nat → Nat} {n : Nat} {L : List Nat} {a b : Nat} (hn : n ≤ 8) (ha : bstP th c n L a) (hb : bstP th c n L b) : a = b := by
  obtain ⟨a1, a2, a3⟩ := ha
  obtain ⟨b1, b2, b3⟩ := hb
  have h1 := a3 b (sbG_lt hn b1) b1 b2
  have h2 := b3 a (sbG_lt hn a1) a1 a2
  rcases Nat.lt_trichotomy a b with h | h | h
  · have := h2.2 h; omega
  · exact h
  · have := h1.2 h; omega
theorem m1_ne : ∀ b, b < 256 → ¬ nI b = Int32.ofInt (-1) := by decide +kernel
def oI (o : Option Nat) : Int32 := match o with
  | none => Int32.ofInt (-1)
  | some b => nI b
/-- the best so far -/
def bsM (th c : Nat → Nat) (n : Nat) (L : List Nat) (k : Nat) : Option Nat → Prop
  | none => ∀ s, s < k → sbG th n s → hdN L s ≠ L.length
  | some b => b < k ∧ sbG th n b ∧ hdN L b = L.length ∧ ∀ s, s < k → sbG th n s → hdN L s = L.length → prN c b 8 ≤ prN c s 8 ∧ (s < b → prN c b 8 < prN c s 8)
theorem bsM_skip {th c : Nat → Nat} {n : Nat} {L : List Nat} {k : Nat} {o : Option Nat} (h : bsM th c n L k o) (hk : ¬ (sbG th n k ∧ hdN L k = L.length)) : bsM th c n L (k + 1) o := by
  cases o with
  | none =>
    intro s hs h1 h2
    by_cases e : s = k
    · subst e; exact hk ⟨h1, h2⟩
    · exact h s (by omega) h1 h2
  | some b =>
    obtain ⟨a1, a2, a3, a4⟩ := h
    refine ⟨by omega, a2, a3, fun s hs h1 h2 => ?_⟩
    by_cases e : s = k
    · subst e; exact absurd ⟨h1, h2⟩ hk
    · exact a4 s (by omega) h1 h2
theorem bsM_dear {th c : Nat → Nat} {n : Nat} {L : List Nat} {k b : Nat} (h : bsM th c n L k (some b)) (hk : prN c b 8 ≤ prN c k 8) : bsM th c n L (k + 1) (some b) := by
  obtain ⟨a1, a2, a3, a4⟩ := h
  refine ⟨by omega, a2, a3, fun s hs h1 h2 => ?_⟩
  by_cases e : s = k
  · subst e; exact ⟨hk, fun q => by omega⟩
  · exact a4 s (by omega) h1 h2
theorem bsM_take {th c : Nat → Nat} {n : Nat} {L : List Nat} {k : Nat} {o : Option Nat} (h : bsM th c n L k o) (h1 : sbG th n k) (h2 : hdN L k = L.length) (h3 : ∀ b, o = some b → prN c k 8 < prN c b 8) : bsM th c n L (k + 1) (some k) := by
  refine ⟨by omega, h1, h2, fun s hs g1 g2 => ?_⟩
  by_cases e : s = k
  · subst e; exact ⟨Nat.le_refl _, fun q => by omega⟩
  · cases o with
    | none => exact absurd g2 (h s (by omega) g1)
    | some b =>
      have := h3 b rfl
      have := (h.2.2.2 s (by omega) g1 g2).1
      exact ⟨by omega, fun _ => by omega⟩
/-- all gaps hold all loose pairs -/
def feas (th : Nat → Nat) (n : Nat) (L : List Nat) : Prop := hdN L (gpS th n) = L.length
section CE
variable {I : Nat → Nat → Int32} {J : Nat → Nat → Int64} {pl st : Bool} {n : Nat} {th ce c : Nat → Nat} {wr : Nat → Bool} {s u F K P : Nat} {V : Nat → Int32} {L : List Nat}
theorem mCh_loop (h : RPm I n th ce wr) (hK : I 0 7 = nI K) (hKl : K < 16) (hV : vOk I V) (hc : cOk I 4 n th c) : ∀ d k o (z : Value), k + d = 256 → bsM th c n (loL V ce wr K n) k o → ∃ o', bsM th c n (loL V ce wr K n) 256 o' ∧ run mX12_cheapest (9, 0, 0, [.ref 0, .int (nI (loL V ce wr K n).length), .int (oI o), .int (nI k), z], [], mH I J) = some (some (.int (oI o')), mH I J) := by
  have hn := h.2.1
  have hl : (loL V ce wr K n).length ≤ 28 := pS_le hn
  intro d
  induction d with
  | zero =>
    intro k o z hk hb
    have : k = 256 := by omega
    subst this
    refine ⟨o, hb, ?_⟩
    rw [bX12_cheapest_9]
    simp (disch := omega) only [nI_lt', nI_le', nI_eq', inb_nI, clp, nI_add, nI_mul', cond_true, cond_false, Nat.le_refl, if_true]
  | succ d ih =>
    intro k o z hk hb
    have hle := adn_le k (gpS th n)
    have hlh := hdN_le (loL V ce wr K n) k
    by_cases hs : sbG th n k
    · have hz : adn k (gpS th n) = 0 := (sbG_adn (by omega)).mpr hs
      by_cases hh : hdN (loL V ce wr K n) k = (loL V ce wr K n).length
      · cases o with
        | none =>
          obtain ⟨o', b1, b2⟩ := ih (k + 1) (some k) .null (by omega) (bsM_take hb hs hh (fun b e => by cases e))
          refine ⟨o', b1, ?_⟩
          rw [bX12_cheapest_9]
          simp (disch := omega) only [nI_lt', nI_le', nI_eq', inb_nI, clp, nI_add, nI_mul', cond_true, cond_false, callK_some, Option.toList_some, Option.toList_none, List.cons_append, List.nil_append, mGs h, bX12_cheapest_21, adn_I, hz]
          rw [if_neg (by omega), if_pos trivial]
          simp (disch := omega) only [oI, if_true, callK_some, Option.toList_some, Option.toList_none, List.cons_append, List.nil_append, nI_lt', nI_le', nI_eq', inb_nI, clp, nI_add, nI_mul', cond_true, cond_false, mHo h hK hKl hV, bX12_cheapest_62, hh]
          exact b2
        | some b =>
          have hb2 : b < 256 := sbG_lt hn hb.2.1
          have hp1 := prN_le (c := c) (F := k) (fun i hi => (hc i (hs i hi).1 (hs i hi).2).2.2) 8
          have hp2 := prN_le (c := c) (F := b) (fun i hi => (hc i (hb.2.1 i hi).1 (hb.2.1 i hi).2).2.2) 8
          by_cases hp : prN c b 8 ≤ prN c k 8
          · obtain ⟨o', b1, b2⟩ := ih (k + 1) (some b) (.int (nI 0)) (by omega) (bsM_dear hb hp)
            refine ⟨o', b1, ?_⟩
            rw [bX12_cheapest_9]
            simp (disch := omega) only [nI_lt', nI_le', nI_eq', inb_nI, clp, nI_add, nI_mul', cond_true, cond_false, callK_some, Option.toList_some, Option.toList_none, List.cons_append, List.nil_append, mGs h, bX12_cheapest_21, adn_I, hz]
            rw [if_neg (by omega), if_pos trivial]
            simp (disch := omega) only [oI, m1_ne b hb2, if_false, callK_some, Option.toList_some, Option.toList_none, List.cons_append, List.nil_append, nI_lt', nI_le', nI_eq', inb_nI, clp, nI_add, nI_mul', cond_true, cond_false, mPr hn hs hc, bX12_cheapest_37, mPr hn hb.2.1 hc, bX12_cheapest_42]
            rw [if_pos hp]
            exact b2
          · obtain ⟨o', b1, b2⟩ := ih (k + 1) (some k) .null (by omega) (bsM_take hb hs hh (fun b' e => by cases e; omega))
            refine ⟨o', b1, ?_⟩
            rw [bX12_cheapest_9]
            simp (disch := omega) only [nI_lt', nI_le', nI_eq', inb_nI, clp, nI_add, nI_mul', cond_true, cond_false, callK_some, Option.toList_some, Option.toList_none, List.cons_append, List.nil_append, mGs h, bX12_cheapest_21, adn_I, hz]
            rw [if_neg (by omega), if_pos trivial]
            simp (disch := omega) only [oI, m1_ne b hb2, if_false, callK_some, Option.toList_some, Option.toList_none, List.cons_append, List.nil_append, nI_lt', nI_le', nI_eq', inb_nI, clp, nI_add, nI_mul', cond_true, cond_false, mPr hn hs hc, bX12_cheapest_37, mPr hn hb.2.1 hc, bX12_cheapest_42]
            rw [if_neg hp]
            simp (disch := omega) only [if_true, callK_some, Option.toList_some, Option.toList_none, List.cons_append, List.nil_append, nI_lt', nI_le', nI_eq', inb_nI, clp, nI_add, nI_mul', cond_true, cond_false, mHo h hK hKl hV, bX12_cheapest_62, hh]
            exact b2
      · have hsk := bsM_skip hb (fun q => hh q.2)
        obtain ⟨o1, b1, b2⟩ := ih (k + 1) o .null (by omega) hsk
        obtain ⟨o2, b3, b4⟩ := ih (k + 1) o (.int (nI 0)) (by omega) hsk
        cases o with
        | none =>
          refine ⟨o1, b1, ?_⟩
          rw [bX12_cheapest_9]
          simp (disch := omega) only [nI_lt', nI_le', nI_eq', inb_nI, clp, nI_add, nI_mul', cond_true, cond_false, callK_some, Option.toList_some, Option.toList_none, List.cons_append, List.nil_append, mGs h, bX12_cheapest_21, adn_I, hz]
          rw [if_neg (by omega), if_pos trivial]
          simp (disch := omega) only [oI, if_true, callK_some, Option.toList_some, Option.toList_none, List.cons_append, List.nil_append, nI_lt', nI_le', nI_eq', inb_nI, clp, nI_add, nI_mul', cond_true, cond_false, mHo h hK hKl hV, bX12_cheapest_62]
          rw [if_neg hh]
          exact b2
        | some b =>
          have hb2 : b < 256 := sbG_lt hn hb.2.1
          have hp1 := prN_le (c := c) (F := k) (fun i hi => (hc i (hs i hi).1 (hs i hi).2).2.2) 8
          have hp2 := prN_le (c := c) (F := b) (fun i hi => (hc i (hb.2.1 i hi).1 (hb.2.1 i hi).2).2.2) 8
          by_cases hp : prN c b 8 ≤ prN c k 8
          · refine ⟨o2, b3, ?_⟩
            rw [bX12_cheapest_9]
            simp (disch := omega) only [nI_lt', nI_le', nI_eq', inb_nI, clp, nI_add, nI_mul', cond_true, cond_false, callK_some, Option.toList_some, Option.toList_none, List.cons_append, List.nil_append, mGs h, bX12_cheapest_21, adn_I, hz]
            rw [if_neg (by omega), if_pos trivial]
            simp (disch := omega) only [oI, m1_ne b hb2, if_false, callK_some, Option.toList_some, Option.toList_none, List.cons_append, List.nil_append, nI_lt', nI_le', nI_eq', inb_nI, clp, nI_add, nI_mul', cond_true, cond_false, mPr hn hs hc, bX12_cheapest_37, mPr hn hb.2.1 hc, bX12_cheapest_42]
            rw [if_pos hp]
            exact b4
          · refine ⟨o1, b1, ?_⟩
            rw [bX12_cheapest_9]
            simp (disch := omega) only [nI_lt', nI_le', nI_eq', inb_nI, clp, nI_add, nI_mul', cond_true, cond_false, callK_some, Option.toList_some, Option.toList_none, List.cons_append, List.nil_append, mGs h, bX12_cheapest_21, adn_I, hz]
            rw [if_neg (by omega), if_pos trivial]
            simp (disch := omega) only [oI, m1_ne b hb2, if_false, callK_some, Option.toList_some, Option.toList_none, List.cons_append, List.nil_append, nI_lt', nI_le', nI_eq', inb_nI, clp, nI_add, nI_mul', cond_true, cond_false, mPr hn hs hc, bX12_cheapest_37, mPr hn hb.2.1 hc, bX12_cheapest_42]
            rw [if_neg hp]
            simp (disch := omega) only [callK_some, Option.toList_some, Option.toList_none, List.cons_append, List.nil_append, nI_lt', nI_le', nI_eq', inb_nI, clp, nI_add, nI_mul', cond_true, cond_false, mHo h hK hKl hV, bX12_cheapest_62]
            rw [if_neg hh]
            exact b2
    · have hz : ¬ adn k (gpS th n) = 0 := fun q => hs ((sbG_adn (by omega)).mp q)
      obtain ⟨o', b1, b2⟩ := ih (k + 1) o (.int (nI 0)) (by omega) (bsM_skip hb (fun q => hs q.1))
      refine ⟨o', b1, ?_⟩
      rw [bX12_cheapest_9]
      simp (disch := omega) only [nI_lt', nI_le', nI_eq', inb_nI, clp, nI_add, nI_mul', cond_true, cond_false, callK_some, Option.toList_some, Option.toList_none, List.cons_append, List.nil_append, mGs h, bX12_cheapest_21, adn_I]
      rw [if_neg (by omega), if_neg hz]
      exact b2
theorem mCh (h : RPm I n th ce wr) (hK : I 0 7 = nI K) (hKl : K < 16) (hV : vOk I V) (hc : cOk I 4 n th c) (hfe : feas th n (loL V ce wr K n)) : ∃ b, bstP th c n (loL V ce wr K n) b ∧ fX12_cheapest [.ref 0] (mH I J) = some (some (.int (nI b)), mH I J) := by
  have hn := h.2.1
  obtain ⟨o, h1, h2⟩ := mCh_loop (J := J) h hK hKl hV hc 256 0 none .null rfl (fun s hs => absurd hs (Nat.not_lt_zero s))
  cases o with
  | none => exact absurd hfe (h1 _ (sbG_lt hn (sbG_S th n)) (sbG_S th n))
  | some b =>
    refine ⟨b, ⟨h1.2.1, h1.2.2.1, h1.2.2.2⟩, ?_⟩
    rw [eX12_cheapest, mLp h hK hKl hV]
    simp only [callK_some, Option.toList_some, Option.toList_none, List.cons_append, List.nil_append, bX12_cheapest_4]
    exact h2
/-- the class's best so far -/
def bsX (th c : Nat → Nat) (n : Nat) (L : List Nat) (k b : Nat) : Prop := sbG th n b ∧ hdN L b = L.length ∧ ((b = gpS th n ∧ ∀ s, s < k → sbG th n s → hdN L s = L.length → prN c b 8 ≤ prN c s 8) ∨ (b < k ∧ ∀ s, s < k → sbG th n s → hdN L s = L.length → prN c b 8 ≤ prN c s 8 ∧ (s < b → prN c b 8 < prN c s 8)))
theorem bsX_skip {k b : Nat} (h : bsX th c n L k b) (hk : ¬ (sbG th n k ∧ hdN L k = L.length ∧ prN c k 8 < prN c b 8)) : bsX th c n L (k + 1) b := by
  obtain ⟨h1, h2, h3⟩ := h
  refine ⟨h1, h2, ?_⟩
  rcases h3 with ⟨e, h3⟩ | ⟨e, h3⟩
  · left
    refine ⟨e, fun s hs a1 a2 => ?_⟩
    by_cases q : s = k
    · subst q
      by_cases w : prN c s 8 < prN c b 8
      · exact absurd ⟨a1, a2, w⟩ hk
      · omega
    · exact h3 s (by omega) a1 a2
  · right
    refine ⟨by omega, fun s hs a1 a2 => ?_⟩
    by_cases q : s = k
    · subst q
      by_cases w : prN c s 8 < prN c b 8
      · exact absurd ⟨a1, a2, w⟩ hk
      · exact ⟨by omega, fun _ => by omega⟩
    · exact h3 s (by omega) a1 a2
theorem bsX_take {k b : Nat} (h : bsX th c n L k b) (h1 : sbG th n k) (h2 : hdN L k = L.length) (h3 : prN c k 8 < prN c b 8) : bsX th c n L (k + 1) k := by
  obtain ⟨-, -, g3⟩ := h
  refine ⟨h1, h2, Or.inr ⟨by omega, fun s hs a1 a2 => ?_⟩⟩
  by_cases q : s = k
  · subst q; exact ⟨Nat.le_refl _, fun _ => by omega⟩
  · have : prN c b 8 ≤ prN c s 8 := by
      rcases g3 with ⟨e, g3⟩ | ⟨e, g3⟩
      · exact g3 s (by omega) a1 a2
      · exact (g3 s (by omega) a1 a2).1
    exact ⟨by omega, fun _ => by omega⟩
theorem sbG_le {F : Nat} (h : sbG th n F) : F ≤ gpS th n := by
  have e : F &&& gpS th n = F := by
    apply Nat.eq_of_testBit_eq
    intro i
    rw [Nat.testBit_and]
    cases hq : F.testBit i
    · rfl
    · rw [(gpS_bit i).mpr (h i hq)]; rfl
  rw [← e]
  exact Nat.and_le_right
theorem bsX_end {b : Nat} (hn : n ≤ 8) (hc : ∀ g, g < n → gpB th g = true → 1 ≤ c g) (h : bsX th c n L (gpS th n + 1) b) : bstP th c n L b := by
  obtain ⟨h1, h2, h3⟩ := h
  refine ⟨h1, h2, fun s hs a1 a2 => ?_⟩
  have hle := sbG_le a1
  rcases h3 with ⟨e, h3⟩ | ⟨e, h3⟩
  · refine ⟨h3 s (by omega) a1 a2, fun hlt => ?_⟩
    exfalso
    have hg := h3 s (by omega) a1 a2
    have hx : ∃ i, i < 8 ∧ (gpS th n).testBit i = true ∧ s.testBit i = false := by
      by_cases hz : ∃ i, i < 8 ∧ (gpS th n).testBit i = true ∧ s.testBit i = false
      · exact hz
      · exfalso
        have : s = gpS th n := by
          apply Nat.eq_of_testBit_eq
          intro i
          cases hq : (gpS th n).testBit i
          · cases hw : s.testBit i
            · rfl
            · have := (gpS_bit i).mpr (a1 i hw); rw [hq] at this; cases this
          · cases hw : s.testBit i
            · exact absurd ⟨i, by have := ((gpS_bit i).mp hq).1; omega, hq, hw⟩ hz
            · rfl
        omega
    have := prN_strict (c := c) (F := s) (G := gpS th n) (fun i hi => (gpS_bit i).mpr (a1 i hi)) (fun i hi => hc i ((gpS_bit i).mp hi).1 ((gpS_bit i).mp hi).2) 8 hx
    rw [e] at hg
    omega
  · exact h3 s (by omega) a1 a2
theorem cCh_loop (hn : n ≤ 8) (h : LPx I L) (hc : cOk I 16 n th c) : ∀ d k b, k + d = gpS th n + 1 → bsX th c n L k b → ∃ b', bsX th c n L (gpS th n + 1) b' ∧ run mX3_cheapestSet (12, 0, 0, [.ref 13, .int (nI (gpS th n)), .ref 15, .int (nI b), .int (nI (prN c b 8)), .int (nI k)], [], cH I J pl st) = some (some (.int (nI b')), cH I J pl st) := by
  have hl := h.2.1
  have hG := sbG_lt hn (sbG_S th n)
  intro d
  induction d with
  | zero =>
    intro k b hk hb
    have : k = gpS th n + 1 := by omega
    subst this
    refine ⟨b, hb, ?_⟩
    rw [bX3_cheapestSet_12]
    simp (disch := omega) only [nI_lt', nI_le', nI_eq', inb_nI, clp, nI_add, nI_mul', cond_true, cond_false]
    rw [if_pos (by omega)]
  | succ d ih =>
    intro k b hk hb
    have hle := adn_le k (gpS th n)
    have hlh := hdN_le L k
    by_cases hs : sbG th n k
    · have hz : adn k (gpS th n) = 0 := (sbG_adn (by omega)).mpr hs
      have hp1 := prN_le (c := c) (F := k) (fun i hi => (hc i (hs i hi).1 (hs i hi).2).2.2) 8
      have hp2 := prN_le (c := c) (F := b) (fun i hi => (hc i (hb.1 i hi).1 (hb.1 i hi).2).2.2) 8
      by_cases hp : prN c b 8 ≤ prN c k 8
      · obtain ⟨b', b1, b2⟩ := ih (k + 1) b (by omega) (bsX_skip hb (fun q => by have := q.2.2; omega))
        refine ⟨b', b1, ?_⟩
        rw [bX3_cheapestSet_12]
        simp (disch := omega) only [nI_lt', nI_le', nI_eq', inb_nI, clp, nI_add, nI_mul', cond_true, cond_false, callK_some, Option.toList_some, Option.toList_none, List.cons_append, List.nil_append, adn_I, hz, cPr hn hs hc, bX3_cheapestSet_33]
        rw [if_neg (by omega), if_pos trivial, if_pos hp]
        exact b2
      · by_cases hh : hdN L k = L.length
        · obtain ⟨b', b1, b2⟩ := ih (k + 1) k (by omega) (bsX_take hb hs hh (by omega))
          refine ⟨b', b1, ?_⟩
          rw [bX3_cheapestSet_12]
          simp (disch := omega) only [nI_lt', nI_le', nI_eq', inb_nI, clp, nI_add, nI_mul', cond_true, cond_false, callK_some, Option.toList_some, Option.toList_none, List.cons_append, List.nil_append, adn_I, hz, cPr hn hs hc, bX3_cheapestSet_33]
          rw [if_neg (by omega), if_pos trivial, if_neg hp]
          simp (disch := omega) only [callK_some, Option.toList_some, Option.toList_none, List.cons_append, List.nil_append, cAa h, bX3_cheapestSet_44, ite_tI, hh, decide_true, if_true, cPr hn hs hc, bX3_cheapestSet_56, nI_add]
          exact b2
        · obtain ⟨b', b1, b2⟩ := ih (k + 1) b (by omega) (bsX_skip hb (fun q => hh q.2.1))
          refine ⟨b', b1, ?_⟩
          rw [bX3_cheapestSet_12]
          simp (disch := omega) only [nI_lt', nI_le', nI_eq', inb_nI, clp, nI_add, nI_mul', cond_true, cond_false, callK_some, Option.toList_some, Option.toList_none, List.cons_append, List.nil_append, adn_I, hz, cPr hn hs hc, bX3_cheapestSet_33]
          rw [if_neg (by omega), if_pos trivial, if_neg hp]
          simp (disch := omega) only [callK_some, Option.toList_some, Option.toList_none, List.cons_append, List.nil_append, cAa h, bX3_cheapestSet_44, ite_tI, hh, decide_false, Bool.false_eq_true, if_false, nI_add]
          exact b2
    · have hz : ¬ adn k (gpS th n) = 0 := fun q => hs ((sbG_adn (by omega)).mp q)
      obtain ⟨b', b1, b2⟩ := ih (k + 1) b (by omega) (bsX_skip hb (fun q => hs q.1))
      refine ⟨b', b1, ?_⟩
      rw [bX3_cheapestSet_12]
      simp (disch := omega) only [nI_lt', nI_le', nI_eq', inb_nI, clp, nI_add, nI_mul', cond_true, cond_false, adn_I]
      rw [if_neg (by omega), if_neg hz]
      exact b2
theorem cCh (hn : n ≤ 8) (h : LPx I L) (hc : cOk I 16 n th c) (hfe : feas th n L) : ∃ b, bstP th c n L b ∧ fX3_cheapestSet [.ref 13, .int (nI (gpS th n)), .ref 15] (cH I J pl st) = some (some (.int (nI b)), cH I J pl st) := by
  obtain ⟨b, h1, h2⟩ := cCh_loop (J := J) (pl := pl) (st := st) hn h hc (gpS th n + 1) 0 (gpS th n) (by omega) ⟨sbG_S th n, hfe, Or.inl ⟨rfl, fun s hs => absurd hs (Nat.not_lt_zero s)⟩⟩
  refine ⟨b, bsX_end hn (fun g a1 a2 => (hc g a1 a2).2.1) h1, ?_⟩
  rw [eX3_cheapestSet, cPr hn (sbG_S th n) hc]
  simp only [callK_some, Option.toList_some, Option.toList_none, List.cons_append, List.nil_append, bX3_cheapestSet_7]
  exact h2
end CE
