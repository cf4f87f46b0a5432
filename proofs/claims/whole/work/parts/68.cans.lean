/-! both sides: what can be read -/
theorem fin_mono {ce : Nat → Nat} {wr : Nat → Bool} {n : Nat} {W W' : Nat → Nat} (hn : n ≤ 8) (hW : ∀ s, s < n → W s < 256) (hW' : ∀ s, s < n → W' s < 256) (hs : ∀ s i, s < n → (W' s).testBit i = true → (W s).testBit i = true) {v : Nat} : ∀ {d g}, fin ce wr n W d g v → fin ce wr n W' d g v := by
  intro d
  induction d with
  | zero => intro g h; exact h
  | succ d ih =>
    rintro g ⟨s, h1, h2, h3⟩
    refine ⟨s, h1, ?_, ih h3⟩
    unfold enB at h2 ⊢
    rw [Bool.and_eq_true] at h2 ⊢
    refine ⟨h2.1, decide_eq_true ?_⟩
    have h4 := (adn_0 (Nat.lt_of_lt_of_le (hW s h1) (by decide))).mp (of_decide_eq_true h2.2)
    exact (adn_0 (Nat.lt_of_lt_of_le (hW' s h1) (by decide))).mpr (fun i hi => h4 i (hs s i h1 hi))
theorem rd_sub {th ce : Nat → Nat} {wr : Nat → Bool} {n F K : Nat} (hn : n ≤ 8) {v : Nat} (h : rdP th ce wr n 0 0 v) : rdP th ce wr n F K v := by
  refine fin_mono hn (fun s hs => wtN_lt (by omega)) (fun s hs => wtN_lt (by omega)) (fun s i _ hi => ?_) h
  rw [wtN_0, bset_bit]
  unfold wtN at hi
  rw [bset_bit, Bool.and_eq_true] at hi
  rw [Bool.and_eq_true]
  refine ⟨hi.1, ?_⟩
  have := hi.2
  unfold wtB at this
  rw [Bool.and_eq_true] at this
  exact this.1
def inP (S : Nat → Prop) (x : Int32) : Prop := ∃ v, v < 2147483648 ∧ x = nI v ∧ S v
theorem SR_inX {A : Nat → Int32} {m : Nat} {S : Nat → Prop} {x : Int32} (h : SR A m S) : inR A x m = true ↔ inP S x := by
  rw [inR_iff]
  obtain ⟨f, f1, f2, f3⟩ := h
  constructor
  · rintro ⟨i, hi, rfl⟩
    exact ⟨f i, (f1 i hi).2, (f1 i hi).1, (f3 _).mpr ⟨i, hi, rfl⟩⟩
  · rintro ⟨v, hv, rfl, hS⟩
    obtain ⟨i, hi, e⟩ := (f3 v).mp hS
    exact ⟨i, hi, by rw [(f1 i hi).1, e]⟩
theorem inR_same {A A' : Nat → Int32} {m m' : Nat} {S : Nat → Prop} (x : Int32) (h : SR A m S) (h' : SR A' m' S) : inR A x m = inR A' x m' := by
  obtain ⟨e, e2⟩ := SR_one h h'
  subst e
  exact inR_cong e2
section CA
variable {A M : Nat → Nat → Int32} {N : Nat → Nat → Int64} {J : Nat → Nat → Int64} {pl st : Bool} {n T F K : Nat} {th ce c : Nat → Nat} {wr : Nat → Bool}
def cnI (a b : Bool) : Int32 := if a = true then nI 2 else if b = true then nI 1 else nI 0
theorem mCan (hC : CAPS) (h : iCo A pl M N n T th ce wr F K c) (hr : iRm M n th ce wr F K) (x : Int32) : ∃ (M' : Nat → Nat → Int32) (a b : Bool), fX12_can [.ref 0, .int x] (mH M N) = some (some (.int (cnI a b)), mH M' N) ∧ qM M M' ∧ iRm M' n th ce wr F K ∧ (a = true ↔ inP (rdP th ce wr n 0 0) x) ∧ (b = true ↔ inP (rdP th ce wr n F K) x) := by
  obtain ⟨M', m, e, q, r', hm, l1, l2, l3, l4⟩ := mRd hC h hr
  obtain ⟨r1, r2, ⟨ms, u1, u2, u3⟩, r4⟩ := hr
  have hS := SR_inX (x := x) u3
  have hL := SR_inX (x := x) l3
  have e2 : fX12_can [.ref 0, .int x] (mH M N) = _ := eX12_can M N x
  rw [u2, mIn (P := 5) (Or.inl rfl) (by omega) x] at e2
  simp only [callK_some, Option.toList_some, Option.toList_none, List.cons_append, List.nil_append, bX12_can_12, ite_tI] at e2
  cases hb : inR (M 5) x ms with
  | true =>
    rw [hb, if_pos rfl] at e2
    refine ⟨M, true, inR (M' 6) x m, e2, qM_refl M, ⟨r1, r2, ⟨ms, u1, u2, u3⟩, r4⟩, ⟨fun _ => hS.mp hb, fun _ => rfl⟩, hL⟩
  | false =>
    rw [hb, if_neg (by decide), e] at e2
    simp only [callK_some, Option.toList_some, Option.toList_none, List.cons_append, List.nil_append, bX12_can_25] at e2
    rw [mIn (P := 6) (Or.inr rfl) (by omega) x] at e2
    simp only [callK_some, Option.toList_some, Option.toList_none, List.cons_append, List.nil_append, bX12_can_29, ite_tI] at e2
    refine ⟨M', false, inR (M' 6) x m, ?_, q, r', ⟨fun z => Bool.noConfusion z, fun z => ?_⟩, hL⟩
    · rw [e2]
      unfold cnI
      cases inR (M' 6) x m <;> rfl
    · rw [hS.mpr z] at hb; exact hb.symm
theorem e_can (hC : CAPS) (h : Inv A pl M N) (x : Int32) : eqv A J pl st M N (fX11_can [.ref 0, .int x]) (fX12_can [.ref 0, .int x]) := by
  obtain ⟨n, T, th, ce, wr, F, K, c, hc, r1, r2, r3⟩ := h
  obtain ⟨M', a, b, e, qm, r1', ha, hb⟩ := mCan hC hc r1 x
  obtain ⟨A1, J1, st1, m1, e1, q1, s1, u1, u2, u3, u4, u5, u6, u7, u8⟩ := cSN (J := J) (st := st) hC hc r3
  have hc1 := hc.q q1 (qM_refl M)
  have l1 := r2.cg u4 u5 u6 u7 u8
  obtain ⟨A2, J2, st2, m2, e2, q2, l2, v1, v2, v3, v4, v5, v6⟩ := cRN (J := J1) (st := st1) hC hc1 l1
  have f1 : fX11_can [.ref 0, .int x] (cH A J pl st) = _ := eX11_can A J pl st x
  rw [e1] at f1
  simp only [callK_some, Option.toList_some, Option.toList_none, List.cons_append, List.nil_append, bX11_can_4] at f1
  rw [cHo (P := 76) (Or.inr rfl) u1 u2 u3] at f1
  simp only [callK_some, Option.toList_some, Option.toList_none, List.cons_append, List.nil_append, bX11_can_8, ite_tI] at f1
  have hS := SR_inX (x := x) u3
  cases hb1 : inR (A1 77) x m1 with
  | true =>
    rw [hb1, if_pos rfl] at f1
    have : a = true := ha.mpr (hS.mp hb1)
    subst this
    exact ⟨nI 2, A1, J1, pl, st1, M', N, f1, e, n, T, th, ce, wr, F, K, c, hc.q q1 qm, r1', l1, s1⟩
  | false =>
    rw [hb1, if_neg (by decide), e2] at f1
    simp only [callK_some, Option.toList_some, Option.toList_none, List.cons_append, List.nil_append, bX11_can_17] at f1
    rw [cHo (P := 74) (Or.inl rfl) v1 v2 v3] at f1
    simp only [callK_some, Option.toList_some, Option.toList_none, List.cons_append, List.nil_append, bX11_can_21, ite_tI] at f1
    have hL := SR_inX (x := x) v3
    have ea : a = false := by
      cases a with
      | false => rfl
      | true => rw [hS.mpr (ha.mp rfl)] at hb1; exact hb1
    have eb : b = inR (A2 75) x m2 := by
      cases b with
      | true => exact (hL.mpr (hb.mp rfl)).symm
      | false =>
        cases w : inR (A2 75) x m2 with
        | false => rfl
        | true => exact hb.mpr (hL.mp w)
    subst ea
    subst eb
    refine ⟨cnI false (inR (A2 75) x m2), A2, J2, pl, st2, M', N, ?_, e, n, T, th, ce, wr, F, K, c, hc.q (qC_trans q1 q2) qm, r1', l2, s1.cg v4 v5 v6⟩
    rw [f1]
    unfold cnI
    cases inR (A2 75) x m2 <;> rfl
/-- readings that are laid stay so -/
theorem mRd_2 {m : Nat} (h1 : M 0 12 = tI true) (h2 : M 0 11 = nI m) : fX12_readings [.ref 0] (mH M N) = some (some (.int (nI m)), mH M N) := by
  rw [eX12_readings, h1, if_neg (by decide), h2]
theorem mSt_loop {m ms : Nat} (h1 : M 0 12 = tI true) (h2 : M 0 11 = nI m) (hm : m ≤ 256) (h3 : M 0 10 = nI ms) (hms : ms ≤ 256) : ∀ d k l (z : Value), k + d = m → l < 2147483648 → run mX12_stray (4, 0, 0, [.ref 0, z, .int (nI l), .int (nI k)], [], mH M N) = some (some (.int (stF (M 6) (fun x => inR (M 5) x ms) k d l)), mH M N) := by
  intro d
  induction d with
  | zero =>
    intro k l z hk hl
    rw [bX12_stray_4, mRd_2 h1 h2]
    simp (disch := omega) only [callK_some, Option.toList_some, Option.toList_none, List.cons_append, List.nil_append, bX12_stray_9, nI_lt', nI_le', nI_eq', inb_nI, clp, nI_add, nI_mul', cond_true, cond_false]
    rw [if_pos (by omega)]
    rfl
  | succ d ih =>
    intro k l z hk hl
    rw [bX12_stray_4, mRd_2 h1 h2]
    simp (disch := omega) only [callK_some, Option.toList_some, Option.toList_none, List.cons_append, List.nil_append, bX12_stray_9, nI_lt', nI_le', nI_eq', inb_nI, clp, nI_add, nI_mul', cond_true, cond_false, h3]
    rw [if_neg (by omega), mIn (P := 5) (Or.inl rfl) (by omega)]
    simp (disch := omega) only [callK_some, Option.toList_some, Option.toList_none, List.cons_append, List.nil_append, bX12_stray_29, nI_lt', nI_le', nI_eq', inb_nI, clp, nI_add, nI_mul', cond_true, cond_false, ite_tI]
    show _ = some (some (Value.int (bif inR (M 5) (M 6 k) ms then stF (M 6) (fun x => inR (M 5) x ms) (k + 1) d l else (if l = 0 then M 6 k else stF (M 6) (fun x => inR (M 5) x ms) (k + 1) d (l - 1)))), mH M N)
    cases hb : inR (M 5) (M 6 k) ms with
    | true =>
      rw [if_pos rfl]
      exact ih (k + 1) l _ (by omega) hl
    | false =>
      rw [if_neg (by decide)]
      by_cases w : l = 0
      · rw [if_pos w]
        show _ = some (some (Value.int (if l = 0 then M 6 k else stF (M 6) (fun x => inR (M 5) x ms) (k + 1) d (l - 1))), mH M N)
        rw [if_pos w]
      · rw [if_neg w]
        show _ = some (some (Value.int (if l = 0 then M 6 k else stF (M 6) (fun x => inR (M 5) x ms) (k + 1) d (l - 1))), mH M N)
        rw [if_neg w]
        obtain ⟨l', rfl⟩ : ∃ l', l = l' + 1 := ⟨l - 1, by omega⟩
        rw [m1_nI]
        exact ih (k + 1) l' _ (by omega) (by omega)
theorem mStr (hC : CAPS) (h : iCo A pl M N n T th ce wr F K c) (hr : iRm M n th ce wr F K) {l : Nat} (hl : l < 2147483648) : ∃ (M' : Nat → Nat → Int32) (m ms : Nat), fX12_stray [.ref 0, .int (nI l)] (mH M N) = some (some (.int (stF (M' 6) (fun x => inR (M' 5) x ms) 0 m l)), mH M' N) ∧ qM M M' ∧ iRm M' n th ce wr F K ∧ SR (M' 6) m (rdP th ce wr n F K) ∧ SR (M' 5) ms (rdP th ce wr n 0 0) := by
  obtain ⟨M', m, e, q, r', hm, l1, l2, l3, l4⟩ := mRd hC h hr
  obtain ⟨r1, r2, ⟨ms, u1, u2, u3⟩, r4⟩ := hr
  have h10 : M' 0 10 = nI ms := by rw [q.2 10 (by decide) (by decide)]; exact u2
  refine ⟨M', m, ms, ?_, q, r', l3, by rw [l4]; exact u3⟩
  have lp := mSt_loop (N := N) l1 l2 hm h10 u1 m 0 l .null (by omega) hl
  rw [bX12_stray_4, mRd_2 l1 l2] at lp
  rw [eX12_stray, bX12_stray_4, e]
  exact lp
theorem stF_same {A A' B B' : Nat → Int32} {m m' k k' : Nat} {S S' : Nat → Prop} (h : SR A m S) (h' : SR A' m' S) (g : SR B k S') (g' : SR B' k' S') (l : Nat) : stF A (fun x => inR B x k) 0 m l = stF A' (fun x => inR B' x k') 0 m' l := by
  obtain ⟨e, e2⟩ := SR_one h h'
  subst e
  exact stF_cong (m := m) (by omega) e2 (fun i _ => inR_same _ g g')
theorem e_reading (hC : CAPS) (h : Inv A pl M N) (x y : Int32) : eqv A J pl st M N (fX11_reading [.ref 0, .int x, .int y]) (fX12_reading [.ref 0, .int x, .int y]) := by
  have hI := h
  obtain ⟨n, T, th, ce, wr, F, K, c, hc, r1, r2, r3⟩ := h
  have f1 : fX11_reading [.ref 0, .int x, .int y] (cH A J pl st) = _ := eX11_reading A J pl st x y
  have f2 : fX12_reading [.ref 0, .int x, .int y] (mH M N) = _ := eX12_reading M N x y
  have at_ : ∀ {Q m : Nat} {B : Nat → Nat → Int32} {J : Nat → Nat → Int64} {st : Bool} (hQ : Q = 74 ∨ Q = 76) (hm : m ≤ 256) (h1 : B Q 1 = nI m), fX7_at [.ref Q, .int x] (cH B J pl st) = some (some (.int (if x < nI 0 then Int32.ofInt (-1) else if x.toNatClampNeg < m then B (Q + 1) x.toNatClampNeg else Int32.ofInt (-1))), cH B J pl st) := by
    intro Q m B J st hQ hm h1
    by_cases w : x < nI 0
    · rw [if_pos w, eX7_at (hP := hQ), if_pos w]
    · rw [if_neg w]
      obtain ⟨i, hi, rfl⟩ := nI_of w
      rw [clp (by omega)]
      exact cAt hQ hm h1 (by omega)
  by_cases y0 : y = nI 0
  · subst y0
    rw [if_pos rfl] at f1
    simp only [if_neg (show ¬ nI 0 < nI 0 by decide), if_pos (show nI 0 ≤ nI 2 by decide), if_neg (show ¬ nI 0 = nI 2 by decide), if_true] at f2
    obtain ⟨A2, J2, st2, m2, e2, q2, l2, v1, v2, v3, v4, v5, v6⟩ := cRN (J := J) (st := st) hC hc r2
    rw [e2] at f1
    simp only [callK_some, Option.toList_some, Option.toList_none, List.cons_append, List.nil_append, bX11_reading_32] at f1
    rw [at_ (Or.inl rfl) v1 v2] at f1
    simp only [callK_some, Option.toList_some, Option.toList_none, List.cons_append, List.nil_append, bX11_reading_36] at f1
    by_cases w : x < nI 0
    · rw [if_pos w] at f1
      rw [if_neg (fun z => Int32.not_lt.mpr z w)] at f2
      exact ⟨_, A2, J2, pl, st2, M, N, f1, f2, n, T, th, ce, wr, F, K, c, hc.q q2 (qM_refl M), r1, l2, r3.cg v4 v5 v6⟩
    · rw [if_neg w] at f1
      rw [if_pos (Int32.not_lt.mp w)] at f2
      obtain ⟨i, hi, rfl⟩ := nI_of w
      obtain ⟨M', m, e, q, r', hm, l1, l2', l3, l4⟩ := mRd hC hc r1
      obtain ⟨em, em2⟩ := SR_one l3 v3
      rw [e] at f2
      have ew : fX12_reading [.ref 0, .int (nI i), .int (nI 0)] (mH M N) = some (some (.int (if i < m2 then A2 75 i else Int32.ofInt (-1))), mH M' N) := by
        rw [f2]
        simp (disch := omega) only [callK_some, Option.toList_some, Option.toList_none, List.cons_append, List.nil_append, bX12_reading_37, nI_lt', nI_le', nI_eq', inb_nI, clp, nI_add, nI_mul', cond_true, cond_false, if_true]
        by_cases wi : i < m
        · rw [if_pos wi, if_pos (by omega), em2 i wi]
        · rw [if_neg wi, if_neg (by omega)]
      rw [clp (by omega)] at f1
      exact ⟨_, A2, J2, pl, st2, M', N, f1, ew, n, T, th, ce, wr, F, K, c, hc.q q2 q, r', l2, r3.cg v4 v5 v6⟩
  rw [if_neg y0] at f1
  by_cases y1 : y = nI 1
  · subst y1
    rw [if_pos rfl] at f1
    simp only [if_neg (show ¬ nI 1 < nI 0 by decide), if_pos (show nI 1 ≤ nI 2 by decide), if_neg (show ¬ nI 1 = nI 2 by decide), if_neg (show ¬ nI 1 = nI 0 by decide)] at f2
    obtain ⟨A1, J1, st1, m1, e1, q1, s1, u1, u2, u3, u4, u5, u6, u7, u8⟩ := cSN (J := J) (st := st) hC hc r3
    rw [e1] at f1
    simp only [callK_some, Option.toList_some, Option.toList_none, List.cons_append, List.nil_append, bX11_reading_41] at f1
    rw [at_ (Or.inr rfl) u1 u2] at f1
    simp only [callK_some, Option.toList_some, Option.toList_none, List.cons_append, List.nil_append, bX11_reading_45] at f1
    have hI1 : Inv A1 pl M N := ⟨n, T, th, ce, wr, F, K, c, hc.q q1 (qM_refl M), r1, r2.cg u4 u5 u6 u7 u8, s1⟩
    by_cases w : x < nI 0
    · rw [if_pos w] at f1
      rw [if_neg (fun z => Int32.not_lt.mpr z w)] at f2
      exact ⟨_, A1, J1, pl, st1, M, N, f1, f2, hI1⟩
    · rw [if_neg w] at f1
      rw [if_pos (Int32.not_lt.mp w)] at f2
      obtain ⟨i, hi, rfl⟩ := nI_of w
      obtain ⟨-, -, ⟨ms, k1, k2, k3⟩, -⟩ := r1
      obtain ⟨em, em2⟩ := SR_one k3 u3
      rw [k2] at f2
      have ew : fX12_reading [.ref 0, .int (nI i), .int (nI 1)] (mH M N) = some (some (.int (if i < m1 then A1 77 i else Int32.ofInt (-1))), mH M N) := by
        rw [f2]
        simp (disch := omega) only [nI_lt', nI_le', nI_eq', inb_nI, clp, nI_add, nI_mul', cond_true, cond_false]
        by_cases wi : i < ms
        · rw [if_pos wi, if_pos (by omega), em2 i wi]
        · rw [if_neg wi, if_neg (by omega)]
      rw [clp (by omega)] at f1
      exact ⟨_, A1, J1, pl, st1, M, N, f1, ew, hI1⟩
  rw [if_neg y1] at f1
  by_cases y2 : y = nI 2
  · subst y2
    rw [if_pos rfl] at f1
    simp only [if_neg (show ¬ nI 2 < nI 0 by decide), if_pos (show nI 2 ≤ nI 2 by decide), if_true] at f2
    obtain ⟨A2, J2, st2, m2, e2, q2, l2, v1, v2, v3, v4, v5, v6⟩ := cRN (J := J) (st := st) hC hc r2
    obtain ⟨A1, J1, st1, m1, e1, q1, s1, u1, u2, u3, u4, u5, u6, u7, u8⟩ := cSN (J := J2) (st := st2) hC (hc.q q2 (qM_refl M)) (r3.cg v4 v5 v6)
    rw [e2] at f1
    simp only [callK_some, Option.toList_some, Option.toList_none, List.cons_append, List.nil_append, bX11_reading_50] at f1
    rw [e1] at f1
    simp only [callK_some, Option.toList_some, Option.toList_none, List.cons_append, List.nil_append, bX11_reading_55] at f1
    rw [cAw v1 (by rw [u7]; exact v2) u1 u2 u3 x] at f1
    simp only [callK_some, Option.toList_some, Option.toList_none, List.cons_append, List.nil_append, bX11_reading_58] at f1
    by_cases w : x < nI 0
    · rw [if_pos w] at f1
      rw [if_neg (fun z => Int32.not_lt.mpr z w)] at f2
      exact ⟨_, A1, J1, pl, st1, M, N, f1, f2, n, T, th, ce, wr, F, K, c, hc.q (qC_trans q2 q1) (qM_refl M), r1, l2.cg u4 u5 u6 u7 u8, s1⟩
    · rw [if_neg w] at f1
      rw [if_pos (Int32.not_lt.mp w)] at f2
      obtain ⟨i, hi, rfl⟩ := nI_of w
      obtain ⟨M', m, ms, e, q, r', k1, k2⟩ := mStr hC hc r1 (show i < 2147483648 by omega)
      rw [e] at f2
      simp only [callK_some, Option.toList_some, Option.toList_none, List.cons_append, List.nil_append, bX12_reading_28] at f2
      rw [clp (by omega), u8, stF_same v3 k1 u3 k2] at f1
      exact ⟨_, A1, J1, pl, st1, M', N, f1, f2, n, T, th, ce, wr, F, K, c, hc.q (qC_trans q2 q1) q, r', l2.cg u4 u5 u6 u7 u8, s1⟩
  rw [if_neg y2] at f1
  refine eqv_same hI f1 ?_
  rw [f2]
  by_cases z0 : y < nI 0
  · rw [if_pos z0]
  · rw [if_neg z0]
    obtain ⟨i, hi, rfl⟩ := nI_of z0
    have n0 : i ≠ 0 := fun z => y0 (by rw [z])
    have n1 : i ≠ 1 := fun z => y1 (by rw [z])
    have n2 : i ≠ 2 := fun z => y2 (by rw [z])
    rw [if_neg (by rw [nI_le' (by omega) (by omega)]; omega)]
end CA
