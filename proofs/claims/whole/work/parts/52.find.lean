/-! the class finds its readings -/
section FI
variable {pl : Bool} {n P : Nat} {th ce : Nat → Nat} {wr : Nat → Bool} {W : Nat → Nat}
def lyQ (ce : Nat → Nat) (wr : Nat → Bool) (n : Nat) (W : Nat → Nat) (k : Nat) (y : Int64) : Prop := ∃ g, rch ce wr n W k g ∧ y = lN (enc g)
/-- the states of a layer -/
def cur (ce : Nat → Nat) (wr : Nat → Bool) (n : Nat) (W : Nat → Nat) (I : Nat → Nat → Int32) (J : Nat → Nat → Int64) (st : Bool) (c k : Nat) : Prop := I 68 5 = nI c ∧ c ≤ 512 ∧ ∀ y, (∃ i, i < c ∧ J (stA st) i = y) ↔ lyQ ce wr n W k y
/-- no layer is too large -/
def capL (ce : Nat → Nat) (wr : Nat → Bool) (n : Nat) (W : Nat → Nat) : Prop := ∀ k, k ≤ n → ∀ c (xs : Nat → Int64), (∀ i i', i < c → i' < c → xs i = xs i' → i = i') → (∀ i, i < c → lyQ ce wr n W k (xs i)) → c ≤ 512
theorem rchE {k : Nat} {g : Sg} (hn : n ≤ 8) (hk : k ≤ n) (hc : ∀ s, s < n → ce s < 3) (h : rch ce wr n W k g) : sgE g := sgO_E hn hk (rch_O hn hc h)
theorem enc_inj {g g' : Sg} (h : sgE g) (h' : sgE g') (e : lN (enc g) = lN (enc g')) : enc g = enc g' := by
  have a := enc_lt h
  have b := enc_lt h'
  exact (fb_lN_inj (by omega) (by omega)).mp e
theorem cDO_loop {st : Bool} (hP : P = 4 ∨ P = 7) (hcap : capL ce wr n W) {k : Nat} (hk : k < n) (hc : ∀ s, s < n → ce s < 3) (hn : n ≤ 8) {c0 : Nat} (hc0 : c0 ≤ 512) {Y : Nat → Int64} (hY : ∀ i, i < c0 → lyQ ce wr n W k (Y i)) : ∀ d i (I : Nat → Nat → Int32) (J : Nat → Nat → Int64) (c : Nat) (xs : Nat → Int64) (sl : Nat → Nat), i + d = c0 → lyO I P n th ce wr W → HT I J st c xs sl → (∀ i, i < c → lyQ ce wr n W (k + 1) (xs i)) → I 68 5 = nI c0 → J (stA st) = Y → ∃ (I' : Nat → Nat → Int32) (J' : Nat → Nat → Int64) (c' : Nat) (xs' : Nat → Int64) (sl' : Nat → Nat), run mX4_doOneMore (15, 0, 0, [.ref 68, .ref P, .int (nI i)], [], cH I J pl st) = some (none, cH (up2 I' 68 5 (nI c')) J' pl (!st)) ∧ HT I' J' st c' xs' sl' ∧ (∀ y, (∃ i, i < c' ∧ xs' i = y) ↔ (∃ i, i < c ∧ xs i = y) ∨ ∃ i' g s, i ≤ i' ∧ i' < c0 ∧ rch ce wr n W k g ∧ Y i' = lN (enc g) ∧ s < n ∧ enB W g.D s = true ∧ y = lN (enc (sgN ce wr n g s))) ∧ (∀ p, p ≠ 68 → p ≠ 71 → I' p = I p) := by
  intro d
  induction d with
  | zero =>
    intro i I J c xs sl hi h ht hx h5 hJ
    have : i = c0 := by omega
    subst this
    refine ⟨I, J, c, xs, sl, ?_, ht, fun y => ⟨Or.inl, fun q => ?_⟩, fun _ _ _ => rfl⟩
    · rw [bX4_doOneMore_15 (hP := hP), h5, RX_st, ht.1]
      simp (disch := omega) only [nI_lt', nI_le', nI_eq', inb_nI, clp, nI_add, nI_mul', cond_true, cond_false, Nat.le_refl, if_true]
      rfl
    · rcases q with q | ⟨i', g, s, q1, q2, -⟩
      · exact q
      · omega
  | succ d ih =>
    intro i I J c xs sl hi h ht hx h5 hJ
    obtain ⟨g, hg, eg⟩ := hY i (by omega)
    have hgE := rchE hn (by omega) hc hg
    obtain ⟨I1, J1, c1, xs1, sl1, e1, t1, t2, t3, t4, t5⟩ := cDE_loop (pl := pl) hP (Q := lyQ ce wr n W (k + 1)) (hcap (k + 1) (by omega)) hgE (fun s hs hen => ⟨sgN ce wr n g s, ⟨g, s, hg, hs, hen, rfl⟩, rfl⟩) n 0 I J c xs sl (by omega) h ht hx
    obtain ⟨I2, J2, c2, xs2, sl2, e2, u1, u2, u3⟩ := ih (i + 1) I1 J1 c1 xs1 sl1 (by omega) (lyO_fr hP h t3) t1 (fun j hj => by
      rcases (t2 (xs1 j)).mp ⟨j, hj, rfl⟩ with ⟨j', q1, q2⟩ | ⟨s', q1, q2, q3, q4⟩
      · rw [← q2]; exact hx j' q1
      · exact ⟨sgN ce wr n g s', ⟨g, s', hg, q2, q3, rfl⟩, q4⟩) (by rw [t4 5 (by decide)]; exact h5) (by rw [t5 _ (fun q => stA_ne st q.symm)]; exact hJ)
    refine ⟨I2, J2, c2, xs2, sl2, ?_, u1, fun y => ?_, fun p p1 p2 => by rw [u3 p p1 p2, t3 p p1 p2]⟩
    · rw [bX4_doOneMore_15 (hP := hP), h5]
      simp (disch := omega) only [nI_lt', nI_le', nI_eq', inb_nI, clp, nI_add, nI_mul', cond_true, cond_false]
      rw [if_neg (by omega), if_neg (by omega), hJ, eg, eX4_doEach (hP := hP), lf_I, e1]
      simp (disch := omega) only [callK_some, Option.toList_some, Option.toList_none, List.cons_append, List.nil_append, bX4_doOneMore_43 (hP := hP), nI_add]
      exact e2
    · rw [u2 y, t2 y]
      constructor
      · rintro ((q | ⟨s', q1, q2, q3, q4⟩) | ⟨i', g', s', q1, q2⟩)
        · exact Or.inl q
        · exact Or.inr ⟨i, g, s', Nat.le_refl i, by omega, hg, eg, q2, q3, q4⟩
        · exact Or.inr ⟨i', g', s', by omega, q2⟩
      · rintro (q | ⟨i', g', s', q1, q2, q3, q4, q5, q6, q7⟩)
        · exact Or.inl (Or.inl q)
        · by_cases w : i' = i
          · subst w
            have hgE' := rchE hn (by omega) hc q3
            have e := enc_inj hgE' hgE (q4.symm.trans eg)
            obtain ⟨a, b⟩ := enc_same (wr := wr) (n := n) hgE' hgE (hc s' q5) e
            exact Or.inl (Or.inr ⟨s', Nat.zero_le s', q5, by rw [← a]; exact q6, by rw [← b]; exact q7⟩)
          · exact Or.inr ⟨i', g', s', by omega, q2, q3, q4, q5, q6, q7⟩
theorem cDO {st : Bool} {I : Nat → Nat → Int32} {J : Nat → Nat → Int64} (hP : P = 4 ∨ P = 7) (hcap : capL ce wr n W) {k c : Nat} (hk : k < n) (h : lyO I P n th ce wr W) (hcu : cur ce wr n W I J st c k) : ∃ (I' : Nat → Nat → Int32) (J' : Nat → Nat → Int64) (c' : Nat), fX4_doOneMore [.ref 68, .ref P] (cH I J pl st) = some (none, cH I' J' pl (!st)) ∧ lyO I' P n th ce wr W ∧ cur ce wr n W I' J' (!st) c' (k + 1) ∧ ∀ p, p ≠ 68 → p ≠ 71 → I' p = I p := by
  have hn := h.1.2.1
  have hc : ∀ s, s < n → ce s < 3 := fun s hs => (h.1.2.2.1 s hs).2.2.2
  obtain ⟨I1, e1, o1, z1⟩ := cFil (J := J) (pl := pl) (st := st) (x := nI 0) 1024 0 I (by omega) (fun q hq => absurd hq (Nat.not_lt_zero q))
  have hly : lyO (up2 I1 68 6 (nI 0)) P n th ce wr W := lyO_fr hP h (fun p p1 p2 => by rw [up2_ne p1, o1 p p2])
  have hht : HT (up2 I1 68 6 (nI 0)) J st 0 (fun _ => 0) (fun _ => 0) := ⟨by rw [up2_eq, up1_eq], by omega, fun j hj => ⟨by rw [up2_ne (by decide)]; exact z1 j hj, Nat.le_refl 0⟩, fun j j' _ _ _ q => absurd rfl q, fun i hi => absurd hi (Nat.not_lt_zero i), fun i hi => absurd hi (Nat.not_lt_zero i), fun i i' hi => absurd hi (Nat.not_lt_zero i)⟩
  obtain ⟨I2, J2, c2, xs2, sl2, e2, u1, u2, u3⟩ := cDO_loop (pl := pl) hP hcap hk hc hn hcu.2.1 (Y := J (stA st)) (fun i hi => (hcu.2.2 _).mp ⟨i, hi, rfl⟩) c 0 (up2 I1 68 6 (nI 0)) J 0 (fun _ => 0) (fun _ => 0) (by omega) hly hht (fun i hi => absurd hi (Nat.not_lt_zero i)) (by rw [up2_eq, up1_ne (by decide), o1 68 (by decide)]; exact hcu.1) rfl
  have hfr : ∀ p, p ≠ 68 → p ≠ 71 → up2 I2 68 5 (nI c2) p = I p := fun p p1 p2 => by rw [up2_ne p1, u3 p p1 p2, up2_ne p1, o1 p p2]
  refine ⟨up2 I2 68 5 (nI c2), J2, c2, ?_, lyO_fr hP h hfr, ⟨by rw [up2_eq, up1_eq], u1.2.1, fun y => ?_⟩, hfr⟩
  · rw [eX4_doOneMore (hP := hP), eJ7_fill_53178_o, e1]
    simp (disch := omega) only [callK_some, Option.toList_some, Option.toList_none, List.cons_append, List.nil_append, bX4_doOneMore_8 (hP := hP)]
    exact e2
  · have hx : (∃ i, i < c2 ∧ J2 (stA (!st)) i = y) ↔ ∃ i, i < c2 ∧ xs2 i = y := by
      constructor
      · rintro ⟨i, i1, i2⟩; exact ⟨i, i1, by rw [← u1.2.2.2.2.1 i i1]; exact i2⟩
      · rintro ⟨i, i1, i2⟩; exact ⟨i, i1, by rw [u1.2.2.2.2.1 i i1]; exact i2⟩
    rw [hx, u2 y]
    constructor
    · rintro (⟨i, i1, -⟩ | ⟨i', g, s, q1, q2, q3, q4, q5, q6, q7⟩)
      · exact absurd i1 (Nat.not_lt_zero i)
      · exact ⟨sgN ce wr n g s, ⟨g, s, q3, q5, q6, rfl⟩, q7⟩
    · rintro ⟨g, ⟨g', s, q1, q2, q3, rfl⟩, q4⟩
      obtain ⟨i, i1, i2⟩ := (hcu.2.2 (lN (enc g'))).mpr ⟨g', q1, rfl⟩
      exact Or.inr ⟨i, g', s, Nat.zero_le i, i1, q1, i2, q2, q3, q4⟩
/-- readings are not too many -/
def capR (th ce : Nat → Nat) (wr : Nat → Bool) (n F K : Nat) : Prop := ∀ m (f : Nat → Nat), (∀ i i', i < m → i' < m → f i = f i' → i = i') → (∀ i, i < m → rdP th ce wr n F K (f i)) → m ≤ 256
theorem capR_SR {F K m : Nat} {A : Nat → Int32} {S : Nat → Prop} (hcap : capR th ce wr n F K) (h : SR A m S) (hS : ∀ v, S v → rdP th ce wr n F K v) : m ≤ 256 := by
  obtain ⟨f, a1, a2, a3⟩ := h
  refine hcap m f (fun i i' hi hi' e => ?_) (fun i hi => hS _ ((a3 _).mpr ⟨i, hi, rfl⟩))
  rcases Nat.lt_trichotomy i i' with q | q | q
  · have := a2 i i' q hi'; omega
  · exact q
  · have := a2 i' i q hi; omega
theorem capR_new {F K m v : Nat} {A : Nat → Int32} {S : Nat → Prop} (hcap : capR th ce wr n F K) (h : SR A m S) (hS : ∀ v, S v → rdP th ce wr n F K v) (hv : rdP th ce wr n F K v) (hn : ¬ S v) : m < 256 := by
  obtain ⟨f, a1, a2, a3⟩ := h
  have := hcap (m + 1) (up1 f m v) (fun i i' hi hi' e => by
    by_cases w : i = m
    · by_cases w' : i' = m
      · omega
      · rw [w, up1_eq, up1_ne w'] at e
        exact absurd ((a3 v).mpr ⟨i', by omega, e.symm⟩) hn
    · rw [up1_ne w] at e
      by_cases w' : i' = m
      · rw [w', up1_eq] at e
        exact absurd ((a3 v).mpr ⟨i, by omega, e⟩) hn
      · rw [up1_ne w'] at e
        rcases Nat.lt_trichotomy i i' with q | q | q
        · have := a2 i i' q (by omega); omega
        · exact q
        · have := a2 i' i q (by omega); omega) (fun i hi => by
    by_cases w : i = m
    · rw [w, up1_eq]; exact hv
    · rw [up1_ne w]; exact hS _ ((a3 _).mpr ⟨i, by omega, rfl⟩))
  omega
theorem cFR_w {st : Bool} {J : Nat → Nat → Int64} {Q F K : Nat} (hP : P = 4 ∨ P = 7) (hQ : Q = 74 ∨ Q = 76) (hF : F < 256) (hK : K < 16) : ∀ d s (I : Nat → Nat → Int32), s + d = n → RPx I P n th ce wr → (∀ u, u < s → I 72 u = nI (wtN th ce wr F K u)) → ∃ I' : Nat → Nat → Int32, run mX4_findReadings (8, 0, 0, [.ref 68, .ref P, .int (nI F), .int (nI K), .ref Q, .int (nI s)], [], cH I J pl st) = run mX4_findReadings (63, 0, 0, [.ref 68, .ref P, .int (nI F), .int (nI K), .ref Q, .int (nI 0)], [], cH (up2 I' 68 5 (nI 1)) (up2 J (stA st) 0 0) pl st) ∧ (∀ p, p ≠ 72 → I' p = I p) ∧ ∀ u, u < n → I' 72 u = nI (wtN th ce wr F K u) := by
  intro d
  induction d with
  | zero =>
    intro s I hs h hu
    have : s = n := by omega
    subst this
    have hn := h.2.1
    refine ⟨I, ?_, fun _ _ => rfl, hu⟩
    rw [bX4_findReadings_8 (hP := hP) (hQ := hQ), h.1]
    simp (disch := omega) only [nI_lt', nI_le', nI_eq', inb_nI, clp, nI_add, nI_mul', cond_true, cond_false, Nat.le_refl, if_true]
  | succ d ih =>
    intro s I hs h hu
    have hn := h.2.1
    obtain ⟨I', e, o, w⟩ := ih (s + 1) (up2 I 72 s (nI (wtN th ce wr F K s))) (by omega) (by
      refine h.cong ?_ ?_ ?_ ?_ ?_
      · rw [up2_ne (by omega)]
      · rw [up2_ne (by omega)]
      · rw [up2_ne (by omega)]
      · exact up2_ne (by omega)
      · exact up2_ne (by omega)) (fun u hu' => by
      rw [up2_eq]
      by_cases q : u = s
      · rw [q, up1_eq]
      · rw [up1_ne q]; exact hu u (by omega))
    refine ⟨I', ?_, fun p hp => by rw [o p hp, up2_ne hp], w⟩
    rw [bX4_findReadings_8 (hP := hP) (hQ := hQ), h.1]
    simp (disch := omega) only [nI_lt', nI_le', nI_eq', inb_nI, clp, nI_add, nI_mul', cond_true, cond_false, callK_some, Option.toList_some, Option.toList_none, List.cons_append, List.nil_append, cWt hP h hF hK (show s < n by omega), bX4_findReadings_41 (hP := hP) (hQ := hQ)]
    rw [if_neg (by omega), if_neg (by omega)]
    exact e
theorem cFR_l {Q : Nat} (hP : P = 4 ∨ P = 7) (hQ : Q = 74 ∨ Q = 76) (hcap : capL ce wr n W) : ∀ d k (I : Nat → Nat → Int32) (J : Nat → Nat → Int64) (st : Bool) (c : Nat) (z2 z3 : Value), k + d = n → lyO I P n th ce wr W → cur ce wr n W I J st c k → ∃ (I' : Nat → Nat → Int32) (J' : Nat → Nat → Int64) (st' : Bool) (c' : Nat), run mX4_findReadings (63, 0, 0, [.ref 68, .ref P, z2, z3, .ref Q, .int (nI k)], [], cH I J pl st) = run mX4_findReadings (91, 0, 0, [.ref 68, .null, .null, .null, .ref Q, .int (nI 0)], [], cH (up2 I' Q 1 (nI 0)) J' pl st') ∧ cur ce wr n W I' J' st' c' n ∧ ∀ p, p ≠ 68 → p ≠ 71 → I' p = I p := by
  intro d
  induction d with
  | zero =>
    intro k I J st c z2 z3 hk h hcu
    have : k = n := by omega
    subst this
    have hn := h.1.2.1
    refine ⟨I, J, st, c, ?_, hcu, fun _ _ _ => rfl⟩
    rw [bX4_findReadings_63 (hP := hP) (hQ := hQ), h.1.1]
    simp (disch := omega) only [nI_lt', nI_le', nI_eq', inb_nI, clp, nI_add, nI_mul', cond_true, cond_false, callK_some, Option.toList_some, Option.toList_none, List.cons_append, List.nil_append, Nat.le_refl, if_true, eX7_clear (hP := hQ), bX4_findReadings_88 (hP := hP) (hQ := hQ)]
  | succ d ih =>
    intro k I J st c z2 z3 hk h hcu
    have hn := h.1.2.1
    obtain ⟨I1, J1, c1, e1, h1, hcu1, f1⟩ := cDO (pl := pl) hP hcap (show k < n by omega) h hcu
    obtain ⟨I2, J2, st2, c2, e2, hcu2, f2⟩ := ih (k + 1) I1 J1 (!st) c1 .null .null (by omega) h1 hcu1
    refine ⟨I2, J2, st2, c2, ?_, hcu2, fun p p1 p2 => by rw [f2 p p1 p2, f1 p p1 p2]⟩
    rw [bX4_findReadings_63 (hP := hP) (hQ := hQ), h.1.1]
    simp (disch := omega) only [nI_lt', nI_le', nI_eq', inb_nI, clp, nI_add, nI_mul', cond_true, cond_false, callK_some, Option.toList_some, Option.toList_none, List.cons_append, List.nil_append, e1, bX4_findReadings_77 (hP := hP) (hQ := hQ)]
    rw [if_neg (by omega)]
    exact e2
theorem sh20 {e : Nat} (h : e < 562949953421312) : Int64.toInt32 ((Int64.toUInt64 (lN e) >>> ((Int32.toInt64 (nI 20)).toUInt64 &&& Int64.toUInt64 63)).toInt64) = nI (e / 1048576) := by
  rw [wb_shr (by omega) (by decide), lN_i]
theorem cFR_a {Q F K : Nat} {st : Bool} {J : Nat → Nat → Int64} (hP : P = 4 ∨ P = 7) (hQ : Q = 74 ∨ Q = 76) (hn : n ≤ 8) (hc : ∀ s, s < n → ce s < 3) (hcap : capR th ce wr n F K) {c : Nat} (hc5 : c ≤ 512) (hY : ∀ i, i < c → lyQ ce wr n (wtN th ce wr F K) n (J (stA st) i)) : ∀ d i (I : Nat → Nat → Int32) (m : Nat), i + d = c → I 68 5 = nI c → I Q 1 = nI m → m ≤ 256 → SR (I (Q + 1)) m (fun v => ∃ i' g, i' < i ∧ rch ce wr n (wtN th ce wr F K) n g ∧ J (stA st) i' = lN (enc g) ∧ g.R = v) → ∃ (I' : Nat → Nat → Int32) (m' : Nat), run mX4_findReadings (91, 0, 0, [.ref 68, .null, .null, .null, .ref Q, .int (nI i)], [], cH I J pl st) = some (none, cH I' J pl st) ∧ I' Q 1 = nI m' ∧ m' ≤ 256 ∧ SR (I' (Q + 1)) m' (fun v => ∃ i' g, i' < c ∧ rch ce wr n (wtN th ce wr F K) n g ∧ J (stA st) i' = lN (enc g) ∧ g.R = v) ∧ ∀ p, p ≠ Q → p ≠ Q + 1 → I' p = I p := by
  intro d
  induction d with
  | zero =>
    intro i I m hi h5 h1 hm hS
    have : i = c := by omega
    subst this
    refine ⟨I, m, ?_, h1, hm, hS, fun _ _ _ => rfl⟩
    rw [bX4_findReadings_91 (hP := hP) (hQ := hQ), h5]
    simp (disch := omega) only [nI_lt', nI_le', nI_eq', inb_nI, clp, nI_add, nI_mul', cond_true, cond_false, Nat.le_refl, if_true]
  | succ d ih =>
    intro i I m hi h5 h1 hm hS
    obtain ⟨g, hg, eg⟩ := hY i (by omega)
    have hgE := rchE hn (Nat.le_refl n) hc hg
    have hel := enc_lt hgE
    have hR := hgE.2.2
    have hv : rdP th ce wr n F K g.R := rdP_iff.mpr ⟨g, hg, rfl⟩
    obtain ⟨I1, m1, e1, f1, f2, f3, f4, f5⟩ := cAd (J := J) (pl := pl) (st := st) (v := g.R) hQ hm (by omega) h1 hS (fun hns => capR_new hcap hS (fun v hv => by
      obtain ⟨i', g', -, q2, -, q4⟩ := hv
      exact rdP_iff.mpr ⟨g', q2, q4⟩) hv hns)
    obtain ⟨I2, m2, e2, u1, u2, u3, u4⟩ := ih (i + 1) I1 m1 (by omega) (by rw [f1 68 (by omega) (by omega)]; exact h5) f3 f4 (SR_iff f5 (fun v => by
      constructor
      · rintro (⟨i', g', q1, q2⟩ | rfl)
        · exact ⟨i', g', by omega, q2⟩
        · exact ⟨i, g, by omega, hg, eg, rfl⟩
      · rintro ⟨i', g', q1, q2, q3, q4⟩
        by_cases w : i' = i
        · subst w
          have hgE' := rchE hn (Nat.le_refl n) hc q2
          have e := enc_inj hgE' hgE (q3.symm.trans eg)
          right
          rw [← q4, ← enc_R hgE', ← enc_R hgE, e]
        · exact Or.inl ⟨i', g', by omega, q2, q3, q4⟩))
    refine ⟨I2, m2, ?_, u1, u2, u3, fun p p1 p2 => by rw [u4 p p1 p2, f1 p p1 p2]⟩
    rw [bX4_findReadings_91 (hP := hP) (hQ := hQ), h5]
    simp (disch := omega) only [nI_lt', nI_le', nI_eq', inb_nI, clp, nI_add, nI_mul', cond_true, cond_false]
    rw [if_neg (by omega), if_neg (by omega), eg, sh20 hel, enc_R hgE, e1]
    simp (disch := omega) only [callK_some, Option.toList_some, Option.toList_none, List.cons_append, List.nil_append, bX4_findReadings_126 (hP := hP) (hQ := hQ), nI_add]
    exact e2
theorem cFR {Q F K : Nat} {st : Bool} {I : Nat → Nat → Int32} {J : Nat → Nat → Int64} (hP : P = 4 ∨ P = 7) (hQ : Q = 74 ∨ Q = 76) (h : RPx I P n th ce wr) (hF : F < 256) (hK : K < 16) (hcapL : capL ce wr n (wtN th ce wr F K)) (hcap : capR th ce wr n F K) : ∃ (I' : Nat → Nat → Int32) (J' : Nat → Nat → Int64) (st' : Bool) (m : Nat), fX4_findReadings [.ref 68, .ref P, .int (nI F), .int (nI K), .ref Q] (cH I J pl st) = some (none, cH I' J' pl st') ∧ I' Q 1 = nI m ∧ m ≤ 256 ∧ SR (I' (Q + 1)) m (rdP th ce wr n F K) ∧ ∀ p, p ≠ 68 → p ≠ 71 → p ≠ 72 → p ≠ 73 → p ≠ Q → p ≠ Q + 1 → I' p = I p := by
  have hn := h.2.1
  have hc : ∀ s, s < n → ce s < 3 := fun s hs => (h.2.2.1 s hs).2.2.2
  have rc : ∀ {I' : Nat → Nat → Int32}, (∀ p, p < 60 → I' p = I p) → RPx I' P n th ce wr := fun f => h.cong (by rw [f P (by omega)]) (by rw [f P (by omega)]) (by rw [f P (by omega)]) (f _ (by omega)) (f _ (by omega))
  obtain ⟨I1, e1, o1, w1⟩ := cWe (J := J) (pl := pl) (st := st) hP h
  have r1 : RPx I1 P n th ce wr := rc (fun p hp => o1 p (by omega))
  obtain ⟨I2, e2, o2, w2⟩ := cFR_w (J := J) (pl := pl) (st := st) hP hQ hF hK n 0 I1 (by omega) r1 (fun u hu => absurd hu (Nat.not_lt_zero u))
  have hly : lyO (up2 I2 68 5 (nI 1)) P n th ce wr (wtN th ce wr F K) := ⟨rc (fun p hp => by rw [up2_ne (by omega), o2 p (by omega), o1 p (by omega)]), fun s hs => ⟨by rw [up2_ne (by decide)]; exact w2 s hs, wtN_lt (by omega)⟩, fun s hs => by rw [up2_ne (by decide), o2 73 (by decide)]; exact w1 s hs⟩
  have hcu : cur ce wr n (wtN th ce wr F K) (up2 I2 68 5 (nI 1)) (up2 J (stA st) 0 0) st 1 0 := by
    refine ⟨by rw [up2_eq, up1_eq], by omega, fun y => ?_⟩
    constructor
    · rintro ⟨i, i1, i2⟩
      have : i = 0 := by omega
      rw [this, up2_eq, up1_eq] at i2
      exact ⟨sg0, rfl, i2.symm⟩
    · rintro ⟨g, q1, q2⟩
      refine ⟨0, by omega, ?_⟩
      rw [up2_eq, up1_eq, q2, show g = sg0 from q1]
      rfl
  obtain ⟨I3, J3, st3, c3, e3, hcu3, o3⟩ := cFR_l (pl := pl) hP hQ hcapL n 0 _ _ st 1 (.int (nI F)) (.int (nI K)) (by omega) hly hcu
  obtain ⟨I4, m4, e4, u1, u2, u3, u4⟩ := cFR_a (pl := pl) (J := J3) (st := st3) hP hQ hn hc hcap hcu3.2.1 (fun i hi => (hcu3.2.2 _).mp ⟨i, hi, rfl⟩) c3 0 (up2 I3 Q 1 (nI 0)) 0 (by omega) (by rw [up2_ne (by omega)]; exact hcu3.1) (by rw [up2_eq, up1_eq]) (by omega) (SR_iff (SR_nil _) (fun v => ⟨False.elim, fun ⟨i', _, q, _⟩ => absurd q (Nat.not_lt_zero i')⟩))
  refine ⟨I4, J3, st3, m4, ?_, u1, u2, SR_iff u3 (fun v => ?_), fun p p1 p2 p3 p4 p5 p6 => by rw [u4 p p5 p6, up2_ne p5, o3 p p1 p2, up2_ne p1, o2 p p3, o1 p p4]⟩
  · rw [eX4_findReadings (hP := hP) (hQ := hQ), e1]
    simp (disch := omega) only [callK_some, Option.toList_some, Option.toList_none, List.cons_append, List.nil_append, bX4_findReadings_5 (hP := hP) (hQ := hQ)]
    rw [e2, e3]
    exact e4
  · rw [rdP_iff]
    constructor
    · rintro ⟨i', g, q1, q2, q3, q4⟩; exact ⟨g, q2, q4⟩
    · rintro ⟨g, q2, q4⟩
      obtain ⟨i, i1, i2⟩ := (hcu3.2.2 (lN (enc g))).mpr ⟨g, q2, rfl⟩
      exact ⟨i, g, i1, q2, i2, q4⟩
end FI
