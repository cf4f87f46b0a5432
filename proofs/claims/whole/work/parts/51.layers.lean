/-! the class: layer behind layer -/
def rch (ce : Nat → Nat) (wr : Nat → Bool) (n : Nat) (W : Nat → Nat) : Nat → Sg → Prop
  | 0, g => g = sg0
  | k + 1, g => ∃ g' s, rch ce wr n W k g' ∧ s < n ∧ enB W g'.D s = true ∧ g = sgN ce wr n g' s
theorem sg0_O (n : Nat) : sgO n 0 sg0 := ⟨Nat.two_pow_pos n, fun _ _ => Nat.zero_le 8, Nat.zero_le _⟩
theorem rch_O {ce : Nat → Nat} {wr : Nat → Bool} {n : Nat} {W : Nat → Nat} (hn : n ≤ 8) (hc : ∀ s, s < n → ce s < 3) : ∀ {k g}, rch ce wr n W k g → sgO n k g := by
  intro k
  induction k with
  | zero => intro g h; rw [show g = sg0 from h]; exact sg0_O n
  | succ k ih =>
    rintro g ⟨g', s, h1, h2, h3, rfl⟩
    exact sgO_N hn h2 (hc s h2) (ih h1)
theorem rch_fin {ce : Nat → Nat} {wr : Nat → Bool} {n : Nat} {W : Nat → Nat} {v : Nat} : ∀ {k d g}, rch ce wr n W k g → fin ce wr n W d g v → fin ce wr n W (d + k) sg0 v := by
  intro k
  induction k with
  | zero => intro d g h h'; rw [show g = sg0 from h] at h'; exact h'
  | succ k ih =>
    rintro d g ⟨g', s, h1, h2, h3, rfl⟩ h'
    have := ih (d := d + 1) h1 ⟨s, h2, h3, h'⟩
    rw [show d + (k + 1) = d + 1 + k by omega]
    exact this
theorem fin_rch {ce : Nat → Nat} {wr : Nat → Bool} {n : Nat} {W : Nat → Nat} {v : Nat} : ∀ {d k g}, rch ce wr n W k g → fin ce wr n W d g v → ∃ g', rch ce wr n W (k + d) g' ∧ g'.R = v := by
  intro d
  induction d with
  | zero => intro k g h h'; exact ⟨g, h, (show v = g.R from h').symm⟩
  | succ d ih =>
    rintro k g h ⟨s, h1, h2, h3⟩
    have := ih (k := k + 1) ⟨g, s, h, h1, h2, rfl⟩ h3
    rw [show k + (d + 1) = k + 1 + d by omega]
    exact this
theorem rdP_iff {th ce : Nat → Nat} {wr : Nat → Bool} {n F K v : Nat} : rdP th ce wr n F K v ↔ ∃ g, rch ce wr n (wtN th ce wr F K) n g ∧ g.R = v := by
  constructor
  · intro h
    have := fin_rch (k := 0) (g := sg0) rfl h
    rw [Nat.zero_add] at this
    exact this
  · rintro ⟨g, h, rfl⟩
    have := rch_fin (d := 0) (v := g.R) h rfl
    rw [Nat.zero_add] at this
    exact this
theorem enc_same {ce : Nat → Nat} {wr : Nat → Bool} {n s : Nat} {g g' : Sg} (h : sgE g) (h' : sgE g') (hc : ce s < 3) (e : enc g = enc g') : g.D = g'.D ∧ enc (sgN ce wr n g s) = enc (sgN ce wr n g' s) := by
  have hD : g.D = g'.D := by rw [← enc_D h, ← enc_D h', e]
  have hR : g.R = g'.R := by rw [← enc_R h, ← enc_R h', e]
  have hH : ∀ c, c < 3 → g.H c = g'.H c := fun c hc => by rw [← enc_H h hc, ← enc_H h' hc, e]
  refine ⟨hD, ?_⟩
  have q : ∀ c, c < 3 → (sgN ce wr n g s).H c = (sgN ce wr n g' s).H c := by
    intro c hc'
    show (bif wr s then up1 g.H (ce s) (s + 1) else g.H) c = (bif wr s then up1 g'.H (ce s) (s + 1) else g'.H) c
    cases wr s
    · exact hH c hc'
    · show up1 g.H (ce s) (s + 1) c = up1 g'.H (ce s) (s + 1) c
      by_cases w : c = ce s
      · rw [w, up1_eq, up1_eq]
      · rw [up1_ne w, up1_ne w]; exact hH c hc'
  have q2 : (sgN ce wr n g s).R = (sgN ce wr n g' s).R := by
    show (bif wr s then g.R else g.R + g.H (ce s) * wgN wr n s) = (bif wr s then g'.R else g'.R + g'.H (ce s) * wgN wr n s)
    rw [hR, hH _ hc]
  have q3 : (sgN ce wr n g s).D = (sgN ce wr n g' s).D := by
    show g.D ||| 2 ^ s = g'.D ||| 2 ^ s
    rw [hD]
  unfold enc
  rw [q 0 (by decide), q 1 (by decide), q 2 (by decide), q2, q3]
section LA
variable {J : Nat → Nat → Int64} {pl st : Bool} {n P : Nat} {th ce : Nat → Nat} {wr : Nat → Bool} {W : Nat → Nat}
theorem lf_bit {g : Sg} (h : sgE g) {s : Nat} (hs : s < 8) : (adn 255 (enc g)).testBit s = !g.D.testBit s := by
  rw [adn_bit (by decide), enc_Db h hs]
  have : (255 : Nat).testBit s = true := by
    have e : (255 : Nat) = 2 ^ 8 - 1 := rfl
    rw [e, Nat.testBit_two_pow_sub_one, decide_eq_true hs]
  rw [this, Bool.true_and]
theorem lf_wt {g : Sg} (h : sgE g) {w : Nat} (hw : w < 256) : (w &&& adn 255 (enc g) = 0) ↔ adn w g.D = 0 := by
  have hlt : adn 255 (enc g) < 4294967296 := Nat.lt_of_le_of_lt (adn_le _ _) (by decide)
  have key : w &&& adn 255 (enc g) = adn w g.D := by
    apply Nat.eq_of_testBit_eq
    intro i
    rw [Nat.testBit_and, adn_bit (a := w) (by omega)]
    by_cases hi : i < 8
    · rw [lf_bit h hi]
    · have : w.testBit i = false := Nat.testBit_lt_two_pow (Nat.lt_of_lt_of_le hw (Nat.pow_le_pow_right (n := 2) (i := 8) (j := i) (by decide) (by omega)))
      rw [this, Bool.false_and, Bool.false_and]
  rw [key]
/-- what doEach needs of a heap -/
def lyO (I : Nat → Nat → Int32) (P n : Nat) (th ce : Nat → Nat) (wr : Nat → Bool) (W : Nat → Nat) : Prop := RPx I P n th ce wr ∧ (∀ s, s < n → I 72 s = nI (W s) ∧ W s < 256) ∧ ∀ s, s < 8 → I 73 s = nI (wgN wr n s)
theorem lyO_fr {I I' : Nat → Nat → Int32} (hP : P = 4 ∨ P = 7) (h : lyO I P n th ce wr W) (f : ∀ p, p ≠ 68 → p ≠ 71 → I' p = I p) : lyO I' P n th ce wr W := by
  refine ⟨h.1.cong ?_ ?_ ?_ ?_ ?_, fun s hs => by rw [f 72 (by decide) (by decide)]; exact h.2.1 s hs, fun s hs => by rw [f 73 (by decide) (by decide)]; exact h.2.2 s hs⟩
  · rw [f P (by omega) (by omega)]
  · rw [f P (by omega) (by omega)]
  · rw [f P (by omega) (by omega)]
  · exact f (P + 1) (by omega) (by omega)
  · exact f (P + 2) (by omega) (by omega)
theorem cDE_loop (hP : P = 4 ∨ P = 7) {Q : Int64 → Prop} (hcap : ∀ c (xs : Nat → Int64), (∀ i i', i < c → i' < c → xs i = xs i' → i = i') → (∀ i, i < c → Q (xs i)) → c ≤ 512) {g : Sg} (hg : sgE g) (hQ : ∀ s, s < n → enB W g.D s = true → Q (lN (enc (sgN ce wr n g s)))) : ∀ d s (I : Nat → Nat → Int32) (J : Nat → Nat → Int64) (c : Nat) (xs : Nat → Int64) (sl : Nat → Nat), s + d = n → lyO I P n th ce wr W → HT I J st c xs sl → (∀ i, i < c → Q (xs i)) → ∃ (I' : Nat → Nat → Int32) (J' : Nat → Nat → Int64) (c' : Nat) (xs' : Nat → Int64) (sl' : Nat → Nat), run mX4_doEach (13, 0, 0, [.ref 68, .ref P, .long (lN (enc g)), .null, .int (nI (adn 255 (enc g))), .int (nI s)], [], cH I J pl st) = some (none, cH I' J' pl st) ∧ HT I' J' st c' xs' sl' ∧ (∀ y, (∃ i, i < c' ∧ xs' i = y) ↔ (∃ i, i < c ∧ xs i = y) ∨ ∃ s', s ≤ s' ∧ s' < n ∧ enB W g.D s' = true ∧ y = lN (enc (sgN ce wr n g s'))) ∧ (∀ p, p ≠ 68 → p ≠ 71 → I' p = I p) ∧ (∀ k, k ≠ 6 → I' 68 k = I 68 k) ∧ (∀ p, p ≠ stA (!st) → J' p = J p) := by
  intro d
  induction d with
  | zero =>
    intro s I J c xs sl hs h ht _
    have : s = n := by omega
    subst this
    have hn := h.1.2.1
    refine ⟨I, J, c, xs, sl, ?_, ht, fun y => ⟨Or.inl, fun q => ?_⟩, fun _ _ _ => rfl, fun _ _ => rfl, fun _ _ => rfl⟩
    · rw [bX4_doEach_13 (hP := hP), h.1.1]
      simp (disch := omega) only [nI_lt', nI_le', nI_eq', inb_nI, clp, nI_add, nI_mul', cond_true, cond_false, Nat.le_refl, if_true]
    · rcases q with q | ⟨s', q1, q2, -⟩
      · exact q
      · omega
  | succ d ih =>
    intro s I J c xs sl hs h ht hxs
    have hn := h.1.2.1
    have hsn : s < n := by omega
    have hw := h.2.1 s hsn
    have hlf := adn_le 255 (enc g)
    have hlt : W s &&& adn 255 (enc g) < 256 := Nat.lt_of_le_of_lt Nat.and_le_left hw.2
    have skip : ¬ enB W g.D s = true → ∃ (I' : Nat → Nat → Int32) (J' : Nat → Nat → Int64) (c' : Nat) (xs' : Nat → Int64) (sl' : Nat → Nat), run mX4_doEach (13, 0, 0, [.ref 68, .ref P, .long (lN (enc g)), .null, .int (nI (adn 255 (enc g))), .int (nI (s + 1))], [], cH I J pl st) = some (none, cH I' J' pl st) ∧ HT I' J' st c' xs' sl' ∧ (∀ y, (∃ i, i < c' ∧ xs' i = y) ↔ (∃ i, i < c ∧ xs i = y) ∨ ∃ s', s ≤ s' ∧ s' < n ∧ enB W g.D s' = true ∧ y = lN (enc (sgN ce wr n g s'))) ∧ (∀ p, p ≠ 68 → p ≠ 71 → I' p = I p) ∧ (∀ k, k ≠ 6 → I' 68 k = I 68 k) ∧ (∀ p, p ≠ stA (!st) → J' p = J p) := by
      intro hen
      obtain ⟨I', J', c', xs', sl', e, t1, t2, t3, t4, t5⟩ := ih (s + 1) I J c xs sl (by omega) h ht hxs
      refine ⟨I', J', c', xs', sl', e, t1, fun y => ?_, t3, t4, t5⟩
      rw [t2 y]
      constructor
      · rintro (q | ⟨s', q1, q2⟩)
        · exact Or.inl q
        · exact Or.inr ⟨s', by omega, q2⟩
      · rintro (q | ⟨s', q1, q2, q3, q4⟩)
        · exact Or.inl q
        · by_cases w : s' = s
          · subst w; exact absurd q3 hen
          · exact Or.inr ⟨s', by omega, q2, q3, q4⟩
    rw [bX4_doEach_13 (hP := hP), h.1.1]
    simp (disch := omega) only [nI_lt', nI_le', nI_eq', inb_nI, clp, nI_add, nI_mul', cond_true, cond_false, callK_some, Option.toList_some, Option.toList_none, List.cons_append, List.nil_append, cHas, bX4_doEach_39 (hP := hP), ite_tI, hw.1, and_nI, lf_bit hg (show s < 8 by omega), lf_wt hg hw.2]
    rw [if_neg (by omega), if_neg (by omega)]
    cases hb : g.D.testBit s with
    | true =>
      simp only [Bool.not_true, Bool.false_eq_true, if_false]
      exact skip (by unfold enB; rw [hb]; simp)
    | false =>
      simp only [Bool.not_false, if_true]
      by_cases ha : adn (W s) g.D = 0
      · have hen : enB W g.D s = true := by unfold enB; rw [hb, ha]; rfl
        rw [if_pos ha]
        simp (disch := omega) only [callK_some, Option.toList_some, Option.toList_none, List.cons_append, List.nil_append, cBe hP h.1 hsn (h.2.2 s (show s < 8 by omega)) hg, bX4_doEach_64 (hP := hP)]
        obtain ⟨I1, J1, c1, xs1, sl1, e1, t1, t2, t3, t4, t5⟩ := cAN (pl := pl) ht (lN (enc (sgN ce wr n g s))) (fun hnew => by
          have := hcap (c + 1) (up1 xs c (lN (enc (sgN ce wr n g s)))) (fun i i' hi hi' q => by
            by_cases w1 : i = c
            · by_cases w2 : i' = c
              · omega
              · rw [w1, up1_eq, up1_ne w2] at q; exact absurd q.symm (hnew i' (by omega))
            · rw [up1_ne w1] at q
              by_cases w2 : i' = c
              · rw [w2, up1_eq] at q; exact absurd q (hnew i (by omega))
              · rw [up1_ne w2] at q; exact ht.2.2.2.2.2.2 i i' (by omega) (by omega) q) (fun i hi => by
            by_cases w1 : i = c
            · rw [w1, up1_eq]; exact hQ s hsn hen
            · rw [up1_ne w1]; exact hxs i (by omega))
          omega)
        obtain ⟨I2, J2, c2, xs2, sl2, e2, u1, u2, u3, u4, u5⟩ := ih (s + 1) I1 J1 c1 xs1 sl1 (by omega) (lyO_fr hP h t3) t1 (fun i hi => by
          rcases (t2 (xs1 i)).mp ⟨i, hi, rfl⟩ with ⟨i', q1, q2⟩ | q
          · rw [← q2]; exact hxs i' q1
          · rw [q]; exact hQ s hsn hen)
        refine ⟨I2, J2, c2, xs2, sl2, ?_, u1, fun y => ?_, fun p p1 p2 => by rw [u3 p p1 p2, t3 p p1 p2], fun k hk => by rw [u4 k hk, t4 k hk], fun p hp => by rw [u5 p hp, t5 p hp]⟩
        · rw [e1]
          simp (disch := omega) only [callK_some, Option.toList_some, Option.toList_none, List.cons_append, List.nil_append, bX4_doEach_67 (hP := hP), nI_add]
          exact e2
        · rw [u2 y, t2 y]
          constructor
          · rintro ((q | q) | ⟨s', q1, q2⟩)
            · exact Or.inl q
            · exact Or.inr ⟨s, Nat.le_refl s, hsn, hen, q⟩
            · exact Or.inr ⟨s', by omega, q2⟩
          · rintro (q | ⟨s', q1, q2, q3, q4⟩)
            · exact Or.inl (Or.inl q)
            · by_cases w : s' = s
              · subst w; exact Or.inl (Or.inr q4)
              · exact Or.inr ⟨s', by omega, q2, q3, q4⟩
      · rw [if_neg ha]
        exact skip (by unfold enB; rw [hb, decide_eq_false ha]; simp)
theorem lf_I (e : Nat) : (Int64.toInt32 (lN e) ^^^ Int32.ofInt (-1)) &&& nI 255 = nI (adn 255 e) := by
  rw [lN_i, m1_nI', xor_nI, and_nI, Nat.and_comm]
  rfl
theorem cFil {x : Int32} : ∀ d k (I : Nat → Nat → Int32), k + d = 1024 → (∀ q, q < k → I 71 q = x) → ∃ I' : Nat → Nat → Int32, run mJ7_fill_53178 (5, 0, 0, [.ref 71, .int x, .int (nI k), .int (nI 1024)], [], cH I J pl st) = some (none, cH I' J pl st) ∧ (∀ p, p ≠ 71 → I' p = I p) ∧ (∀ q, q < 1024 → I' 71 q = x) := by
  intro d
  induction d with
  | zero =>
    intro k I hk hI
    have : k = 1024 := by omega
    subst this
    refine ⟨I, ?_, fun _ _ => rfl, hI⟩
    rw [bJ7_fill_53178_5_o]
    simp (disch := omega) only [nI_lt', nI_le', nI_eq', inb_nI, clp, nI_add, nI_mul', cond_true, cond_false, Nat.le_refl, if_true]
  | succ d ih =>
    intro k I hk hI
    obtain ⟨I', h1, h2, h3⟩ := ih (k + 1) (up2 I 71 k x) (by omega) (fun q hq => by
      rw [up2_eq]
      by_cases hqk : q = k
      · rw [hqk, up1_eq]
      · rw [up1_ne hqk]; exact hI q (by omega))
    refine ⟨I', ?_, fun p hp => by rw [h2 p hp, up2_ne hp], h3⟩
    rw [bJ7_fill_53178_5_o]
    simp (disch := omega) only [nI_lt', nI_le', nI_eq', inb_nI, clp, nI_add, nI_mul', cond_true, cond_false]
    rw [if_neg (by omega)]
    exact h1
theorem RX_st : up2 (up2 (RX pl st) 68 0 (stA (!st))) 68 1 (stA st) = RX pl (!st) := by
  funext p k
  by_cases hp : p = 68
  · subst hp
    rw [up2_eq, up2_eq]
    match k with
    | 0 => rfl
    | 1 =>
      show stA st = stA (!!st)
      rw [Bool.not_not]
    | k + 2 => rfl
  · have hb : Nat.beq p 68 = false := by
      cases hq : Nat.beq p 68
      · rfl
      · exact absurd (Nat.eq_of_beq_eq_true hq) hp
    rw [up2_ne hp, up2_ne hp]
    unfold RX
    rw [hb]
    rfl
end LA
