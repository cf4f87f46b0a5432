/-! the reference: rings of three, all rings -/
section MRD
variable {I : Nat → Nat → Int32} {J : Nat → Nat → Int64} {n : Nat} {th ce : Nat → Nat} {wr : Nat → Bool} {G : List (Nat × Nat)} {i j k : Nat}
theorem mTh_loop (h : RPm I n th ce wr) (hG : GRm I n G) (hi : i < G.length) (hj : j < G.length) {r : Int32} {v : Nat → Int32} : ∀ d k (z : Value), k + d = G.length → run mX12_laysThrees (2, 0, 0, [.ref 0, .int (nI i), .int (nI j), .int (nI k), z], [], mH (rgI I (r + sI (a3 th ce wr G i j) k) (fun q => v q + sI (fun k' => g3 th ce wr G i j k' q) k)) J) = some (none, mH (rgI I (r + sI (a3 th ce wr G i j) G.length) (fun q => v q + sI (fun k' => g3 th ce wr G i j k' q) G.length)) J) := by
  have hn := h.2.1
  have hl := hG.2.1
  intro d
  induction d with
  | zero =>
    intro k z hk
    have : k = G.length := by omega
    subst this
    have e22 : ∀ R V, rgI I R V 0 22 = nI G.length := fun R V => hG.1
    rw [bX12_laysThrees_2]
    simp (disch := omega) only [nI_lt', nI_le', nI_eq', inb_nI, clp, nI_add, nI_mul', cond_true, cond_false, e22, Nat.le_refl, if_true]
  | succ d ih =>
    intro k z hk
    have hkl : k < G.length := by omega
    have ih' := ih (k + 1) .null (by omega)
    have key : ∀ (R : Int32) (V : Nat → Int32), run mX12_laysThrees (2, 0, 0, [.ref 0, .int (nI i), .int (nI j), .int (nI k), z], [], mH (rgI I R V) J) = run mX12_laysThrees (2, 0, 0, [.ref 0, .int (nI i), .int (nI j), .int (nI (k + 1)), .null], [], mH (rgI I (R + a3 th ce wr G i j k) (fun q => V q + g3 th ce wr G i j k q)) J) := by
      intro R V
      have h' := h.rg R V
      have hG' := hG.rg R V
      obtain ⟨a1, -, x3, -⟩ := hG'.2.2 k hkl
      obtain ⟨b1, -, b3, -⟩ := hG'.2.2 j hj
      obtain ⟨c1, -, -, c4, -⟩ := h'.2.2 _ x3
      obtain ⟨d1, -, -, d4, -⟩ := h'.2.2 _ b3
      have e18 : rgI I R V 0 18 = R := rfl
      rw [bX12_laysThrees_2]
      simp (disch := omega) only [nI_lt', nI_le', nI_eq', inb_nI, clp, nI_add, nI_mul', cond_true, cond_false, callK_some, Option.toList_some, Option.toList_none, List.cons_append, List.nil_append, hG'.1, bX12_laysThrees_55, bX12_laysThrees_64, bX12_laysThrees_86, bX12_laysThrees_96, bX12_laysThrees_106, bX12_laysThrees_124, bX12_laysThrees_129, bX12_laysThrees_134, ite_tI, a1, b1, c1, d1, mMeets h' hG' hj hkl, mMeets h' hG' hkl hi, mFits h' hG' hkl hi hj, mFits h' hG' hi hj hkl, mFits h' hG' hj hkl hi, rgI_r, e18, mGives hn hG hi, mGives hn hG hj, mGives hn hG hkl]
      rw [if_neg (by omega)]
      unfold a3 g3
      have hfalse : t3B th ce wr (gAt G i) (gAt G j) (gAt G k) = false → rgI I R V = rgI I (R + bI (t3B th ce wr (gAt G i) (gAt G j) (gAt G k)) (nI 1)) (fun q => V q + bI (t3B th ce wr (gAt G i) (gAt G j) (gAt G k)) (adk (kyN (gAt G i)) (cM (gAt G i)) q + (adk (kyN (gAt G j)) (cM (gAt G j)) q + adk (kyN (gAt G k)) (cM (gAt G k)) q))) := by
        intro hz
        rw [hz]
        exact st_same (add_z R).symm (fun q => (add_z (V q)).symm)
      by_cases h0 : th (gAt G k).1 = 0
      · rw [if_pos h0, ← hfalse (by unfold t3B; simp [h0])]
      rw [if_neg h0]
      by_cases h1 : th (gAt G k).1 = th (gAt G j).1
      · rw [if_pos h1, ← hfalse (by unfold t3B; simp [h1])]
      rw [if_neg h1]
      cases m1 : cfB th ce wr (gAt G j).2 (gAt G k).1 with
      | false => rw [if_neg (by decide), ← hfalse (by unfold t3B; rw [m1]; simp)]
      | true =>
      rw [if_pos rfl]
      cases m2 : cfB th ce wr (gAt G k).2 (gAt G i).1 with
      | false => rw [if_neg (by decide), ← hfalse (by unfold t3B; rw [m2]; simp)]
      | true =>
      rw [if_pos rfl]
      cases f1 : ftB wr (gAt G k) (gAt G i) (gAt G j) with
      | false => rw [if_neg (by decide), ← hfalse (by unfold t3B; rw [f1]; simp)]
      | true =>
      rw [if_pos rfl]
      cases f2 : ftB wr (gAt G i) (gAt G j) (gAt G k) with
      | false => rw [if_neg (by decide), ← hfalse (by unfold t3B; rw [f2]; simp)]
      | true =>
      rw [if_pos rfl]
      cases f3 : ftB wr (gAt G j) (gAt G k) (gAt G i) with
      | false => rw [if_neg (by decide), ← hfalse (by unfold t3B; rw [f3]; simp)]
      | true =>
      rw [if_pos rfl]
      have ht : t3B th ce wr (gAt G i) (gAt G j) (gAt G k) = true := by unfold t3B; rw [m1, m2, f1, f2, f3]; simp [h0, h1]
      rw [ht]
      congr 7
      exact st_same rfl (fun q => by show V q + _ + _ + _ = V q + (_ + (_ + _)); simp only [Int32.add_assoc])
    rw [key]
    rw [show rgI I (r + sI (a3 th ce wr G i j) k + a3 th ce wr G i j k) (fun q => v q + sI (fun k' => g3 th ce wr G i j k' q) k + g3 th ce wr G i j k q) = rgI I (r + sI (a3 th ce wr G i j) (k + 1)) (fun q => v q + sI (fun k' => g3 th ce wr G i j k' q) (k + 1)) from st_same (Int32.add_assoc _ _ _) (fun q => Int32.add_assoc _ _ _)]
    exact ih'
theorem mTh (h : RPm I n th ce wr) (hG : GRm I n G) (hi : i < G.length) (hj : j < G.length) {r : Int32} {v : Nat → Int32} : fX12_laysThrees [.ref 0, .int (nI i), .int (nI j)] (mH (rgI I r v) J) = some (none, mH (rgI I (r + sI (a3 th ce wr G i j) G.length) (fun q => v q + sI (fun k' => g3 th ce wr G i j k' q) G.length)) J) := by
  rw [eX12_laysThrees]
  have e := mTh_loop (J := J) h hG hi hj (r := r) (v := v) G.length 0 .null (by omega)
  rw [show rgI I (r + sI (a3 th ce wr G i j) 0) (fun q => v q + sI (fun k' => g3 th ce wr G i j k' q) 0) = rgI I r v from st_same (add_z _) (fun q => add_z _)] at e
  exact e
def a3' (th ce : Nat → Nat) (wr : Nat → Bool) (G : List (Nat × Nat)) (i j : Nat) : Int32 := bI (p3B th ce wr (gAt G i) (gAt G j)) (sI (a3 th ce wr G i j) G.length)
def g3' (th ce : Nat → Nat) (wr : Nat → Bool) (G : List (Nat × Nat)) (i j q : Nat) : Int32 := bI (p3B th ce wr (gAt G i) (gAt G j)) (sI (fun k' => g3 th ce wr G i j k' q) G.length)
theorem mR3_in (h : RPm I n th ce wr) (hG : GRm I n G) (hi : i < G.length) {r : Int32} {v : Nat → Int32} : ∀ d j, j + d = G.length → run mX12_laysRings (46, 0, 0, [.ref 0, .int (nI i), .int (nI j)], [], mH (rgI I (r + sI (a3' th ce wr G i) j) (fun q => v q + sI (fun j' => g3' th ce wr G i j' q) j)) J) = run mX12_laysRings (36, 0, 0, [.ref 0, .int (nI (i + 1)), .int (nI G.length)], [], mH (rgI I (r + sI (a3' th ce wr G i) G.length) (fun q => v q + sI (fun j' => g3' th ce wr G i j' q) G.length)) J) := by
  have hn := h.2.1
  have hl := hG.2.1
  intro d
  induction d with
  | zero =>
    intro j hj
    have : j = G.length := by omega
    subst this
    have e22 : ∀ R V, rgI I R V 0 22 = nI G.length := fun R V => hG.1
    rw [bX12_laysRings_46]
    simp (disch := omega) only [nI_lt', nI_le', nI_eq', inb_nI, clp, nI_add, nI_mul', cond_true, cond_false, e22, Nat.le_refl, if_true]
  | succ d ih =>
    intro j hj
    have hjl : j < G.length := by omega
    have ih' := ih (j + 1) (by omega)
    have key : ∀ (R : Int32) (V : Nat → Int32), run mX12_laysRings (46, 0, 0, [.ref 0, .int (nI i), .int (nI j)], [], mH (rgI I R V) J) = run mX12_laysRings (46, 0, 0, [.ref 0, .int (nI i), .int (nI (j + 1))], [], mH (rgI I (R + a3' th ce wr G i j) (fun q => V q + g3' th ce wr G i j q)) J) := by
      intro R V
      have h' := h.rg R V
      have hG' := hG.rg R V
      obtain ⟨a1, -, x3, -⟩ := hG'.2.2 i hi
      obtain ⟨b1, -, b3, -⟩ := hG'.2.2 j hjl
      obtain ⟨c1, -, -, c4, -⟩ := h'.2.2 _ x3
      obtain ⟨d1, -, -, d4, -⟩ := h'.2.2 _ b3
      rw [bX12_laysRings_46]
      simp (disch := omega) only [nI_lt', nI_le', nI_eq', inb_nI, clp, nI_add, nI_mul', cond_true, cond_false, callK_some, Option.toList_some, Option.toList_none, List.cons_append, List.nil_append, hG'.1, a1, b1, c1, d1, mMeets h' hG' hi hjl, bX12_laysRings_88, bX12_laysRings_97, ite_tI, mTh h hG hi hjl]
      rw [if_neg (by omega)]
      unfold a3' g3'
      have hfalse : p3B th ce wr (gAt G i) (gAt G j) = false → rgI I R V = rgI I (R + bI (p3B th ce wr (gAt G i) (gAt G j)) (sI (a3 th ce wr G i j) G.length)) (fun q => V q + bI (p3B th ce wr (gAt G i) (gAt G j)) (sI (fun k' => g3 th ce wr G i j k' q) G.length)) := by
        intro hz
        rw [hz]
        exact st_same (add_z R).symm (fun q => (add_z (V q)).symm)
      by_cases h0 : th (gAt G i).1 = 0
      · rw [if_pos h0]
        by_cases h1 : th (gAt G j).1 ≤ 0
        · rw [if_pos h1, ← hfalse (by unfold p3B; have : ¬ 0 < th (gAt G j).1 := by omega
                                      simp [this])]
        rw [if_neg h1]
        have h1' : 0 < th (gAt G j).1 := by omega
        cases m1 : cfB th ce wr (gAt G i).2 (gAt G j).1 with
        | false => rw [if_neg (by decide), ← hfalse (by unfold p3B; rw [m1]; simp)]
        | true =>
          rw [if_pos rfl]
          have ht : p3B th ce wr (gAt G i) (gAt G j) = true := by unfold p3B; rw [m1]; simp [h0, h1']
          rw [ht]
          rfl
      · rw [if_neg h0, ← hfalse (by unfold p3B; simp [h0])]
    rw [key]
    rw [show rgI I (r + sI (a3' th ce wr G i) j + a3' th ce wr G i j) (fun q => v q + sI (fun j' => g3' th ce wr G i j' q) j + g3' th ce wr G i j q) = rgI I (r + sI (a3' th ce wr G i) (j + 1)) (fun q => v q + sI (fun j' => g3' th ce wr G i j' q) (j + 1)) from st_same (Int32.add_assoc _ _ _) (fun q => Int32.add_assoc _ _ _)]
    exact ih'
theorem mR3_out (h : RPm I n th ce wr) (hG : GRm I n G) {r : Int32} {v : Nat → Int32} : ∀ d i (z : Value), i + d = G.length → run mX12_laysRings (36, 0, 0, [.ref 0, .int (nI i), z], [], mH (rgI I (r + sI (fun i => sI (a3' th ce wr G i) G.length) i) (fun q => v q + sI (fun i => sI (fun j' => g3' th ce wr G i j' q) G.length) i)) J) = some (none, mH (rgI I (r + sI (fun i => sI (a3' th ce wr G i) G.length) G.length) (fun q => v q + sI (fun i => sI (fun j' => g3' th ce wr G i j' q) G.length) G.length)) J) := by
  have hl := hG.2.1
  have e22 : ∀ R V, rgI I R V 0 22 = nI G.length := fun R V => hG.1
  intro d
  induction d with
  | zero =>
    intro i z hi
    have : i = G.length := by omega
    subst this
    rw [bX12_laysRings_36]
    simp (disch := omega) only [nI_lt', nI_le', nI_eq', inb_nI, clp, nI_add, nI_mul', cond_true, cond_false, e22, Nat.le_refl, if_true]
  | succ d ih =>
    intro i z hi
    rw [bX12_laysRings_36]
    simp (disch := omega) only [nI_lt', nI_le', nI_eq', inb_nI, clp, nI_add, nI_mul', cond_true, cond_false, e22]
    rw [if_neg (by omega)]
    have e := mR3_in (J := J) h hG (show i < G.length by omega) (r := r + sI (fun i => sI (a3' th ce wr G i) G.length) i) (v := fun q => v q + sI (fun i => sI (fun j' => g3' th ce wr G i j' q) G.length) i) G.length 0 (by omega)
    rw [show rgI I (r + sI (fun i => sI (a3' th ce wr G i) G.length) i + sI (a3' th ce wr G i) 0) (fun q => v q + sI (fun i => sI (fun j' => g3' th ce wr G i j' q) G.length) i + sI (fun j' => g3' th ce wr G i j' q) 0) = rgI I (r + sI (fun i => sI (a3' th ce wr G i) G.length) i) (fun q => v q + sI (fun i => sI (fun j' => g3' th ce wr G i j' q) G.length) i) from st_same (add_z _) (fun q => add_z _)] at e
    rw [e]
    rw [show rgI I (r + sI (fun i => sI (a3' th ce wr G i) G.length) i + sI (a3' th ce wr G i) G.length) (fun q => v q + sI (fun i => sI (fun j' => g3' th ce wr G i j' q) G.length) i + sI (fun j' => g3' th ce wr G i j' q) G.length) = rgI I (r + sI (fun i => sI (a3' th ce wr G i) G.length) (i + 1)) (fun q => v q + sI (fun i => sI (fun j' => g3' th ce wr G i j' q) G.length) (i + 1)) from st_same (Int32.add_assoc _ _ _) (fun q => Int32.add_assoc _ _ _)]
    exact ih (i + 1) _ (by omega)
/-- how many rings, and to how many a pair is given -/
def nR (th ce : Nat → Nat) (wr : Nat → Bool) (G : List (Nat × Nat)) : Int32 := sI (fun i => sI (a2 th ce wr G i) G.length) G.length + sI (fun i => sI (a3' th ce wr G i) G.length) G.length
def nV (th ce : Nat → Nat) (wr : Nat → Bool) (G : List (Nat × Nat)) (q : Nat) : Int32 := sI (fun i => sI (fun j' => g2 th ce wr G i j' q) G.length) G.length + sI (fun i => sI (fun j' => g3' th ce wr G i j' q) G.length) G.length
theorem mClr (J : Nat → Nat → Int64) : ∀ d k (I : Nat → Nat → Int32) (z : Value), k + d = 64 → (∀ q, q < k → I 12 q = nI 0) → ∃ I' : Nat → Nat → Int32, run mX12_laysRings (7, 0, 0, [.ref 0, .int (nI k), z], [], mH I J) = (callK (fX12_laysGifts [.ref 0] (mH I' J)) (fun r h' => run mX12_laysRings (30, 0, 0, [.ref 0, .int (nI 64), .null], r.toList ++ [], h'))) ∧ (∀ p, p ≠ 12 → I' p = I p) ∧ (∀ q, q < 64 → I' 12 q = nI 0) := by
  intro d
  induction d with
  | zero =>
    intro k I z hk hI
    have : k = 64 := by omega
    subst this
    refine ⟨I, ?_, fun _ _ => rfl, hI⟩
    rw [bX12_laysRings_7]
    simp (disch := omega) only [nI_lt', nI_le', nI_eq', inb_nI, clp, nI_add, nI_mul', cond_true, cond_false, Nat.le_refl, if_true]
  | succ d ih =>
    intro k I z hk hI
    obtain ⟨I', h1, h2, h3⟩ := ih (k + 1) (up2 I 12 k (nI 0)) .null (by omega) (fun q hq => by
      rw [up2_eq]; unfold up1
      by_cases hqk : q = k
      · rw [if_pos hqk]
      · rw [if_neg hqk]; exact hI q (by omega))
    refine ⟨I', ?_, fun p hp => by rw [h2 p hp, up2_ne hp], h3⟩
    rw [bX12_laysRings_7]
    simp (disch := omega) only [nI_lt', nI_le', nI_eq', inb_nI, clp, nI_add, nI_mul', cond_true, cond_false]
    rw [if_neg (by omega)]
    exact h1
theorem mRings (h : RPm I n th ce wr) : ∃ I' : Nat → Nat → Int32, fX12_laysRings [.ref 0] (mH I J) = some (none, mH I' J) ∧ (∀ p, p ≠ 0 → p ≠ 12 → p ≠ 13 → p ≠ 14 → I' p = I p) ∧ (∀ k, k ≠ 18 → k ≠ 22 → I' 0 k = I 0 k) ∧ I' 0 18 = nR th ce wr (gS th ce wr n n) ∧ (∀ q, q < 64 → I' 12 q = nV th ce wr (gS th ce wr n n) q) := by
  have hn := h.2.1
  obtain ⟨I1, e1, h1, h2⟩ := mClr J 64 0 (up2 I 0 18 (nI 0)) .null (by omega) (fun q hq => absurd hq (Nat.not_lt_zero q))
  have h01 : I1 0 = up1 (I 0) 18 (nI 0) := by rw [h1 0 (by decide), up2_eq]
  have hR1 : RPm I1 n th ce wr := h.cong (by rw [h01]; rfl) (by rw [h1 1 (by decide), up2_ne (by decide)]) (by rw [h1 2 (by decide), up2_ne (by decide)]) (by rw [h1 3 (by decide), up2_ne (by decide)])
  have hG : GRm (gsI I1 (gS th ce wr n n)) n (gS th ce wr n n) := gsI_GR hn
  have hR2 := hR1.gs (gS th ce wr n n)
  -- the world behind the gifts is one of rings
  have eW : gsI I1 (gS th ce wr n n) = rgI (gsI I1 (gS th ce wr n n)) (nI 0) (I1 12) := by
    funext p
    by_cases hp : p = 12
    · subst hp; rfl
    · by_cases hp0 : p = 0
      · subst hp0
        funext k
        by_cases hk : k = 18
        · subst hk
          show I1 0 18 = nI 0
          rw [h01]; rfl
        · simp [rgI, hk]
      · funext k; simp [rgI, hp, hp0]
  refine ⟨rgI (gsI I1 (gS th ce wr n n)) (nI 0 + sI (fun i => sI (a2 th ce wr (gS th ce wr n n) i) (gS th ce wr n n).length) (gS th ce wr n n).length + sI (fun i => sI (a3' th ce wr (gS th ce wr n n) i) (gS th ce wr n n).length) (gS th ce wr n n).length) (fun q => I1 12 q + sI (fun i => sI (fun j' => g2 th ce wr (gS th ce wr n n) i j' q) (gS th ce wr n n).length) (gS th ce wr n n).length + sI (fun i => sI (fun j' => g3' th ce wr (gS th ce wr n n) i j' q) (gS th ce wr n n).length) (gS th ce wr n n).length), ?_, ?_⟩
  · rw [eX12_laysRings, e1, mLg hR1]
    simp only [callK_some, Option.toList_some, Option.toList_none, List.cons_append, List.nil_append, bX12_laysRings_30]
    rw [eX12_laysTwos, show mH (gsI I1 (gS th ce wr n n)) J = mH (rgI (gsI I1 (gS th ce wr n n)) (nI 0) (I1 12)) J from congrArg (fun x => mH x J) eW]
    have e2 := mTw_out (J := J) hR2 hG (r := nI 0) (v := I1 12) (gS th ce wr n n).length 0 .null .null (by omega)
    rw [show rgI (gsI I1 (gS th ce wr n n)) (nI 0 + sI (fun i => sI (a2 th ce wr (gS th ce wr n n) i) (gS th ce wr n n).length) 0) (fun q => I1 12 q + sI (fun i => sI (fun j' => g2 th ce wr (gS th ce wr n n) i j' q) (gS th ce wr n n).length) 0) = rgI (gsI I1 (gS th ce wr n n)) (nI 0) (I1 12) from st_same (add_z _) (fun q => add_z _)] at e2
    rw [e2]
    simp only [callK_some, Option.toList_some, Option.toList_none, List.cons_append, List.nil_append, bX12_laysRings_34]
    have e3 := mR3_out (J := J) hR2 hG (r := nI 0 + sI (fun i => sI (a2 th ce wr (gS th ce wr n n) i) (gS th ce wr n n).length) (gS th ce wr n n).length) (v := fun q => I1 12 q + sI (fun i => sI (fun j' => g2 th ce wr (gS th ce wr n n) i j' q) (gS th ce wr n n).length) (gS th ce wr n n).length) (gS th ce wr n n).length 0 .null (by omega)
    rw [show ∀ (X : Int32) (Y : Nat → Int32), rgI (gsI I1 (gS th ce wr n n)) (X + sI (fun i => sI (a3' th ce wr (gS th ce wr n n) i) (gS th ce wr n n).length) 0) (fun q => Y q + sI (fun i => sI (fun j' => g3' th ce wr (gS th ce wr n n) i j' q) (gS th ce wr n n).length) 0) = rgI (gsI I1 (gS th ce wr n n)) X Y from fun X Y => st_same (add_z _) (fun q => add_z _)] at e3
    exact e3
  · refine ⟨fun p p0 p12 p13 p14 => ?_, fun k k18 k22 => ?_, ?_, fun q hq => ?_⟩
    · funext k
      have : gsI I1 (gS th ce wr n n) p k = I1 p k := by simp [gsI, p0, p13, p14]
      simp only [rgI, p12, p0, if_false, this]
      rw [h1 p p12, up2_ne p0]
    · have : gsI I1 (gS th ce wr n n) 0 k = I1 0 k := by simp [gsI, k22]
      simp only [rgI, k18, if_false, if_true, this]
      rw [h01, up1_ne k18]
      rfl
    · show nI 0 + _ + _ = _
      rw [z_add]; rfl
    · show I1 12 q + _ + _ = _
      rw [h2 q hq, z_add]; rfl
end MRD
