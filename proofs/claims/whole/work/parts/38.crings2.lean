/-! the class: rings counted; the same numbers as the reference's -/
def c3B (th ce : Nat → Nat) (wr : Nat → Bool) (a b c : Nat × Nat) : Bool := decide (th a.1 < th c.1) && !decide (th b.1 = th c.1) && ldB th ce wr b c && ldB th ce wr c a
def c2B (th ce : Nat → Nat) (wr : Nat → Bool) (a b : Nat × Nat) : Bool := !alB a && !alB b && ldB th ce wr b a
def c0B (th ce : Nat → Nat) (wr : Nat → Bool) (a b : Nat × Nat) : Bool := decide (th a.1 < th b.1) && ldB th ce wr a b
def ca3 (th ce : Nat → Nat) (wr : Nat → Bool) (G : List (Nat × Nat)) (a b : Nat × Nat) (k : Nat) : Int32 := bI (c3B th ce wr a b (gAt G k)) (nI 1)
def cg3 (th ce : Nat → Nat) (wr : Nat → Bool) (G : List (Nat × Nat)) (a b : Nat × Nat) (k q : Nat) : Int32 := bI (c3B th ce wr a b (gAt G k)) (adk (kyN a) (nI 1) q + (adk (kyN b) (nI 1) q + adk (kyN (gAt G k)) (nI 1) q))
def cA (th ce : Nat → Nat) (wr : Nat → Bool) (G : List (Nat × Nat)) (a b : Nat × Nat) : Int32 := bI (c0B th ce wr a b) (bI (c2B th ce wr a b) (nI 1) + sI (ca3 th ce wr G a b) G.length)
def cB (th ce : Nat → Nat) (wr : Nat → Bool) (G : List (Nat × Nat)) (a b : Nat × Nat) (q : Nat) : Int32 := bI (c0B th ce wr a b) (bI (c2B th ce wr a b) (adk (kyN a) (nI 1) q + adk (kyN b) (nI 1) q) + sI (fun k => cg3 th ce wr G a b k q) G.length)
section CRD
variable {I : Nat → Nat → Int32} {J : Nat → Nat → Int64} {pl st : Bool} {n : Nat} {th ce : Nat → Nat} {wr : Nat → Bool} {G : List (Nat × Nat)} {i j P : Nat} {a b : Nat × Nat}
theorem cFb_loop (hP : P = 4 ∨ P = 7) (h : RPx I P n th ce wr) (hG : GRx I n G) (ha1 : a.1 < n) (ha2 : a.2 < n) (hb1 : b.1 < n) (hb2 : b.2 < n) {r : Int32} {v : Nat → Int32} : ∀ d k (z1 z2 : Value), k + d = G.length → run mX8_findBegunWith (85, 0, 0, [.ref 10, .ref P, .int (nI (kyN a)), .int (nI (kyN b)), .int (nI (th a.1)), .int (nI (th b.1)), .int (nI k), z1, z2], [], cH (rxI I (r + sI (ca3 th ce wr G a b) k) (fun q => v q + sI (fun k' => cg3 th ce wr G a b k' q) k)) J pl st) = some (none, cH (rxI I (r + sI (ca3 th ce wr G a b) G.length) (fun q => v q + sI (fun k' => cg3 th ce wr G a b k' q) G.length)) J pl st) := by
  have hn := h.2.1
  have hl := hG.2.1
  intro d
  induction d with
  | zero =>
    intro k z1 z2 hk
    have : k = G.length := by omega
    subst this
    have e2 : ∀ R V, rxI I R V 10 2 = nI G.length := fun R V => hG.1
    rw [bX8_findBegunWith_85 (hP := hP)]
    simp (disch := omega) only [nI_lt', nI_le', nI_eq', inb_nI, clp, nI_add, nI_mul', cond_true, cond_false, e2, Nat.le_refl, if_true]
  | succ d ih =>
    intro k z1 z2 hk
    have hkl : k < G.length := by omega
    have ih' := ih (k + 1) .null .null (by omega)
    have key : ∀ (R : Int32) (V : Nat → Int32), run mX8_findBegunWith (85, 0, 0, [.ref 10, .ref P, .int (nI (kyN a)), .int (nI (kyN b)), .int (nI (th a.1)), .int (nI (th b.1)), .int (nI k), z1, z2], [], cH (rxI I R V) J pl st) = run mX8_findBegunWith (85, 0, 0, [.ref 10, .ref P, .int (nI (kyN a)), .int (nI (kyN b)), .int (nI (th a.1)), .int (nI (th b.1)), .int (nI (k + 1)), .null, .null], [], cH (rxI I (R + ca3 th ce wr G a b k) (fun q => V q + cg3 th ce wr G a b k q)) J pl st) := by
      intro R V
      have h' := h.rx hP R V
      have hG' := hG.rx R V
      obtain ⟨-, c1, c2⟩ := hG'.2.2 k hkl
      obtain ⟨-, -, d4, -⟩ := h'.2.2.1 _ c1
      obtain ⟨-, -, e4, -⟩ := h'.2.2.1 _ ha1
      obtain ⟨-, -, f4, -⟩ := h'.2.2.1 _ hb1
      have e3 : rxI I R V 10 3 = R := rfl
      rw [bX8_findBegunWith_85 (hP := hP)]
      simp (disch := omega) only [nI_lt', nI_le', nI_eq', inb_nI, clp, nI_add, nI_mul', cond_true, cond_false, callK_some, Option.toList_some, Option.toList_none, List.cons_append, List.nil_append, hG'.1, cGa hG' hkl, bX8_findBegunWith_100 (hP := hP), cFi (a := gAt G k) (show (gAt G k).1 < 8 by omega) (show (gAt G k).2 < 8 by omega), bX8_findBegunWith_108 (hP := hP), cTh hP h' c1, bX8_findBegunWith_111 (hP := hP), cLd hP h' hb1 hb2 c1 c2, cLd hP h' c1 c2 ha1 ha2, bX8_findBegunWith_135 (hP := hP), bX8_findBegunWith_146 (hP := hP), ite_tI, rxI_r, e3, cCg (a := a) (show a.1 < 8 by omega) (show a.2 < 8 by omega), cCg (a := b) (show b.1 < 8 by omega) (show b.2 < 8 by omega), cCg (a := gAt G k) (show (gAt G k).1 < 8 by omega) (show (gAt G k).2 < 8 by omega), bX8_findBegunWith_164 (hP := hP), bX8_findBegunWith_169 (hP := hP), bX8_findBegunWith_175 (hP := hP)]
      rw [if_neg (by omega)]
      unfold ca3 cg3
      have hfalse : c3B th ce wr a b (gAt G k) = false → rxI I R V = rxI I (R + bI (c3B th ce wr a b (gAt G k)) (nI 1)) (fun q => V q + bI (c3B th ce wr a b (gAt G k)) (adk (kyN a) (nI 1) q + (adk (kyN b) (nI 1) q + adk (kyN (gAt G k)) (nI 1) q))) := by
        intro hz
        rw [hz]
        exact sx_same (add_z R).symm (fun q => (add_z (V q)).symm)
      by_cases h0 : th (gAt G k).1 ≤ th a.1
      · rw [if_pos h0, ← hfalse (by unfold c3B; have : ¬ th a.1 < th (gAt G k).1 := by omega
                                    simp [this])]
      rw [if_neg h0]
      have h0' : th a.1 < th (gAt G k).1 := by omega
      by_cases h1 : th b.1 = th (gAt G k).1
      · rw [if_pos h1, ← hfalse (by unfold c3B; simp [h1])]
      rw [if_neg h1]
      cases m1 : ldB th ce wr b (gAt G k) with
      | false => rw [if_neg (by decide), ← hfalse (by unfold c3B; rw [m1]; simp)]
      | true =>
      rw [if_pos rfl]
      cases m2 : ldB th ce wr (gAt G k) a with
      | false => rw [if_neg (by decide), ← hfalse (by unfold c3B; rw [m2]; simp)]
      | true =>
      rw [if_pos rfl]
      have ht : c3B th ce wr a b (gAt G k) = true := by unfold c3B; rw [m1, m2]; simp [h0', h1]
      rw [ht]
      congr 7
      exact sx_same rfl (fun q => by show V q + _ + _ + _ = V q + (_ + (_ + _)); simp only [Int32.add_assoc])
    rw [key]
    rw [show rxI I (r + sI (ca3 th ce wr G a b) k + ca3 th ce wr G a b k) (fun q => v q + sI (fun k' => cg3 th ce wr G a b k' q) k + cg3 th ce wr G a b k q) = rxI I (r + sI (ca3 th ce wr G a b) (k + 1)) (fun q => v q + sI (fun k' => cg3 th ce wr G a b k' q) (k + 1)) from sx_same (Int32.add_assoc _ _ _) (fun q => Int32.add_assoc _ _ _)]
    exact ih'
theorem cFb (hP : P = 4 ∨ P = 7) (h : RPx I P n th ce wr) (hG : GRx I n G) (ha1 : a.1 < n) (ha2 : a.2 < n) (hb1 : b.1 < n) (hb2 : b.2 < n) {r : Int32} {v : Nat → Int32} : fX8_findBegunWith [.ref 10, .ref P, .int (nI (kyN a)), .int (nI (kyN b))] (cH (rxI I r v) J pl st) = some (none, cH (rxI I (r + cA th ce wr G a b) (fun q => v q + cB th ce wr G a b q)) J pl st) := by
  have hn := h.2.1
  have h' := h.rx hP r v
  obtain ⟨-, -, e4, -⟩ := h'.2.2.1 _ ha1
  obtain ⟨-, -, f4, -⟩ := h'.2.2.1 _ hb1
  have e3 : rxI I r v 10 3 = r := rfl
  have lp : ∀ (R : Int32) (V : Nat → Int32), run mX8_findBegunWith (85, 0, 0, [.ref 10, .ref P, .int (nI (kyN a)), .int (nI (kyN b)), .int (nI (th a.1)), .int (nI (th b.1)), .int (nI 0), .null, .null], [], cH (rxI I R V) J pl st) = some (none, cH (rxI I (R + sI (ca3 th ce wr G a b) G.length) (fun q => V q + sI (fun k' => cg3 th ce wr G a b k' q) G.length)) J pl st) := by
    intro R V
    have e := cFb_loop (J := J) (pl := pl) (st := st) hP h hG ha1 ha2 hb1 hb2 (r := R) (v := V) G.length 0 .null .null (by omega)
    rw [show rxI I (R + sI (ca3 th ce wr G a b) 0) (fun q => V q + sI (fun k' => cg3 th ce wr G a b k' q) 0) = rxI I R V from sx_same (add_z _) (fun q => add_z _)] at e
    exact e
  rw [eX8_findBegunWith (hP := hP)]
  simp (disch := omega) only [nI_lt', nI_le', nI_eq', inb_nI, clp, nI_add, nI_mul', cond_true, cond_false, callK_some, Option.toList_some, Option.toList_none, List.cons_append, List.nil_append, cFi (a := a) (show a.1 < 8 by omega) (show a.2 < 8 by omega), cFi (a := b) (show b.1 < 8 by omega) (show b.2 < 8 by omega), bX8_findBegunWith_5 (hP := hP), cTh hP h' ha1, bX8_findBegunWith_8 (hP := hP), bX8_findBegunWith_15 (hP := hP), cTh hP h' hb1, bX8_findBegunWith_18 (hP := hP), cLd hP h' ha1 ha2 hb1 hb2, cLd hP h' hb1 hb2 ha1 ha2, bX8_findBegunWith_34 (hP := hP), ite_tI, cAl (a := a) (show a.1 < 8 by omega) (show a.2 < 8 by omega), cAl (a := b) (show b.1 < 8 by omega) (show b.2 < 8 by omega), bX8_findBegunWith_42 (hP := hP), bX8_findBegunWith_49 (hP := hP), bX8_findBegunWith_59 (hP := hP), rxI_r, e3, cCg (a := a) (show a.1 < 8 by omega) (show a.2 < 8 by omega), cCg (a := b) (show b.1 < 8 by omega) (show b.2 < 8 by omega), bX8_findBegunWith_77 (hP := hP), bX8_findBegunWith_82 (hP := hP), lp]
  unfold cA cB
  have hfalse : c0B th ce wr a b = false → rxI I r v = rxI I (r + bI (c0B th ce wr a b) (bI (c2B th ce wr a b) (nI 1) + sI (ca3 th ce wr G a b) G.length)) (fun q => v q + bI (c0B th ce wr a b) (bI (c2B th ce wr a b) (adk (kyN a) (nI 1) q + adk (kyN b) (nI 1) q) + sI (fun k => cg3 th ce wr G a b k q) G.length)) := by
    intro hz
    rw [hz]
    exact sx_same (add_z r).symm (fun q => (add_z (v q)).symm)
  by_cases h0 : th b.1 ≤ th a.1
  · rw [if_pos h0, ← hfalse (by unfold c0B; have : ¬ th a.1 < th b.1 := by omega
                                simp [this])]
  rw [if_neg h0]
  have h0' : th a.1 < th b.1 := by omega
  cases m1 : ldB th ce wr a b with
  | false => rw [if_neg (by decide), ← hfalse (by unfold c0B; rw [m1]; simp)]
  | true =>
  rw [if_pos rfl]
  have ht : c0B th ce wr a b = true := by unfold c0B; rw [m1]; simp [h0']
  rw [ht]
  have hno : c2B th ce wr a b = false → rxI I (r + sI (ca3 th ce wr G a b) G.length) (fun q => v q + sI (fun k' => cg3 th ce wr G a b k' q) G.length) = rxI I (r + bI true (bI (c2B th ce wr a b) (nI 1) + sI (ca3 th ce wr G a b) G.length)) (fun q => v q + bI true (bI (c2B th ce wr a b) (adk (kyN a) (nI 1) q + adk (kyN b) (nI 1) q) + sI (fun k => cg3 th ce wr G a b k q) G.length)) := by
    intro hz
    rw [hz]
    exact sx_same (by show _ = r + (nI 0 + _); rw [z_add]) (fun q => by show _ = v q + (nI 0 + _); rw [z_add])
  cases n1 : alB a with
  | true => rw [if_pos rfl, ← hno (by unfold c2B; rw [n1]; rfl)]
  | false =>
  rw [if_neg (by decide)]
  cases n2 : alB b with
  | true => rw [if_pos rfl, ← hno (by unfold c2B; rw [n1, n2]; rfl)]
  | false =>
  rw [if_neg (by decide)]
  cases n3 : ldB th ce wr b a with
  | false => rw [if_neg (by decide), ← hno (by unfold c2B; rw [n1, n2, n3]; rfl)]
  | true =>
  rw [if_pos rfl]
  have h2 : c2B th ce wr a b = true := by unfold c2B; rw [n1, n2, n3]; rfl
  rw [h2]
  refine congrArg (fun x => some ((none : Option Value), cH x J pl st)) (sx_same ?_ (fun q => ?_))
  · show r + nI 1 + sI (ca3 th ce wr G a b) G.length = r + (nI 1 + sI (ca3 th ce wr G a b) G.length)
    exact Int32.add_assoc _ _ _
  · show v q + adk (kyN a) (nI 1) q + adk (kyN b) (nI 1) q + sI (fun k' => cg3 th ce wr G a b k' q) G.length = v q + ((adk (kyN a) (nI 1) q + adk (kyN b) (nI 1) q) + sI (fun k' => cg3 th ce wr G a b k' q) G.length)
    simp only [Int32.add_assoc]
theorem cFd_in (hP : P = 4 ∨ P = 7) (h : RPx I P n th ce wr) (hG : GRx I n G) (hi : i < G.length) {r : Int32} {v : Nat → Int32} : ∀ d j, j + d = G.length → run mX8_find (30, 0, 0, [.ref 10, .ref P, .int (nI i), .int (nI j)], [], cH (rxI I (r + sI (fun j => cA th ce wr G (gAt G i) (gAt G j)) j) (fun q => v q + sI (fun j => cB th ce wr G (gAt G i) (gAt G j) q) j)) J pl st) = run mX8_find (20, 0, 0, [.ref 10, .ref P, .int (nI (i + 1)), .int (nI G.length)], [], cH (rxI I (r + sI (fun j => cA th ce wr G (gAt G i) (gAt G j)) G.length) (fun q => v q + sI (fun j => cB th ce wr G (gAt G i) (gAt G j) q) G.length)) J pl st) := by
  have hl := hG.2.1
  have e2 : ∀ R V, rxI I R V 10 2 = nI G.length := fun R V => hG.1
  intro d
  induction d with
  | zero =>
    intro j hj
    have : j = G.length := by omega
    subst this
    rw [bX8_find_30 (hP := hP)]
    simp (disch := omega) only [nI_lt', nI_le', nI_eq', inb_nI, clp, nI_add, nI_mul', cond_true, cond_false, e2, Nat.le_refl, if_true]
  | succ d ih =>
    intro j hj
    have hjl : j < G.length := by omega
    have ih' := ih (j + 1) (by omega)
    obtain ⟨-, a1, a2⟩ := hG.2.2 i hi
    obtain ⟨-, b1, b2⟩ := hG.2.2 j hjl
    have key : ∀ (R : Int32) (V : Nat → Int32), run mX8_find (30, 0, 0, [.ref 10, .ref P, .int (nI i), .int (nI j)], [], cH (rxI I R V) J pl st) = run mX8_find (30, 0, 0, [.ref 10, .ref P, .int (nI i), .int (nI (j + 1))], [], cH (rxI I (R + cA th ce wr G (gAt G i) (gAt G j)) (fun q => V q + cB th ce wr G (gAt G i) (gAt G j) q)) J pl st) := by
      intro R V
      have hG' := hG.rx R V
      rw [bX8_find_30 (hP := hP)]
      simp (disch := omega) only [nI_lt', nI_le', nI_eq', inb_nI, clp, nI_add, nI_mul', cond_true, cond_false, callK_some, Option.toList_some, Option.toList_none, List.cons_append, List.nil_append, hG'.1, cGa hG' hi, bX8_find_45 (hP := hP), cGa hG' hjl, bX8_find_50 (hP := hP), cFb hP h hG a1 a2 b1 b2, bX8_find_53 (hP := hP)]
      rw [if_neg (by omega)]
    rw [key]
    rw [show rxI I (r + sI (fun j => cA th ce wr G (gAt G i) (gAt G j)) j + cA th ce wr G (gAt G i) (gAt G j)) (fun q => v q + sI (fun j => cB th ce wr G (gAt G i) (gAt G j) q) j + cB th ce wr G (gAt G i) (gAt G j) q) = rxI I (r + sI (fun j => cA th ce wr G (gAt G i) (gAt G j)) (j + 1)) (fun q => v q + sI (fun j => cB th ce wr G (gAt G i) (gAt G j) q) (j + 1)) from sx_same (Int32.add_assoc _ _ _) (fun q => Int32.add_assoc _ _ _)]
    exact ih'
theorem cFd_out (hP : P = 4 ∨ P = 7) (h : RPx I P n th ce wr) (hG : GRx I n G) {r : Int32} {v : Nat → Int32} : ∀ d i (z : Value), i + d = G.length → run mX8_find (20, 0, 0, [.ref 10, .ref P, .int (nI i), z], [], cH (rxI I (r + sI (fun i => sI (fun j => cA th ce wr G (gAt G i) (gAt G j)) G.length) i) (fun q => v q + sI (fun i => sI (fun j => cB th ce wr G (gAt G i) (gAt G j) q) G.length) i)) J pl st) = some (none, cH (rxI I (r + sI (fun i => sI (fun j => cA th ce wr G (gAt G i) (gAt G j)) G.length) G.length) (fun q => v q + sI (fun i => sI (fun j => cB th ce wr G (gAt G i) (gAt G j) q) G.length) G.length)) J pl st) := by
  have hl := hG.2.1
  have e2 : ∀ R V, rxI I R V 10 2 = nI G.length := fun R V => hG.1
  intro d
  induction d with
  | zero =>
    intro i z hi
    have : i = G.length := by omega
    subst this
    rw [bX8_find_20 (hP := hP)]
    simp (disch := omega) only [nI_lt', nI_le', nI_eq', inb_nI, clp, nI_add, nI_mul', cond_true, cond_false, e2, Nat.le_refl, if_true]
  | succ d ih =>
    intro i z hi
    rw [bX8_find_20 (hP := hP)]
    simp (disch := omega) only [nI_lt', nI_le', nI_eq', inb_nI, clp, nI_add, nI_mul', cond_true, cond_false, e2]
    rw [if_neg (by omega)]
    have e := cFd_in (J := J) (pl := pl) (st := st) hP h hG (show i < G.length by omega) (r := r + sI (fun i => sI (fun j => cA th ce wr G (gAt G i) (gAt G j)) G.length) i) (v := fun q => v q + sI (fun i => sI (fun j => cB th ce wr G (gAt G i) (gAt G j) q) G.length) i) G.length 0 (by omega)
    rw [show rxI I (r + sI (fun i => sI (fun j => cA th ce wr G (gAt G i) (gAt G j)) G.length) i + sI (fun j => cA th ce wr G (gAt G i) (gAt G j)) 0) (fun q => v q + sI (fun i => sI (fun j => cB th ce wr G (gAt G i) (gAt G j) q) G.length) i + sI (fun j => cB th ce wr G (gAt G i) (gAt G j) q) 0) = rxI I (r + sI (fun i => sI (fun j => cA th ce wr G (gAt G i) (gAt G j)) G.length) i) (fun q => v q + sI (fun i => sI (fun j => cB th ce wr G (gAt G i) (gAt G j) q) G.length) i) from sx_same (add_z _) (fun q => add_z _)] at e
    rw [e]
    rw [show rxI I (r + sI (fun i => sI (fun j => cA th ce wr G (gAt G i) (gAt G j)) G.length) i + sI (fun j => cA th ce wr G (gAt G i) (gAt G j)) G.length) (fun q => v q + sI (fun i => sI (fun j => cB th ce wr G (gAt G i) (gAt G j) q) G.length) i + sI (fun j => cB th ce wr G (gAt G i) (gAt G j) q) G.length) = rxI I (r + sI (fun i => sI (fun j => cA th ce wr G (gAt G i) (gAt G j)) G.length) (i + 1)) (fun q => v q + sI (fun i => sI (fun j => cB th ce wr G (gAt G i) (gAt G j) q) G.length) (i + 1)) from sx_same (Int32.add_assoc _ _ _) (fun q => Int32.add_assoc _ _ _)]
    exact ih (i + 1) _ (by omega)
end CRD
