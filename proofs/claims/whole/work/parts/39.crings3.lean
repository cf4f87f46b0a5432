/-! the class's numbers are the reference's -/
section CRE
variable {I : Nat → Nat → Int32} {J : Nat → Nat → Int64} {pl st : Bool} {n : Nat} {th ce : Nat → Nat} {wr : Nat → Bool} {G : List (Nat × Nat)} {i j P : Nat} {a b c : Nat × Nat}
theorem cfB_th {s u : Nat} (h : cfB th ce wr s u = true) : th s ≠ th u := by
  unfold cfB at h
  intro z
  simp [z] at h
/-- a gift's steps are of one thread -/
def gOk (th : Nat → Nat) (a : Nat × Nat) : Prop := th a.1 = th a.2 ∧ th a.1 < 3
theorem tw_same : (c0B th ce wr a b && c2B th ce wr a b) = twB th ce wr a b := by
  unfold c0B c2B twB ldB
  cases alB a <;> cases alB b <;> cases cfB th ce wr a.2 b.1 <;> cases cfB th ce wr b.2 a.1 <;> simp
theorem th_same (ha : gOk th a) (hb : gOk th b) (hc : gOk th c) : (c0B th ce wr a b && c3B th ce wr a b c) = (p3B th ce wr a b && t3B th ce wr a b c) := by
  obtain ⟨-, a2⟩ := ha
  obtain ⟨-, b2⟩ := hb
  obtain ⟨-, c2⟩ := hc
  have key : (decide (th a.1 < th b.1) && (decide (th a.1 < th c.1) && !decide (th b.1 = th c.1))) = (decide (th a.1 = 0) && decide (0 < th b.1) && (!decide (th c.1 = 0) && !decide (th c.1 = th b.1))) := by
    rw [Bool.eq_iff_iff]
    simp only [Bool.and_eq_true, decide_eq_true_eq, Bool.not_eq_true', decide_eq_false_iff_not]
    constructor
    · rintro ⟨h1, h2, h3⟩; exact ⟨⟨by omega, by omega⟩, by omega, by omega⟩
    · rintro ⟨⟨h1, h2⟩, h3, h4⟩; exact ⟨by omega, by omega, by omega⟩
  have rest : ∀ x y : Bool, x = y → (x && (ldB th ce wr a b && (ldB th ce wr b c && ldB th ce wr c a))) = (y && (cfB th ce wr a.2 b.1 && (cfB th ce wr b.2 c.1 && cfB th ce wr c.2 a.1 && ftB wr c a b && ftB wr a b c && ftB wr b c a))) := by
    rintro x y rfl
    unfold ldB ftB
    cases x
    · rfl
    · cases cfB th ce wr a.2 b.1 <;> cases cfB th ce wr b.2 c.1 <;> cases cfB th ce wr c.2 a.1 <;> cases alB a <;> cases alB b <;> cases alB c <;> cases wr a.1 <;> cases wr a.2 <;> cases wr b.1 <;> cases wr b.2 <;> cases wr c.1 <;> cases wr c.2 <;> rfl
  have e1 : (c0B th ce wr a b && c3B th ce wr a b c) = ((decide (th a.1 < th b.1) && (decide (th a.1 < th c.1) && !decide (th b.1 = th c.1))) && (ldB th ce wr a b && (ldB th ce wr b c && ldB th ce wr c a))) := by
    unfold c0B c3B
    cases decide (th a.1 < th b.1) <;> cases ldB th ce wr a b <;> cases decide (th a.1 < th c.1) <;> cases decide (th b.1 = th c.1) <;> cases ldB th ce wr b c <;> cases ldB th ce wr c a <;> rfl
  have e2 : (p3B th ce wr a b && t3B th ce wr a b c) = ((decide (th a.1 = 0) && decide (0 < th b.1) && (!decide (th c.1 = 0) && !decide (th c.1 = th b.1))) && (cfB th ce wr a.2 b.1 && (cfB th ce wr b.2 c.1 && cfB th ce wr c.2 a.1 && ftB wr c a b && ftB wr a b c && ftB wr b c a))) := by
    unfold p3B t3B
    cases decide (th a.1 = 0) <;> cases decide (0 < th b.1) <;> cases cfB th ce wr a.2 b.1 <;> cases decide (th c.1 = 0) <;> cases decide (th c.1 = th b.1) <;> simp
  rw [e1, e2]
  exact rest _ _ key
theorem bI_bI (x y : Bool) (z : Int32) : bI x (bI y z) = bI (x && y) z := by cases x <;> rfl
theorem bI_add (x : Bool) (y z : Int32) : bI x (y + z) = bI x y + bI x z := by
  cases x
  · exact (add_z _).symm
  · rfl
theorem bI_sI (x : Bool) (f : Nat → Int32) : ∀ n, bI x (sI f n) = sI (fun k => bI x (f k)) n := by
  intro n
  induction n with
  | zero => cases x <;> rfl
  | succ n ih =>
    show bI x (sI f n + f n) = sI (fun k => bI x (f k)) n + bI x (f n)
    rw [bI_add, ih]
theorem cA_eq (hG : ∀ i, i < G.length → gOk th (gAt G i)) (hi : i < G.length) (hj : j < G.length) : cA th ce wr G (gAt G i) (gAt G j) = a2 th ce wr G i j + a3' th ce wr G i j := by
  unfold cA a2 a3'
  rw [bI_add, bI_bI, tw_same, bI_sI, bI_sI]
  congr 1
  refine sI_cong fun k hk => ?_
  unfold ca3 a3
  rw [bI_bI, bI_bI, th_same (hG i hi) (hG j hj) (hG k hk)]
/-- the key of a pair of steps -/
theorem adk_cM {q s u : Nat} (hq : q = 8 * s + u) (hsu : s < u) (hu : u < 8) (h2 : a.2 < 8) : adk (kyN a) (nI 1) q = adk (kyN a) (cM a) q := by
  unfold adk
  by_cases h : q = kyN a
  · rw [if_pos h, if_pos h]
    have : alB a = false := by
      unfold alB
      apply decide_eq_false
      unfold kyN at h
      omega
    rw [cM_1 this]
  · rw [if_neg h, if_neg h]
theorem cB_eq (hG : ∀ i, i < G.length → gOk th (gAt G i) ∧ (gAt G i).2 < 8) (hi : i < G.length) (hj : j < G.length) {q s u : Nat} (hq : q = 8 * s + u) (hsu : s < u) (hu : u < 8) : cB th ce wr G (gAt G i) (gAt G j) q = g2 th ce wr G i j q + g3' th ce wr G i j q := by
  unfold cB g2 g3'
  rw [bI_add, bI_bI, tw_same, bI_sI, bI_sI]
  congr 1
  refine sI_cong fun k hk => ?_
  unfold cg3 g3
  rw [bI_bI, bI_bI, th_same (hG i hi).1 (hG j hj).1 (hG k hk).1, adk_cM hq hsu hu (hG i hi).2, adk_cM hq hsu hu (hG j hj).2, adk_cM hq hsu hu (hG k hk).2]
theorem cT_eq (hG : ∀ i, i < G.length → gOk th (gAt G i)) : sI (fun i => sI (fun j => cA th ce wr G (gAt G i) (gAt G j)) G.length) G.length = nR th ce wr G := by
  unfold nR
  rw [← sI_add]
  refine sI_cong fun i hi => ?_
  rw [← sI_add]
  exact sI_cong fun j hj => cA_eq hG hi hj
theorem cV_eq (hG : ∀ i, i < G.length → gOk th (gAt G i) ∧ (gAt G i).2 < 8) {q s u : Nat} (hq : q = 8 * s + u) (hsu : s < u) (hu : u < 8) : sI (fun i => sI (fun j => cB th ce wr G (gAt G i) (gAt G j) q) G.length) G.length = nV th ce wr G q := by
  unfold nV
  rw [← sI_add]
  refine sI_cong fun i hi => ?_
  rw [← sI_add]
  exact sI_cong fun j hj => cB_eq hG hi hj hq hsu hu
theorem gS_ok (hth : ∀ s, s < n → th s < 3) (hn : n ≤ 8) : ∀ i, i < (gS th ce wr n n).length → gOk th (gAt (gS th ce wr n n) i) ∧ (gAt (gS th ce wr n n) i).2 < 8 := by
  intro i hi
  obtain ⟨h1, h2, h3, h4⟩ := gS_mem (Nat.le_refl n) (gAt_mem hi)
  refine ⟨⟨?_, hth _ h1⟩, by omega⟩
  unfold gfB at h4
  split at h4
  · rename_i e; rw [e]
  · unfold ahB at h4
    simp at h4
    exact h4.1.2
/-- the array of counts put back to nothing -/
theorem cFill {x : Int32} : ∀ d k (I : Nat → Nat → Int32), k + d = 64 → (∀ q, q < k → I 12 q = x) → ∃ I' : Nat → Nat → Int32, run mJ7_fill_53178 (5, 0, 0, [.ref 12, .int x, .int (nI k), .int (nI 64)], [], cH I J pl st) = some (none, cH I' J pl st) ∧ (∀ p, p ≠ 12 → I' p = I p) ∧ (∀ q, q < 64 → I' 12 q = x) := by
  intro d
  induction d with
  | zero =>
    intro k I hk hI
    have : k = 64 := by omega
    subst this
    refine ⟨I, ?_, fun _ _ => rfl, hI⟩
    rw [bJ7_fill_53178_5_r]
    simp (disch := omega) only [nI_lt', nI_le', nI_eq', inb_nI, clp, nI_add, nI_mul', cond_true, cond_false, Nat.le_refl, if_true]
  | succ d ih =>
    intro k I hk hI
    obtain ⟨I', h1, h2, h3⟩ := ih (k + 1) (up2 I 12 k x) (by omega) (fun q hq => by
      rw [up2_eq]; unfold up1
      by_cases hqk : q = k
      · rw [if_pos hqk]
      · rw [if_neg hqk]; exact hI q (by omega))
    refine ⟨I', ?_, fun p hp => by rw [h2 p hp, up2_ne hp], h3⟩
    rw [bJ7_fill_53178_5_r]
    simp (disch := omega) only [nI_lt', nI_le', nI_eq', inb_nI, clp, nI_add, nI_mul', cond_true, cond_false]
    rw [if_neg (by omega)]
    exact h1
theorem cRings (hP : P = 4 ∨ P = 7) (h : RPx I P n th ce wr) : ∃ I' : Nat → Nat → Int32, fX8_find [.ref 10, .ref P] (cH I J pl st) = some (none, cH I' J pl st) ∧ (∀ p, p ≠ 10 → p ≠ 11 → p ≠ 12 → I' p = I p) ∧ I' 10 3 = nR th ce wr (gS th ce wr n n) ∧ (∀ s u, s < u → u < 8 → I' 12 (8 * s + u) = nV th ce wr (gS th ce wr n n) (8 * s + u)) := by
  have hn := h.2.1
  have hgs := gS_ok (ce := ce) (wr := wr) (fun s hs => (h.2.2.1 s hs).2.2.1) hn
  obtain ⟨I1, e1, h1, h2⟩ := cFill (x := nI 0) (J := J) (pl := pl) (st := st) 64 0 I (by omega) (fun q hq => absurd hq (Nat.not_lt_zero q))
  have hR0 : RPx (up2 I1 10 3 (nI 0)) P n th ce wr := by
    rcases hP with rfl | rfl
    · exact h.cong (by rw [up2_ne (by decide), h1 4 (by decide)]) (by rw [up2_ne (by decide), h1 4 (by decide)]) (by rw [up2_ne (by decide), h1 4 (by decide)]) (by rw [up2_ne (by decide), h1 (4 + 1) (by decide)]) (by rw [up2_ne (by decide), h1 (4 + 2) (by decide)])
    · exact h.cong (by rw [up2_ne (by decide), h1 7 (by decide)]) (by rw [up2_ne (by decide), h1 7 (by decide)]) (by rw [up2_ne (by decide), h1 7 (by decide)]) (by rw [up2_ne (by decide), h1 (7 + 1) (by decide)]) (by rw [up2_ne (by decide), h1 (7 + 2) (by decide)])
  have hR1 := hR0.gx hP (gS th ce wr n n)
  have hG : GRx (gxI (up2 I1 10 3 (nI 0)) (gS th ce wr n n)) n (gS th ce wr n n) := gxI_GR hn
  have eW : gxI (up2 I1 10 3 (nI 0)) (gS th ce wr n n) = rxI (gxI (up2 I1 10 3 (nI 0)) (gS th ce wr n n)) (nI 0) (I1 12) := by
    funext p
    by_cases hp : p = 12
    · subst hp; rfl
    · by_cases hp0 : p = 10
      · subst hp0
        funext k
        by_cases hk : k = 3
        · subst hk; rfl
        · simp [rxI, hk]
      · funext k; simp [rxI, hp, hp0]
  refine ⟨rxI (gxI (up2 I1 10 3 (nI 0)) (gS th ce wr n n)) (nI 0 + sI (fun i => sI (fun j => cA th ce wr (gS th ce wr n n) (gAt (gS th ce wr n n) i) (gAt (gS th ce wr n n) j)) (gS th ce wr n n).length) (gS th ce wr n n).length) (fun q => I1 12 q + sI (fun i => sI (fun j => cB th ce wr (gS th ce wr n n) (gAt (gS th ce wr n n) i) (gAt (gS th ce wr n n) j) q) (gS th ce wr n n).length) (gS th ce wr n n).length), ?_, ?_, ?_, ?_⟩
  · rw [eX8_find (hP := hP), eJ7_fill_53178_r, e1]
    simp only [callK_some, Option.toList_some, Option.toList_none, List.cons_append, List.nil_append, bX8_find_8 (hP := hP), cGg hP hR0, bX8_find_18 (hP := hP)]
    rw [show cH (gxI (up2 I1 10 3 (nI 0)) (gS th ce wr n n)) J pl st = cH (rxI (gxI (up2 I1 10 3 (nI 0)) (gS th ce wr n n)) (nI 0) (I1 12)) J pl st from congrArg (fun x => cH x J pl st) eW]
    have e2 := cFd_out (J := J) (pl := pl) (st := st) hP hR1 hG (r := nI 0) (v := I1 12) (gS th ce wr n n).length 0 .null (by omega)
    rw [show ∀ (X : Int32) (Y : Nat → Int32), rxI (gxI (up2 I1 10 3 (nI 0)) (gS th ce wr n n)) (X + sI (fun i => sI (fun j => cA th ce wr (gS th ce wr n n) (gAt (gS th ce wr n n) i) (gAt (gS th ce wr n n) j)) (gS th ce wr n n).length) 0) (fun q => Y q + sI (fun i => sI (fun j => cB th ce wr (gS th ce wr n n) (gAt (gS th ce wr n n) i) (gAt (gS th ce wr n n) j) q) (gS th ce wr n n).length) 0) = rxI (gxI (up2 I1 10 3 (nI 0)) (gS th ce wr n n)) X Y from fun X Y => sx_same (add_z _) (fun q => add_z _)] at e2
    exact e2
  · intro p p10 p11 p12
    funext k
    have : gxI (up2 I1 10 3 (nI 0)) (gS th ce wr n n) p k = I1 p k := by simp only [gxI, p11, p10, if_false]; rw [up2_ne p10]
    simp only [rxI, p12, p10, if_false, this]
    rw [h1 p p12]
  · show nI 0 + _ = _
    rw [z_add]
    exact cT_eq (fun i hi => (hgs i hi).1)
  · intro s u hsu hu
    show I1 12 (8 * s + u) + _ = _
    rw [h2 _ (by omega), z_add]
    exact cV_eq hgs rfl hsu hu
end CRE
