/-! the class: a step comes to a plan -/
section CST
variable {I : Nat → Nat → Int32} {J : Nat → Nat → Int64} {pl st : Bool} {n P T c : Nat} {th ce : Nat → Nat} {wr : Nat → Bool} {w : Bool}
theorem bset_up {f : Nat → Bool} {n : Nat} {b : Bool} : bset (up1 f n b) (n + 1) = bset f n ||| (if b then 2 ^ n else 0) := by
  show bset (up1 f n b) n ||| (if up1 f n b n = true then 2 ^ n else 0) = _
  rw [up1_eq, bset_cong (g := f) (fun i hi => up1_ne (by omega))]
theorem cThr (hP : P = 4 ∨ P = 7) {s : Nat} (hs : s < 8) : fX6_threadOf [.ref P, .int (nI s)] (cH I J pl st) = some (some (.int (I (P + 1) s)), cH I J pl st) := by
  rw [eX6_threadOf (hP := hP)]
  simp (disch := omega) only [nI_lt', nI_le', nI_eq', inb_nI, clp, nI_add, nI_mul', cond_true, cond_false, Nat.not_lt_zero, if_false]
  rw [if_neg (by omega)]
theorem gp_up {k : Nat} (hk : k < n) (a : Nat) : gpB (up1 th n a) k = gpB th k := by
  unfold gpB
  rw [up1_ne (show k ≠ n by omega), up1_ne (show k - 1 ≠ n by omega)]
theorem RPx_add {I' : Nat → Nat → Int32} (h : RPx I P n th ce wr) (hn : n < 8) (hT : 1 ≤ T) (hT3 : T ≤ 3) (hc : c < 3) (e3 : I' P 3 = nI (n + 1)) (e1 : I' (P + 1) = up1 (I (P + 1)) n (nI (T - 1))) (e2 : I' (P + 2) = up1 (I (P + 2)) n (nI c)) (e4 : I' P 4 = nI (bset wr n ||| (if w then 2 ^ n else 0))) (e5 : I' P 5 = nI (bset (gpB th) n ||| (if gpB (up1 th n (T - 1)) n then 2 ^ n else 0))) : RPx I' P (n + 1) (up1 th n (T - 1)) (up1 ce n c) (up1 wr n w) := by
  refine ⟨e3, by omega, fun s hs => ?_, by rw [e4, bset_up], ?_⟩
  · rw [e1, e2]
    by_cases q : s = n
    · rw [q, up1_eq, up1_eq, up1_eq, up1_eq]; exact ⟨rfl, rfl, by omega, hc⟩
    · rw [up1_ne q, up1_ne q, up1_ne q, up1_ne q]; exact h.2.2.1 s (by omega)
  · rw [e5]
    congr 1
    show _ = bset (gpB (up1 th n (T - 1))) n ||| (if gpB (up1 th n (T - 1)) n = true then 2 ^ n else 0)
    rw [bset_cong (g := gpB th) (fun i hi => gp_up hi (T - 1))]
theorem cAs_t (hP : P = 4 ∨ P = 7) {I1 : Nat → Nat → Int32} {z1 z2 : Value} (hn0 : 0 < n) (hn : n < 8) (hT : 1 ≤ T) (hT3 : T ≤ 3) (e1 : I1 (P + 1) = up1 (I (P + 1)) n (nI (T - 1))) (hth : I (P + 1) (n - 1) = nI (th (n - 1)) ∧ th (n - 1) < 3) : callK (fX6_threadOf [.ref P, .int (nI (n - 1))] (cH I1 J pl st)) (fun r h' => run mX6_addStep (84, 0, 0, [.ref P, z1, z2, .int (nI n)], r.toList ++ [], h')) = some (none, cH (if gpB (up1 th n (T - 1)) n then up2 I1 P 5 (I1 P 5 ||| nI (2 ^ n)) else I1) J pl st) := by
  have a1 : I1 (P + 1) (n - 1) = nI (th (n - 1)) := by rw [e1, up1_ne (by omega)]; exact hth.1
  have a2 : I1 (P + 1) n = nI (T - 1) := by rw [e1, up1_eq]
  have a3 := hth.2
  have hg : gpB (up1 th n (T - 1)) n = decide (T - 1 = th (n - 1)) := by
    unfold gpB
    rw [decide_eq_true hn0, Bool.true_and, up1_eq, up1_ne (by omega)]
  simp (disch := omega) only [callK_some, Option.toList_some, Option.toList_none, List.cons_append, List.nil_append, cThr hP, bX6_addStep_84 (hP := hP), bX6_addStep_89 (hP := hP), a1, a2, nI_lt', nI_le', nI_eq', inb_nI, clp, nI_add, nI_mul', cond_true, cond_false, shl_nI]
  rw [hg]
  by_cases q : th (n - 1) = T - 1
  · rw [if_pos q, decide_eq_true q.symm]; rfl
  · rw [if_neg q, decide_eq_false (fun x => q x.symm)]; rfl
theorem cAs_f {I1 : Nat → Nat → Int32} (hP : P = 4 ∨ P = 7) (h : RPx I P n th ce wr) (h2 : I P 2 = nI T) (hn : n < 8) (hT : 1 ≤ T) (hT3 : T ≤ 3) (hc : c < 3) (e3 : I1 P 3 = nI (n + 1)) (e1 : I1 (P + 1) = up1 (I (P + 1)) n (nI (T - 1))) (e2 : I1 (P + 2) = up1 (I (P + 2)) n (nI c)) (e4 : I1 P 4 = nI (bset wr n ||| (if w then 2 ^ n else 0))) (e5 : I1 P 5 = I P 5) (e6 : I1 P 2 = I P 2) (eo : ∀ p, p ≠ P → p ≠ P + 1 → p ≠ P + 2 → I1 p = I p) : RPx (if gpB (up1 th n (T - 1)) n then up2 I1 P 5 (I1 P 5 ||| nI (2 ^ n)) else I1) P (n + 1) (up1 th n (T - 1)) (up1 ce n c) (up1 wr n w) ∧ (if gpB (up1 th n (T - 1)) n then up2 I1 P 5 (I1 P 5 ||| nI (2 ^ n)) else I1) P 2 = nI T ∧ ∀ p, p ≠ P → p ≠ P + 1 → p ≠ P + 2 → (if gpB (up1 th n (T - 1)) n then up2 I1 P 5 (I1 P 5 ||| nI (2 ^ n)) else I1) p = I p := by
  have h5 := h.2.2.2.2
  cases hg : gpB (up1 th n (T - 1)) n with
  | true =>
    rw [if_pos rfl]
    refine ⟨RPx_add h hn hT hT3 hc (by rw [up2_eq, up1_ne (by decide)]; exact e3) (by rw [up2_ne (by omega)]; exact e1) (by rw [up2_ne (by omega)]; exact e2) (by rw [up2_eq, up1_ne (by decide)]; exact e4) (by rw [up2_eq, up1_eq, e5, h5, or_nI, hg]; rfl), by rw [up2_eq, up1_ne (by decide), e6, h2], fun p p1 p2 p3 => by rw [up2_ne p1]; exact eo p p1 p2 p3⟩
  | false =>
    rw [if_neg (by decide)]
    refine ⟨RPx_add h hn hT hT3 hc e3 e1 e2 e4 (by rw [e5, h5, hg]; simp), by rw [e6, h2], eo⟩
theorem cAs (hP : P = 4 ∨ P = 7) (h : RPx I P n th ce wr) (h2 : I P 2 = nI T) (hn : n < 8) (hT : 1 ≤ T) (hT3 : T ≤ 3) (hc : c < 3) : ∃ I' : Nat → Nat → Int32, fX6_addStep [.ref P, .int (nI c), .int (tI w)] (cH I J pl st) = some (none, cH I' J pl st) ∧ RPx I' P (n + 1) (up1 th n (T - 1)) (up1 ce n c) (up1 wr n w) ∧ I' P 2 = nI T ∧ ∀ p, p ≠ P → p ≠ P + 1 → p ≠ P + 2 → I' p = I p := by
  have h3 := h.1
  have h4 := h.2.2.2.1
  rw [eX6_addStep (hP := hP), h3, h2]
  simp (disch := omega) only [nI_lt', nI_le', nI_eq', inb_nI, clp, nI_add, nI_mul', cond_true, cond_false, sub1_nI, ite_tI, Nat.not_lt_zero, if_false, shl_nI, h4, or_nI]
  rw [if_neg (show ¬ 8 ≤ n by omega), if_pos hn]
  have key : ∀ I1 : Nat → Nat → Int32, I1 P 3 = nI (n + 1) → I1 (P + 1) = up1 (I (P + 1)) n (nI (T - 1)) → I1 (P + 2) = up1 (I (P + 2)) n (nI c) → I1 P 4 = nI (bset wr n ||| (if w then 2 ^ n else 0)) → I1 P 5 = I P 5 → I1 P 2 = I P 2 → (∀ p, p ≠ P → p ≠ P + 1 → p ≠ P + 2 → I1 p = I p) → ∀ z1 z2 : Value, ∃ I' : Nat → Nat → Int32, (if n ≤ 0 then some (none, cH I1 J pl st) else callK (fX6_threadOf [.ref P, .int (nI (n - 1))] (cH I1 J pl st)) (fun r h' => run mX6_addStep (84, 0, 0, [.ref P, z1, z2, .int (nI n)], r.toList ++ [], h'))) = some (none, cH I' J pl st) ∧ RPx I' P (n + 1) (up1 th n (T - 1)) (up1 ce n c) (up1 wr n w) ∧ I' P 2 = nI T ∧ ∀ p, p ≠ P → p ≠ P + 1 → p ≠ P + 2 → I' p = I p := by
    intro I1 e3 e1 e2 e4 e5 e6 eo z1 z2
    refine ⟨_, ?_, cAs_f hP h h2 hn hT hT3 hc e3 e1 e2 e4 e5 e6 eo⟩
    by_cases h0 : n ≤ 0
    · rw [if_pos h0]
      have hz : n = 0 := by omega
      subst hz
      rfl
    · rw [if_neg h0]
      have hq := h.2.2.1 (n - 1) (by omega)
      exact cAs_t hP (by omega) hn hT hT3 e1 ⟨hq.1, hq.2.2.1⟩
  cases w with
  | false =>
    simp only [Bool.false_eq_true, if_false]
    refine key _ (by rw [up2_eq, up1_eq]) (by rw [up2_ne (by omega), up2_ne (by omega), up2_eq]) (by rw [up2_ne (by omega), up2_eq, up2_ne (by omega)]) ?_ (by rw [up2_eq, up1_ne (by decide), up2_ne (by omega), up2_ne (by omega)]) (by rw [up2_eq, up1_ne (by decide), up2_ne (by omega), up2_ne (by omega)]) (fun p p1 p2 p3 => by rw [up2_ne p1, up2_ne p3, up2_ne p2]) _ _
    rw [up2_eq, up1_ne (by decide), up2_ne (by omega), up2_ne (by omega), h4]
    simp
  | true =>
    simp only [if_true]
    refine key _ (by rw [up2_eq, up1_ne (by decide), up2_eq, up1_eq]) (by rw [up2_ne (by omega), up2_ne (by omega), up2_ne (by omega), up2_eq]) (by rw [up2_ne (by omega), up2_ne (by omega), up2_eq, up2_ne (by omega)]) (by rw [up2_eq, up1_eq]; rfl) (by rw [up2_eq, up1_ne (by decide), up2_eq, up1_ne (by decide), up2_ne (by omega), up2_ne (by omega)]) (by rw [up2_eq, up1_ne (by decide), up2_eq, up1_ne (by decide), up2_ne (by omega), up2_ne (by omega)]) (fun p p1 p2 p3 => by rw [up2_ne p1, up2_ne p1, up2_ne p3, up2_ne p2]) _ _
end CST
