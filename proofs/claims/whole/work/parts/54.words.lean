/-! states of a cell are no more than words -/
/-- words of length j with at most a, b, c letters of each kind -/
def nW : Nat → Nat → Nat → Nat → Nat
  | 0, _, _, _ => 1
  | j + 1, a, b, c => (if 0 < a then nW j (a - 1) b c else 0) + (if 0 < b then nW j a (b - 1) c else 0) + (if 0 < c then nW j a b (c - 1) else 0)
/-- steps of a cell and a thread that are left -/
def rmN (th ce : Nat → Nat) (c q D : Nat) : Nat → Nat
  | 0 => 0
  | k + 1 => rmN th ce c q D k + (bif decide (ce k = c) && decide (th k = q) && !D.testBit k then 1 else 0)
theorem rmN_step {th ce : Nat → Nat} {c q D s : Nat} (hc : ce s = c) (hD : D.testBit s = false) : ∀ k, rmN th ce c q (D ||| 2 ^ s) k + (if s < k ∧ th s = q then 1 else 0) = rmN th ce c q D k := by
  intro k
  induction k with
  | zero => rw [if_neg (fun h => absurd h.1 (Nat.not_lt_zero s))]; rfl
  | succ k ih =>
    show rmN th ce c q (D ||| 2 ^ s) k + (bif decide (ce k = c) && decide (th k = q) && !(D ||| 2 ^ s).testBit k then 1 else 0) + _ = rmN th ce c q D k + (bif decide (ce k = c) && decide (th k = q) && !D.testBit k then 1 else 0)
    rw [Nat.testBit_or, pow_bit]
    by_cases e : s = k
    · subst e
      rw [if_neg (fun h => absurd h.1 (Nat.lt_irrefl s))] at ih
      rw [hD, decide_eq_true hc]
      by_cases e2 : th s = q
      · rw [if_pos ⟨by omega, e2⟩]
        simp [e2]
        omega
      · rw [if_neg (fun h => e2 h.2)]
        simp [e2]
        omega
    · rw [decide_eq_false e, Bool.or_false]
      by_cases e2 : s < k ∧ th s = q
      · rw [if_pos e2] at ih
        rw [if_pos ⟨by omega, e2.2⟩]
        omega
      · rw [if_neg e2] at ih
        rw [if_neg (fun h => e2 ⟨by omega, h.2⟩)]
        omega
/-- what can come behind -/
def crf (th ce : Nat → Nat) (wr : Nat → Bool) (n c : Nat) : Nat → CS → CS → Prop
  | 0, t, t' => t' = t
  | j + 1, t, t' => ∃ s, csB th ce n c t s ∧ crf th ce wr n c j (csN wr n t s) t'
theorem crf_snoc {th ce : Nat → Nat} {wr : Nat → Bool} {n c s : Nat} {t2 : CS} : ∀ {j t t1}, crf th ce wr n c j t t1 → csB th ce n c t1 s → t2 = csN wr n t1 s → crf th ce wr n c (j + 1) t t2 := by
  intro j
  induction j with
  | zero =>
    intro t t1 h h2 h3
    rw [show t1 = t from h] at h2 h3
    exact ⟨s, h2, h3⟩
  | succ j ih =>
    rintro t t1 ⟨s', h1, h1'⟩ h2 h3
    exact ⟨s', h1, ih h1' h2 h3⟩
theorem crc_crf {th ce : Nat → Nat} {wr : Nat → Bool} {n c : Nat} : ∀ {j t}, crc th ce wr n c j t → crf th ce wr n c j cs0 t := by
  intro j
  induction j with
  | zero => intro t h; exact h
  | succ j ih =>
    rintro t ⟨t', s, h1, h2, h3⟩
    exact crf_snoc (ih h1) h2 h3
theorem csB_one {th ce : Nat → Nat} {n c s s' : Nat} {t : CS} (h : csB th ce n c t s) (h' : csB th ce n c t s') (e : th s = th s') : s = s' := by
  rcases Nat.lt_trichotomy s s' with q | q | q
  · have := h'.2.2.2 s q e h.2.1; rw [h.2.2.1] at this; cases this
  · exact q
  · have := h.2.2.2 s' q e.symm h'.2.1; rw [h'.2.2.1] at this; cases this
theorem part1 {th ce : Nat → Nat} {wr : Nat → Bool} {n c j q N : Nat} {t : CS} (hN : ∀ s, csB th ce n c t s → th s = q → ∃ L : List CS, L.length ≤ N ∧ ∀ t', crf th ce wr n c j (csN wr n t s) t' → t' ∈ L) : ∃ L : List CS, L.length ≤ (if 0 < rmN th ce c q t.1 n then N else 0) ∧ ∀ s, csB th ce n c t s → th s = q → ∀ t', crf th ce wr n c j (csN wr n t s) t' → t' ∈ L := by
  by_cases h : ∃ s, csB th ce n c t s ∧ th s = q
  · obtain ⟨s, h1, h2⟩ := h
    obtain ⟨L, l1, l2⟩ := hN s h1 h2
    have hr := rmN_step (th := th) (q := q) h1.2.1 h1.2.2.1 n
    rw [if_pos ⟨h1.1, h2⟩] at hr
    refine ⟨L, by rw [if_pos (by omega)]; exact l1, fun s' q1 q2 t' q3 => ?_⟩
    have := csB_one h1 q1 (h2.trans q2.symm)
    subst this
    exact l2 t' q3
  · exact ⟨[], Nat.zero_le _, fun s q1 q2 => absurd ⟨s, q1, q2⟩ h⟩
theorem cover {th ce : Nat → Nat} {wr : Nat → Bool} {n c : Nat} (hth : ∀ s, s < n → th s < 3) : ∀ j (t : CS), ∃ L : List CS, L.length ≤ nW j (rmN th ce c 0 t.1 n) (rmN th ce c 1 t.1 n) (rmN th ce c 2 t.1 n) ∧ ∀ t', crf th ce wr n c j t t' → t' ∈ L := by
  intro j
  induction j with
  | zero =>
    intro t
    refine ⟨[t], Nat.le_refl 1, fun t' h => ?_⟩
    rw [show t' = t from h]
    exact List.mem_singleton.mpr rfl
  | succ j ih =>
    intro t
    obtain ⟨L0, a0, b0⟩ := part1 (wr := wr) (j := j) (q := 0) (t := t) (N := nW j (rmN th ce c 0 t.1 n - 1) (rmN th ce c 1 t.1 n) (rmN th ce c 2 t.1 n)) (fun s h1 h2 => by
      obtain ⟨L, l1, l2⟩ := ih (csN wr n t s)
      refine ⟨L, ?_, l2⟩
      have e0 := rmN_step (th := th) (q := 0) h1.2.1 h1.2.2.1 n
      have e1 := rmN_step (th := th) (q := 1) h1.2.1 h1.2.2.1 n
      have e2 := rmN_step (th := th) (q := 2) h1.2.1 h1.2.2.1 n
      rw [if_pos ⟨h1.1, h2⟩] at e0
      rw [if_neg (by omega)] at e1 e2
      have hd : (csN wr n t s).1 = t.1 ||| 2 ^ s := rfl
      rw [hd] at l1
      rw [← e0, ← e1, ← e2, Nat.add_sub_cancel]
      exact l1)
    obtain ⟨L1, a1, b1⟩ := part1 (wr := wr) (j := j) (q := 1) (t := t) (N := nW j (rmN th ce c 0 t.1 n) (rmN th ce c 1 t.1 n - 1) (rmN th ce c 2 t.1 n)) (fun s h1 h2 => by
      obtain ⟨L, l1, l2⟩ := ih (csN wr n t s)
      refine ⟨L, ?_, l2⟩
      have e0 := rmN_step (th := th) (q := 0) h1.2.1 h1.2.2.1 n
      have e1 := rmN_step (th := th) (q := 1) h1.2.1 h1.2.2.1 n
      have e2 := rmN_step (th := th) (q := 2) h1.2.1 h1.2.2.1 n
      rw [if_pos ⟨h1.1, h2⟩] at e1
      rw [if_neg (by omega)] at e0 e2
      have hd : (csN wr n t s).1 = t.1 ||| 2 ^ s := rfl
      rw [hd] at l1
      rw [← e0, ← e1, ← e2, Nat.add_sub_cancel]
      exact l1)
    obtain ⟨L2, a2, b2⟩ := part1 (wr := wr) (j := j) (q := 2) (t := t) (N := nW j (rmN th ce c 0 t.1 n) (rmN th ce c 1 t.1 n) (rmN th ce c 2 t.1 n - 1)) (fun s h1 h2 => by
      obtain ⟨L, l1, l2⟩ := ih (csN wr n t s)
      refine ⟨L, ?_, l2⟩
      have e0 := rmN_step (th := th) (q := 0) h1.2.1 h1.2.2.1 n
      have e1 := rmN_step (th := th) (q := 1) h1.2.1 h1.2.2.1 n
      have e2 := rmN_step (th := th) (q := 2) h1.2.1 h1.2.2.1 n
      rw [if_pos ⟨h1.1, h2⟩] at e2
      rw [if_neg (by omega)] at e0 e1
      have hd : (csN wr n t s).1 = t.1 ||| 2 ^ s := rfl
      rw [hd] at l1
      rw [← e0, ← e1, ← e2, Nat.add_sub_cancel]
      exact l1)
    refine ⟨L0 ++ L1 ++ L2, ?_, ?_⟩
    · rw [List.length_append, List.length_append]
      show _ ≤ (if 0 < rmN th ce c 0 t.1 n then nW j (rmN th ce c 0 t.1 n - 1) (rmN th ce c 1 t.1 n) (rmN th ce c 2 t.1 n) else 0) + (if 0 < rmN th ce c 1 t.1 n then nW j (rmN th ce c 0 t.1 n) (rmN th ce c 1 t.1 n - 1) (rmN th ce c 2 t.1 n) else 0) + (if 0 < rmN th ce c 2 t.1 n then nW j (rmN th ce c 0 t.1 n) (rmN th ce c 1 t.1 n) (rmN th ce c 2 t.1 n - 1) else 0)
      omega
    · rintro t' ⟨s, h1, h2⟩
      have hs := hth s h1.1
      rw [List.mem_append, List.mem_append]
      have : th s = 0 ∨ th s = 1 ∨ th s = 2 := by omega
      rcases this with q | q | q
      · exact Or.inl (Or.inl (b0 s h1 q t' h2))
      · exact Or.inl (Or.inr (b1 s h1 q t' h2))
      · exact Or.inr (b2 s h1 q t' h2)
/-- the most words, by length, of so many letters -/
def Mtb : List (List Nat) := [[1], [1, 1], [1, 2, 2], [1, 3, 6, 6], [1, 3, 7, 12, 12], [1, 3, 8, 18, 30, 30], [1, 3, 9, 24, 54, 90, 90], [1, 3, 9, 25, 62, 130, 210, 210], [1, 3, 9, 26, 70, 170, 350, 560, 560]]
def Mt (m j : Nat) : Nat := ((Mtb[m]?).getD [])[j]?.getD 0
theorem nW_Mt : ∀ a, a < 9 → ∀ b, b < 9 - a → ∀ c, c < 9 - a - b → ∀ j, j < 9 → nW j a b c ≤ Mt (a + b + c) j := by decide +kernel
/-- steps of a cell -/
def mcN (ce : Nat → Nat) (c : Nat) : Nat → Nat
  | 0 => 0
  | k + 1 => mcN ce c k + (if ce k = c then 1 else 0)
theorem rm_mc {th ce : Nat → Nat} {c : Nat} : ∀ k, (∀ s, s < k → th s < 3) → rmN th ce c 0 0 k + rmN th ce c 1 0 k + rmN th ce c 2 0 k = mcN ce c k := by
  intro k
  induction k with
  | zero => intro _; rfl
  | succ k ih =>
    intro h
    have ih' := ih (fun s hs => h s (by omega))
    have hk := h k (by omega)
    show rmN th ce c 0 0 k + _ + (rmN th ce c 1 0 k + _) + (rmN th ce c 2 0 k + _) = mcN ce c k + _
    rw [Nat.zero_testBit]
    by_cases e : ce k = c
    · have : th k = 0 ∨ th k = 1 ∨ th k = 2 := by omega
      rcases this with q | q | q <;> simp [e, q] <;> omega
    · simp [e]; omega
theorem mc_sum {ce : Nat → Nat} : ∀ k, (∀ s, s < k → ce s < 3) → mcN ce 0 k + mcN ce 1 k + mcN ce 2 k = k := by
  intro k
  induction k with
  | zero => intro _; rfl
  | succ k ih =>
    intro h
    have ih' := ih (fun s hs => h s (by omega))
    have hk := h k (by omega)
    show mcN ce 0 k + _ + (mcN ce 1 k + _) + (mcN ce 2 k + _) = k + 1
    have : ce k = 0 ∨ ce k = 1 ∨ ce k = 2 := by omega
    rcases this with q | q | q <;> simp [q] <;> omega
theorem cell_le {th ce : Nat → Nat} {wr : Nat → Bool} {n c j : Nat} (hth : ∀ s, s < n → th s < 3) (hm : mcN ce c n ≤ 8) (hj : j ≤ 8) : ∃ L : List CS, L.length ≤ Mt (mcN ce c n) j ∧ ∀ t, crc th ce wr n c j t → t ∈ L := by
  obtain ⟨L, l1, l2⟩ := cover (wr := wr) (ce := ce) (c := c) hth j cs0
  have e := rm_mc (ce := ce) (c := c) n hth
  have hd : cs0.1 = 0 := rfl
  rw [hd] at l1
  have := nW_Mt (rmN th ce c 0 0 n) (by omega) (rmN th ce c 1 0 n) (by omega) (rmN th ce c 2 0 n) (by omega) j (by omega)
  rw [e] at this
  exact ⟨L, Nat.le_trans l1 this, fun t h => l2 t (crc_crf h)⟩
