/-! how many: each cell by itself -/
def CS : Type := Nat × Nat × Nat
def csN (wr : Nat → Bool) (n : Nat) (t : CS) (s : Nat) : CS := (t.1 ||| 2 ^ s, (bif wr s then s + 1 else t.2.1), (bif wr s then t.2.2 else t.2.2 + t.2.1 * wgN wr n s))
/-- a step of a cell is next in its thread -/
def csB (th ce : Nat → Nat) (n c : Nat) (t : CS) (s : Nat) : Prop := s < n ∧ ce s = c ∧ t.1.testBit s = false ∧ ∀ s', s' < s → th s' = th s → ce s' = c → t.1.testBit s' = true
def cs0 : CS := (0, 0, 0)
def crc (th ce : Nat → Nat) (wr : Nat → Bool) (n c : Nat) : Nat → CS → Prop
  | 0, t => t = cs0
  | j + 1, t => ∃ t' s, crc th ce wr n c j t' ∧ csB th ce n c t' s ∧ t = csN wr n t' s
theorem crc_D {th ce : Nat → Nat} {wr : Nat → Bool} {n c : Nat} : ∀ {j t}, crc th ce wr n c j t → ∀ i, t.1.testBit i = true → i < n ∧ ce i = c := by
  intro j
  induction j with
  | zero =>
    intro t h i hi
    rw [show t = cs0 from h] at hi
    have : (0 : Nat).testBit i = true := hi
    rw [Nat.zero_testBit] at this
    cases this
  | succ j ih =>
    rintro t ⟨t', s, h1, h2, rfl⟩ i hi
    have hi' : (t'.1 ||| 2 ^ s).testBit i = true := hi
    rw [Nat.testBit_or, Bool.or_eq_true, pow_bit, decide_eq_true_eq] at hi'
    rcases hi' with q | q
    · exact ih h1 i q
    · rw [← q]; exact ⟨h2.1, h2.2.1⟩
/-- steps of one thread and one cell wait for each other -/
def wtC (th ce : Nat → Nat) (n : Nat) (W : Nat → Nat) : Prop := ∀ s' s, s' < s → s < n → th s' = th s → ce s' = ce s → (W s).testBit s' = true
theorem wtN_C {th ce : Nat → Nat} {wr : Nat → Bool} {n F K : Nat} : wtC th ce n (wtN th ce wr F K) := by
  intro s' s h1 h2 h3 h4
  unfold wtN
  rw [bset_bit, decide_eq_true h1, Bool.true_and]
  unfold wtB ahB bdB
  rw [decide_eq_true h1, decide_eq_true h3, decide_eq_true h4]
  rfl
theorem or3 (a b c d : Nat) : (a ||| b ||| c) ||| d = ((a ||| d) ||| b ||| c) ∧ (a ||| b ||| c) ||| d = (a ||| (b ||| d) ||| c) ∧ (a ||| b ||| c) ||| d = (a ||| b ||| (c ||| d)) := by
  refine ⟨?_, ?_, ?_⟩ <;> (apply Nat.eq_of_testBit_eq; intro i; simp only [Nat.testBit_or]; cases a.testBit i <;> cases b.testBit i <;> cases c.testBit i <;> cases d.testBit i <;> rfl)
theorem split3 {th ce : Nat → Nat} {wr : Nat → Bool} {n : Nat} {W : Nat → Nat} (hW : wtC th ce n W) (hWl : ∀ s, s < n → W s < 4294967296) (hc : ∀ s, s < n → ce s < 3) : ∀ {k g}, rch ce wr n W k g → ∃ (j : Nat → Nat) (t : Nat → CS), j 0 + j 1 + j 2 = k ∧ (∀ c, c < 3 → crc th ce wr n c (j c) (t c)) ∧ g.D = (t 0).1 ||| (t 1).1 ||| (t 2).1 ∧ (∀ c, c < 3 → g.H c = (t c).2.1) ∧ g.R = (t 0).2.2 + (t 1).2.2 + (t 2).2.2 := by
  intro k
  induction k with
  | zero =>
    intro g h
    rw [show g = sg0 from h]
    exact ⟨fun _ => 0, fun _ => cs0, rfl, fun _ _ => rfl, rfl, fun _ _ => rfl, rfl⟩
  | succ k ih =>
    rintro g ⟨g', s, h1, h2, h3, rfl⟩
    obtain ⟨j, t, a1, a2, a3, a4, a5⟩ := ih h1
    have hcs := hc s h2
    unfold enB at h3
    rw [Bool.and_eq_true, Bool.not_eq_true', decide_eq_true_eq] at h3
    have hbit : ∀ i, g'.D.testBit i = ((t 0).1.testBit i || (t 1).1.testBit i || (t 2).1.testBit i) := fun i => by rw [a3, Nat.testBit_or, Nat.testBit_or]
    have hin : ∀ c, c < 3 → ∀ i, (t c).1.testBit i = true → g'.D.testBit i = true := by
      intro c hc' i hi
      rw [hbit]
      have : c = 0 ∨ c = 1 ∨ c = 2 := by omega
      rcases this with rfl | rfl | rfl <;> rw [hi] <;> simp
    have hout : ∀ i, g'.D.testBit i = true → (t (ce i)).1.testBit i = true := by
      intro i hi
      rw [hbit, Bool.or_eq_true, Bool.or_eq_true] at hi
      rcases hi with (q | q) | q
      · have := (crc_D (a2 0 (by decide)) i q).2; rw [this]; exact q
      · have := (crc_D (a2 1 (by decide)) i q).2; rw [this]; exact q
      · have := (crc_D (a2 2 (by decide)) i q).2; rw [this]; exact q
    have hok : csB th ce n (ce s) (t (ce s)) s := by
      refine ⟨h2, rfl, ?_, fun s' q1 q2 q3 => ?_⟩
      · cases hq : (t (ce s)).1.testBit s
        · rfl
        · have := hin _ hcs s hq; rw [h3.1] at this; cases this
      · have hw := hW s' s q1 h2 q2 q3
        have hD : g'.D.testBit s' = true := (adn_0 (hWl s h2)).mp h3.2 s' hw
        have := hout s' hD
        rwa [q3] at this
    refine ⟨up1 j (ce s) (j (ce s) + 1), up1 t (ce s) (csN wr n (t (ce s)) s), ?_, fun c hc' => ?_, ?_, fun c hc' => ?_, ?_⟩
    · have : ce s = 0 ∨ ce s = 1 ∨ ce s = 2 := by omega
      rcases this with q | q | q <;> rw [q] <;> simp only [up1] <;> simp <;> omega
    · by_cases q : c = ce s
      · rw [q, up1_eq, up1_eq]
        exact ⟨t (ce s), s, a2 _ hcs, hok, rfl⟩
      · rw [up1_ne q, up1_ne q]; exact a2 c hc'
    · show g'.D ||| 2 ^ s = _
      rw [a3]
      obtain ⟨o1, o2, o3⟩ := or3 (t 0).1 (t 1).1 (t 2).1 (2 ^ s)
      have : ce s = 0 ∨ ce s = 1 ∨ ce s = 2 := by omega
      rcases this with q | q | q
      · rw [q, up1_eq, up1_ne (by decide), up1_ne (by decide)]; exact o1
      · rw [q, up1_eq, up1_ne (by decide), up1_ne (by decide)]; exact o2
      · rw [q, up1_eq, up1_ne (by decide), up1_ne (by decide)]; exact o3
    · show (bif wr s then up1 g'.H (ce s) (s + 1) else g'.H) c = _
      by_cases q : c = ce s
      · rw [q, up1_eq]
        show _ = (bif wr s then s + 1 else (t (ce s)).2.1)
        cases wr s
        · exact a4 _ hcs
        · show up1 g'.H (ce s) (s + 1) (ce s) = s + 1
          rw [up1_eq]
      · rw [up1_ne q]
        cases wr s
        · exact a4 c hc'
        · show up1 g'.H (ce s) (s + 1) c = _
          rw [up1_ne q]; exact a4 c hc'
    · show (bif wr s then g'.R else g'.R + g'.H (ce s) * wgN wr n s) = _
      rw [a4 _ hcs, a5]
      have hr : (csN wr n (t (ce s)) s).2.2 = (bif wr s then (t (ce s)).2.2 else (t (ce s)).2.2 + (t (ce s)).2.1 * wgN wr n s) := rfl
      have : ce s = 0 ∨ ce s = 1 ∨ ce s = 2 := by omega
      rcases this with q | q | q
      · rw [q] at hr ⊢
        rw [up1_eq, up1_ne (by decide), up1_ne (by decide), hr]
        cases wr s
        · show _ + _ = _ + _ + _ + _; omega
        · rfl
      · rw [q] at hr ⊢
        rw [up1_eq, up1_ne (by decide), up1_ne (by decide), hr]
        cases wr s
        · show _ + _ = _ + (_ + _) + _; omega
        · rfl
      · rw [q] at hr ⊢
        rw [up1_eq, up1_ne (by decide), up1_ne (by decide), hr]
        cases wr s
        · show _ + _ = _ + _ + (_ + _); omega
        · rfl
