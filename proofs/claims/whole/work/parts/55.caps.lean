/-! how many states a layer has -/
def cod (t0 t1 t2 : CS) : Nat := (t0.1 ||| t1.1 ||| t2.1) + 256 * t0.2.1 + 4096 * t1.2.1 + 65536 * t2.2.1 + 1048576 * (t0.2.2 + t1.2.2 + t2.2.2)
def smN (f : Nat → Nat) : Nat → Nat
  | 0 => 0
  | k + 1 => smN f k + f k
def cvN (z0 z1 z2 : Nat → Nat) (k : Nat) : Nat := smN (fun j0 => smN (fun j1 => z0 j0 * (z1 j1 * z2 (k - j0 - j1))) (k + 1 - j0)) (k + 1)
def lyL (A B C : Nat → List CS) (k : Nat) : List Nat := (List.range (k + 1)).flatMap fun j0 => (List.range (k + 1 - j0)).flatMap fun j1 => (A j0).flatMap fun t0 => (B j1).flatMap fun t1 => (C (k - j0 - j1)).map fun t2 => cod t0 t1 t2
theorem len_range {α : Type} {g : Nat → List α} {f : Nat → Nat} : ∀ k, (∀ i, i < k → (g i).length ≤ f i) → ((List.range k).flatMap g).length ≤ smN f k := by
  intro k
  induction k with
  | zero => intro _; exact Nat.le_refl 0
  | succ k ih =>
    intro h
    rw [List.range_succ, List.flatMap_append, List.length_append]
    have e : (List.flatMap g [k]).length = (g k).length := by simp
    have := ih (fun i hi => h i (by omega))
    have := h k (by omega)
    show _ ≤ smN f k + f k
    omega
theorem len_flat {α β : Type} {g : α → List β} {N : Nat} : ∀ L : List α, (∀ x, x ∈ L → (g x).length ≤ N) → (L.flatMap g).length ≤ L.length * N := by
  intro L
  induction L with
  | nil => intro _; simp
  | cons a L ih =>
    intro h
    rw [List.flatMap_cons, List.length_append, List.length_cons, Nat.add_mul, Nat.one_mul]
    have := ih (fun x hx => h x (List.mem_cons_of_mem _ hx))
    have := h a List.mem_cons_self
    omega
theorem lyL_len {A B C : Nat → List CS} {z0 z1 z2 : Nat → Nat} {k : Nat} (hA : ∀ j, j ≤ k → (A j).length ≤ z0 j) (hB : ∀ j, j ≤ k → (B j).length ≤ z1 j) (hC : ∀ j, j ≤ k → (C j).length ≤ z2 j) : (lyL A B C k).length ≤ cvN z0 z1 z2 k := by
  refine len_range _ fun j0 h0 => len_range _ fun j1 h1 => ?_
  refine Nat.le_trans (len_flat (N := z1 j1 * z2 (k - j0 - j1)) _ fun t0 _ => ?_) (Nat.mul_le_mul_right _ (hA j0 (by omega)))
  refine Nat.le_trans (len_flat (N := z2 (k - j0 - j1)) _ fun t1 _ => ?_) (Nat.mul_le_mul_right _ (hB j1 (by omega)))
  rw [List.length_map]
  exact hC _ (by omega)
theorem lyL_mem {A B C : Nat → List CS} {k j0 j1 j2 : Nat} {t0 t1 t2 : CS} (hk : j0 + j1 + j2 = k) (h0 : t0 ∈ A j0) (h1 : t1 ∈ B j1) (h2 : t2 ∈ C j2) : cod t0 t1 t2 ∈ lyL A B C k := by
  unfold lyL
  rw [List.mem_flatMap]
  refine ⟨j0, List.mem_range.mpr (by omega), ?_⟩
  rw [List.mem_flatMap]
  refine ⟨j1, List.mem_range.mpr (by omega), ?_⟩
  rw [List.mem_flatMap]
  refine ⟨t0, h0, ?_⟩
  rw [List.mem_flatMap]
  refine ⟨t1, h1, ?_⟩
  rw [List.mem_map]
  refine ⟨t2, ?_, rfl⟩
  rw [show k - j0 - j1 = j2 by omega]
  exact h2
theorem inj_le {α : Type} {L : List α} {c : Nat} {xs : Nat → α} (hi : ∀ i i', i < c → i' < c → xs i = xs i' → i = i') (hm : ∀ i, i < c → xs i ∈ L) : c ≤ L.length := by
  have h : ∀ i, ∃ k : Nat, i < c → L[k]? = some (xs i) := by
    intro i
    by_cases hc : i < c
    · obtain ⟨k, hk, e⟩ := List.getElem_of_mem (hm i hc)
      exact ⟨k, fun _ => by rw [List.getElem?_eq_getElem hk, e]⟩
    · exact ⟨0, fun q => absurd q hc⟩
  refine pigeon L.length c (fun i => Classical.choose (h i)) (fun i hc => ?_) (fun i i' hc hc' e => ?_)
  · have := Classical.choose_spec (h i) hc
    show Classical.choose (h i) < L.length
    by_cases q : Classical.choose (h i) < L.length
    · exact q
    · rw [List.getElem?_eq_none (by omega)] at this
      cases this
  · have a := Classical.choose_spec (h i) hc
    have b := Classical.choose_spec (h i') hc'
    have e' : Classical.choose (h i) = Classical.choose (h i') := e
    rw [e', b] at a
    exact hi i i' hc hc' (Option.some.inj a).symm
section CA
variable {th ce : Nat → Nat} {wr : Nat → Bool} {n F K : Nat}
/-- a cell's states are in rows of these lengths -/
def celz (th ce : Nat → Nat) (wr : Nat → Bool) (n c : Nat) (z : Nat → Nat) : Prop := ∀ j, j ≤ n → ∃ L : List CS, L.length ≤ z j ∧ ∀ t, crc th ce wr n c j t → t ∈ L
theorem celz_f {c : Nat} {z : Nat → Nat} (h : celz th ce wr n c z) : ∃ A : Nat → List CS, ∀ j, j ≤ n → (A j).length ≤ z j ∧ ∀ t, crc th ce wr n c j t → t ∈ A j := by
  have h' : ∀ j, ∃ L : List CS, j ≤ n → L.length ≤ z j ∧ ∀ t, crc th ce wr n c j t → t ∈ L := by
    intro j
    by_cases hj : j ≤ n
    · obtain ⟨L, l⟩ := h j hj; exact ⟨L, fun _ => l⟩
    · exact ⟨[], fun q => absurd q hj⟩
  exact ⟨fun j => Classical.choose (h' j), fun j hj => Classical.choose_spec (h' j) hj⟩
theorem ly_cover (hn : n ≤ 8) (hc : ∀ s, s < n → ce s < 3) {z0 z1 z2 : Nat → Nat} (h0 : celz th ce wr n 0 z0) (h1 : celz th ce wr n 1 z1) (h2 : celz th ce wr n 2 z2) {k : Nat} (hk : k ≤ n) : ∃ L : List Nat, L.length ≤ cvN z0 z1 z2 k ∧ ∀ g, rch ce wr n (wtN th ce wr F K) k g → enc g ∈ L := by
  obtain ⟨A, hA⟩ := celz_f h0
  obtain ⟨B, hB⟩ := celz_f h1
  obtain ⟨C, hC⟩ := celz_f h2
  refine ⟨lyL A B C k, lyL_len (fun j hj => (hA j (by omega)).1) (fun j hj => (hB j (by omega)).1) (fun j hj => (hC j (by omega)).1), fun g hg => ?_⟩
  obtain ⟨j, t, a1, a2, a3, a4, a5⟩ := split3 wtN_C (fun s hs => by have := wtN_lt (th := th) (ce := ce) (wr := wr) (F := F) (K := K) (show s < 8 by omega); omega) hc hg
  have e : enc g = cod (t 0) (t 1) (t 2) := by
    unfold enc cod
    rw [a3, a5, a4 0 (by decide), a4 1 (by decide), a4 2 (by decide)]
  rw [e]
  exact lyL_mem a1 ((hA _ (by omega)).2 _ (a2 0 (by decide))) ((hB _ (by omega)).2 _ (a2 1 (by decide))) ((hC _ (by omega)).2 _ (a2 2 (by decide)))
theorem capL_z (hn : n ≤ 8) (hc : ∀ s, s < n → ce s < 3) {z0 z1 z2 : Nat → Nat} (h0 : celz th ce wr n 0 z0) (h1 : celz th ce wr n 1 z1) (h2 : celz th ce wr n 2 z2) (hz : ∀ k, k ≤ n → cvN z0 z1 z2 k ≤ 512) : capL ce wr n (wtN th ce wr F K) := by
  intro k hk c xs hi hx
  obtain ⟨L, l1, l2⟩ := ly_cover (F := F) (K := K) hn hc h0 h1 h2 hk
  have := inj_le (L := L.map lN) hi (fun i h => by
    obtain ⟨g, g1, g2⟩ := hx i h
    rw [g2]
    exact List.mem_map.mpr ⟨enc g, l2 g g1, rfl⟩)
  rw [List.length_map] at this
  have := hz k hk
  omega
theorem capR_z (hn : n ≤ 8) (hc : ∀ s, s < n → ce s < 3) {z0 z1 z2 : Nat → Nat} (h0 : celz th ce wr n 0 z0) (h1 : celz th ce wr n 1 z1) (h2 : celz th ce wr n 2 z2) (hz : cvN z0 z1 z2 n ≤ 256) : capR th ce wr n F K := by
  intro m f hi hx
  obtain ⟨L, l1, l2⟩ := ly_cover (F := F) (K := K) hn hc h0 h1 h2 (Nat.le_refl n)
  have := inj_le (L := L.map (fun e => e / 1048576)) hi (fun i h => by
    obtain ⟨g, g1, g2⟩ := rdP_iff.mp (hx i h)
    rw [← g2, ← enc_R (rchE hn (Nat.le_refl n) hc g1)]
    exact List.mem_map.mpr ⟨enc g, l2 g g1, rfl⟩)
  rw [List.length_map] at this
  omega
theorem cv_512 : ∀ a, a < 8 → ∀ b, b < 8 → ∀ c, c < 8 → ∀ k, k < 9 → 8 < a + b + c ∨ cvN (Mt a) (Mt b) (Mt c) k ≤ 512 := by decide +kernel
theorem cv_256 : ∀ a, a < 8 → ∀ b, b < 8 → ∀ c, c < 8 → 8 < a + b + c ∨ cvN (Mt a) (Mt b) (Mt c) (a + b + c) ≤ 256 := by decide +kernel
theorem celz_M (hn : n ≤ 8) (hth : ∀ s, s < n → th s < 3) (hc : ∀ s, s < n → ce s < 3) {c : Nat} (hcc : c < 3) : celz th ce wr n c (Mt (mcN ce c n)) := by
  have e := mc_sum n hc
  have : c = 0 ∨ c = 1 ∨ c = 2 := by omega
  intro j hj
  rcases this with q | q | q
  · subst q; exact cell_le hth (by omega) (by omega)
  · subst q; exact cell_le hth (by omega) (by omega)
  · subst q; exact cell_le hth (by omega) (by omega)
/-- all but eight steps on one cell -/
theorem caps_M (hn : n ≤ 8) (hth : ∀ s, s < n → th s < 3) (hc : ∀ s, s < n → ce s < 3) (h8 : ∀ c, c < 3 → mcN ce c n ≠ 8) : capL ce wr n (wtN th ce wr F K) ∧ capR th ce wr n F K := by
  have e := mc_sum n hc
  have a := h8 0 (by decide)
  have b := h8 1 (by decide)
  have d := h8 2 (by decide)
  have z0 := celz_M (wr := wr) hn hth hc (c := 0) (by decide)
  have z1 := celz_M (wr := wr) hn hth hc (c := 1) (by decide)
  have z2 := celz_M (wr := wr) hn hth hc (c := 2) (by decide)
  refine ⟨capL_z hn hc z0 z1 z2 (fun k hk => (cv_512 (mcN ce 0 n) (by omega) (mcN ce 1 n) (by omega) (mcN ce 2 n) (by omega) k (by omega)).resolve_left (by omega)), capR_z hn hc z0 z1 z2 ?_⟩
  have := (cv_256 (mcN ce 0 n) (by omega) (mcN ce 1 n) (by omega) (mcN ce 2 n) (by omega)).resolve_left (by omega)
  rw [e] at this
  exact this
end CA
