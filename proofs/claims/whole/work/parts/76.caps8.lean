/-! how many: all of it -/
theorem mc_le {ce : Nat → Nat} {c : Nat} : ∀ k, mcN ce c k ≤ k := by
  intro k
  induction k with
  | zero => exact Nat.le_refl 0
  | succ k ih =>
    show mcN ce c k + (if ce k = c then 1 else 0) ≤ k + 1
    split <;> omega
theorem mc_all {ce : Nat → Nat} {c : Nat} : ∀ k, mcN ce c k = k → ∀ s, s < k → ce s = c := by
  intro k
  induction k with
  | zero => intro _ s hs; exact absurd hs (Nat.not_lt_zero s)
  | succ k ih =>
    intro h s hs
    have h' : mcN ce c k + (if ce k = c then 1 else 0) = k + 1 := h
    have hl := mc_le (ce := ce) (c := c) k
    by_cases e : ce k = c
    · rw [if_pos e] at h'
      by_cases q : s = k
      · rw [q]; exact e
      · exact ih (by omega) s (by omega)
    · rw [if_neg e] at h'
      omega
theorem rmN_cong {th th' ce ce' : Nat → Nat} {c c' q D : Nat} : ∀ {k}, (∀ s, s < k → ce s = c ∧ ce' s = c' ∧ th s = th' s) → rmN th ce c q D k = rmN th' ce' c' q D k := by
  intro k
  induction k with
  | zero => intro _; rfl
  | succ k ih =>
    intro h
    obtain ⟨h1, h2, h3⟩ := h k (by omega)
    show rmN th ce c q D k + (bif decide (ce k = c) && decide (th k = q) && !D.testBit k then 1 else 0) = rmN th' ce' c' q D k + (bif decide (ce' k = c') && decide (th' k = q) && !D.testBit k then 1 else 0)
    rw [ih (fun s hs => h s (by omega)), h3, decide_eq_true h1, decide_eq_true h2]
def th8 (x0 x1 x2 x3 x4 x5 x6 x7 s : Nat) : Nat := [x0, x1, x2, x3, x4, x5, x6, x7].getD s 0
def r8 (x : Nat → Nat) (q : Nat) : Nat := rmN x (fun _ => 0) 0 q 0 8
def cls8 (x : Nat → Nat) : Bool := (Nat.ble (nW 7 (r8 x 0) (r8 x 1) (r8 x 2)) 512 && Nat.ble (nW 8 (r8 x 0) (r8 x 1) (r8 x 2)) 512 || [182, 214, 218].contains (gpS x 8)) && (Nat.ble (nW 8 (r8 x 0) (r8 x 1) (r8 x 2)) 256 || [182, 214, 218].contains (gpS x 8) || [174, 186, 234, 110, 206, 118, 230, 220, 236].contains (gpS x 8))
def chkM : Nat → Nat → List Nat → Bool
  | 0, _, a => cls8 (fun s => a.getD s 0)
  | d + 1, lo, a => (Nat.blt 0 lo || chkM d 0 (a ++ [0])) && (Nat.blt 1 lo || chkM d 1 (a ++ [1])) && chkM d 2 (a ++ [2])
theorem chkM_s {d lo x : Nat} {a : List Nat} (h : chkM (d + 1) lo a = true) (h1 : lo ≤ x) (h3 : x < 3) : chkM d x (a ++ [x]) = true := by
  have h' : ((Nat.blt 0 lo || chkM d 0 (a ++ [0])) && (Nat.blt 1 lo || chkM d 1 (a ++ [1])) && chkM d 2 (a ++ [2])) = true := h
  rw [Bool.and_eq_true, Bool.and_eq_true, Bool.or_eq_true, Bool.or_eq_true] at h'
  have nb : ∀ k, k ≥ lo → ¬ Nat.blt k lo = true := fun k hk q => by
    have := Nat.le_of_ble_eq_true (show Nat.ble (k + 1) lo = true from q)
    omega
  have : x = 0 ∨ x = 1 ∨ x = 2 := by omega
  rcases this with rfl | rfl | rfl
  · exact h'.1.1.resolve_left (nb 0 (by omega))
  · exact h'.1.2.resolve_left (nb 1 (by omega))
  · exact h'.2
theorem chkM_ok : chkM 8 0 [] = true := by decide +kernel
theorem cls_ok (x0 x1 x2 x3 x4 x5 x6 x7 : Nat) (h0 : x0 < 3) (h1 : x1 < 3) (k1 : x0 ≤ x1) (h2 : x2 < 3) (k2 : x1 ≤ x2) (h3 : x3 < 3) (k3 : x2 ≤ x3) (h4 : x4 < 3) (k4 : x3 ≤ x4) (h5 : x5 < 3) (k5 : x4 ≤ x5) (h6 : x6 < 3) (k6 : x5 ≤ x6) (h7 : x7 < 3) (k7 : x6 ≤ x7) : cls8 (th8 x0 x1 x2 x3 x4 x5 x6 x7) = true :=
  chkM_s (chkM_s (chkM_s (chkM_s (chkM_s (chkM_s (chkM_s (chkM_s chkM_ok (Nat.zero_le x0) h0) k1 h1) k2 h2) k3 h3) k4 h4) k5 h5) k6 h6) k7 h7
section C8
variable {th ce : Nat → Nat} {wr : Nat → Bool} {F K c : Nat}
theorem th8_eq (th : Nat → Nat) : ∀ s, s < 8 → th8 (th 0) (th 1) (th 2) (th 3) (th 4) (th 5) (th 6) (th 7) s = th s := by
  intro s hs
  match s, hs with
  | 0, _ => rfl
  | 1, _ => rfl
  | 2, _ => rfl
  | 3, _ => rfl
  | 4, _ => rfl
  | 5, _ => rfl
  | 6, _ => rfl
  | 7, _ => rfl
  | k + 8, h => exact absurd h (by omega)
theorem cls_th (hth : ∀ s, s < 8 → th s < 3) (hm : mono th 8) (hce : ∀ s, s < 8 → ce s = c) : ((nW 7 (rmN th ce c 0 0 8) (rmN th ce c 1 0 8) (rmN th ce c 2 0 8) ≤ 512 ∧ nW 8 (rmN th ce c 0 0 8) (rmN th ce c 1 0 8) (rmN th ce c 2 0 8) ≤ 512) ∨ gpS th 8 ∈ [182, 214, 218]) ∧ (nW 8 (rmN th ce c 0 0 8) (rmN th ce c 1 0 8) (rmN th ce c 2 0 8) ≤ 256 ∨ gpS th 8 ∈ [182, 214, 218] ∨ gpS th 8 ∈ [174, 186, 234, 110, 206, 118, 230, 220, 236]) := by
  have e := cls_ok (th 0) (th 1) (th 2) (th 3) (th 4) (th 5) (th 6) (th 7) (hth 0 (by omega)) (hth 1 (by omega)) (hm 0 1 (by omega) (by omega)) (hth 2 (by omega)) (hm 1 2 (by omega) (by omega)) (hth 3 (by omega)) (hm 2 3 (by omega) (by omega)) (hth 4 (by omega)) (hm 3 4 (by omega) (by omega)) (hth 5 (by omega)) (hm 4 5 (by omega) (by omega)) (hth 6 (by omega)) (hm 5 6 (by omega) (by omega)) (hth 7 (by omega)) (hm 6 7 (by omega) (by omega))
  have et := th8_eq th
  generalize th8 (th 0) (th 1) (th 2) (th 3) (th 4) (th 5) (th 6) (th 7) = x at e et
  have er : ∀ q, r8 x q = rmN th ce c q 0 8 := fun q => rmN_cong (fun s hs => ⟨rfl, hce s hs, et s hs⟩)
  have eg : gpS x 8 = gpS th 8 := bset_cong (fun i hi => by
    unfold gpB
    rw [et i hi, et (i - 1) (by omega)])
  unfold cls8 at e
  rw [er 0, er 1, er 2, eg, Bool.and_eq_true, Bool.or_eq_true, Bool.or_eq_true, Bool.or_eq_true, Bool.and_eq_true] at e
  obtain ⟨e1, e2⟩ := e
  refine ⟨?_, ?_⟩
  · rcases e1 with ⟨a, b⟩ | a
    · exact Or.inl ⟨Nat.le_of_ble_eq_true a, Nat.le_of_ble_eq_true b⟩
    · exact Or.inr (List.contains_iff_mem.mp a)
  · rcases e2 with (a | a) | a
    · exact Or.inl (Nat.le_of_ble_eq_true a)
    · exact Or.inr (Or.inl (List.contains_iff_mem.mp a))
    · exact Or.inr (Or.inr (List.contains_iff_mem.mp a))
theorem bmc_in {G W : Nat} (hG : G ∈ [182, 214, 218]) (hW : W < 256) : bchk G W = true := by
  simp only [List.mem_cons, List.not_mem_nil, or_false] at hG
  rcases hG with rfl | rfl | rfl
  · exact bmc_182 W hW
  · exact bmc_214 W hW
  · exact bmc_218 W hW
theorem bmr_in {G W : Nat} (hG : G ∈ [174, 186, 234, 110, 206, 118, 230, 220, 236]) (hW : W < 256) : bchR G W = true := by
  simp only [List.mem_cons, List.not_mem_nil, or_false] at hG
  rcases hG with rfl | rfl | rfl | rfl | rfl | rfl | rfl | rfl | rfl
  · exact bmr_174 W hW
  · exact bmr_186 W hW
  · exact bmr_234 W hW
  · exact bmr_110 W hW
  · exact bmr_206 W hW
  · exact bmr_118 W hW
  · exact bmr_230 W hW
  · exact bmr_220 W hW
  · exact bmr_236 W hW
def z8 (j : Nat) : Nat := if j < 7 then Mt 8 j else 512
theorem cel8 (hth : ∀ s, s < 8 → th s < 3) (hm : mono th 8) (hce : ∀ s, s < 8 → ce s = c) (hmc : mcN ce c 8 = 8) : celz th ce wr 8 c z8 ∧ ∃ L : List Nat, L.length ≤ 256 ∧ ∀ t : CS, crc th ce wr 8 c 8 t → t.2.2 ∈ L := by
  have hW : ∀ s, s < 8 → (bset wr 8).testBit s = wr s := fun s hs => by rw [bset_bit, decide_eq_true hs]; rfl
  have hWl : bset wr 8 < 256 := bset_lt wr 8
  obtain ⟨k1, k2⟩ := cls_th (ce := ce) (c := c) hth hm hce
  have cov : ∀ j, ∃ L : List CS, L.length ≤ nW j (rmN th ce c 0 0 8) (rmN th ce c 1 0 8) (rmN th ce c 2 0 8) ∧ ∀ t, crc th ce wr 8 c j t → t ∈ L := fun j => by
    obtain ⟨L, l1, l2⟩ := cover (wr := wr) (ce := ce) (c := c) hth j cs0
    exact ⟨L, l1, fun t h => l2 t (crc_crf h)⟩
  constructor
  · intro j hj
    by_cases h7 : j < 7
    · obtain ⟨L, l1, l2⟩ := cell_le (wr := wr) (ce := ce) (c := c) (j := j) hth (by omega) hj
      refine ⟨L, ?_, l2⟩
      rw [hmc] at l1
      unfold z8
      rw [if_pos h7]
      exact l1
    · have ez : z8 j = 512 := if_neg h7
      rw [ez]
      have hj' : j = 7 ∨ j = 8 := by omega
      rcases k1 with ⟨a, b⟩ | a
      · obtain ⟨L, l1, l2⟩ := cov j
        refine ⟨L, ?_, l2⟩
        rcases hj' with rfl | rfl
        · exact Nat.le_trans l1 a
        · exact Nat.le_trans l1 b
      · exact (bchk_ok hce hW (bmc_in a hWl)).1 j hj'
  · rcases k2 with a | a | a
    · obtain ⟨L, l1, l2⟩ := cov 8
      refine ⟨L.map (fun t => t.2.2), by rw [List.length_map]; exact Nat.le_trans l1 a, fun t ht => List.mem_map.mpr ⟨t, l2 t ht, rfl⟩⟩
    · exact (bchk_ok hce hW (bmc_in a hWl)).2
    · exact bchR_ok hce hW (bmr_in a hWl)
theorem cv8 : ∀ k, k < 9 → cvN z8 (Mt 0) (Mt 0) k ≤ 512 ∧ cvN (Mt 0) z8 (Mt 0) k ≤ 512 ∧ cvN (Mt 0) (Mt 0) z8 k ≤ 512 := by decide +kernel
theorem crc_no {c' j : Nat} {t : CS} (hce : ∀ s, s < 8 → ce s = c) (hne : c' ≠ c) (h : crc th ce wr 8 c' j t) : j = 0 ∧ t = cs0 := by
  cases j with
  | zero => exact ⟨rfl, h⟩
  | succ j =>
    obtain ⟨t', s, -, h2, -⟩ := h
    exact absurd (h2.2.1.symm.trans (hce s h2.1)) hne
theorem caps_8 (hth : ∀ s, s < 8 → th s < 3) (hc : c < 3) (hm : mono th 8) (hmc : mcN ce c 8 = 8) : capL ce wr 8 (wtN th ce wr F K) ∧ capR th ce wr 8 F K := by
  have hce : ∀ s, s < 8 → ce s = c := mc_all 8 hmc
  have hc3 : ∀ s, s < 8 → ce s < 3 := fun s hs => by rw [hce s hs]; exact hc
  obtain ⟨z, L, l1, l2⟩ := cel8 (wr := wr) hth hm hce hmc
  have e := mc_sum 8 hc3
  have hcs : c = 0 ∨ c = 1 ∨ c = 2 := by omega
  constructor
  · have y : ∀ c', c' < 3 → c' ≠ c → celz th ce wr 8 c' (Mt 0) := by
      intro c' h1 h2
      have := celz_M (wr := wr) (Nat.le_refl 8) hth hc3 h1
      have e0 : mcN ce c' 8 = 0 := by
        have : c' = 0 ∨ c' = 1 ∨ c' = 2 := by omega
        rcases this with rfl | rfl | rfl <;> rcases hcs with rfl | rfl | rfl <;> omega
      rw [e0] at this
      exact this
    rcases hcs with rfl | rfl | rfl
    · exact capL_z (Nat.le_refl 8) hc3 z (y 1 (by decide) (by decide)) (y 2 (by decide) (by decide)) (fun k hk => (cv8 k (by omega)).1)
    · exact capL_z (Nat.le_refl 8) hc3 (y 0 (by decide) (by decide)) z (y 2 (by decide) (by decide)) (fun k hk => (cv8 k (by omega)).2.1)
    · exact capL_z (Nat.le_refl 8) hc3 (y 0 (by decide) (by decide)) (y 1 (by decide) (by decide)) z (fun k hk => (cv8 k (by omega)).2.2)
  · intro m f hi hx
    refine Nat.le_trans (inj_le (L := L) hi (fun i h => ?_)) l1
    obtain ⟨g, g1, g2⟩ := rdP_iff.mp (hx i h)
    obtain ⟨j, t, a1, a2, a3, a4, a5⟩ := split3 wtN_C (fun s hs => by have := wtN_lt (th := th) (ce := ce) (wr := wr) (F := F) (K := K) (show s < 8 by omega); omega) hc3 g1
    rw [← g2, a5]
    rcases hcs with rfl | rfl | rfl
    · obtain ⟨j1, t1⟩ := crc_no hce (by decide) (a2 1 (by decide))
      obtain ⟨j2, t2⟩ := crc_no hce (by decide) (a2 2 (by decide))
      have h0 := a2 0 (by decide)
      rw [show j 0 = 8 by omega] at h0
      rw [t1, t2]
      exact l2 _ h0
    · obtain ⟨j1, t1⟩ := crc_no hce (by decide) (a2 0 (by decide))
      obtain ⟨j2, t2⟩ := crc_no hce (by decide) (a2 2 (by decide))
      have h0 := a2 1 (by decide)
      rw [show j 1 = 8 by omega] at h0
      rw [t1, t2]
      show 0 + (t 1).2.2 + 0 ∈ L
      rw [Nat.zero_add, Nat.add_zero]
      exact l2 _ h0
    · obtain ⟨j1, t1⟩ := crc_no hce (by decide) (a2 0 (by decide))
      obtain ⟨j2, t2⟩ := crc_no hce (by decide) (a2 1 (by decide))
      have h0 := a2 2 (by decide)
      rw [show j 2 = 8 by omega] at h0
      rw [t1, t2]
      show 0 + (t 2).2.2 ∈ L
      rw [Nat.zero_add]
      exact l2 _ h0
end C8
theorem caps_ok : CAPS := by
  intro n th ce wr F K hn hs hm
  by_cases h : ∃ c, c < 3 ∧ mcN ce c n = 8
  · obtain ⟨c, hc, h8⟩ := h
    have hl := mc_le (ce := ce) (c := c) n
    have : n = 8 := by omega
    subst this
    exact caps_8 (fun s h => (hs s h).1) hc hm h8
  · exact caps_M hn (fun s h => (hs s h).1) (fun s h => (hs s h).2) (fun c hc q => h ⟨c, hc, q⟩)
