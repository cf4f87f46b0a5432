/-! all gaps hold all loose pairs -/
section FE
variable {n : Nat} {th ce : Nat → Nat} {wr : Nat → Bool} {s u K : Nat}
theorem bI_0 (b : Bool) : bI b (nI 0) = nI 0 := by cases b <;> rfl
theorem kyN_inj {a : Nat × Nat} {s u : Nat} (h : kyN a = 8 * s + u) (ha : a.2 < 8) (hu : u < 8) : a.1 = s ∧ a.2 = u := by
  unfold kyN at h
  omega
theorem adk_no {a : Nat × Nat} {c : Int32} (hn : n ≤ 8) (ha : a ∈ gS th ce wr n n) (hu : u < 8) (hg : gfB th ce wr s u = false) : adk (kyN a) c (8 * s + u) = nI 0 := by
  obtain ⟨h1, h2, h3, h4⟩ := gS_mem (Nat.le_refl n) ha
  unfold adk
  refine if_neg fun e => ?_
  obtain ⟨e1, e2⟩ := kyN_inj e.symm (by omega) hu
  rw [e1, e2, hg] at h4
  cases h4
theorem nV_0 (hn : n ≤ 8) (hu : u < 8) (hg : gfB th ce wr s u = false) : nV th ce wr (gS th ce wr n n) (8 * s + u) = nI 0 := by
  have hk : ∀ i, i < (gS th ce wr n n).length → ∀ c, adk (kyN (gAt (gS th ce wr n n) i)) c (8 * s + u) = nI 0 := fun i hi c => adk_no hn (gAt_mem hi) hu hg
  have e1 : sI (fun i => sI (fun j' => g2 th ce wr (gS th ce wr n n) i j' (8 * s + u)) (gS th ce wr n n).length) (gS th ce wr n n).length = nI 0 := by
    refine sI_zero fun i hi => sI_zero fun j hj => ?_
    unfold g2
    rw [hk i hi, hk j hj, add_z, bI_0]
  have e2 : sI (fun i => sI (fun j' => g3' th ce wr (gS th ce wr n n) i j' (8 * s + u)) (gS th ce wr n n).length) (gS th ce wr n n).length = nI 0 := by
    refine sI_zero fun i hi => sI_zero fun j hj => ?_
    unfold g3'
    have e3 : sI (fun k' => g3 th ce wr (gS th ce wr n n) i j k' (8 * s + u)) (gS th ce wr n n).length = nI 0 := by
      refine sI_zero fun k hk' => ?_
      unfold g3
      rw [hk i hi, hk j hj, hk k hk', add_z, add_z, bI_0]
    rw [e3, bI_0]
  unfold nV
  rw [e1, e2, add_z]
theorem nV_ah (hn : n ≤ 8) (hs : s < u) (hu : u < 8) (h : ¬ nV th ce wr (gS th ce wr n n) (8 * s + u) ≤ nI 0) : ahB th s u = true := by
  cases hg : gfB th ce wr s u with
  | false => rw [nV_0 hn hu hg] at h; exact absurd (by decide) h
  | true =>
    unfold gfB at hg
    rw [if_neg (by omega), Bool.and_eq_true] at hg
    exact hg.1
theorem btw_bit : ∀ s, s < 8 → ∀ u, u < 8 → s < u → (btw s u).testBit u = true := by decide +kernel
/-- threads come one behind the other -/
def mono (th : Nat → Nat) (n : Nat) : Prop := ∀ s u, s ≤ u → u < n → th s ≤ th u
theorem feas_of (hn : n ≤ 8) (hm : mono th n) : feas th n (loL (nV th ce wr (gS th ce wr n n)) ce wr K n) := by
  unfold feas hdN
  rw [List.countP_eq_length]
  intro x hx
  obtain ⟨t, u, h1, h2, h3, h4, rfl⟩ := pS_mem hx
  unfold loB at h4
  rw [Bool.and_eq_true, Bool.not_eq_true', decide_eq_false_iff_not] at h4
  have ha := nV_ah hn h2 (by omega) h4.1
  unfold ahB at ha
  rw [Bool.and_eq_true, decide_eq_true_eq, decide_eq_true_eq] at ha
  rw [hdB_t]
  refine ⟨u, btw_bit t (by omega) u (by omega) h2, (gpS_bit u).mpr ⟨h3, ?_⟩⟩
  unfold gpB
  rw [Bool.and_eq_true, decide_eq_true_eq, decide_eq_true_eq]
  have m1 := hm t (u - 1) (by omega) (by omega)
  have m2 := hm (u - 1) u (by omega) h3
  exact ⟨by omega, by omega⟩
end FE
