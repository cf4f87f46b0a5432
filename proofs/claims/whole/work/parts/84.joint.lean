/-! the law: two worlds side by side -/
def R_law : String := "FenceWaysLaw"
def AL (s : State) : Nat → Prop := fun q => s.heap.size ≤ q
theorem arr_of {args : Array Value} {s : State} {ty : FieldType} (h : (Cond.arrayClass ty).before args s = true) (ho : ∀ C, ty ≠ .object C) : ∃ cA : ClassId, ArrOfT s cA ty ∧ va_RA s cA ty := by
  obtain ⟨cA, kA, comp, h1, h2, h3⟩ := Cond.arrayClass_spec h
  refine ⟨cA, fun n z => ⟨fun k q => (by cases q), kA, h2, comp, h3⟩, ?_⟩
  cases ty <;> first | exact h1 | exact absurd rfl (ho _)
theorem arr_ov {args : Array Value} {s : State} {C : String} (h : (Cond.arrayOver (.object C)).before args s = true) : ∃ cA : ClassId, ArrOfT s cA (.object C) ∧ va_RA s cA (.object C) := by
  obtain ⟨comp, cA, kA, h1, h2, h3, h4, h5⟩ := Cond.arrayOver_spec h
  exact ⟨cA, fun n z => ⟨fun k q => (by cases q), kA, h3, comp, h4⟩, kA, comp, h3, h4, h1, h5⟩
theorem ks_of {args : Array Value} {s : State} (hts : ∀ w ∈ lw_tbl, w.before args s = true) : ∃ (D : va_G) (aC : Nat → ClassId), KS D aC s ∧ COK args s := by
  have hg : ∀ w ∈ gdW, w.before args s = true := fun w hw => hts w (List.mem_filter.mp hw).1
  have hC := cokg args s hg
  have hk : ∀ ci, ∃ (q : ClassId × (Nat → Nat)), ci < 13 → u_Kn s (clN ci) (clT ci) (nfd ci) q.1 q.2 := by
    intro ci
    by_cases h : ci < 13
    · obtain ⟨a, b, h1⟩ := u_known hg (hC.2.1 ci h).1 (hC.2.1 ci h).2.1
      exact ⟨(a, b), fun _ => h1⟩
    · exact ⟨(0, fun _ => 0), fun q => absurd q h⟩
  obtain ⟨a0, b0⟩ := arr_of hC.2.2.1 (fun C q => by cases q)
  obtain ⟨a1, b1⟩ := arr_of hC.2.2.2.1 (fun C q => by cases q)
  obtain ⟨a2, b2⟩ := arr_of hC.2.2.2.2 (fun C q => by cases q)
  have o2 : (Cond.arrayOver (.object RX2)).before args s = true := hts _ (List.mem_of_getElem? (i := 238) (by decide +kernel))
  have o9 : (Cond.arrayOver (.object RX9)).before args s = true := hts _ (List.mem_of_getElem? (i := 224) (by decide +kernel))
  obtain ⟨a3, b3⟩ := arr_ov o2
  obtain ⟨a4, b4⟩ := arr_ov o9
  refine ⟨(fun ci => (Classical.choose (hk ci)).1, fun ci => (Classical.choose (hk ci)).2), fun k => [a0, a1, a2, a3, a4].getD k a0, ⟨⟨fun c q hq => ?_, fun k q hq => ?_⟩, fun w hw => ?_, va_AO.of o2, va_AO.of o9⟩, hC⟩
  · have hl : c < 13 := (List.getElem?_eq_some_iff.mp hq).1
    rw [clsL hl] at hq
    cases hq
    exact Classical.choose_spec (hk c) hl
  · have hl : k < 5 := (List.getElem?_eq_some_iff.mp hq).1
    match k, hl with
    | 0, _ => cases hq; exact b0
    | 1, _ => cases hq; exact b1
    | 2, _ => cases hq; exact b2
    | 3, _ => cases hq; exact b3
    | 4, _ => cases hq; exact b4
    | k + 5, h => exact absurd h (by omega)
  · obtain ⟨h1, h2⟩ := List.mem_filter.mp hw
    refine va_Nw.of ?_ (hts w h1)
    cases w <;> first | rfl | cases h2
/-- two worlds: the first may be called -/
def Jt (D : va_G) (aC : Nat → ClassId) (s : State) (ad : Nat → Nat) (h : HP) (ad2 : Nat → Nat) (h2 : HP) (H : Heap) (locs : List Loc) : Prop :=
  va_P D vwCl (wof aC ad2 h2 ++ wof aC ad h) H ∧ va_D (AL s) (wof aC ad2 h2 ++ wof aC ad h) ∧ va_S (AL s) s.heap H locs ∧ h.1 ≤ mNul ∧ okH h ∧ h2.1 ≤ mNul ∧ okH h2
theorem vP_l {D : va_G} {w1 w2 : va_W} {H : Heap} (h : va_P D vwCl (w1 ++ w2) H) : va_P D vwCl w1 H := fun k q hk => h k q (by rw [List.getElem?_append_left (List.getElem?_eq_some_iff.mp hk).1]; exact hk)
theorem vP_r {D : va_G} {w1 w2 : va_W} {H : Heap} (h : va_P D vwCl (w1 ++ w2) H) : va_P D vwCl w2 H := fun k q hk => h (w1.length + k) q (by rw [List.getElem?_append_right (by omega), Nat.add_sub_cancel_left]; exact hk)
theorem vD_l {A : Nat → Prop} {w1 w2 : va_W} (h : va_D A (w1 ++ w2)) : va_D A w1 := ⟨fun i j p q hi hj e => h.1 i j p q (by rw [List.getElem?_append_left (List.getElem?_eq_some_iff.mp hi).1]; exact hi) (by rw [List.getElem?_append_left (List.getElem?_eq_some_iff.mp hj).1]; exact hj) e, fun k q hk => h.2 k q (by rw [List.getElem?_append_left (List.getElem?_eq_some_iff.mp hk).1]; exact hk)⟩
theorem vD_r {A : Nat → Prop} {w1 w2 : va_W} (h : va_D A (w1 ++ w2)) : va_D A w2 := ⟨fun i j p q hi hj e => by
    have := h.1 (w1.length + i) (w1.length + j) p q (by rw [List.getElem?_append_right (by omega), Nat.add_sub_cancel_left]; exact hi) (by rw [List.getElem?_append_right (by omega), Nat.add_sub_cancel_left]; exact hj) e
    omega, fun k q hk => h.2 (w1.length + k) q (by rw [List.getElem?_append_right (by omega), Nat.add_sub_cancel_left]; exact hk)⟩
theorem vD_x {A : Nat → Prop} {w1 w2 : va_W} (h : va_D A (w1 ++ w2)) : ∀ (i j : Nat) (p q : Nat × va_E), w2[i]? = some p → w1[j]? = some q → p.1 ≠ q.1 := fun i j p q hi hj e => by
  have := h.1 (w1.length + i) j p q (by rw [List.getElem?_append_right (by omega), Nat.add_sub_cancel_left]; exact hi) (by rw [List.getElem?_append_left (List.getElem?_eq_some_iff.mp hj).1]; exact hj) e
  have hl := (List.getElem?_eq_some_iff.mp hj).1
  omega
theorem Jt.swap {D : va_G} {aC : Nat → ClassId} {s : State} {ad : Nat → Nat} {h : HP} {ad2 : Nat → Nat} {h2 : HP} {H : Heap} {locs : List Loc} (hJ : Jt D aC s ad h ad2 h2 H locs) : Jt D aC s ad2 h2 ad h H locs := by
  obtain ⟨j1, j2, j3, j4, j5, j6, j7⟩ := hJ
  exact ⟨(vP_r j1).app (vP_l j1), (vD_r j2).app (vD_l j2) (vD_x j2), j3, j6, j7, j4, j5⟩
theorem run_two {p : Program} {l : Launch} {e : Env} {R : Room} {s : State} {m : MethodId} {args : Array Value} {below : List Frame} {meth : Method} {c : Code} {H : Heap} {locs : List Loc} {cells slots : Nat} {Q : State → Prop} {pc : Nat} {ls : Array Slot} {rest st0 : List Value} {a : Array Value} {D : va_G} {aC : Nat → ClassId} {ad ad2 : Nat → Nat} {h h' h2 : HP} {r : Option Value} {mc ms : Nat}
    (hr : va_Run p l e R s m args below meth c H locs cells slots mc ms (F0 m pc ls st0) rest (Qm D aC (va_A (wof aC ad h) H.size) ad h.1 r h' a) (va_A (wof aC ad h) H.size)) (hJ : Jt D aC s ad h ad2 h2 H locs) (hnd : va_nd (List.range h2.1) = true)
    (kk : ∀ (ad' : Nat → Nat) (H' : Heap) (locs' : List Loc), Jt D aC s ad' h' ad2 h2 H' locs' → (∀ q, q < h.1 → ad' q = ad q) → h.1 ≤ h'.1 → W p l e R s m args below meth c H' locs' (cells + mc) (slots + ms) Q (F0 m (pc + 3) ls (r.toList.map (mv ad') ++ rest))) :
    W p l e R s m args below meth c H locs cells slots Q (F0 m pc ls st0) := by
  intro T hT X
  obtain ⟨hP, hD, hS, hmx, hok, hmx2, hok2⟩ := hJ
  obtain ⟨v, st₀, t, T', L, h0, X', hL, e1, e2, ⟨⟨ad', hv, hP1, hD1, hmx1, hN1, had1, hok1, hr1⟩, hz, hk⟩, st⟩ := hr T hT X
  rw [h0] at hz hk
  have hC : ((List.range h.1).map (fun i => h2.1 + i)).map (fun i => (wof aC ad2 h2 ++ wof aC ad h)[i]?) = (wof aC ad h).map some := by
    rw [List.map_map]
    apply List.ext_getElem?
    intro k
    rw [List.getElem?_map, List.getElem?_map]
    by_cases hk : k < h.1
    · rw [List.getElem?_range hk]
      show some ((wof aC ad2 h2 ++ wof aC ad h)[h2.1 + k]?) = _
      rw [List.getElem?_append_right (by rw [wof_len]; omega), wof_len, Nat.add_sub_cancel_left, wof_get hk]
      rfl
    · rw [List.getElem?_eq_none (by simp; omega), List.getElem?_eq_none (by rw [wof_len]; omega)]; rfl
  have hR : (List.range h2.1).map (fun i => (wof aC ad2 h2 ++ wof aC ad h)[i]?) = (wof aC ad2 h2).map some := by
    apply List.ext_getElem?
    intro k
    rw [List.getElem?_map, List.getElem?_map]
    by_cases hk : k < h2.1
    · rw [List.getElem?_range hk]
      show some ((wof aC ad2 h2 ++ wof aC ad h)[k]?) = _
      rw [List.getElem?_append_left (by rw [wof_len]; exact hk), wof_get hk]
      rfl
    · rw [List.getElem?_eq_none (by simp; omega), List.getElem?_eq_none (by rw [wof_len]; omega)]; rfl
  have hA : ∀ q, s.heap.size ≤ q → AL s q := fun q z => z
  have hF := va_free hD hS hA _ hC
  obtain ⟨p1, p2⟩ := va_join hP hD _ _ hC hR hnd (fun i hi hi2 => by
    obtain ⟨j, _, ej⟩ := List.mem_map.mp hi2
    have := List.mem_range.mp hi
    omega) hk hF hP1 hD1
  have hv' : v = r.map (mv ad') := by cases hv; rfl
  obtain ⟨t2, a1, b1⟩ := kk ad' T'.heap (locs ++ L) ⟨by rw [e1]; exact p1, p2, ⟨Nat.le_trans hS.1 (by rw [e1]; exact hz), fun q h1 h2 => by rw [e1, hk q (Nat.lt_of_lt_of_le h1 hS.1) (fun z => h2 (hF q z))]; exact hS.2.1 q h1 h2, fun q hq => by
      rcases List.mem_append.mp hq with z | z
      · exact hS.2.2 q z
      · exact hF _ (hL q z)⟩, hmx1, hok1, hmx2, hok2⟩ had1 hN1 T' rfl X'
  refine ⟨t2, st t2 ?_, b1⟩
  subst hv'
  have e9 : (r.map (mv ad')).toList = r.toList.map (mv ad') := by cases r <;> rfl
  rw [e9]
  exact a1
section LW
variable {p : Program} {l : Launch} {e : Env} {R : Room} {s : State} {m : MethodId} {args : Array Value} {below : List Frame} {meth : Method} {c : Code} {cc : ByteArray} {nL : Nat} {own : String} {D : va_G} {aC : Nat → ClassId} {y : MethodName} {bytes : ByteArray} {maxL : Nat} {ret : Option FieldType} {np fr lo mc ms x rc : Nat} {f : CF} {Q : State → Prop} {pc : Nat} {ls : Array Slot} {rest as : List Value} {h h' h2 : HP} {r : Option Value} {ad ad2 : Nat → Nat} {H : Heap} {locs : List Loc} {cells slots q : Nat}
theorem law_V (X : CTX p s m args c cc nL own D aC (AL s)) (hM : MetM l y bytes maxL ret fr lo mc ms f) (hy : MNO y bytes maxL ret np) (hin : Cond.instanceMethod y ∈ gdW ∧ Cond.selects y.cls y y ∈ gdW) (hrc : rc < 13 ∧ y.cls = clN rc) (hl : Cond.methodLink own x y ∈ gdW) (hR : fr + 1 ≤ R.frames ∧ 8 + (maxL + 11) + lo ≤ R.locals)
    (hlen : as.length = np) (hf : f (.ref q :: as) h = some (r, h')) (hd : decode cc pc = .ok (.invokevirtual x, 3)) (hsz : ls.size = nL) (hrest : (rest.map fun v => v.category).sum ≤ 8) (hc1 : cells + mc ≤ R.cells) (hs1 : slots + ms ≤ R.slots) (hJ : Jt D aC s ad h ad2 h2 H locs) (hnd : va_nd (List.range h2.1) = true) (hokA : okS h.1 (.ref q :: as)) (hkq : (h.2.1 q).1 = 10 + rc ∧ q < h.1)
    (kk : ∀ (ad' : Nat → Nat) (H' : Heap) (locs' : List Loc), Jt D aC s ad' h' ad2 h2 H' locs' → (∀ q, q < h.1 → ad' q = ad q) → h.1 ≤ h'.1 → W p l e R s m args below meth c H' locs' (cells + mc) (slots + ms) Q (F0 m (pc + 3) ls (r.toList.map (mv ad') ++ rest))) :
    W p l e R s m args below meth c H locs cells slots Q (F0 m pc ls ((as.map (mv ad)).reverse ++ .ref (ad q) :: rest)) := by
  obtain ⟨hx, hb, hml, hown, hC, hK, hA⟩ := X
  have hP := vP_r hJ.1
  have hD := vD_r hJ.2.1
  have hcw : CallW R s args own y.cls x y bytes maxL ret (.code y bytes maxL ret :: gdW) ({ frames := fr, cells := mc, slots := ms, locals := lo }) mc ms np :=
    ⟨callB_of np hC.1 (gdGood hy.1 (fun w z => z)) rfl rfl rfl (hC.1 _ hy.2.1) (hC.1 _ hl) hy.2.2.1 hR, hC.1 _ hin.1, hC.1 _ hin.2⟩
  have hrun := va_runV (S := ⟨hx, hb, hml, hown, hC.1⟩) (As := as.map (mv ad)) (rest := rest) (b := ad q) (g := F0 m pc ls ((as.map (mv ad)).reverse ++ .ref (ad q) :: rest)) (H := H) (locs := locs) (cells := cells) (slots := slots) (l := l) (e := e) (below := below) (meth := meth) (hM D aC ad h h' (.ref q :: as) r H.size hf hJ.2.2.2.2.1 hJ.2.2.2.1 hokA) hcw
    ⟨Pm.blind, by
      have hz := va_recv hK.1 hP (clsL hrc.1) (q0 := q) (a := ad q) (fs := (List.range (nfd rc)).map (fvv ad h q rc)) (by rw [wof_get hkq.2, cel_obj hkq.1])
      rw [← hrc.2] at hz
      exact hz, pm_pre hP hD hK⟩ rfl (by simpa using hlen) hsz rfl (room_rest hrest) hd ⟨hc1, hs1⟩
  exact run_two hrun hJ hnd kk
theorem law_I (X : CTX p s m args c cc nL own D aC (AL s)) (hM : MetM l y bytes maxL none fr lo mc ms f) (hy : MNO y bytes maxL none 0) (hin : Cond.instanceMethod y ∈ gdW ∧ y.name = "<init>") (hl : Cond.methodLink own x y ∈ gdW) (hR : fr + 1 ≤ R.frames ∧ 8 + (maxL + 11) + lo ≤ R.locals)
    (hf : f [.ref q] h = some (r, h')) (hd : decode cc pc = .ok (.invokespecial x, 3)) (hsz : ls.size = nL) (hrest : (rest.map fun v => v.category).sum ≤ 8) (hc1 : cells + mc ≤ R.cells) (hs1 : slots + ms ≤ R.slots) (hJ : Jt D aC s ad h ad2 h2 H locs) (hnd : va_nd (List.range h2.1) = true) (hokA : okS h.1 [.ref q])
    (kk : ∀ (ad' : Nat → Nat) (H' : Heap) (locs' : List Loc), Jt D aC s ad' h' ad2 h2 H' locs' → (∀ q, q < h.1 → ad' q = ad q) → h.1 ≤ h'.1 → W p l e R s m args below meth c H' locs' (cells + mc) (slots + ms) Q (F0 m (pc + 3) ls (r.toList.map (mv ad') ++ rest))) :
    W p l e R s m args below meth c H locs cells slots Q (F0 m pc ls (.ref (ad q) :: rest)) := by
  obtain ⟨hx, hb, hml, hown, hC, hK, hA⟩ := X
  have hP := vP_r hJ.1
  have hD := vD_r hJ.2.1
  have hrun := va_runI (S := ⟨hx, hb, hml, hown, hC.1⟩) (As := []) (rest := rest) (b := ad q) (g := F0 m pc ls (.ref (ad q) :: rest)) (H := H) (locs := locs) (cells := cells) (slots := slots) (l := l) (e := e) (below := below) (meth := meth) (hM D aC ad h h' [.ref q] r H.size hf hJ.2.2.2.2.1 hJ.2.2.2.1 hokA)
    ⟨callB_of 0 hC.1 (gdGood hy.1 (fun w z => z)) rfl rfl rfl (hC.1 _ hy.2.1) (hC.1 _ hl) hy.2.2.1 hR, hin.2, hC.1 _ hin.1⟩
    ⟨Pm.blind, pm_pre hP hD hK⟩ rfl rfl hsz rfl (room_rest hrest) hd ⟨hc1, hs1⟩
  exact run_two hrun hJ hnd kk
end LW
