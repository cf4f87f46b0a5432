/-! the small machine's heap and the machine's: what stands at a place -/
def mv (ad : Nat → Nat) : Value → Value
  | .ref p => .ref (ad p)
  | v => v
def rvv (ad : Nat → Nat) (r : Nat) : Value := if r = mNul then .null else .ref (ad r)
def rvo (ad : Nat → Nat) (r : Nat) : Option Nat := if r = mNul then none else some (ad r)
def fvv (ad : Nat → Nat) (h : HP) (p ci j : Nat) : Value := match ftyc (ftyT ci j) with
  | 0 => .int (h.2.2.1 p j)
  | 1 => .int (h.2.2.1 p j)
  | 2 => .long (h.2.2.2.1 p j)
  | _ => rvv ad (h.2.2.2.2 p j)
def cel (aC : Nat → ClassId) (ad : Nat → Nat) (h : HP) (p : Nat) : va_E := match (h.2.1 p).1 with
  | 0 => .inl (aC 0, (h.2.1 p).2, .inl (h.2.2.1 p))
  | 1 => .inl (aC 1, (h.2.1 p).2, .inl (h.2.2.1 p))
  | 2 => .inl (aC 2, (h.2.1 p).2, .inr (.inl (h.2.2.2.1 p)))
  | 3 => .inl (aC 3, (h.2.1 p).2, .inr (.inr (.inr (.inr (fun i => rvo ad (h.2.2.2.2 p i))))))
  | 4 => .inl (aC 4, (h.2.1 p).2, .inr (.inr (.inr (.inr (fun i => rvo ad (h.2.2.2.2 p i))))))
  | k => .inr (k - 10, (List.range (nfd (k - 10))).map (fvv ad h p (k - 10)))
def wof (aC : Nat → ClassId) (ad : Nat → Nat) (h : HP) : va_W := (List.range h.1).map (fun p => (ad p, cel aC ad h p))
theorem wof_get {aC : Nat → ClassId} {ad : Nat → Nat} {h : HP} {p : Nat} (hp : p < h.1) : (wof aC ad h)[p]? = some (ad p, cel aC ad h p) := by
  simp [wof, hp]
theorem wof_len {aC : Nat → ClassId} {ad : Nat → Nat} {h : HP} : (wof aC ad h).length = h.1 := by simp [wof]
theorem cel_congr {aC : Nat → ClassId} {ad ad' : Nat → Nat} {h h' : HP} {p : Nat} (h1 : h'.2.1 p = h.2.1 p) (h2 : h'.2.2.1 p = h.2.2.1 p) (h3 : h'.2.2.2.1 p = h.2.2.2.1 p) (h4 : h'.2.2.2.2 p = h.2.2.2.2 p) (h5 : ∀ j, h.2.2.2.2 p j = mNul ∨ ad' (h.2.2.2.2 p j) = ad (h.2.2.2.2 p j)) : cel aC ad' h' p = cel aC ad h p := by
  have e1 : ∀ j, rvv ad' (h'.2.2.2.2 p j) = rvv ad (h.2.2.2.2 p j) := fun j => by
    rw [h4]; unfold rvv
    split
    · rfl
    · rcases h5 j with q | q
      · contradiction
      · rw [q]
  have e2 : ∀ j, rvo ad' (h'.2.2.2.2 p j) = rvo ad (h.2.2.2.2 p j) := fun j => by
    rw [h4]; unfold rvo
    split
    · rfl
    · rcases h5 j with q | q
      · contradiction
      · rw [q]
  have e3 : ∀ ci, fvv ad' h' p ci = fvv ad h p ci := fun ci => by
    funext j
    unfold fvv
    rw [h2, h3, e1]
  unfold cel
  simp only [h1, h2, h3, e2, e3]
theorem wof_set {aC : Nat → ClassId} {ad : Nat → Nat} {h h' : HP} {p : Nat} {E : va_E} (hn : h'.1 = h.1) (hp : cel aC ad h' p = E) (ho : ∀ q, q ≠ p → cel aC ad h' q = cel aC ad h q) : (wof aC ad h).set p (ad p, E) = wof aC ad h' := by
  apply List.ext_getElem?
  intro k
  rw [List.getElem?_set]
  by_cases hk : p = k
  · subst hk
    rw [if_pos rfl]
    by_cases hl : p < h.1
    · rw [if_pos (by rw [wof_len]; exact hl), wof_get (by rw [hn]; exact hl), hp]
    · rw [if_neg (by rw [wof_len]; exact hl)]
      symm
      apply List.getElem?_eq_none
      rw [wof_len, hn]; omega
  · rw [if_neg hk]
    by_cases hl : k < h.1
    · rw [wof_get hl, wof_get (by rw [hn]; exact hl), ho k (fun q => hk q.symm)]
    · rw [List.getElem?_eq_none (by rw [wof_len]; omega), List.getElem?_eq_none (by rw [wof_len, hn]; omega)]
theorem up2_ne {α : Type} {f : Nat → Nat → α} {p k : Nat} {x : α} {q : Nat} (h : q ≠ p) : up2 f p k x q = f q := by unfold up2; rw [if_neg h]
theorem up2_eq {α : Type} {f : Nat → Nat → α} {p k : Nat} {x : α} : up2 f p k x p = up1 (f p) k x := by unfold up2; rw [if_pos rfl]
theorem up1_ne {α : Type} {f : Nat → α} {p : Nat} {x : α} {q : Nat} (h : q ≠ p) : up1 f p x q = f q := by unfold up1; rw [if_neg h]
theorem up1_eq {α : Type} {f : Nat → α} {p : Nat} {x : α} : up1 f p x p = x := by unfold up1; rw [if_pos rfl]
theorem cel_hI {aC : Nat → ClassId} {ad : Nat → Nat} {h : HP} {p k : Nat} {x : Int32} {q : Nat} (hq : q ≠ p) : cel aC ad (hI h p k x) q = cel aC ad h q := cel_congr rfl (up2_ne hq) rfl rfl (fun _ => Or.inr rfl)
theorem cel_hJ {aC : Nat → ClassId} {ad : Nat → Nat} {h : HP} {p k : Nat} {x : Int64} {q : Nat} (hq : q ≠ p) : cel aC ad (hJ h p k x) q = cel aC ad h q := cel_congr rfl rfl (up2_ne hq) rfl (fun _ => Or.inr rfl)
theorem cel_hR {aC : Nat → ClassId} {ad : Nat → Nat} {h : HP} {p k : Nat} {x : Nat} {q : Nat} (hq : q ≠ p) : cel aC ad (hR h p k x) q = cel aC ad h q := by
  have e : (hR h p k x).2.2.2.2 q = h.2.2.2.2 q := up2_ne hq
  exact cel_congr rfl rfl rfl e (fun _ => Or.inr rfl)
/-- what a class number says -/
theorem cel_obj {aC : Nat → ClassId} {ad : Nat → Nat} {h : HP} {p ci : Nat} (hk : (h.2.1 p).1 = 10 + ci) : cel aC ad h p = .inr (ci, (List.range (nfd ci)).map (fvv ad h p ci)) := by
  unfold cel
  rw [hk]
  have e : 10 + ci = (ci + 5) + 5 := by omega
  rw [e]
  show Sum.inr ((ci + 5) + 5 - 10, _) = _
  have e2 : (ci + 5) + 5 - 10 = ci := by omega
  rw [e2]
theorem cel_0 {aC : Nat → ClassId} {ad : Nat → Nat} {h : HP} {p : Nat} (hk : (h.2.1 p).1 = 0) : cel aC ad h p = .inl (aC 0, (h.2.1 p).2, .inl (h.2.2.1 p)) := by unfold cel; rw [hk]; rfl
theorem cel_1 {aC : Nat → ClassId} {ad : Nat → Nat} {h : HP} {p : Nat} (hk : (h.2.1 p).1 = 1) : cel aC ad h p = .inl (aC 1, (h.2.1 p).2, .inl (h.2.2.1 p)) := by unfold cel; rw [hk]; rfl
theorem cel_2 {aC : Nat → ClassId} {ad : Nat → Nat} {h : HP} {p : Nat} (hk : (h.2.1 p).1 = 2) : cel aC ad h p = .inl (aC 2, (h.2.1 p).2, .inr (.inl (h.2.2.2.1 p))) := by unfold cel; rw [hk]; rfl
theorem cel_3 {aC : Nat → ClassId} {ad : Nat → Nat} {h : HP} {p : Nat} (hk : (h.2.1 p).1 = 3) : cel aC ad h p = .inl (aC 3, (h.2.1 p).2, .inr (.inr (.inr (.inr (fun i => rvo ad (h.2.2.2.2 p i)))))) := by unfold cel; rw [hk]; rfl
theorem cel_4 {aC : Nat → ClassId} {ad : Nat → Nat} {h : HP} {p : Nat} (hk : (h.2.1 p).1 = 4) : cel aC ad h p = .inl (aC 4, (h.2.1 p).2, .inr (.inr (.inr (.inr (fun i => rvo ad (h.2.2.2.2 p i)))))) := by unfold cel; rw [hk]; rfl
theorem map_set_range {α : Type} {n j : Nat} {f g : Nat → α} {v : α} (hj : g j = v) (ho : ∀ i, i ≠ j → g i = f i) : ((List.range n).map f).set j v = (List.range n).map g := by
  apply List.ext_getElem?
  intro k
  rw [List.getElem?_set]
  by_cases hk : j = k
  · subst hk
    rw [if_pos rfl]
    by_cases hl : j < n
    · rw [if_pos (by simp; exact hl)]; simp [hl, hj]
    · rw [if_neg (by simp; omega)]; symm; apply List.getElem?_eq_none; simp; omega
  · rw [if_neg hk]
    by_cases hl : k < n
    · simp [hl, ho k (fun q => hk q.symm)]
    · rw [List.getElem?_eq_none (by simp; omega), List.getElem?_eq_none (by simp; omega)]
theorem fvv_ne {ad : Nat → Nat} {h h' : HP} {p ci j i : Nat} (h1 : h'.2.2.1 p i = h.2.2.1 p i) (h2 : h'.2.2.2.1 p i = h.2.2.2.1 p i) (h3 : h'.2.2.2.2 p i = h.2.2.2.2 p i) : fvv ad h' p ci i = fvv ad h p ci i := by
  unfold fvv; rw [h1, h2, h3]
/-- the values a heap holds are places that there are -/
def okv (n : Nat) : Value → Prop
  | .ref p => p < n
  | _ => True
def okS (n : Nat) (st : List Value) : Prop := ∀ v ∈ st, okv n v
def okH (h : HP) : Prop := ∀ p j, h.2.2.2.2 p j = mNul ∨ h.2.2.2.2 p j < h.1
theorem okS.nil {n : Nat} : okS n [] := fun _ h => absurd h List.not_mem_nil
theorem okS.cons {n : Nat} {v : Value} {st : List Value} (h : okv n v) (hs : okS n st) : okS n (v :: st) := fun w hw => (List.mem_cons.mp hw).elim (fun e => e ▸ h) (hs w)
theorem okS.hd {n : Nat} {v : Value} {st : List Value} (h : okS n (v :: st)) : okv n v := h v List.mem_cons_self
theorem okS.tl {n : Nat} {v : Value} {st : List Value} (h : okS n (v :: st)) : okS n st := fun w hw => h w (List.mem_cons_of_mem _ hw)
theorem okv.up {n n' : Nat} (hn : n ≤ n') {v : Value} (h : okv n v) : okv n' v := by
  cases v <;> first | trivial | exact Nat.lt_of_lt_of_le h hn
theorem okS.up {n n' : Nat} (hn : n ≤ n') {st : List Value} (h : okS n st) : okS n' st := fun v hv => (h v hv).up hn
theorem mv_congr {ad ad' : Nat → Nat} {n : Nat} (ha : ∀ p, p < n → ad' p = ad p) {v : Value} (h : okv n v) : mv ad' v = mv ad v := by
  cases v <;> first | rfl | (show Value.ref _ = Value.ref _; rw [ha _ h])
theorem mvs_congr {ad ad' : Nat → Nat} {n : Nat} (ha : ∀ p, p < n → ad' p = ad p) {st : List Value} (h : okS n st) : st.map (mv ad') = st.map (mv ad) := List.map_congr_left fun v hv => mv_congr ha (h v hv)
theorem mv_cat {ad : Nat → Nat} {v : Value} : (mv ad v).category = v.category := by cases v <;> rfl
/-- a new cell -/
theorem wof_alc {aC : Nat → ClassId} {ad : Nat → Nat} {h : HP} {kd n q : Nat} {E : va_E} (hok : okH h) (hE : cel aC (up1 ad h.1 q) (alc h kd n) h.1 = E) : wof aC ad h ++ [(q, E)] = wof aC (up1 ad h.1 q) (alc h kd n) := by
  have e : wof aC (up1 ad h.1 q) (alc h kd n) = (List.range h.1).map (fun p => (up1 ad h.1 q p, cel aC (up1 ad h.1 q) (alc h kd n) p)) ++ [(up1 ad h.1 q h.1, cel aC (up1 ad h.1 q) (alc h kd n) h.1)] := by
    show List.map _ (List.range (h.1 + 1)) = _
    rw [List.range_succ, List.map_append]
    rfl
  rw [e, hE, up1_eq]
  congr 1
  unfold wof
  apply List.map_congr_left
  intro p hp
  have hlt : p < h.1 := List.mem_range.mp hp
  have hne : p ≠ h.1 := by omega
  have e1 : cel aC (up1 ad h.1 q) (alc h kd n) p = cel aC ad h p := by
    refine cel_congr (up1_ne hne) (up1_ne hne) (up1_ne hne) (up1_ne hne) fun j => ?_
    rcases hok p j with z | z
    · exact Or.inl z
    · exact Or.inr (up1_ne (by omega))
  rw [e1, up1_ne hne]
theorem okH.alc {h : HP} {kd n : Nat} (hok : okH h) : okH (alc h kd n) := by
  intro p j
  show up1 h.2.2.2.2 h.1 (fun _ => mNul) p j = mNul ∨ up1 h.2.2.2.2 h.1 (fun _ => mNul) p j < h.1 + 1
  by_cases hp : p = h.1
  · subst hp; rw [up1_eq]; exact Or.inl rfl
  · rw [up1_ne hp]
    rcases hok p j with z | z
    · exact Or.inl z
    · exact Or.inr (by omega)
theorem okH.hI {h : HP} {p k : Nat} {x : Int32} (hok : okH h) : okH (hI h p k x) := hok
theorem okH.hJ {h : HP} {p k : Nat} {x : Int64} (hok : okH h) : okH (hJ h p k x) := hok
theorem okH.hR {h : HP} {p k : Nat} {x : Nat} (hok : okH h) (hx : x < h.1) : okH (hR h p k x) := by
  intro q j
  show up2 h.2.2.2.2 p k x q j = mNul ∨ up2 h.2.2.2.2 p k x q j < h.1
  by_cases hq : q = p
  · subst hq
    rw [up2_eq]
    by_cases hj : j = k
    · subst hj; rw [up1_eq]; exact Or.inr hx
    · rw [up1_ne hj]; exact hok q j
  · rw [up2_ne hq]; exact hok q j
/-! locals -/
def lv1 (ad : Nat → Nat) (i : Nat) : Option Value → Option (Nat × Value)
  | some Value.null => none
  | some v => some (i, mv ad v)
  | none => none
theorem lv1_some {ad : Nat → Nat} {i : Nat} {v : Value} (h : v ≠ .null) : lv1 ad i (some v) = some (i, mv ad v) := by
  cases v <;> first | rfl | exact absurd rfl h
def lvl (ad : Nat → Nat) (vs : List Value) : List (Nat × Value) := (List.range vs.length).filterMap (fun i => lv1 ad i vs[i]?)
theorem lvl_mem {ad : Nat → Nat} {vs : List Value} {q : Nat × Value} : q ∈ lvl ad vs ↔ ∃ v, vs[q.1]? = some v ∧ v ≠ .null ∧ q.2 = mv ad v := by
  unfold lvl
  rw [List.mem_filterMap]
  constructor
  · rintro ⟨i, hi, h⟩
    cases hv : vs[i]? with
    | none => rw [hv] at h; cases h
    | some v =>
      rw [hv] at h
      by_cases hn : v = .null
      · subst hn; cases h
      · rw [lv1_some hn] at h
        cases h
        exact ⟨v, hv, hn, rfl⟩
  · rintro ⟨v, h1, h2, h3⟩
    refine ⟨q.1, List.mem_range.mpr (List.getElem?_eq_some_iff.mp h1).1, ?_⟩
    rw [h1, lv1_some h2, ← h3]
def LV (ad : Nat → Nat) (ls : Array Slot) (nL : Nat) (vs : List Value) : Prop := lv_has ls nL (lvl ad vs) ∧ vs.length = nL
theorem LV.at {ad : Nat → Nat} {ls : Array Slot} {nL : Nat} {vs : List Value} (h : LV ad ls nL vs) {i : Nat} {v : Value} (hv : vs[i]? = some v) (hn : v ≠ .null) : ls[i]? = some (.val (mv ad v)) := h.1.2.2 (i, mv ad v) (lvl_mem.mpr ⟨v, hv, hn, rfl⟩)
theorem LV.congr {ad ad' : Nat → Nat} {ls : Array Slot} {nL n : Nat} {vs : List Value} (ha : ∀ p, p < n → ad' p = ad p) (ho : okS n vs) (h : LV ad ls nL vs) : LV ad' ls nL vs := by
  refine ⟨⟨h.1.1, h.1.2.1, fun q hq => ?_⟩, h.2⟩
  obtain ⟨v, h1, h2, h3⟩ := lvl_mem.mp hq
  rw [h3, mv_congr ha (ho v (List.mem_of_getElem? h1))]
  exact h.at h1 h2
theorem kill_len {ls : List Value} {i : Nat} : (kill ls i).length = ls.length := by
  cases i with
  | zero => rfl
  | succ j =>
    show (killv ls j ls[j]?).length = _
    cases ls[j]? with
    | none => rfl
    | some v =>
      show (bif Nat.beq v.category 2 then ls.set j .null else ls).length = _
      cases Nat.beq v.category 2
      · rfl
      · exact List.length_set
theorem kill_get {ls : List Value} {i k : Nat} {v : Value} (h : (kill ls i)[k]? = some v) (hn : v ≠ .null) : ls[k]? = some v ∧ ¬ (k + 1 = i ∧ v.category = 2) := by
  cases i with
  | zero => exact ⟨h, fun q => by omega⟩
  | succ j =>
    replace h : (killv ls j ls[j]?)[k]? = some v := h
    cases hv : ls[j]? with
    | none =>
      rw [hv] at h
      replace h : ls[k]? = some v := h
      refine ⟨h, fun q => ?_⟩
      have : k = j := by omega
      subst this
      rw [h] at hv
      cases hv
    | some w =>
      rw [hv] at h
      replace h : (bif Nat.beq w.category 2 then ls.set j .null else ls)[k]? = some v := h
      cases hb : Nat.beq w.category 2 with
      | false =>
        rw [hb] at h
        replace h : ls[k]? = some v := h
        refine ⟨h, fun q => ?_⟩
        have : k = j := by omega
        subst this
        rw [h] at hv; cases hv
        rw [q.2] at hb; cases hb
      | true =>
        rw [hb] at h
        replace h : (ls.set j .null)[k]? = some v := h
        rw [List.getElem?_set] at h
        by_cases hk : j = k
        · rw [if_pos hk] at h
          by_cases hl : j < ls.length
          · rw [if_pos hl] at h; cases h; exact absurd rfl hn
          · rw [if_neg hl] at h; cases h
        · rw [if_neg hk] at h
          exact ⟨h, fun q => by omega⟩
theorem kill_ok {n : Nat} {ls : List Value} {i : Nat} (h : okS n ls) : okS n (kill ls i) := by
  intro v hv
  by_cases hn : v = .null
  · subst hn; trivial
  · obtain ⟨k, hk⟩ := List.getElem?_of_mem hv
    exact h v (List.mem_of_getElem? (kill_get hk hn).1)
theorem set_ok {n : Nat} {ls : List Value} {i : Nat} {x : Value} (h : okS n ls) (hx : okv n x) : okS n (ls.set i x) := by
  intro v hv
  rcases List.mem_or_eq_of_mem_set hv with q | q
  · exact h v q
  · subst q; exact hx
theorem LV.st1 {ad : Nat → Nat} {ls' : Array Slot} {nL : Nat} {vs : List Value} {i : Nat} {x : Value} (hlen : vs.length = nL) (hi : i < nL) (h : lv_has ls' nL ((i, mv ad x) :: (lvl ad vs).filter (fun q => !(q.1 == i) && !(q.1 + 1 == i && q.2.category == 2)))) : LV ad ls' nL ((kill vs i).set i x) := by
  refine ⟨⟨h.1, h.2.1, fun q hq => ?_⟩, by rw [List.length_set, kill_len]; exact hlen⟩
  obtain ⟨v, h1, h2, h3⟩ := lvl_mem.mp hq
  apply h.2.2
  rw [List.getElem?_set] at h1
  by_cases hk : i = q.1
  · rw [if_pos hk] at h1
    rw [if_pos (by rw [kill_len, hlen]; exact hi)] at h1
    cases h1
    refine List.mem_cons.mpr (Or.inl ?_)
    rw [hk, ← h3]
  · rw [if_neg hk] at h1
    obtain ⟨g1, g2⟩ := kill_get h1 h2
    refine List.mem_cons.mpr (Or.inr (List.mem_filter.mpr ⟨lvl_mem.mpr ⟨v, g1, h2, h3⟩, ?_⟩))
    rw [h3, mv_cat]
    have e1 : (q.1 == i) = false := by simp; exact fun z => hk z.symm
    rw [e1]
    cases e2 : (q.1 + 1 == i && v.category == 2) with
    | false => rfl
    | true =>
      simp only [Bool.and_eq_true, beq_iff_eq] at e2
      exact absurd e2 g2
theorem LV.st2 {ad : Nat → Nat} {ls' : Array Slot} {nL : Nat} {vs : List Value} {i : Nat} {x : Value} (hlen : vs.length = nL) (hi : i + 1 < nL) (h : lv_has ls' nL ((i, mv ad x) :: (lvl ad vs).filter (fun q => !(q.1 == i) && (!(q.1 == i + 1) && !(q.1 + 1 == i && q.2.category == 2))))) : LV ad ls' nL (((kill vs i).set i x).set (i + 1) .null) := by
  refine ⟨⟨h.1, h.2.1, fun q hq => ?_⟩, by rw [List.length_set, List.length_set, kill_len]; exact hlen⟩
  obtain ⟨v, h1, h2, h3⟩ := lvl_mem.mp hq
  apply h.2.2
  rw [List.getElem?_set] at h1
  by_cases hk1 : i + 1 = q.1
  · rw [if_pos hk1] at h1
    rw [if_pos (by rw [List.length_set, kill_len, hlen]; exact hi)] at h1
    cases h1
    exact absurd rfl h2
  rw [if_neg hk1, List.getElem?_set] at h1
  by_cases hk : i = q.1
  · rw [if_pos hk] at h1
    rw [if_pos (by rw [kill_len, hlen]; omega)] at h1
    cases h1
    refine List.mem_cons.mpr (Or.inl ?_)
    rw [hk, ← h3]
  · rw [if_neg hk] at h1
    obtain ⟨g1, g2⟩ := kill_get h1 h2
    refine List.mem_cons.mpr (Or.inr (List.mem_filter.mpr ⟨lvl_mem.mpr ⟨v, g1, h2, h3⟩, ?_⟩))
    rw [h3, mv_cat]
    have e1 : (q.1 == i) = false := by simp; exact fun z => hk z.symm
    have e3 : (q.1 == i + 1) = false := by simp; exact fun z => hk1 z.symm
    rw [e1, e3]
    cases e2 : (q.1 + 1 == i && v.category == 2) with
    | false => rfl
    | true =>
      simp only [Bool.and_eq_true, beq_iff_eq] at e2
      exact absurd e2 g2
theorem msk_len : ∀ {ks : List Nat} {ls : List Value}, (msk ks ls).length = ls.length := by
  intro ks
  induction ks with
  | nil => intro ls; rfl
  | cons k r ih => intro ls; show (msk r (ls.set k .null)).length = _; rw [ih, List.length_set]
theorem msk_get : ∀ {ks : List Nat} {ls : List Value} {i : Nat} {v : Value}, (msk ks ls)[i]? = some v → v ≠ .null → ls[i]? = some v := by
  intro ks
  induction ks with
  | nil => intro ls i v h _; exact h
  | cons k r ih =>
    intro ls i v h hn
    have h1 := ih (ls := ls.set k .null) h hn
    rw [List.getElem?_set] at h1
    by_cases hk : k = i
    · rw [if_pos hk] at h1
      by_cases hl : k < ls.length
      · rw [if_pos hl] at h1; cases h1; exact absurd rfl hn
      · rw [if_neg hl] at h1; cases h1
    · rw [if_neg hk] at h1; exact h1
theorem mko_len {o : Option (List Nat)} {ls : List Value} : (mko o ls).length = ls.length := by
  cases o with
  | none => rfl
  | some ks => exact msk_len
theorem mko_get {o : Option (List Nat)} {ls : List Value} {i : Nat} {v : Value} (h : (mko o ls)[i]? = some v) (hn : v ≠ .null) : ls[i]? = some v := by
  cases o with
  | none => exact h
  | some ks => exact msk_get h hn
theorem mko_ok {n : Nat} {o : Option (List Nat)} {ls : List Value} (h : okS n ls) : okS n (mko o ls) := by
  intro v hv
  by_cases hn : v = .null
  · subst hn; trivial
  · obtain ⟨k, hk⟩ := List.getElem?_of_mem hv
    exact h v (List.mem_of_getElem? (mko_get hk hn))
theorem LV.mko {ad : Nat → Nat} {ls : Array Slot} {nL : Nat} {vs : List Value} {o : Option (List Nat)} (h : LV ad ls nL vs) : LV ad ls nL (mko o vs) := by
  refine ⟨⟨h.1.1, h.1.2.1, fun q hq => ?_⟩, by rw [mko_len]; exact h.2⟩
  obtain ⟨v, h1, h2, h3⟩ := lvl_mem.mp hq
  rw [h3]
  exact h.at (mko_get h1 h2) h2
