/-! contracts out of meanings -/
theorem lkp_mem {α : Type} {k : Nat} {a : α} : ∀ {l : List (Nat × α)}, lkp k l = some a → (k, a) ∈ l := by
  intro l
  induction l with
  | nil => intro h; cases h
  | cons q r ih =>
    obtain ⟨q, b⟩ := q
    intro h
    unfold lkp at h
    cases hq : Nat.beq k q with
    | true =>
      rw [hq] at h
      have e : k = q := Nat.eq_of_beq_eq_true hq
      cases h
      rw [e]
      exact List.mem_cons_self
    | false => rw [hq] at h; exact List.mem_cons_of_mem _ (ih h)
theorem gd_of {i : Nat} {w : Cond} (h : lw_tbl[i]? = some w) (hg : goodWord w = true) : w ∈ gdW := List.mem_filter.mpr ⟨List.mem_of_getElem? h, hg⟩
theorem ns_of {i : Nat} {w : Cond} (h : lw_tbl[i]? = some w) (hg : nst w = true) : w ∈ nsW := List.mem_filter.mpr ⟨List.mem_of_getElem? h, hg⟩
def fchk (own : String) : List (Nat × Nat × Nat) → List Nat → Bool
  | [], _ => true
  | (x, ci, j) :: r, i :: is => decide (ci < 13) && (decide (lw_tbl[i]? = some (.fieldLink own x (clT ci j).1 (clT ci j).2.1 (clT ci j).2.2.1)) || decide (lw_tbl[i]? = some (.fieldLinkNest own x (clT ci j).1 (clT ci j).2.1 (clT ci j).2.2.1 RX11))) && fchk own r is
  | _ :: _, [] => false
def pchk (own : String) (ini : Bool) (fl : List (Nat × Nat × Nat)) (pf : List (Nat × Nat)) : List (Nat × Instr × Nat × List Nat) → Bool
  | [] => true
  | (_, .putfield x, _) :: r => (match lkp x fl with
      | some (ci, j) => (!(clT ci j).2.2.2) || (ini && decide ((clT ci j).1 = own) && (match lkp x pf with
        | some i => decide (lw_tbl[i]? = some (.fieldLink own x (clT ci j).1 (clT ci j).2.1 (clT ci j).2.2.1))
        | none => false))
      | none => true) && pchk own ini fl pf r
  | _ :: r => pchk own ini fl pf r
def kchk (own : String) : List (Nat × Value) → List Nat → Bool
  | [], _ => true
  | (x, .int v) :: r, i :: is => decide (lw_tbl[i]? = some (.constant own x v)) && kchk own r is
  | (x, .long v) :: r, i :: is => decide (lw_tbl[i]? = some (.constantLong own x v)) && kchk own r is
  | _ :: _, _ => false
def nchk (own : String) : List (Nat × Nat) → List Nat → Bool
  | [], _ => true
  | (x, ci) :: r, i :: is => decide (ci < 13) && decide (lw_tbl[i]? = some (.classLink own x (clN ci))) && nchk own r is
  | _ :: _, [] => false
def dchk (cc : ByteArray) (l : List (Nat × Instr × Nat × List Nat)) : Prop := ∀ q ∈ l, decode cc q.1 = .ok (q.2.1, q.2.2.1 - q.1) ∧ lenOk q.2.1 (q.2.2.1 - q.1) = true ∧ q.1 ≤ q.2.2.1 ∧ tgOk q.1 q.2.1 q.2.2.2 = true
theorem fchk_ok {own : String} {args : Array Value} {s : State} (hg : ∀ w ∈ gdW, w.before args s = true) (hn : ∀ w ∈ nsW, va_Nw w s) : ∀ {l : List (Nat × Nat × Nat)} {is : List Nat}, fchk own l is = true → ∀ x ci j, (x, ci, j) ∈ l → ci < 13 ∧ FOK own args s x ci j := by
  intro l
  induction l with
  | nil => intro is _ x ci j h; cases h
  | cons q r ih =>
    obtain ⟨x0, ci0, j0⟩ := q
    intro is h x ci j hm
    cases is with
    | nil => cases h
    | cons i is =>
      unfold fchk at h
      simp only [Bool.and_eq_true, Bool.or_eq_true, decide_eq_true_eq] at h
      rcases List.mem_cons.mp hm with z | z
      · cases z
        refine ⟨h.1.1, ?_⟩
        rcases h.1.2 with w | w
        · exact Or.inl (hg _ (gd_of w rfl))
        · exact Or.inr ⟨_, va_Nw.use rfl (hn _ (ns_of w rfl))⟩
      · exact ih h.2 x ci j z
theorem pchk_ok {own : String} {ini : Bool} {meth : Method} {args : Array Value} {s : State} {fl : List (Nat × Nat × Nat)} {pf : List (Nat × Nat)} (hg : ∀ w ∈ gdW, w.before args s = true) (hin : ini = true → meth.name = "<init>") (hfo : ∀ x ci j, (x, ci, j) ∈ fl → ci < 13 ∧ FOK own args s x ci j) : ∀ {l : List (Nat × Instr × Nat × List Nat)}, pchk own ini fl pf l = true → ∀ pc x n ci j, (pc, Instr.putfield x, n) ∈ l → lkp x fl = some (ci, j) → PFK own meth args s x ci j := by
  intro l
  induction l with
  | nil => intro _ pc x n ci j h; cases h
  | cons q r ih =>
    intro h pc x n ci j hm hl
    rcases List.mem_cons.mp hm with z | z
    · subst z
      unfold pchk at h
      rw [hl] at h
      simp only [Bool.and_eq_true, Bool.or_eq_true, Bool.not_eq_true', decide_eq_true_eq] at h
      rcases h.1 with w | w
      · exact Or.inl ⟨w, (hfo x ci j (lkp_mem hl)).2⟩
      · cases hp : lkp x pf with
        | none => rw [hp] at w; cases w.2
        | some i =>
          rw [hp] at w
          simp only [decide_eq_true_eq] at w
          cases hf : (clT ci j).2.2.2 with
          | false => exact Or.inl ⟨hf, (hfo x ci j (lkp_mem hl)).2⟩
          | true => exact Or.inr ⟨hf, hin w.1.1, w.1.2, hg _ (gd_of w.2 rfl)⟩
    · refine ih ?_ pc x n ci j z hl
      obtain ⟨q1, q2, q3⟩ := q
      cases q2 <;> first | exact h | (unfold pchk at h; simp only [Bool.and_eq_true] at h; exact h.2)
theorem kchk_ok {own : String} {args : Array Value} {s : State} (hg : ∀ w ∈ gdW, w.before args s = true) : ∀ {l : List (Nat × Value)} {is : List Nat}, kchk own l is = true → (∀ x v, (x, Value.int v) ∈ l → (Cond.constant own x v).before args s = true) ∧ (∀ x v, (x, Value.long v) ∈ l → (Cond.constantLong own x v).before args s = true) := by
  intro l
  induction l with
  | nil => intro is _; exact ⟨fun x v h => absurd h List.not_mem_nil, fun x v h => absurd h List.not_mem_nil⟩
  | cons q r ih =>
    obtain ⟨x0, v0⟩ := q
    intro is h
    cases is with
    | nil => cases v0 <;> cases h
    | cons i is =>
      cases v0 with
      | int v0 =>
        unfold kchk at h
        simp only [Bool.and_eq_true, decide_eq_true_eq] at h
        obtain ⟨h1, h2⟩ := ih h.2
        refine ⟨fun x v hm => ?_, fun x v hm => ?_⟩
        · rcases List.mem_cons.mp hm with z | z
          · cases z; exact hg _ (gd_of h.1 rfl)
          · exact h1 x v z
        · rcases List.mem_cons.mp hm with z | z
          · cases z
          · exact h2 x v z
      | long v0 =>
        unfold kchk at h
        simp only [Bool.and_eq_true, decide_eq_true_eq] at h
        obtain ⟨h1, h2⟩ := ih h.2
        refine ⟨fun x v hm => ?_, fun x v hm => ?_⟩
        · rcases List.mem_cons.mp hm with z | z
          · cases z
          · exact h1 x v z
        · rcases List.mem_cons.mp hm with z | z
          · cases z; exact hg _ (gd_of h.1 rfl)
          · exact h2 x v z
      | _ => cases h
theorem nchk_ok {own : String} {args : Array Value} {s : State} (hg : ∀ w ∈ gdW, w.before args s = true) : ∀ {l : List (Nat × Nat)} {is : List Nat}, nchk own l is = true → ∀ x ci, (x, ci) ∈ l → ci < 13 ∧ (Cond.classLink own x (clN ci)).before args s = true := by
  intro l
  induction l with
  | nil => intro is _ x ci h; cases h
  | cons q r ih =>
    obtain ⟨x0, ci0⟩ := q
    intro is h x ci hm
    cases is with
    | nil => cases h
    | cons i is =>
      unfold nchk at h
      simp only [Bool.and_eq_true, decide_eq_true_eq] at h
      rcases List.mem_cons.mp hm with z | z
      · cases z
        exact ⟨h.1.1, hg _ (gd_of h.1.2 rfl)⟩
      · exact ih h.2 x ci z
/-- all that a method's data must show -/
def MCK (own : String) (cc : ByteArray) (M : MI) (ini : Bool) : Prop := dchk cc M.1 ∧ ∃ ps pf pk pn, fchk own M.2.1 ps = true ∧ pchk own ini M.2.1 pf M.1 = true ∧ kchk own M.2.2.1 pk = true ∧ nchk own M.2.2.2.2.1 pn = true
theorem mok_of {own : String} {cc : ByteArray} {M : MI} {ini : Bool} (h : MCK own cc M ini) {meth : Method} {args : Array Value} {s : State} (hg : ∀ w ∈ gdW, w.before args s = true) (hn : ∀ w ∈ nsW, va_Nw w s) (hin : ini = true → meth.name = "<init>") : MOK own cc M meth args s := by
  obtain ⟨h1, ps, pf, pk, pn, h2, h3, h4, h5⟩ := h
  refine ⟨fun pc i nx tg hl => ⟨nx - pc, (h1 (pc, i, nx, tg) (lkp_mem hl)).1, (h1 (pc, i, nx, tg) (lkp_mem hl)).2.1, by have hle : pc ≤ nx := (h1 (pc, i, nx, tg) (lkp_mem hl)).2.2.1; omega, (h1 (pc, i, nx, tg) (lkp_mem hl)).2.2.2⟩, fun x ci j hl => fchk_ok hg hn h2 x ci j (lkp_mem hl), fun pc x n ci j hl hl2 => pchk_ok hg hin (fchk_ok hg hn h2) h3 pc x n ci j (lkp_mem hl) hl2, fun x v hl => (kchk_ok hg h4).1 x v (lkp_mem hl), fun x v hl => (kchk_ok hg h4).2 x v (lkp_mem hl), fun x ci hl => nchk_ok hg h5 x ci (lkp_mem hl)⟩
/-- a method's contract: whatever its meaning answers -/
def Pm (D : va_G) (aC : Nat → ClassId) (ad : Nat → Nat) (h : HP) (As : List Value) (sz : Nat) : Array Value → State → Prop := va_Pc (As.map (mv ad)) (fun U => U.heap.size = sz ∧ va_P D vwCl (wof aC ad h) U.heap ∧ KS D aC U ∧ va_D (fun _ => True) (wof aC ad h))
theorem Pm.blind {D : va_G} {aC : Nat → ClassId} {ad : Nat → Nat} {h : HP} {As : List Value} {sz : Nat} : FrameBlind (Pm D aC ad h As sz) := by
  intro a U g mk q
  obtain ⟨q0, q1, qP, qK, qD⟩ := q
  exact ⟨q0, q1, qP, KS.same (u := U) (U := U.calling g mk a) rfl qK, qD⟩
def MetM (l : Launch) (y : MethodName) (cc : ByteArray) (maxL : Nat) (ret : Option FieldType) (fr lo mc ms : Nat) (f : CF) : Prop :=
  ∀ (D : va_G) (aC : Nat → ClassId) (ad : Nat → Nat) (h h' : HP) (As : List Value) (r : Option Value) (sz : Nat), f As h = some (r, h') → okH h → h.1 ≤ mNul → okS h.1 As →
    Met l y (.code y cc maxL ret :: gdW) ({ frames := fr, cells := mc, slots := ms, locals := lo }) (Pm D aC ad h As sz) (Qm D aC (va_A (wof aC ad h) sz) ad h.1 r h') mc ms (va_A (wof aC ad h) sz)
def CTX (p : Program) (s : State) (m : MethodId) (args : Array Value) (c : Code) (cc : ByteArray) (nL : Nat) (own : String) (D : va_G) (aC : Nat → ClassId) (A : Nat → Prop) : Prop := p.tables.exec = Jvm.exec ∧ c.code = cc ∧ c.maxLocals = nL ∧ s.vm.findClass own = some m.cls ∧ COK args s ∧ KS D aC s ∧ (∀ q, s.heap.size ≤ q → A q)
def CLKk (p : Program) (l : Launch) (e : Env) (R : Room) (s : State) (m : MethodId) (args : Array Value) (below : List Frame) (meth : Method) (c : Code) (cc : ByteArray) (nL : Nat) (D : va_G) (aC : Nat → ClassId) (A : Nat → Prop) (ad0 : Nat → Nat) (N0 : Nat) (q : Nat × Nat × Nat × Nat × Nat × CF) : Prop := match q.1 % 4 with
  | 0 => CLK p l e R s m args below meth c cc nL D aC A ad0 N0 (.invokevirtual (q.1 / 4)) q.2.1 (some q.2.2.1) q.2.2.2.1 q.2.2.2.2.1 q.2.2.2.2.2
  | 1 => CLK p l e R s m args below meth c cc nL D aC A ad0 N0 (.invokespecial (q.1 / 4)) q.2.1 (some 99) q.2.2.2.1 q.2.2.2.2.1 q.2.2.2.2.2
  | _ => CLK p l e R s m args below meth c cc nL D aC A ad0 N0 (.invokestatic (q.1 / 4)) q.2.1 none q.2.2.2.1 q.2.2.2.2.1 q.2.2.2.2.2
theorem cls_of {p : Program} {l : Launch} {e : Env} {R : Room} {s : State} {m : MethodId} {args : Array Value} {below : List Frame} {meth : Method} {c : Code} {cc : ByteArray} {nL : Nat} {D : va_G} {aC : Nat → ClassId} {A : Nat → Prop} {ad0 : Nat → Nat} {N0 : Nat} {M : MI} (h : ∀ q ∈ M.2.2.2.1, CLKk p l e R s m args below meth c cc nL D aC A ad0 N0 q) : CLS p l e R s m args below meth c cc nL D aC A ad0 N0 M := by
  refine ⟨fun pc x k n rc mc ms f h1 h2 => ?_, fun pc x k n rc mc ms f h1 h2 => ?_, fun pc x k n rc mc ms f h1 h2 => ?_⟩
  · have := h _ (lkp_mem h2)
    unfold CLKk at this
    simp only [show 4 * x % 4 = 0 by omega, show 4 * x / 4 = x by omega] at this
    exact this
  · have := h _ (lkp_mem h2)
    unfold CLKk at this
    simp only [show (4 * x + 1) % 4 = 1 by omega, show (4 * x + 1) / 4 = x by omega] at this
    exact this
  · have := h _ (lkp_mem h2)
    unfold CLKk at this
    simp only [show (4 * x + 2) % 4 = 2 by omega, show (4 * x + 2) / 4 = x by omega] at this
    exact this
/-! a call out of the callee's contract -/
theorem run_done {p : Program} {l : Launch} {e : Env} {R : Room} {s : State} {m : MethodId} {args : Array Value} {below : List Frame} {meth : Method} {c : Code} {H : Heap} {locs : List Loc} {cells slots : Nat} {Q : State → Prop} {pc : Nat} {ls : Array Slot} {rest st0 : List Value} {a : Array Value} {D : va_G} {aC : Nat → ClassId} {A : Nat → Prop} {ad0 ad : Nat → Nat} {N0 : Nat} {h h' : HP} {r : Option Value} {mc ms : Nat} {As : List Value}
    (hr : va_Run p l e R s m args below meth c H locs cells slots mc ms (F0 m pc ls st0) rest (Qm D aC (va_A (wof aC ad h) H.size) ad h.1 r h' a) (va_A (wof aC ad h) H.size)) (hA : ∀ q, s.heap.size ≤ q → A q) (hH : Hp D aC A s ad0 N0 ad h H locs)
    (kk : ∀ (ad' : Nat → Nat) (H' : Heap) (locs' : List Loc), Hp D aC A s ad0 N0 ad' h' H' locs' → (∀ q, q < h.1 → ad' q = ad q) → h.1 ≤ h'.1 → (∀ v, r = some v → okv h'.1 v) → W p l e R s m args below meth c H' locs' (cells + mc) (slots + ms) Q (F0 m (pc + 3) ls (r.toList.map (mv ad') ++ rest))) :
    W p l e R s m args below meth c H locs cells slots Q (F0 m pc ls st0) := by
  intro T hT X
  obtain ⟨hP, hD, hS, hmx, hN0, had, hok⟩ := hH
  obtain ⟨v, st₀, t, T', L, h0, X', hL, e1, e2, ⟨⟨ad', hv, hP1, hD1, hmx1, hN1, had1, hok1, hr1⟩, hz, hk⟩, st⟩ := hr T hT X
  rw [h0] at hz hk
  have hF : ∀ q, va_A (wof aC ad h) H.size q → A q := va_free hD hS hA (List.range h.1) (by
    apply List.ext_getElem?
    intro k
    rw [List.getElem?_map, List.getElem?_map]
    by_cases hk : k < h.1
    · rw [List.getElem?_range hk, wof_get hk]; simp [wof_get hk]
    · rw [List.getElem?_eq_none (by simp; omega), List.getElem?_eq_none (by rw [wof_len]; omega)]; rfl)
  have hv' : v = r.map (mv ad') := by cases hv; rfl
  obtain ⟨t2, a1, b1⟩ := kk ad' T'.heap (locs ++ L) ⟨by rw [e1]; exact hP1, hD1.weaken (fun k q _ z => hF _ z), ⟨Nat.le_trans hS.1 (by rw [e1]; exact hz), fun q h1 h2 => by rw [e1, hk q (Nat.lt_of_lt_of_le h1 hS.1) (fun z => h2 (hF q z))]; exact hS.2.1 q h1 h2, fun q hq => by
      rcases List.mem_append.mp hq with z | z
      · exact hS.2.2 q z
      · exact hF _ (hL q z)⟩, hmx1, Nat.le_trans hN0 hN1, fun p0 hp0 => by rw [had1 p0 (Nat.lt_of_lt_of_le hp0 hN0)]; exact had p0 hp0, hok1⟩ had1 hN1 hr1 T' rfl X'
  refine ⟨t2, st t2 ?_, b1⟩
  subst hv'
  have e9 : (r.map (mv ad')).toList = r.toList.map (mv ad') := by cases r <;> rfl
  rw [e9]
  exact a1
def MNO (y : MethodName) (cc : ByteArray) (maxL : Nat) (ret : Option FieldType) (np : Nat) : Prop := Cond.code y cc maxL ret ∈ gdW ∧ Cond.initialized y.cls ∈ gdW ∧ (y.cls ≠ "java/lang/invoke/MethodHandle" ∧ y.cls ≠ "java/lang/invoke/VarHandle" ∧ (parseMethodDescriptor y.desc).map (fun d => d.parameters.length) = some np) ∧ plainName y.cls = true
theorem gdGood {ws : List Cond} {y : MethodName} {cc : ByteArray} {maxL : Nat} {ret : Option FieldType} (h : Cond.code y cc maxL ret ∈ gdW) (hw : ∀ w ∈ gdW, w ∈ ws) : GoodIn ws (.code y cc maxL ret :: gdW) := by
  intro w hm
  have h1 : w ∈ gdW := (List.mem_cons.mp hm).elim (fun z => z ▸ h) id
  exact ⟨hw w h1, good_of_word (List.mem_filter.mp h1).2⟩
theorem pm_pre {D : va_G} {aC : Nat → ClassId} {ad : Nat → Nat} {h : HP} {As : List Value} {H : Heap} {s : State} {A : Nat → Prop} (hP : va_P D vwCl (wof aC ad h) H) (hD : va_D A (wof aC ad h)) (hK : KS D aC s) : ∀ U : State, U.heap = H → s.WarmedH U.vm → Pm D aC ad h As H.size ((As.map (mv ad)).toArray) U :=
  fun U hU hW => ⟨rfl, by rw [hU], by rw [hU]; exact hP, hK.warm hW, hD.weaken (fun _ _ _ _ => trivial)⟩
section CLKS
variable {p : Program} {l : Launch} {e : Env} {R : Room} {s : State} {m : MethodId} {args : Array Value} {below : List Frame} {meth : Method} {c : Code} {cc : ByteArray} {nL : Nat} {own : String} {D : va_G} {aC : Nat → ClassId} {A : Nat → Prop} {ad0 : Nat → Nat} {N0 : Nat} {y : MethodName} {bytes : ByteArray} {maxL : Nat} {ret : Option FieldType} {np fr lo mc ms x rc : Nat} {f : CF}
theorem room_rest {rest : List Value} {pc : Nat} {ls : Array Slot} {st : List Value} (h : (rest.map fun v => v.category).sum ≤ 8) : 2 * (F0 m pc ls st).monitorRoom + (rest.map fun v => v.category).sum ≤ 8 := lv_room h
theorem clk_V (X : CTX p s m args c cc nL own D aC A) (hM : MetM l y bytes maxL ret fr lo mc ms f) (hy : MNO y bytes maxL ret np) (hin : Cond.instanceMethod y ∈ gdW ∧ Cond.selects y.cls y y ∈ gdW) (hrc : rc < 13 ∧ y.cls = clN rc) (hl : Cond.methodLink own x y ∈ gdW) (hR : fr + 1 ≤ R.frames ∧ 8 + (maxL + 11) + lo ≤ R.locals) : CLK p l e R s m args below meth c cc nL D aC A ad0 N0 (.invokevirtual x) (np + 1) (some rc) mc ms f := by
  obtain ⟨hx, hb, hml, hown, hC, hK, hA⟩ := X
  intro Q pc ls rest As h h' r ad H locs cells slots hlen hf hd hsz hrest hc1 hs1 hH hokA hrcv kk
  obtain ⟨hP, hD, hS, hmx, hN0, had, hok⟩ := id hH
  obtain ⟨q, as, rfl, hkq⟩ := hrcv rc rfl
  obtain ⟨hk, hq⟩ := hkq hrc.1
  have hcw : CallW R s args own y.cls x y bytes maxL ret (.code y bytes maxL ret :: gdW) ({ frames := fr, cells := mc, slots := ms, locals := lo }) mc ms np :=
    ⟨callB_of np hC.1 (gdGood hy.1 (fun w z => z)) rfl rfl rfl (hC.1 _ hy.2.1) (hC.1 _ hl) hy.2.2.1 hR, hC.1 _ hin.1, hC.1 _ hin.2⟩
  have hrun := va_runV (S := ⟨hx, hb, hml, hown, hC.1⟩) (As := as.map (mv ad)) (rest := rest) (b := ad q) (g := F0 m pc ls (((Value.ref q :: as).map (mv ad)).reverse ++ rest)) (H := H) (locs := locs) (cells := cells) (slots := slots) (l := l) (e := e) (below := below) (meth := meth) (hM D aC ad h h' (.ref q :: as) r H.size hf hok hmx hokA) hcw
    ⟨Pm.blind, by
      have hz := va_recv hK.1 hP (clsL hrc.1) (q0 := q) (a := ad q) (fs := (List.range (nfd rc)).map (fvv ad h q rc)) (by rw [wof_get hq, cel_obj hk])
      rw [← hrc.2] at hz
      exact hz, pm_pre hP hD hK⟩ rfl (by simpa using hlen) hsz (by simp [mv]) (room_rest hrest) hd ⟨hc1, hs1⟩
  exact run_done (As := .ref q :: as) hrun hA hH kk
theorem clk_VN (X : CTX p s m args c cc nL own D aC A) (hM : MetM l y bytes maxL ret fr lo mc ms f) (hy : MNO y bytes maxL ret np) (hin : Cond.instanceMethod y ∈ gdW ∧ Cond.selects y.cls y y ∈ gdW) (hrc : rc < 13 ∧ y.cls = clN rc) (hl : Cond.methodLinkNest own x y RX11 ∈ nsW) (hR : fr + 1 ≤ R.frames ∧ 8 + (maxL + 11) + lo ≤ R.locals) : CLK p l e R s m args below meth c cc nL D aC A ad0 N0 (.invokevirtual x) (np + 1) (some rc) mc ms f := by
  obtain ⟨hx, hb, hml, hown, hC, hK, hA⟩ := X
  intro Q pc ls rest As h h' r ad H locs cells slots hlen hf hd hsz hrest hc1 hs1 hH hokA hrcv kk
  obtain ⟨hP, hD, hS, hmx, hN0, had, hok⟩ := id hH
  obtain ⟨q, as, rfl, hkq⟩ := hrcv rc rfl
  obtain ⟨hk, hq⟩ := hkq hrc.1
  have hrun := va_runVN (S := ⟨hx, hb, hml, hown, hC.1⟩) (As := as.map (mv ad)) (rest := rest) (b := ad q) (g := F0 m pc ls (((Value.ref q :: as).map (mv ad)).reverse ++ rest)) (H := H) (locs := locs) (cells := cells) (slots := slots) (l := l) (e := e) (below := below) (meth := meth) (hM D aC ad h h' (.ref q :: as) r H.size hf hok hmx hokA)
    ⟨va_cnB np hC.1 (gdGood hy.1 (fun w z => z)) rfl rfl rfl (hK.2.1 _ hl) (hC.1 _ hy.2.1) hy.2.2.1 hR, hC.1 _ hin.1, hC.1 _ hin.2⟩
    ⟨Pm.blind, by
      have hz := va_recv hK.1 hP (clsL hrc.1) (q0 := q) (a := ad q) (fs := (List.range (nfd rc)).map (fvv ad h q rc)) (by rw [wof_get hq, cel_obj hk])
      rw [← hrc.2] at hz
      exact hz, pm_pre hP hD hK⟩ rfl (by simpa using hlen) hsz (by simp [mv]) (room_rest hrest) hd ⟨hc1, hs1⟩
  exact run_done (As := .ref q :: as) hrun hA hH kk
theorem clk_S (X : CTX p s m args c cc nL own D aC A) (hM : MetM l y bytes maxL ret fr lo mc ms f) (hy : MNO y bytes maxL ret np) (hst : Cond.static y ∈ gdW) (hl : Cond.methodLink own x y ∈ gdW) (hR : fr + 1 ≤ R.frames ∧ 8 + (maxL + 11) + lo ≤ R.locals) : CLK p l e R s m args below meth c cc nL D aC A ad0 N0 (.invokestatic x) np none mc ms f := by
  obtain ⟨hx, hb, hml, hown, hC, hK, hA⟩ := X
  intro Q pc ls rest As h h' r ad H locs cells slots hlen hf hd hsz hrest hc1 hs1 hH hokA hrcv kk
  obtain ⟨hP, hD, hS, hmx, hN0, had, hok⟩ := id hH
  have hrun := va_runS (S := ⟨hx, hb, hml, hown, hC.1⟩) (As := As.map (mv ad)) (rest := rest) (g := F0 m pc ls ((As.map (mv ad)).reverse ++ rest)) (H := H) (locs := locs) (cells := cells) (slots := slots) (l := l) (e := e) (below := below) (meth := meth) (hM D aC ad h h' As r H.size hf hok hmx hokA)
    ⟨callB_of np hC.1 (gdGood hy.1 (fun w z => z)) rfl rfl rfl (hC.1 _ hy.2.1) (hC.1 _ hl) hy.2.2.1 hR, hC.1 _ hst⟩
    ⟨Pm.blind, pm_pre hP hD hK⟩ rfl (by simpa using hlen) hsz rfl (room_rest hrest) hd ⟨hc1, hs1⟩
  exact run_done (As := As) hrun hA hH kk
theorem clk_SN (X : CTX p s m args c cc nL own D aC A) (hM : MetM l y bytes maxL ret fr lo mc ms f) (hy : MNO y bytes maxL ret np) (hst : Cond.static y ∈ gdW) (hl : Cond.methodLinkNest own x y RX11 ∈ nsW) (hR : fr + 1 ≤ R.frames ∧ 8 + (maxL + 11) + lo ≤ R.locals) : CLK p l e R s m args below meth c cc nL D aC A ad0 N0 (.invokestatic x) np none mc ms f := by
  obtain ⟨hx, hb, hml, hown, hC, hK, hA⟩ := X
  intro Q pc ls rest As h h' r ad H locs cells slots hlen hf hd hsz hrest hc1 hs1 hH hokA hrcv kk
  obtain ⟨hP, hD, hS, hmx, hN0, had, hok⟩ := id hH
  have hrun := va_runSN (S := ⟨hx, hb, hml, hown, hC.1⟩) (As := As.map (mv ad)) (rest := rest) (g := F0 m pc ls ((As.map (mv ad)).reverse ++ rest)) (H := H) (locs := locs) (cells := cells) (slots := slots) (l := l) (e := e) (below := below) (meth := meth) (hM D aC ad h h' As r H.size hf hok hmx hokA)
    ⟨va_cnB np hC.1 (gdGood hy.1 (fun w z => z)) rfl rfl rfl (hK.2.1 _ hl) (hC.1 _ hy.2.1) hy.2.2.1 hR, hC.1 _ hst, trivial⟩
    ⟨Pm.blind, pm_pre hP hD hK⟩ rfl (by simpa using hlen) hsz rfl (room_rest hrest) hd ⟨hc1, hs1⟩
  exact run_done (As := As) hrun hA hH kk
theorem clk_I (X : CTX p s m args c cc nL own D aC A) (hM : MetM l y bytes maxL none fr lo mc ms f) (hy : MNO y bytes maxL none np) (hin : Cond.instanceMethod y ∈ gdW ∧ y.name = "<init>") (hl : Cond.methodLink own x y ∈ gdW) (hR : fr + 1 ≤ R.frames ∧ 8 + (maxL + 11) + lo ≤ R.locals) : CLK p l e R s m args below meth c cc nL D aC A ad0 N0 (.invokespecial x) (np + 1) (some 99) mc ms f := by
  obtain ⟨hx, hb, hml, hown, hC, hK, hA⟩ := X
  intro Q pc ls rest As h h' r ad H locs cells slots hlen hf hd hsz hrest hc1 hs1 hH hokA hrcv kk
  obtain ⟨hP, hD, hS, hmx, hN0, had, hok⟩ := id hH
  obtain ⟨q, as, rfl, -⟩ := hrcv 99 rfl
  have hrun := va_runI (S := ⟨hx, hb, hml, hown, hC.1⟩) (As := as.map (mv ad)) (rest := rest) (b := ad q) (g := F0 m pc ls (((Value.ref q :: as).map (mv ad)).reverse ++ rest)) (H := H) (locs := locs) (cells := cells) (slots := slots) (l := l) (e := e) (below := below) (meth := meth) (hM D aC ad h h' (.ref q :: as) r H.size hf hok hmx hokA)
    ⟨callB_of np hC.1 (gdGood hy.1 (fun w z => z)) rfl rfl rfl (hC.1 _ hy.2.1) (hC.1 _ hl) hy.2.2.1 hR, hin.2, hC.1 _ hin.1⟩
    ⟨Pm.blind, pm_pre hP hD hK⟩ rfl (by simpa using hlen) hsz (by simp [mv]) (room_rest hrest) hd ⟨hc1, hs1⟩
  exact run_done (As := .ref q :: as) hrun hA hH kk
theorem clk_IN (X : CTX p s m args c cc nL own D aC A) (hM : MetM l y bytes maxL none fr lo mc ms f) (hy : MNO y bytes maxL none np) (hin : Cond.instanceMethod y ∈ gdW ∧ y.name = "<init>") (hl : Cond.methodLinkNest own x y RX11 ∈ nsW) (hR : fr + 1 ≤ R.frames ∧ 8 + (maxL + 11) + lo ≤ R.locals) : CLK p l e R s m args below meth c cc nL D aC A ad0 N0 (.invokespecial x) (np + 1) (some 99) mc ms f := by
  obtain ⟨hx, hb, hml, hown, hC, hK, hA⟩ := X
  intro Q pc ls rest As h h' r ad H locs cells slots hlen hf hd hsz hrest hc1 hs1 hH hokA hrcv kk
  obtain ⟨hP, hD, hS, hmx, hN0, had, hok⟩ := id hH
  obtain ⟨q, as, rfl, -⟩ := hrcv 99 rfl
  have hrun := va_runIN (S := ⟨hx, hb, hml, hown, hC.1⟩) (As := as.map (mv ad)) (rest := rest) (b := ad q) (g := F0 m pc ls (((Value.ref q :: as).map (mv ad)).reverse ++ rest)) (H := H) (locs := locs) (cells := cells) (slots := slots) (l := l) (e := e) (below := below) (meth := meth) (hM D aC ad h h' (.ref q :: as) r H.size hf hok hmx hokA)
    ⟨va_cnB np hC.1 (gdGood hy.1 (fun w z => z)) rfl rfl rfl (hK.2.1 _ hl) (hC.1 _ hy.2.1) hy.2.2.1 hR, hin.2, hC.1 _ hin.1⟩
    ⟨Pm.blind, pm_pre hP hD hK⟩ rfl (by simpa using hlen) hsz (by simp [mv]) (room_rest hrest) hd ⟨hc1, hs1⟩
  exact run_done (As := .ref q :: as) hrun hA hH kk
theorem clk_O (X : CTX p s m args c cc nL own D aC A) (hin : Cond.instanceMethod Lib.objectInit ∈ gdW ∧ Cond.code Lib.objectInit ⟨#[0xb1]⟩ 1 none ∈ gdW) (hl : Cond.methodLink own x Lib.objectInit ∈ gdW) (hR : 1 ≤ R.frames ∧ 20 ≤ R.locals) : CLK p l e R s m args below meth c cc nL D aC A ad0 N0 (.invokespecial x) 1 (some 99) 0 0 (fun _ h => some (none, h)) := by
  obtain ⟨hx, hb, hml, hown, hC, hK, hA⟩ := X
  intro Q pc ls rest As h h' r ad H locs cells slots hlen hf hd hsz hrest hc1 hs1 hH hokA hrcv kk
  obtain ⟨q, as, rfl, -⟩ := hrcv 99 rfl
  have has : as = [] := by
    cases as with
    | nil => rfl
    | cons v as => simp at hlen
  subst has
  cases hf
  refine W.objInit (rest := rest) hx hb hown (hC.1 _ hl) (hC.1 _ hin.1) (hC.1 _ hin.2) rfl (by rw [hml]; exact hsz) rfl hd hR.1 ?_ ?_
  · have := room_rest (m := m) (pc := pc) (ls := ls) (st := ((Value.ref q :: []).map (mv ad)).reverse ++ rest) hrest
    omega
  · exact kk ad H locs hH (fun _ _ => rfl) (Nat.le_refl _) (fun v z => by cases z)
theorem as_cons {n : Nat} {As : List Value} (h : As.length = n + 1) : ∃ v as, As = v :: as ∧ as.length = n := by
  cases As with
  | nil => cases h
  | cons v as => exact ⟨v, as, rfl, by simpa using h⟩
end CLKS
theorem mLoc_len : ∀ {as : List Value} {n : Nat}, catS as ≤ n → (mLoc n as).length = n := by
  intro as
  induction as with
  | nil => intro n _; exact List.length_replicate
  | cons v as ih =>
    intro n h
    have hc : catS (v :: as) = v.category + catS as := by simp [catS]
    rw [hc] at h
    unfold mLoc
    rcases lv_cat v with z | z
    · rw [z]
      show (v :: mLoc (n - 1) as).length = n
      rw [List.length_cons, ih (by omega)]
      omega
    · rw [z]
      show (v :: Value.null :: mLoc (n - 2) as).length = n
      rw [List.length_cons, List.length_cons, ih (by omega)]
      omega
theorem mLoc_get {ad : Nat → Nat} : ∀ {as : List Value} {n i k : Nat} {v : Value}, (mLoc n as)[k]? = some v → v ≠ .null → (i + k, mv ad v) ∈ lv_args i (as.map (mv ad)) := by
  intro as
  induction as with
  | nil =>
    intro n i k v h hn
    have := List.eq_of_mem_replicate (List.mem_of_getElem? (show (List.replicate n Value.null)[k]? = some v from h))
    exact absurd this hn
  | cons w as ih =>
    intro n i k v h hn
    unfold mLoc at h
    rw [List.map_cons]
    unfold lv_args
    rw [mv_cat]
    rcases lv_cat w with z | z
    · rw [z] at h ⊢
      replace h : (w :: mLoc (n - 1) as)[k]? = some v := h
      cases k with
      | zero => cases h; exact List.mem_cons_self
      | succ k =>
        have h2 : (mLoc (n - 1) as)[k]? = some v := h
        have := ih (i := i + 1) h2 hn
        rw [show i + (k + 1) = i + 1 + k by omega]
        exact List.mem_cons_of_mem _ this
    · rw [z] at h ⊢
      replace h : (w :: Value.null :: mLoc (n - 2) as)[k]? = some v := h
      cases k with
      | zero => cases h; exact List.mem_cons_self
      | succ k =>
        cases k with
        | zero => cases h; exact absurd rfl hn
        | succ k =>
          have h2 : (mLoc (n - 2) as)[k]? = some v := h
          have := ih (i := i + 2) h2 hn
          rw [show i + (k + 1 + 1) = i + 2 + k by omega]
          exact List.mem_cons_of_mem _ this
theorem mLoc_ok {N : Nat} : ∀ {as : List Value} {n : Nat}, okS N as → okS N (mLoc n as) := by
  intro as
  induction as with
  | nil => intro n _ v hv; rw [List.eq_of_mem_replicate (show v ∈ List.replicate n Value.null from hv)]; trivial
  | cons w as ih =>
    intro n h
    unfold mLoc
    cases Nat.beq w.category 2
    · exact (ih h.tl).cons h.hd
    · exact okS.cons h.hd (okS.cons (v := .null) trivial (ih h.tl))
theorem sl_len : ∀ {vs : List Value}, (lg_sl vs).length = catS vs := by
  intro vs
  induction vs with
  | nil => rfl
  | cons v vs ih =>
    have hc : catS (v :: vs) = v.category + catS vs := by simp [catS]
    have e : lg_sl (v :: vs) = (if v.category = 2 then [Slot.val v, Slot.second] else [Slot.val v]) ++ lg_sl vs := by simp [lg_sl]
    rw [hc, e, List.length_append, ih]
    rcases lv_cat v with z | z <;> simp [z]
theorem catS_map {ad : Nat → Nat} {as : List Value} : catS (as.map (mv ad)) = catS as := by
  unfold catS
  rw [List.map_map, show ((fun v : Value => v.category) ∘ mv ad) = (fun v => v.category) from funext fun v => mv_cat]
set_option maxHeartbeats 4000000 in
/-- a method's contract out of its data and its callees' -/
theorem metM_of {l : Launch} {y : MethodName} {cc : ByteArray} {maxL np : Nat} {ret : Option FieldType} {fr lo : Nat} {M : MI} (ini : Bool) (hy : MNO y cc maxL ret np) (hret : RTY M.2.2.2.2.2.2.1 ret) (hK : MCK y.cls cc M ini) (hini : ini = true → y.name = "<init>") (hCg : ∀ (args : Array Value) (s : State), (∀ w ∈ gdW, w.before args s = true) → COK args s)
    (hcal : ∀ (p : Program) (e : Env) (s : State) (m : MethodId) (args : Array Value) (below : List Frame) (meth : Method) (c : Code) (D : va_G) (aC : Nat → ClassId) (A : Nat → Prop) (ad0 : Nat → Nat) (N0 : Nat), CTX p s m args c cc maxL y.cls D aC A → ∀ q ∈ M.2.2.2.1, CLKk p l e ({ frames := fr, cells := M.2.2.2.2.2.1.1, slots := M.2.2.2.2.2.1.2, locals := lo }) s m args below meth c cc maxL D aC A ad0 N0 q) :
    MetM l y cc maxL ret fr lo M.2.2.2.2.2.1.1 M.2.2.2.2.2.1.2 (mth M maxL) := by
  intro D aC ad h h' As r sz hf hok hmx hokA
  unfold mth at hf
  cases hcat : Nat.ble (catS As) maxL with
  | false => rw [hcat] at hf; cases hf
  | true =>
  rw [hcat] at hf
  replace hf : run M (0, 0, 0, mLoc maxL As, [], h) = some (r, h') := hf
  have hcat' : catS As ≤ maxL := Nat.le_of_ble_eq_true hcat
  obtain ⟨n, hn⟩ := run_ex hf
  refine Met.ofW (cc := cc) (maxL := maxL) (ret := ret) hy.2.2.2 rfl ?_
  intro p e s m args below meth c s₁ B hml hv
  obtain ⟨rfl, hsz, hP, hKS, hD0⟩ := hv
  have hts := atoms_spec (ws := Cond.code y cc maxL ret :: gdW) B.pre
  have hg : ∀ w ∈ gdW, w.before (As.map (mv ad)).toArray s = true := fun w z => hts w (List.mem_cons_of_mem _ z)
  have hown : s.vm.findClass y.cls = some m.cls := findClass_of_methodNamed B.named
  have hnm : meth.name = y.name := (name_of_methodNamed B.named B.method).1
  subst hsz
  have hCO := hCg _ s hg
  have hA : ∀ q, s.heap.size ≤ q → va_A (wof aC ad h) s.heap.size q := fun q z => Or.inr z
  rw [lg_entry_eq]
  have hls := lv_entry (As.map (mv ad)) (n := maxL) (by rw [sl_len, catS_map]; exact hcat')
  have hLV : LV ad ((lg_sl (As.map (mv ad)) ++ List.replicate (maxL - (lg_sl (As.map (mv ad))).length) Slot.unset).toArray) maxL (mLoc maxL As) := by
    refine ⟨⟨hls.1, hls.2.1, fun q hq => ?_⟩, mLoc_len hcat'⟩
    obtain ⟨v, h1, h2, h3⟩ := lvl_mem.mp hq
    have := mLoc_get (ad := ad) (i := 0) h1 h2
    rw [Nat.zero_add, ← h3] at this
    exact hls.2.2 q this
  exact snd_run (own := y.cls) (ad0 := ad) (N0 := h.1) B.exec B.bytes hml hown B.notSynchronized (by rw [B.returns]; exact hret) rfl rfl hCO hKS hA (mok_of hK hg hKS.2.1 (fun z => by rw [hnm]; exact hini z)) (cls_of (hcal p e s m _ below meth c D aC _ ad h.1 ⟨B.exec, B.bytes, hml, hown, hCO, hKS, hA⟩)) n 0 0 0 _ [] h hn ad s.heap [] _ ⟨hP, hD0.self, va_S.rf, hmx, Nat.le_refl _, fun _ _ => rfl, hok⟩ (Nat.zero_le _) (Nat.zero_le _) hLV (mLoc_ok hokA) okS.nil
