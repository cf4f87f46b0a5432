/-! what the small machine does, the machine does (laid by wip/whole/gen_sound.py) -/
def tyL (aC : Nat → ClassId) : List (ClassId × FieldType) := [(aC 0, .int), (aC 1, .boolean), (aC 2, .long), (aC 3, .object RX2), (aC 4, .object RX9)]
def nst : Cond → Bool
  | .fieldLinkNest .. => true
  | .methodLinkNest .. => true
  | _ => false
def nsW : List Cond := lw_tbl.filter nst
def gdW : List Cond := lw_tbl.filter goodWord
def KS (D : va_G) (aC : Nat → ClassId) (U : State) : Prop := va_K D vwCl (tyL aC) U ∧ (∀ w ∈ nsW, va_Nw w U) ∧ va_AO RX2 U ∧ va_AO RX9 U
theorem KS.warm {D : va_G} {aC : Nat → ClassId} {s U : State} (hW : s.WarmedH U.vm) (h : KS D aC s) : KS D aC U := by
  refine ⟨va_K.moved hW.alike h.1, fun w hw => ?_, va_AO.moved hW.alike h.2.2.1, va_AO.moved hW.alike h.2.2.2⟩
  have hz := h.2.1 w hw
  have hn : nst w = true := (List.mem_filter.mp hw).2
  cases w <;> first | exact va_Nw.warmF hW hz | exact va_Nw.warmM hW hz | cases hn
theorem KS.same {D : va_G} {aC : Nat → ClassId} {u U : State} (hv : u.vm = U.vm) (h : KS D aC u) : KS D aC U := by
  refine ⟨va_K.moved (hv ▸ Vm.Alike.refl u.vm) h.1, fun w hw => ?_, va_AO.moved (hv ▸ Vm.Alike.refl u.vm) h.2.2.1, va_AO.moved (hv ▸ Vm.Alike.refl u.vm) h.2.2.2⟩
  have hz := h.2.1 w hw
  have hn : nst w = true := (List.mem_filter.mp hw).2
  refine va_Nw.same ?_ hv hz
  cases w <;> first | rfl | cases hn
def clN (ci : Nat) : String := match ci with
  | 0 => RX0 | 1 => RX1 | 2 => RX2 | 3 => RX3 | 4 => RX4 | 5 => RX5 | 6 => RX6 | 7 => RX7 | 8 => RX8 | 9 => RX9 | 10 => RX10 | 11 => RX11 | _ => RX12
def clT (ci : Nat) : u_T := match ci with
  | 0 => TX0 | 1 => TX1 | 2 => TX2 | 3 => TX3 | 4 => TX4 | 5 => TX5 | 6 => TX6 | 7 => TX7 | 8 => TX8 | 9 => TX9 | 10 => TX10 | 11 => TX11 | _ => TX12
theorem clsL {ci : Nat} (h : ci < 13) : vwCl[ci]? = some (clN ci, clT ci, nfd ci) := by
  match ci, h with
  | 0, _ => rfl
  | 1, _ => rfl
  | 2, _ => rfl
  | 3, _ => rfl
  | 4, _ => rfl
  | 5, _ => rfl
  | 6, _ => rfl
  | 7, _ => rfl
  | 8, _ => rfl
  | 9, _ => rfl
  | 10, _ => rfl
  | 11, _ => rfl
  | 12, _ => rfl
  | k + 13, h => omega
theorem clsT {ci : Nat} (h : ci < 13) : ∀ k, k < nfd ci → parseFieldDescriptor (clT ci k).2.2.1 = some (ftyT ci k) := by
  match ci, h with
  | 0, _ => exact tyX0_ok
  | 1, _ => exact tyX1_ok
  | 2, _ => exact tyX2_ok
  | 3, _ => exact tyX3_ok
  | 4, _ => exact tyX4_ok
  | 5, _ => exact tyX5_ok
  | 6, _ => exact tyX6_ok
  | 7, _ => exact tyX7_ok
  | 8, _ => exact tyX8_ok
  | 9, _ => exact tyX9_ok
  | 10, _ => exact tyX10_ok
  | 11, _ => exact tyX11_ok
  | 12, _ => exact tyX12_ok
  | k + 13, h => omega
theorem clsM {ci : Nat} (h : ci < 13) : ∀ a, a < nfd ci → ∀ b, b < nfd ci → a ≠ b → (clT ci a).2.1 ≠ (clT ci b).2.1 := by
  match ci, h with
  | 0, _ => exact nmX0
  | 1, _ => exact nmX1
  | 2, _ => exact nmX2
  | 3, _ => exact nmX3
  | 4, _ => exact nmX4
  | 5, _ => exact nmX5
  | 6, _ => exact nmX6
  | 7, _ => exact nmX7
  | 8, _ => exact nmX8
  | 9, _ => exact nmX9
  | 10, _ => exact nmX10
  | 11, _ => exact nmX11
  | 12, _ => exact nmX12
  | k + 13, h => omega
/-- a field's link: its class's own, or a nest mate's -/
def FOK (own : String) (args : Array Value) (s : State) (x ci j : Nat) : Prop := (Cond.fieldLink own x (clT ci j).1 (clT ci j).2.1 (clT ci j).2.2.1).before args s = true ∨ ∃ host, (Cond.fieldLinkNest own x (clT ci j).1 (clT ci j).2.1 (clT ci j).2.2.1 host).before args s = true
def PFK (own : String) (meth : Method) (args : Array Value) (s : State) (x ci j : Nat) : Prop := ((clT ci j).2.2.2 = false ∧ FOK own args s x ci j) ∨ ((clT ci j).2.2.2 = true ∧ meth.name = "<init>" ∧ (clT ci j).1 = own ∧ (Cond.fieldLink own x (clT ci j).1 (clT ci j).2.1 (clT ci j).2.2.1).before args s = true)
def lenOk (i : Instr) (n : Nat) : Bool := match i with
  | .tableswitch .. => true
  | .bipush _ => n == 2
  | .ldc _ => n == 2
  | .iload _ => n == 2
  | .lload _ => n == 2
  | .aload _ => n == 2
  | .istore _ => n == 2
  | .lstore _ => n == 2
  | .astore _ => n == 2
  | .newarray _ => n == 2
  | .sipush _ => n == 3
  | .ldc_w _ => n == 3
  | .ldc2_w _ => n == 3
  | .iinc .. => n == 3
  | .goto _ => n == 3
  | .ifCond .. => n == 3
  | .if_icmp .. => n == 3
  | .getfield _ => n == 3
  | .putfield _ => n == 3
  | .new _ => n == 3
  | .anewarray _ => n == 3
  | .invokevirtual _ => n == 3
  | .invokespecial _ => n == 3
  | .invokestatic _ => n == 3
  | _ => n == 1
def tgAll (pc : Nat) : List Int → List Nat → Bool
  | [], [] => true
  | o :: os, t :: ts => decide ((pc : Int) + o = (t : Int)) && tgAll pc os ts
  | _, _ => false
def tgOk (pc : Nat) (i : Instr) (tg : List Nat) : Bool := match i with
  | .goto off => tgAll pc [off] tg
  | .ifCond _ off => tgAll pc [off] tg
  | .if_icmp _ off => tgAll pc [off] tg
  | .tableswitch d lo hi offs => tgAll pc (d :: offs.toList) tg && decide (-2147483648 ≤ lo) && decide (lo + offs.size ≤ 2147483648) && decide (hi + 1 = lo + offs.size)
  | _ => true
theorem tgAll_1 {pc : Nat} {off : Int} {t : Nat} {ts : List Nat} (h : tgAll pc [off] (t :: ts) = true) : (pc : Int) + off = (t : Int) := by
  unfold tgAll at h
  simp only [Bool.and_eq_true, decide_eq_true_eq] at h
  exact h.1
theorem tgAll_len {pc : Nat} : ∀ {os : List Int} {ts : List Nat}, tgAll pc os ts = true → ts.length = os.length := by
  intro os
  induction os with
  | nil => intro ts h; cases ts with
    | nil => rfl
    | cons t ts => cases h
  | cons o os ih =>
    intro ts h
    cases ts with
    | nil => cases h
    | cons t ts =>
      unfold tgAll at h
      simp only [Bool.and_eq_true] at h
      simp [ih h.2]
theorem tgAll_get {pc : Nat} : ∀ {os : List Int} {ts : List Nat} {k : Nat} {t : Nat}, tgAll pc os ts = true → ts[k]? = some t → ∃ o, os[k]? = some o ∧ (pc : Int) + o = (t : Int) := by
  intro os
  induction os with
  | nil => intro ts k t h hk; cases ts with
    | nil => cases hk
    | cons t ts => cases h
  | cons o os ih =>
    intro ts k t h hk
    cases ts with
    | nil => cases h
    | cons t0 ts =>
      unfold tgAll at h
      simp only [Bool.and_eq_true, decide_eq_true_eq] at h
      cases k with
      | zero => cases hk; exact ⟨o, rfl, h.1⟩
      | succ k => exact ih h.2 hk
def MOK (own : String) (cc : ByteArray) (M : MI) (meth : Method) (args : Array Value) (s : State) : Prop :=
  (∀ pc i nx tg, lkp pc M.1 = some (i, nx, tg) → ∃ n, decode cc pc = .ok (i, n) ∧ lenOk i n = true ∧ nx = pc + n ∧ tgOk pc i tg = true) ∧
  (∀ x ci j, lkp x M.2.1 = some (ci, j) → ci < 13 ∧ FOK own args s x ci j) ∧
  (∀ pc x nx ci j, lkp pc M.1 = some (.putfield x, nx) → lkp x M.2.1 = some (ci, j) → PFK own meth args s x ci j) ∧
  (∀ x v, lkp x M.2.2.1 = some (.int v) → (Cond.constant own x v).before args s = true) ∧
  (∀ x v, lkp x M.2.2.1 = some (.long v) → (Cond.constantLong own x v).before args s = true) ∧
  (∀ x ci, lkp x M.2.2.2.2.1 = some ci → ci < 13 ∧ (Cond.classLink own x (clN ci)).before args s = true)
/-- what all methods know of the classes -/
def COK (args : Array Value) (s : State) : Prop := (∀ w ∈ gdW, w.before args s = true) ∧ (∀ ci, ci < 13 → (∀ w ∈ u_ws (clN ci) (clT ci) (nfd ci), w ∈ gdW) ∧ (Cond.instantiable (clN ci) (nfd ci)).before args s = true ∧ (Cond.initialized (clN ci)).before args s = true) ∧ (Cond.arrayClass .int).before args s = true ∧ (Cond.arrayClass .boolean).before args s = true ∧ (Cond.arrayClass .long).before args s = true
def RTY (k : Nat) (o : Option FieldType) : Prop := match k with
  | 0 => o = none
  | 1 => o = some .int
  | 2 => o = some .boolean
  | 3 => o = some .long
  | _ => ∃ n, o = some (.object n)
def Hp (D : va_G) (aC : Nat → ClassId) (A : Nat → Prop) (s : State) (ad0 : Nat → Nat) (N0 : Nat) (ad : Nat → Nat) (h : HP) (H : Heap) (locs : List Loc) : Prop :=
  va_P D vwCl (wof aC ad h) H ∧ va_D A (wof aC ad h) ∧ va_S A s.heap H locs ∧ h.1 ≤ mNul ∧ N0 ≤ h.1 ∧ (∀ p, p < N0 → ad p = ad0 p) ∧ okH h
def Qm (D : va_G) (aC : Nat → ClassId) (A : Nat → Prop) (ad0 : Nat → Nat) (N0 : Nat) (r : Option Value) (hF : HP) : Array Value → State → Outcome → State → Prop := fun _ st oc t =>
  (∃ ad : Nat → Nat, oc = .returned (r.map (mv ad)) ∧ va_P D vwCl (wof aC ad hF) t.heap ∧ va_D A (wof aC ad hF) ∧ hF.1 ≤ mNul ∧ N0 ≤ hF.1 ∧ (∀ p, p < N0 → ad p = ad0 p) ∧ okH hF ∧ (∀ v, r = some v → okv hF.1 v)) ∧ va_F A st t
theorem inb_in {i : Int32} {n : Nat} (h : inb i n = true) : vp_in i n := by
  unfold inb at h
  simp only [Bool.and_eq_true, Bool.not_eq_true', decide_eq_false_iff_not] at h
  rintro (q | q)
  · exact h.1 q
  · have := Nat.ble_eq.mpr q
    rw [this] at h
    cases h.2
theorem isB_nar {x : Int32} (h : isB x = true) : narrow .boolean (.int x) = .int x ∧ fits .boolean (.int x) = true ∧ vp_nar .boolean x = x := by
  unfold isB at h
  simp only [Bool.or_eq_true, decide_eq_true_eq] at h
  rcases h with rfl | rfl <;> exact ⟨rfl, rfl, rfl⟩
theorem arr_uniq {D : va_G} {cl : List vw_C} {tys tys' : List (ClassId × FieldType)} {s : State} {a b : ClassId} {ty : FieldType} {i j : Nat} (h1 : va_K D cl tys s) (h2 : va_K D cl tys' s) (hi : tys[i]? = some (a, ty)) (hj : tys'[j]? = some (b, ty)) : a = b := by
  have e1 := (h1.2 i _ hi).2
  have e2 := (h2.2 j _ hj).2
  cases ty with
  | object C =>
    obtain ⟨_, _, _, _, _, g1⟩ := e1
    obtain ⟨_, _, _, _, _, g2⟩ := e2
    exact Option.some.inj (g1.symm.trans g2)
  | _ => exact Option.some.inj (e1.symm.trans e2)
theorem swk_some {ρ : Type} {k : Nat → Option ρ} {d : Nat} {x : Int32} {r : ρ} : ∀ (ts : List Nat) (lo : Int), swk k d x lo ts = some r → (∃ (i t : Nat), ts[i]? = some t ∧ x = Int32.ofInt (lo + i) ∧ k t = some r) ∨ ((∀ i : Nat, i < ts.length → x ≠ Int32.ofInt (lo + i)) ∧ k d = some r) := by
  intro ts
  induction ts with
  | nil => intro lo h; exact Or.inr ⟨fun i hi => absurd hi (Nat.not_lt_zero i), h⟩
  | cons t ts ih =>
    intro lo h
    unfold swk at h
    split at h
    · rename_i hx
      exact Or.inl ⟨0, t, rfl, by simpa using hx, h⟩
    · rename_i hx
      rcases ih (lo + 1) h with ⟨i, t', h1, h2, h3⟩ | ⟨h1, h2⟩
      · refine Or.inl ⟨i + 1, t', h1, ?_, h3⟩
        rw [h2]; congr 1; push_cast; omega
      · refine Or.inr ⟨fun i hi => ?_, h2⟩
        cases i with
        | zero => simpa using hx
        | succ i =>
          have := h1 i (by simpa using hi)
          intro z
          apply this
          rw [z]; congr 1; push_cast; omega
theorem fty_ref {ci j : Nat} {a : Nat} (hci : ci < 13) (hj : j < nfd ci) : ftyc (ftyT ci j) = 3 → narrow (ftyT ci j) (.ref a) = .ref a ∧ fits (ftyT ci j) (.ref a) = true := by
  intro h
  have hk : ∀ ci, ci < 13 → ∀ j, j < nfd ci → (ftyc (ftyT ci j) = 3 → ((match ftyT ci j with | .object _ => true | .array _ => true | _ => false) = true)) := by decide +kernel
  have h2 := hk ci hci j hj h
  cases hq : ftyT ci j with
  | object n => exact ⟨rfl, rfl⟩
  | array t => exact ⟨rfl, rfl⟩
  | _ => rw [hq] at h2; cases h2
theorem fty_dflt {ci j : Nat} {ad : Nat → Nat} (hci : ci < 13) (hj : j < nfd ci) : (match ftyc (ftyT ci j) with | 0 => Value.int 0 | 1 => .int 0 | 2 => .long 0 | _ => rvv ad mNul) = defaultValue (ftyT ci j) := by
  have hn : rvv ad mNul = .null := by unfold rvv; rw [if_pos rfl]
  rw [hn]
  have hk : ∀ ci, ci < 13 → ∀ j, j < nfd ci → (match ftyc (ftyT ci j) with | 0 => Value.int 0 | 1 => .int 0 | 2 => .long 0 | _ => Value.null) = defaultValue (ftyT ci j) := by decide +kernel
  exact hk ci hci j hj
section SND
variable {p : Program} {l : Launch} {e : Env} {R : Room} {s : State} {m : MethodId} {args : Array Value} {below : List Frame} {meth : Method} {c : Code} {cc : ByteArray} {nL : Nat} {own : String} {D : va_G} {aC : Nat → ClassId} {A : Nat → Prop} {ad0 : Nat → Nat} {N0 : Nat}
/-- a call: the callee's meaning is what happens -/
def CLK (p : Program) (l : Launch) (e : Env) (R : Room) (s : State) (m : MethodId) (args : Array Value) (below : List Frame) (meth : Method) (c : Code) (cc : ByteArray) (nL : Nat) (D : va_G) (aC : Nat → ClassId) (A : Nat → Prop) (ad0 : Nat → Nat) (N0 : Nat) (op : Instr) (n : Nat) (rc : Option Nat) (mc ms : Nat) (f : CF) : Prop :=
  ∀ (Q : State → Prop) (pc : Nat) (ls : Array Slot) (rest : List Value) (As : List Value) (h h' : HP) (r : Option Value) (ad : Nat → Nat) (H : Heap) (locs : List Loc) (cells slots : Nat),
    As.length = n → f As h = some (r, h') → decode cc pc = .ok (op, 3) → ls.size = nL → (rest.map fun v => v.category).sum ≤ 8 → cells + mc ≤ R.cells → slots + ms ≤ R.slots → Hp D aC A s ad0 N0 ad h H locs → okS h.1 As →
    (∀ ci, rc = some ci → ∃ q as, As = .ref q :: as ∧ (ci < 13 → (h.2.1 q).1 = 10 + ci ∧ q < h.1)) →
    (∀ (ad' : Nat → Nat) (H' : Heap) (locs' : List Loc), Hp D aC A s ad0 N0 ad' h' H' locs' → (∀ q, q < h.1 → ad' q = ad q) → h.1 ≤ h'.1 → (∀ v, r = some v → okv h'.1 v) → W p l e R s m args below meth c H' locs' (cells + mc) (slots + ms) Q (F0 m (pc + 3) ls (r.toList.map (mv ad') ++ rest))) →
    W p l e R s m args below meth c H locs cells slots Q (F0 m pc ls ((As.map (mv ad)).reverse ++ rest))
def CLS (p : Program) (l : Launch) (e : Env) (R : Room) (s : State) (m : MethodId) (args : Array Value) (below : List Frame) (meth : Method) (c : Code) (cc : ByteArray) (nL : Nat) (D : va_G) (aC : Nat → ClassId) (A : Nat → Prop) (ad0 : Nat → Nat) (N0 : Nat) (M : MI) : Prop :=
  (∀ pc x nx n rc mc ms f, lkp pc M.1 = some (.invokevirtual x, nx) → lkp (4 * x) M.2.2.2.1 = some (n, rc, mc, ms, f) → CLK p l e R s m args below meth c cc nL D aC A ad0 N0 (.invokevirtual x) n (some rc) mc ms f) ∧
  (∀ pc x nx n rc mc ms f, lkp pc M.1 = some (.invokespecial x, nx) → lkp (4 * x + 1) M.2.2.2.1 = some (n, rc, mc, ms, f) → CLK p l e R s m args below meth c cc nL D aC A ad0 N0 (.invokespecial x) n (some 99) mc ms f) ∧
  (∀ pc x nx n rc mc ms f, lkp pc M.1 = some (.invokestatic x, nx) → lkp (4 * x + 2) M.2.2.2.1 = some (n, rc, mc, ms, f) → CLK p l e R s m args below meth c cc nL D aC A ad0 N0 (.invokestatic x) n none mc ms f)
/-- putfield, whatever its link -/
theorem snd_put {Q : State → Prop} {H : Heap} {locs : List Loc} {cl sl pc : Nat} {ls : Array Slot} {rest : List Value} {ad : Nat → Nat} {h h' : HP} {q x ci j : Nat} {v : Value} (hx : p.tables.exec = Jvm.exec) (hb : c.code = cc) (hown : s.vm.findClass own = some m.cls) (hC : COK args s) (hK : KS D aC s)
    (hP : va_P D vwCl (wof aC ad h) H) (hD : va_D A (wof aC ad h)) (hS : va_S A s.heap H locs) (hci : ci < 13) (hg : (h.2.1 q).1 = 10 + ci ∧ q < h.1 ∧ j < nfd ci) (hpf : PFK own meth args s x ci j) (hd : decode cc pc = .ok (.putfield x, 3))
    (hn : narrow (ftyT ci j) v = v) (hfit : fits (ftyT ci j) v = true) (hsame : (wof aC ad h).set q (ad q, .inr (ci, ((List.range (nfd ci)).map (fvv ad h q ci)).set j v)) = wof aC ad h')
    (kk : ∀ (H1 : Heap) (locs1 : List Loc), va_P D vwCl (wof aC ad h') H1 → va_D A (wof aC ad h') → va_S A s.heap H1 locs1 → W p l e R s m args below meth c H1 locs1 cl sl Q (F0 m (pc + 3) ls rest)) :
    W p l e R s m args below meth c H locs cl sl Q (F0 m pc ls (v :: .ref (ad q) :: rest)) := by
  have he : (wof aC ad h)[q]? = some (ad q, .inr (ci, (List.range (nfd ci)).map (fvv ad h q ci))) := by rw [wof_get hg.2.1, cel_obj hg.1]
  have hl : j < ((List.range (nfd ci)).map (fvv ad h q ci)).length := by simp; exact hg.2.2
  have kk' : ∀ (H1 : Heap) (locs1 : List Loc), va_P D vwCl ((wof aC ad h).set q (ad q, .inr (ci, ((List.range (nfd ci)).map (fvv ad h q ci)).set j v))) H1 → va_D A ((wof aC ad h).set q (ad q, .inr (ci, ((List.range (nfd ci)).map (fvv ad h q ci)).set j v))) → va_S A s.heap H1 locs1 → W p l e R s m args below meth c H1 locs1 cl sl Q (F0 m (pc + 3) ls rest) := by
    rw [hsame]; exact kk
  rcases hpf with ⟨hfin, hf | ⟨host, hf⟩⟩ | ⟨hfin, hini, hdecl, hf⟩
  · exact va_put (C := clN ci) (T := clT ci) (N := nfd ci) hx hb hC.1 (hC.2.1 ci hci).1 (ftyT ci) (clsT hci) (clsM hci) hown hK.1 hP hD hS q he (clsL hci) j hg.2.2 hf (fun _ z => z) hfin (clsT hci j hg.2.2) hn hfit hl hd kk'
  · exact va_putN (C := clN ci) (T := clT ci) (N := nfd ci) hx hb hC.1 (hC.2.1 ci hci).1 (ftyT ci) (clsT hci) (clsM hci) hown hK.1 hP hD hS q he (clsL hci) j hg.2.2 hf (fun _ z => z) hfin (clsT hci j hg.2.2) hn hfit hl hd kk'
  · exact va_putF (C := clN ci) (T := clT ci) (N := nfd ci) hx hb hC.1 (hC.2.1 ci hci).1 (ftyT ci) (clsT hci) (clsM hci) hown hK.1 hP hD hS q he (clsL hci) j hg.2.2 hf (fun _ z => z) hfin hini hdecl (clsT hci j hg.2.2) hn hfit hl hd kk'
set_option maxHeartbeats 40000000 in
set_option maxRecDepth 100000 in
theorem snd_run {M : MI} {r : Option Value} {hF : HP} (hx : p.tables.exec = Jvm.exec) (hb : c.code = cc) (hml : c.maxLocals = nL) (hown : s.vm.findClass own = some m.cls) (hlocks : meth.locks = false) (hret : RTY M.2.2.2.2.2.2.1 meth.sig.returnType)
    (hRc : R.cells = M.2.2.2.2.2.1.1) (hRs : R.slots = M.2.2.2.2.2.1.2) (hC : COK args s) (hK : KS D aC s) (hA : ∀ q, s.heap.size ≤ q → A q) (hM : MOK own cc M meth args s) (hcal : CLS p l e R s m args below meth c cc nL D aC A ad0 N0 M) :
    ∀ (n pc cl sl : Nat) (vs st : List Value) (h : HP), runN M n (pc, cl, sl, vs, st, h) = some (r, hF) → ∀ (ad : Nat → Nat) (H : Heap) (locs : List Loc) (ls : Array Slot), Hp D aC A s ad0 N0 ad h H locs → cl ≤ M.2.2.2.2.2.1.1 → sl ≤ M.2.2.2.2.2.1.2 → LV ad ls nL vs → okS h.1 vs → okS h.1 st →
      W p l e R s m args below meth c H locs cl sl (MQ below (Qm D aC A ad0 N0 r hF) args s M.2.2.2.2.2.1.1 M.2.2.2.2.2.1.2 A) (F0 m pc ls (st.map (mv ad))) := by
  intro n
  induction n with
  | zero => intro pc cl sl vs st h hr; cases hr
  | succ n ih =>
  intro pc cl sl vs st h hrun ad H locs ls hH hcl hsl hL hokL hokS
  replace hrun : stp M (runN M n) some (pc, cl, sl, vs, st, h) = some (r, hF) := hrun
  unfold stp at hrun
  simp only at hrun
  cases hi : lkp pc M.1 with
  | none => rw [hi] at hrun; cases hrun
  | some ii =>
  obtain ⟨i, nx, tg⟩ := ii
  rw [hi] at hrun
  obtain ⟨k, hd, hlen, hnx, htg⟩ := hM.1 pc i nx tg hi
  replace hrun : mkoK (lkp pc M.2.2.2.2.2.2.2) vs (fun l => stpI M (runN M n) some nx tg cl sl l st h i) = some (r, hF) := hrun
  rw [mkoK_eq] at hrun
  replace hL := hL.mko (o := lkp pc M.2.2.2.2.2.2.2)
  replace hokL := mko_ok (o := lkp pc M.2.2.2.2.2.2.2) hokL
  generalize mko (lkp pc M.2.2.2.2.2.2.2) vs = vs at hrun hL hokL
  obtain ⟨hP, hD, hS, hmx, hN0, had, hok⟩ := id hH
  cases i with
  | iconst v =>
    obtain rfl : k = 1 := by simpa [lenOk] using hlen
    subst hnx
    simp only [stpI, stK_eq, setK_eq, hIK_eq, hJK_eq, hRK_eq, alcK_eq] at hrun
    refine lv_iconst hx hb hd rfl ?_
    exact ih _ _ _ _ _ _ hrun ad H locs ls hH hcl hsl hL hokL (hokS.cons trivial)
  | bipush v =>
    obtain rfl : k = 2 := by simpa [lenOk] using hlen
    subst hnx
    simp only [stpI, stK_eq, setK_eq, hIK_eq, hJK_eq, hRK_eq, alcK_eq] at hrun
    refine lv_bipush hx hb hd rfl ?_
    exact ih _ _ _ _ _ _ hrun ad H locs ls hH hcl hsl hL hokL (hokS.cons trivial)
  | sipush v =>
    obtain rfl : k = 3 := by simpa [lenOk] using hlen
    subst hnx
    simp only [stpI, stK_eq, setK_eq, hIK_eq, hJK_eq, hRK_eq, alcK_eq] at hrun
    refine lv_sipush hx hb hd rfl ?_
    exact ih _ _ _ _ _ _ hrun ad H locs ls hH hcl hsl hL hokL (hokS.cons trivial)
  | lconst v =>
    obtain rfl : k = 1 := by simpa [lenOk] using hlen
    subst hnx
    simp only [stpI, stK_eq, setK_eq, hIK_eq, hJK_eq, hRK_eq, alcK_eq] at hrun
    refine lv_lconst hx hb hd rfl ?_
    exact ih _ _ _ _ _ _ hrun ad H locs ls hH hcl hsl hL hokL (hokS.cons trivial)
  | ldc x =>
    obtain rfl : k = 2 := by simpa [lenOk] using hlen
    subst hnx
    simp only [stpI, stK_eq, setK_eq, hIK_eq, hJK_eq, hRK_eq, alcK_eq] at hrun
    split at hrun
    · rename_i v hv
      refine lv_ldc hx hb hown (hM.2.2.2.1 x v hv) hd ?_
      exact ih _ _ _ _ _ _ hrun ad H locs ls hH hcl hsl hL hokL (hokS.cons trivial)
    · cases hrun
  | ldc_w x =>
    obtain rfl : k = 3 := by simpa [lenOk] using hlen
    subst hnx
    simp only [stpI, stK_eq, setK_eq, hIK_eq, hJK_eq, hRK_eq, alcK_eq] at hrun
    split at hrun
    · rename_i v hv
      refine lv_ldcw hx hb hown (hM.2.2.2.1 x v hv) hd ?_
      exact ih _ _ _ _ _ _ hrun ad H locs ls hH hcl hsl hL hokL (hokS.cons trivial)
    · cases hrun
  | ldc2_w x =>
    obtain rfl : k = 3 := by simpa [lenOk] using hlen
    subst hnx
    simp only [stpI, stK_eq, setK_eq, hIK_eq, hJK_eq, hRK_eq, alcK_eq] at hrun
    split at hrun
    · rename_i v hv
      refine lv_ldc2 hx hb hown (hM.2.2.2.2.1 x v hv) hd ?_
      exact ih _ _ _ _ _ _ hrun ad H locs ls hH hcl hsl hL hokL (hokS.cons trivial)
    · cases hrun
  | iload x =>
    obtain rfl : k = 2 := by simpa [lenOk] using hlen
    subst hnx
    simp only [stpI, stK_eq, setK_eq, hIK_eq, hJK_eq, hRK_eq, alcK_eq] at hrun
    split at hrun
    · rename_i v hv
      refine lv_iload hx hb hd (hL.at hv (fun z => by cases z)) ?_
      exact ih _ _ _ _ _ _ hrun ad H locs ls hH hcl hsl hL hokL (hokS.cons trivial)
    · cases hrun
  | iload_n x =>
    obtain rfl : k = 1 := by simpa [lenOk] using hlen
    subst hnx
    simp only [stpI, stK_eq, setK_eq, hIK_eq, hJK_eq, hRK_eq, alcK_eq] at hrun
    split at hrun
    · rename_i v hv
      refine lv_iload_n hx hb hd rfl (hL.at hv (fun z => by cases z)) ?_
      exact ih _ _ _ _ _ _ hrun ad H locs ls hH hcl hsl hL hokL (hokS.cons trivial)
    · cases hrun
  | lload x =>
    obtain rfl : k = 2 := by simpa [lenOk] using hlen
    subst hnx
    simp only [stpI, stK_eq, setK_eq, hIK_eq, hJK_eq, hRK_eq, alcK_eq] at hrun
    split at hrun
    · rename_i v hv
      refine lv_lload hx hb hd (hL.at hv (fun z => by cases z)) ?_
      exact ih _ _ _ _ _ _ hrun ad H locs ls hH hcl hsl hL hokL (hokS.cons trivial)
    · cases hrun
  | lload_n x =>
    obtain rfl : k = 1 := by simpa [lenOk] using hlen
    subst hnx
    simp only [stpI, stK_eq, setK_eq, hIK_eq, hJK_eq, hRK_eq, alcK_eq] at hrun
    split at hrun
    · rename_i v hv
      refine lv_lload_n hx hb hd rfl (hL.at hv (fun z => by cases z)) ?_
      exact ih _ _ _ _ _ _ hrun ad H locs ls hH hcl hsl hL hokL (hokS.cons trivial)
    · cases hrun
  | aload x =>
    obtain rfl : k = 2 := by simpa [lenOk] using hlen
    subst hnx
    simp only [stpI, stK_eq, setK_eq, hIK_eq, hJK_eq, hRK_eq, alcK_eq] at hrun
    split at hrun
    · rename_i v hv
      refine lv_aload hx hb hd (hL.at hv (fun z => by cases z)) ?_
      exact ih _ _ _ _ _ _ hrun ad H locs ls hH hcl hsl hL hokL (hokS.cons (hokL _ (List.mem_of_getElem? hv)))
    · cases hrun
  | aload_n x =>
    obtain rfl : k = 1 := by simpa [lenOk] using hlen
    subst hnx
    simp only [stpI, stK_eq, setK_eq, hIK_eq, hJK_eq, hRK_eq, alcK_eq] at hrun
    split at hrun
    · rename_i v hv
      refine lv_aload_n hx hb hd rfl (hL.at hv (fun z => by cases z)) ?_
      exact ih _ _ _ _ _ _ hrun ad H locs ls hH hcl hsl hL hokL (hokS.cons (hokL _ (List.mem_of_getElem? hv)))
    · cases hrun
  | istore x =>
    obtain rfl : k = 2 := by simpa [lenOk] using hlen
    subst hnx
    simp only [stpI, stK_eq, setK_eq, hIK_eq, hJK_eq, hRK_eq, alcK_eq] at hrun
    split at hrun
    · rename_i v r'
      cases hq : Nat.blt x vs.length with
      | false => rw [hq] at hrun; cases hrun
      | true =>
        rw [hq] at hrun
        have hlt : x < nL := by rw [← hL.2]; exact Nat.blt_eq.mp hq
        refine lv_istore hx hb hd hL.1 hlt rfl (fun ls' hl' => ?_)
        exact ih _ _ _ _ _ _ hrun ad H locs ls' hH hcl hsl (LV.st1 (x := .int v) hL.2 hlt hl') (set_ok (kill_ok hokL) hokS.hd) hokS.tl
    · cases hrun
  | istore_n x =>
    obtain rfl : k = 1 := by simpa [lenOk] using hlen
    subst hnx
    simp only [stpI, stK_eq, setK_eq, hIK_eq, hJK_eq, hRK_eq, alcK_eq] at hrun
    split at hrun
    · rename_i v r'
      cases hq : Nat.blt (x : Nat) vs.length with
      | false => rw [hq] at hrun; cases hrun
      | true =>
        rw [hq] at hrun
        have hlt : (x : Nat) < nL := by rw [← hL.2]; exact Nat.blt_eq.mp hq
        refine lv_istore_n hx hb hd rfl hL.1 hlt rfl (fun ls' hl' => ?_)
        exact ih _ _ _ _ _ _ hrun ad H locs ls' hH hcl hsl (LV.st1 (x := .int v) hL.2 hlt hl') (set_ok (kill_ok hokL) hokS.hd) hokS.tl
    · cases hrun
  | astore x =>
    obtain rfl : k = 2 := by simpa [lenOk] using hlen
    subst hnx
    simp only [stpI, stK_eq, setK_eq, hIK_eq, hJK_eq, hRK_eq, alcK_eq] at hrun
    split at hrun
    · rename_i v r'
      cases hq : Nat.blt x vs.length with
      | false => rw [hq] at hrun; cases hrun
      | true =>
        rw [hq] at hrun
        have hlt : x < nL := by rw [← hL.2]; exact Nat.blt_eq.mp hq
        refine lv_astore hx hb hd hL.1 hlt rfl (fun ls' hl' => ?_)
        exact ih _ _ _ _ _ _ hrun ad H locs ls' hH hcl hsl (LV.st1 (x := .ref v) hL.2 hlt hl') (set_ok (kill_ok hokL) hokS.hd) hokS.tl
    · cases hrun
  | astore_n x =>
    obtain rfl : k = 1 := by simpa [lenOk] using hlen
    subst hnx
    simp only [stpI, stK_eq, setK_eq, hIK_eq, hJK_eq, hRK_eq, alcK_eq] at hrun
    split at hrun
    · rename_i v r'
      cases hq : Nat.blt (x : Nat) vs.length with
      | false => rw [hq] at hrun; cases hrun
      | true =>
        rw [hq] at hrun
        have hlt : (x : Nat) < nL := by rw [← hL.2]; exact Nat.blt_eq.mp hq
        refine lv_astore_n hx hb hd rfl hL.1 hlt rfl (fun ls' hl' => ?_)
        exact ih _ _ _ _ _ _ hrun ad H locs ls' hH hcl hsl (LV.st1 (x := .ref v) hL.2 hlt hl') (set_ok (kill_ok hokL) hokS.hd) hokS.tl
    · cases hrun
  | lstore x =>
    obtain rfl : k = 2 := by simpa [lenOk] using hlen
    subst hnx
    simp only [stpI, stK_eq, setK_eq, hIK_eq, hJK_eq, hRK_eq, alcK_eq] at hrun
    split at hrun
    · rename_i v r'
      cases hq : Nat.blt (x + 1) vs.length with
      | false => rw [hq] at hrun; cases hrun
      | true =>
        rw [hq] at hrun
        have hlt : x + 1 < nL := by rw [← hL.2]; exact Nat.blt_eq.mp hq
        refine lv_lstore hx hb hd hL.1 hlt rfl (fun ls' hl' => ?_)
        exact ih _ _ _ _ _ _ hrun ad H locs ls' hH hcl hsl (LV.st2 (x := .long v) hL.2 hlt hl') (set_ok (set_ok (kill_ok hokL) trivial) trivial) hokS.tl
    · cases hrun
  | lstore_n x =>
    obtain rfl : k = 1 := by simpa [lenOk] using hlen
    subst hnx
    simp only [stpI, stK_eq, setK_eq, hIK_eq, hJK_eq, hRK_eq, alcK_eq] at hrun
    split at hrun
    · rename_i v r'
      cases hq : Nat.blt ((x : Nat) + 1) vs.length with
      | false => rw [hq] at hrun; cases hrun
      | true =>
        rw [hq] at hrun
        have hlt : (x : Nat) + 1 < nL := by rw [← hL.2]; exact Nat.blt_eq.mp hq
        refine lv_lstore_n hx hb hd rfl hL.1 hlt rfl (fun ls' hl' => ?_)
        exact ih _ _ _ _ _ _ hrun ad H locs ls' hH hcl hsl (LV.st2 (x := .long v) hL.2 hlt hl') (set_ok (set_ok (kill_ok hokL) trivial) trivial) hokS.tl
    · cases hrun
  | iinc x n0 =>
    obtain rfl : k = 3 := by simpa [lenOk] using hlen
    subst hnx
    simp only [stpI, stK_eq, setK_eq, hIK_eq, hJK_eq, hRK_eq, alcK_eq] at hrun
    split at hrun
    · rename_i v hv
      have hlt : x < nL := by rw [← hL.2]; exact (List.getElem?_eq_some_iff.mp hv).1
      obtain ⟨kk, hkk⟩ := List.getElem?_of_mem (lvl_mem (ad := ad) (q := (x, Value.int v)) |>.mpr ⟨_, hv, (fun z => by cases z), rfl⟩)
      refine lv_iinc hx hb hd hL.1 hkk rfl hlt rfl (fun ls' hl' => ?_)
      exact ih _ _ _ _ _ _ hrun ad H locs ls' hH hcl hsl (LV.st1 (x := .int _) hL.2 hlt hl') (set_ok (kill_ok hokL) trivial) hokS
    · cases hrun
  | iadd =>
    obtain rfl : k = 1 := by simpa [lenOk] using hlen
    subst hnx
    simp only [stpI, stK_eq, setK_eq, hIK_eq, hJK_eq, hRK_eq, alcK_eq] at hrun
    split at hrun
    · refine lv_iadd hx hb hd ?_
      exact ih _ _ _ _ _ _ hrun ad H locs ls hH hcl hsl hL hokL (hokS.tl.tl.cons trivial)
    · cases hrun
  | isub =>
    obtain rfl : k = 1 := by simpa [lenOk] using hlen
    subst hnx
    simp only [stpI, stK_eq, setK_eq, hIK_eq, hJK_eq, hRK_eq, alcK_eq] at hrun
    split at hrun
    · refine lv_isub hx hb hd ?_
      exact ih _ _ _ _ _ _ hrun ad H locs ls hH hcl hsl hL hokL (hokS.tl.tl.cons trivial)
    · cases hrun
  | imul =>
    obtain rfl : k = 1 := by simpa [lenOk] using hlen
    subst hnx
    simp only [stpI, stK_eq, setK_eq, hIK_eq, hJK_eq, hRK_eq, alcK_eq] at hrun
    split at hrun
    · refine lv_imul hx hb hd ?_
      exact ih _ _ _ _ _ _ hrun ad H locs ls hH hcl hsl hL hokL (hokS.tl.tl.cons trivial)
    · cases hrun
  | iand =>
    obtain rfl : k = 1 := by simpa [lenOk] using hlen
    subst hnx
    simp only [stpI, stK_eq, setK_eq, hIK_eq, hJK_eq, hRK_eq, alcK_eq] at hrun
    split at hrun
    · refine lv_iand hx hb hd ?_
      exact ih _ _ _ _ _ _ hrun ad H locs ls hH hcl hsl hL hokL (hokS.tl.tl.cons trivial)
    · cases hrun
  | ior =>
    obtain rfl : k = 1 := by simpa [lenOk] using hlen
    subst hnx
    simp only [stpI, stK_eq, setK_eq, hIK_eq, hJK_eq, hRK_eq, alcK_eq] at hrun
    split at hrun
    · refine lv_ior hx hb hd ?_
      exact ih _ _ _ _ _ _ hrun ad H locs ls hH hcl hsl hL hokL (hokS.tl.tl.cons trivial)
    · cases hrun
  | ixor =>
    obtain rfl : k = 1 := by simpa [lenOk] using hlen
    subst hnx
    simp only [stpI, stK_eq, setK_eq, hIK_eq, hJK_eq, hRK_eq, alcK_eq] at hrun
    split at hrun
    · refine lv_ixor hx hb hd ?_
      exact ih _ _ _ _ _ _ hrun ad H locs ls hH hcl hsl hL hokL (hokS.tl.tl.cons trivial)
    · cases hrun
  | ishl =>
    obtain rfl : k = 1 := by simpa [lenOk] using hlen
    subst hnx
    simp only [stpI, stK_eq, setK_eq, hIK_eq, hJK_eq, hRK_eq, alcK_eq] at hrun
    split at hrun
    · refine lv_ishl hx hb hd ?_
      exact ih _ _ _ _ _ _ hrun ad H locs ls hH hcl hsl hL hokL (hokS.tl.tl.cons trivial)
    · cases hrun
  | ishr =>
    obtain rfl : k = 1 := by simpa [lenOk] using hlen
    subst hnx
    simp only [stpI, stK_eq, setK_eq, hIK_eq, hJK_eq, hRK_eq, alcK_eq] at hrun
    split at hrun
    · refine lv_ishr hx hb hd ?_
      exact ih _ _ _ _ _ _ hrun ad H locs ls hH hcl hsl hL hokL (hokS.tl.tl.cons trivial)
    · cases hrun
  | ladd =>
    obtain rfl : k = 1 := by simpa [lenOk] using hlen
    subst hnx
    simp only [stpI, stK_eq, setK_eq, hIK_eq, hJK_eq, hRK_eq, alcK_eq] at hrun
    split at hrun
    · refine lv_ladd hx hb hd ?_
      exact ih _ _ _ _ _ _ hrun ad H locs ls hH hcl hsl hL hokL (hokS.tl.tl.cons trivial)
    · cases hrun
  | lmul =>
    obtain rfl : k = 1 := by simpa [lenOk] using hlen
    subst hnx
    simp only [stpI, stK_eq, setK_eq, hIK_eq, hJK_eq, hRK_eq, alcK_eq] at hrun
    split at hrun
    · refine lv_lmul hx hb hd ?_
      exact ih _ _ _ _ _ _ hrun ad H locs ls hH hcl hsl hL hokL (hokS.tl.tl.cons trivial)
    · cases hrun
  | land =>
    obtain rfl : k = 1 := by simpa [lenOk] using hlen
    subst hnx
    simp only [stpI, stK_eq, setK_eq, hIK_eq, hJK_eq, hRK_eq, alcK_eq] at hrun
    split at hrun
    · refine lv_land hx hb hd ?_
      exact ih _ _ _ _ _ _ hrun ad H locs ls hH hcl hsl hL hokL (hokS.tl.tl.cons trivial)
    · cases hrun
  | lor =>
    obtain rfl : k = 1 := by simpa [lenOk] using hlen
    subst hnx
    simp only [stpI, stK_eq, setK_eq, hIK_eq, hJK_eq, hRK_eq, alcK_eq] at hrun
    split at hrun
    · refine lv_lor hx hb hd ?_
      exact ih _ _ _ _ _ _ hrun ad H locs ls hH hcl hsl hL hokL (hokS.tl.tl.cons trivial)
    · cases hrun
  | lxor =>
    obtain rfl : k = 1 := by simpa [lenOk] using hlen
    subst hnx
    simp only [stpI, stK_eq, setK_eq, hIK_eq, hJK_eq, hRK_eq, alcK_eq] at hrun
    split at hrun
    · refine lv_lxor hx hb hd ?_
      exact ih _ _ _ _ _ _ hrun ad H locs ls hH hcl hsl hL hokL (hokS.tl.tl.cons trivial)
    · cases hrun
  | iushr =>
    obtain rfl : k = 1 := by simpa [lenOk] using hlen
    subst hnx
    simp only [stpI, stK_eq, setK_eq, hIK_eq, hJK_eq, hRK_eq, alcK_eq] at hrun
    split at hrun
    · refine lv_iushr hx hb hd rfl ?_
      exact ih _ _ _ _ _ _ hrun ad H locs ls hH hcl hsl hL hokL (hokS.tl.tl.cons trivial)
    · cases hrun
  | lshl =>
    obtain rfl : k = 1 := by simpa [lenOk] using hlen
    subst hnx
    simp only [stpI, stK_eq, setK_eq, hIK_eq, hJK_eq, hRK_eq, alcK_eq] at hrun
    split at hrun
    · refine lv_lshl hx hb hd rfl ?_
      exact ih _ _ _ _ _ _ hrun ad H locs ls hH hcl hsl hL hokL (hokS.tl.tl.cons trivial)
    · cases hrun
  | lushr =>
    obtain rfl : k = 1 := by simpa [lenOk] using hlen
    subst hnx
    simp only [stpI, stK_eq, setK_eq, hIK_eq, hJK_eq, hRK_eq, alcK_eq] at hrun
    split at hrun
    · refine lv_lushr hx hb hd rfl ?_
      exact ih _ _ _ _ _ _ hrun ad H locs ls hH hcl hsl hL hokL (hokS.tl.tl.cons trivial)
    · cases hrun
  | idiv =>
    obtain rfl : k = 1 := by simpa [lenOk] using hlen
    subst hnx
    simp only [stpI, stK_eq, setK_eq, hIK_eq, hJK_eq, hRK_eq, alcK_eq] at hrun
    split at hrun
    · split at hrun
      · cases hrun
      · rename_i hne
        refine lv_idiv hx hb hd hne ?_
        exact ih _ _ _ _ _ _ hrun ad H locs ls hH hcl hsl hL hokL (hokS.tl.tl.cons trivial)
    · cases hrun
  | irem =>
    obtain rfl : k = 1 := by simpa [lenOk] using hlen
    subst hnx
    simp only [stpI, stK_eq, setK_eq, hIK_eq, hJK_eq, hRK_eq, alcK_eq] at hrun
    split at hrun
    · split at hrun
      · cases hrun
      · rename_i hne
        refine lv_irem hx hb hd hne ?_
        exact ih _ _ _ _ _ _ hrun ad H locs ls hH hcl hsl hL hokL (hokS.tl.tl.cons trivial)
    · cases hrun
  | ldiv =>
    obtain rfl : k = 1 := by simpa [lenOk] using hlen
    subst hnx
    simp only [stpI, stK_eq, setK_eq, hIK_eq, hJK_eq, hRK_eq, alcK_eq] at hrun
    split at hrun
    · split at hrun
      · cases hrun
      · rename_i hne
        refine lv_ldiv hx hb hd hne ?_
        exact ih _ _ _ _ _ _ hrun ad H locs ls hH hcl hsl hL hokL (hokS.tl.tl.cons trivial)
    · cases hrun
  | lrem =>
    obtain rfl : k = 1 := by simpa [lenOk] using hlen
    subst hnx
    simp only [stpI, stK_eq, setK_eq, hIK_eq, hJK_eq, hRK_eq, alcK_eq] at hrun
    split at hrun
    · split at hrun
      · cases hrun
      · rename_i hne
        refine lv_lrem hx hb hd hne ?_
        exact ih _ _ _ _ _ _ hrun ad H locs ls hH hcl hsl hL hokL (hokS.tl.tl.cons trivial)
    · cases hrun
  | lcmp =>
    obtain rfl : k = 1 := by simpa [lenOk] using hlen
    subst hnx
    simp only [stpI, stK_eq, setK_eq, hIK_eq, hJK_eq, hRK_eq, alcK_eq] at hrun
    split at hrun
    · refine W.lcmp hx hb hd ?_
      exact ih _ _ _ _ _ _ hrun ad H locs ls hH hcl hsl hL hokL (hokS.tl.tl.cons trivial)
    · cases hrun
  | i2l =>
    obtain rfl : k = 1 := by simpa [lenOk] using hlen
    subst hnx
    simp only [stpI, stK_eq, setK_eq, hIK_eq, hJK_eq, hRK_eq, alcK_eq] at hrun
    split at hrun
    · refine lv_i2l hx hb hd rfl ?_
      exact ih _ _ _ _ _ _ hrun ad H locs ls hH hcl hsl hL hokL (hokS.tl.cons trivial)
    · cases hrun
  | l2i =>
    obtain rfl : k = 1 := by simpa [lenOk] using hlen
    subst hnx
    simp only [stpI, stK_eq, setK_eq, hIK_eq, hJK_eq, hRK_eq, alcK_eq] at hrun
    split at hrun
    · refine lv_l2i hx hb hd rfl ?_
      exact ih _ _ _ _ _ _ hrun ad H locs ls hH hcl hsl hL hokL (hokS.tl.cons trivial)
    · cases hrun
  | dup =>
    obtain rfl : k = 1 := by simpa [lenOk] using hlen
    subst hnx
    simp only [stpI, stK_eq, setK_eq, hIK_eq, hJK_eq, hRK_eq, alcK_eq] at hrun
    split at hrun
    · refine lv_dup hx hb hd rfl ?_
      exact ih _ _ _ _ _ _ hrun ad H locs ls hH hcl hsl hL hokL (hokS.cons trivial)
    · refine lv_dup hx hb hd rfl ?_
      exact ih _ _ _ _ _ _ hrun ad H locs ls hH hcl hsl hL hokL (hokS.cons hokS.hd)
    · cases hrun
  | dup2 =>
    obtain rfl : k = 1 := by simpa [lenOk] using hlen
    subst hnx
    simp only [stpI, stK_eq, setK_eq, hIK_eq, hJK_eq, hRK_eq, alcK_eq] at hrun
    split at hrun
    · refine lv_dup2_11 hx hb hd rfl rfl ?_
      exact ih _ _ _ _ _ _ hrun ad H locs ls hH hcl hsl hL hokL ((hokS.cons hokS.tl.hd).cons trivial)
    · cases hrun
  | goto off =>
    obtain rfl : k = 3 := by simpa [lenOk] using hlen
    subst hnx
    simp only [stpI, stK_eq, setK_eq, hIK_eq, hJK_eq, hRK_eq, alcK_eq] at hrun
    split at hrun
    · refine lv_goto hx hb hd (tgAll_1 htg) ?_
      exact ih _ _ _ _ _ _ hrun ad H locs ls hH hcl hsl hL hokL hokS
    · cases hrun
  | ifCond q off =>
    obtain rfl : k = 3 := by simpa [lenOk] using hlen
    subst hnx
    simp only [stpI, stK_eq, setK_eq, hIK_eq, hJK_eq, hRK_eq, alcK_eq] at hrun
    split at hrun
    · cases q with
      | eq =>
        simp only at hrun
        cases tg with
        | nil => cases hrun
        | cons t ts =>
          have ht : (pc : Int) + off = (t : Int) := tgAll_1 htg
          simp only at hrun
          split at hrun
          · rename_i hq
            refine lv_if_eq hx hb hd ht (fun _ => ?_) (fun z => absurd hq z)
            exact ih _ _ _ _ _ _ hrun ad H locs ls hH hcl hsl hL hokL hokS.tl
          · rename_i hq
            refine lv_if_eq hx hb hd ht (fun z => absurd z hq) (fun _ => ?_)
            exact ih _ _ _ _ _ _ hrun ad H locs ls hH hcl hsl hL hokL hokS.tl
      | ne =>
        simp only at hrun
        cases tg with
        | nil => cases hrun
        | cons t ts =>
          have ht : (pc : Int) + off = (t : Int) := tgAll_1 htg
          simp only at hrun
          split at hrun
          · rename_i hq
            refine lv_if_ne hx hb hd ht (fun z => absurd hq z) (fun _ => ?_)
            exact ih _ _ _ _ _ _ hrun ad H locs ls hH hcl hsl hL hokL hokS.tl
          · rename_i hq
            refine lv_if_ne hx hb hd ht (fun _ => ?_) (fun z => absurd z hq)
            exact ih _ _ _ _ _ _ hrun ad H locs ls hH hcl hsl hL hokL hokS.tl
      | lt =>
        simp only at hrun
        cases tg with
        | nil => cases hrun
        | cons t ts =>
          have ht : (pc : Int) + off = (t : Int) := tgAll_1 htg
          simp only at hrun
          split at hrun
          · rename_i hq
            refine lv_if_lt hx hb hd ht (fun _ => ?_) (fun z => absurd hq z)
            exact ih _ _ _ _ _ _ hrun ad H locs ls hH hcl hsl hL hokL hokS.tl
          · rename_i hq
            refine lv_if_lt hx hb hd ht (fun z => absurd z hq) (fun _ => ?_)
            exact ih _ _ _ _ _ _ hrun ad H locs ls hH hcl hsl hL hokL hokS.tl
      | ge =>
        simp only at hrun
        cases tg with
        | nil => cases hrun
        | cons t ts =>
          have ht : (pc : Int) + off = (t : Int) := tgAll_1 htg
          simp only at hrun
          split at hrun
          · rename_i hq
            refine lv_if_ge hx hb hd ht (fun _ => ?_) (fun z => absurd hq z)
            exact ih _ _ _ _ _ _ hrun ad H locs ls hH hcl hsl hL hokL hokS.tl
          · rename_i hq
            refine lv_if_ge hx hb hd ht (fun z => absurd z hq) (fun _ => ?_)
            exact ih _ _ _ _ _ _ hrun ad H locs ls hH hcl hsl hL hokL hokS.tl
      | gt =>
        simp only at hrun
        cases tg with
        | nil => cases hrun
        | cons t ts =>
          have ht : (pc : Int) + off = (t : Int) := tgAll_1 htg
          simp only at hrun
          split at hrun
          · rename_i hq
            refine lv_if_gt hx hb hd ht (fun _ => ?_) (fun z => absurd hq z)
            exact ih _ _ _ _ _ _ hrun ad H locs ls hH hcl hsl hL hokL hokS.tl
          · rename_i hq
            refine lv_if_gt hx hb hd ht (fun z => absurd z hq) (fun _ => ?_)
            exact ih _ _ _ _ _ _ hrun ad H locs ls hH hcl hsl hL hokL hokS.tl
      | le =>
        simp only at hrun
        cases tg with
        | nil => cases hrun
        | cons t ts =>
          have ht : (pc : Int) + off = (t : Int) := tgAll_1 htg
          simp only at hrun
          split at hrun
          · rename_i hq
            refine lv_if_le hx hb hd ht (fun _ => ?_) (fun z => absurd hq z)
            exact ih _ _ _ _ _ _ hrun ad H locs ls hH hcl hsl hL hokL hokS.tl
          · rename_i hq
            refine lv_if_le hx hb hd ht (fun z => absurd z hq) (fun _ => ?_)
            exact ih _ _ _ _ _ _ hrun ad H locs ls hH hcl hsl hL hokL hokS.tl
    · cases hrun
  | if_icmp q off =>
    obtain rfl : k = 3 := by simpa [lenOk] using hlen
    subst hnx
    simp only [stpI, stK_eq, setK_eq, hIK_eq, hJK_eq, hRK_eq, alcK_eq] at hrun
    split at hrun
    · cases q with
      | eq =>
        simp only at hrun
        cases tg with
        | nil => cases hrun
        | cons t ts =>
          have ht : (pc : Int) + off = (t : Int) := tgAll_1 htg
          simp only at hrun
          split at hrun
          · rename_i hq
            refine lv_icmp_eq hx hb hd ht (fun _ => ?_) (fun z => absurd hq z)
            exact ih _ _ _ _ _ _ hrun ad H locs ls hH hcl hsl hL hokL hokS.tl.tl
          · rename_i hq
            refine lv_icmp_eq hx hb hd ht (fun z => absurd z hq) (fun _ => ?_)
            exact ih _ _ _ _ _ _ hrun ad H locs ls hH hcl hsl hL hokL hokS.tl.tl
      | ne =>
        simp only at hrun
        cases tg with
        | nil => cases hrun
        | cons t ts =>
          have ht : (pc : Int) + off = (t : Int) := tgAll_1 htg
          simp only at hrun
          split at hrun
          · rename_i hq
            refine lv_icmp_ne hx hb hd ht (fun z => absurd hq z) (fun _ => ?_)
            exact ih _ _ _ _ _ _ hrun ad H locs ls hH hcl hsl hL hokL hokS.tl.tl
          · rename_i hq
            refine lv_icmp_ne hx hb hd ht (fun _ => ?_) (fun z => absurd z hq)
            exact ih _ _ _ _ _ _ hrun ad H locs ls hH hcl hsl hL hokL hokS.tl.tl
      | lt =>
        simp only at hrun
        cases tg with
        | nil => cases hrun
        | cons t ts =>
          have ht : (pc : Int) + off = (t : Int) := tgAll_1 htg
          simp only at hrun
          split at hrun
          · rename_i hq
            refine lv_icmp_lt hx hb hd ht (fun _ => ?_) (fun z => absurd hq z)
            exact ih _ _ _ _ _ _ hrun ad H locs ls hH hcl hsl hL hokL hokS.tl.tl
          · rename_i hq
            refine lv_icmp_lt hx hb hd ht (fun z => absurd z hq) (fun _ => ?_)
            exact ih _ _ _ _ _ _ hrun ad H locs ls hH hcl hsl hL hokL hokS.tl.tl
      | ge =>
        simp only at hrun
        cases tg with
        | nil => cases hrun
        | cons t ts =>
          have ht : (pc : Int) + off = (t : Int) := tgAll_1 htg
          simp only at hrun
          split at hrun
          · rename_i hq
            refine lv_icmp_ge hx hb hd ht (fun _ => ?_) (fun z => absurd hq z)
            exact ih _ _ _ _ _ _ hrun ad H locs ls hH hcl hsl hL hokL hokS.tl.tl
          · rename_i hq
            refine lv_icmp_ge hx hb hd ht (fun z => absurd z hq) (fun _ => ?_)
            exact ih _ _ _ _ _ _ hrun ad H locs ls hH hcl hsl hL hokL hokS.tl.tl
      | gt =>
        simp only at hrun
        cases tg with
        | nil => cases hrun
        | cons t ts =>
          have ht : (pc : Int) + off = (t : Int) := tgAll_1 htg
          simp only at hrun
          split at hrun
          · rename_i hq
            refine lv_icmp_gt hx hb hd ht (fun _ => ?_) (fun z => absurd hq z)
            exact ih _ _ _ _ _ _ hrun ad H locs ls hH hcl hsl hL hokL hokS.tl.tl
          · rename_i hq
            refine lv_icmp_gt hx hb hd ht (fun z => absurd z hq) (fun _ => ?_)
            exact ih _ _ _ _ _ _ hrun ad H locs ls hH hcl hsl hL hokL hokS.tl.tl
      | le =>
        simp only at hrun
        cases tg with
        | nil => cases hrun
        | cons t ts =>
          have ht : (pc : Int) + off = (t : Int) := tgAll_1 htg
          simp only at hrun
          split at hrun
          · rename_i hq
            refine lv_icmp_le hx hb hd ht (fun _ => ?_) (fun z => absurd hq z)
            exact ih _ _ _ _ _ _ hrun ad H locs ls hH hcl hsl hL hokL hokS.tl.tl
          · rename_i hq
            refine lv_icmp_le hx hb hd ht (fun z => absurd z hq) (fun _ => ?_)
            exact ih _ _ _ _ _ _ hrun ad H locs ls hH hcl hsl hL hokL hokS.tl.tl
    · cases hrun
  | tableswitch d lo hi0 offs =>
    subst hnx
    simp only [stpI, stK_eq, setK_eq, hIK_eq, hJK_eq, hRK_eq, alcK_eq] at hrun
    split at hrun
    · rename_i x r'
      split at hrun
      · rename_i d' ts
        have htg' : tgAll pc (d :: offs.toList) (d' :: ts) = true ∧ -2147483648 ≤ lo ∧ lo + offs.size ≤ 2147483648 ∧ hi0 + 1 = lo + offs.size := by
          unfold tgOk at htg
          simp only [Bool.and_eq_true, decide_eq_true_eq] at htg
          exact ⟨htg.1.1.1, htg.1.1.2, htg.1.2, htg.2⟩
        obtain ⟨hta, hg1, hg2, hg3⟩ := htg'
        have htl : ts.length = offs.size := by
          have := tgAll_len hta
          simpa using this
        rcases swk_some _ _ hrun with ⟨i, t, h1, h2, h3⟩ | ⟨h1, h3⟩
        · have hil : i < offs.size := by
            have := (List.getElem?_eq_some_iff.mp h1).1
            omega
          obtain ⟨o, ho1, ho2⟩ := tgAll_get (k := i + 1) hta (by simpa using h1)
          have hxi : x.toInt = lo + i := by rw [h2]; exact Int32.toInt_ofInt_of_le (by omega) (by omega)
          refine lv_tableIn hx hb hd (by omega) (by omega) (off := o) ?_ ho2 ?_
          · rw [hxi, show (lo + (i : Int) - lo).toNat = i by omega, ← Array.getElem?_toList]; simpa using ho1
          · exact ih _ _ _ _ _ _ h3 ad H locs ls hH hcl hsl hL hokL hokS.tl
        · obtain ⟨o, ho1, ho2⟩ := tgAll_get (k := 0) (t := d') hta rfl
          have ho1' : d = o := by simpa using ho1
          subst ho1'
          refine lv_tableOut hx hb hd ?_ ho2 ?_
          · rcases Int.lt_or_le x.toInt lo with z | z
            · exact Or.inl z
            · right
              rcases Int.lt_or_le hi0 x.toInt with z2 | z2
              · exact z2
              · exfalso
                refine h1 (x.toInt - lo).toNat (by omega) ?_
                rw [show lo + ((x.toInt - lo).toNat : Int) = x.toInt by omega]
                exact (Int32.ofInt_toInt x).symm
          · exact ih _ _ _ _ _ _ h3 ad H locs ls hH hcl hsl hL hokL hokS.tl
      · cases hrun
    · cases hrun
  | getfield x =>
    obtain rfl : k = 3 := by simpa [lenOk] using hlen
    subst hnx
    simp only [stpI, stK_eq, setK_eq, hIK_eq, hJK_eq, hRK_eq, alcK_eq] at hrun
    split at hrun
    · rename_i q r'
      cases hf0 : lkp x M.2.1 with
      | none => rw [hf0] at hrun; cases hrun
      | some cj =>
      obtain ⟨ci, j⟩ := cj
      rw [hf0] at hrun
      simp only at hrun
      obtain ⟨hci, hfo⟩ := hM.2.1 x ci j hf0
      split at hrun
      · rename_i hg
        split at hrun
        · rename_i hty
          have hv : ((List.range (nfd ci)).map (fvv ad h q ci))[j]? = some (.int (h.2.2.1 q j)) := by simp [hg.2.2, fvv, hty]
          rcases hfo with hf | ⟨host, hf⟩
          · refine va_get (C := clN ci) (T := clT ci) (N := nfd ci) hx hb hC.1 (hC.2.1 ci hci).1 hown hK.1 hP q (by rw [wof_get hg.2.1, cel_obj hg.1]) (clsL hci) j hg.2.2 hf (fun _ z => z) hv hd ?_
            exact ih _ _ _ _ _ _ hrun ad H locs ls hH hcl hsl hL hokL (hokS.tl.cons trivial)
          · refine va_getN (C := clN ci) (T := clT ci) (N := nfd ci) hx hb hC.1 (hC.2.1 ci hci).1 hown hK.1 hP q (by rw [wof_get hg.2.1, cel_obj hg.1]) (clsL hci) j hg.2.2 hf (fun _ z => z) hv hd ?_
            exact ih _ _ _ _ _ _ hrun ad H locs ls hH hcl hsl hL hokL (hokS.tl.cons trivial)
        · rename_i hty
          have hv : ((List.range (nfd ci)).map (fvv ad h q ci))[j]? = some (.int (h.2.2.1 q j)) := by simp [hg.2.2, fvv, hty]
          rcases hfo with hf | ⟨host, hf⟩
          · refine va_get (C := clN ci) (T := clT ci) (N := nfd ci) hx hb hC.1 (hC.2.1 ci hci).1 hown hK.1 hP q (by rw [wof_get hg.2.1, cel_obj hg.1]) (clsL hci) j hg.2.2 hf (fun _ z => z) hv hd ?_
            exact ih _ _ _ _ _ _ hrun ad H locs ls hH hcl hsl hL hokL (hokS.tl.cons trivial)
          · refine va_getN (C := clN ci) (T := clT ci) (N := nfd ci) hx hb hC.1 (hC.2.1 ci hci).1 hown hK.1 hP q (by rw [wof_get hg.2.1, cel_obj hg.1]) (clsL hci) j hg.2.2 hf (fun _ z => z) hv hd ?_
            exact ih _ _ _ _ _ _ hrun ad H locs ls hH hcl hsl hL hokL (hokS.tl.cons trivial)
        · rename_i hty
          have hv : ((List.range (nfd ci)).map (fvv ad h q ci))[j]? = some (.long (h.2.2.2.1 q j)) := by simp [hg.2.2, fvv, hty]
          rcases hfo with hf | ⟨host, hf⟩
          · refine va_get (C := clN ci) (T := clT ci) (N := nfd ci) hx hb hC.1 (hC.2.1 ci hci).1 hown hK.1 hP q (by rw [wof_get hg.2.1, cel_obj hg.1]) (clsL hci) j hg.2.2 hf (fun _ z => z) hv hd ?_
            exact ih _ _ _ _ _ _ hrun ad H locs ls hH hcl hsl hL hokL (hokS.tl.cons trivial)
          · refine va_getN (C := clN ci) (T := clT ci) (N := nfd ci) hx hb hC.1 (hC.2.1 ci hci).1 hown hK.1 hP q (by rw [wof_get hg.2.1, cel_obj hg.1]) (clsL hci) j hg.2.2 hf (fun _ z => z) hv hd ?_
            exact ih _ _ _ _ _ _ hrun ad H locs ls hH hcl hsl hL hokL (hokS.tl.cons trivial)
        · rename_i hn0 hn1 hn2
          split at hrun
          · rename_i hlt
            have hne : h.2.2.2.2 q j ≠ mNul := by omega
            have hv : ((List.range (nfd ci)).map (fvv ad h q ci))[j]? = some (.ref (ad (h.2.2.2.2 q j))) := by
              have e9 : fvv ad h q ci j = .ref (ad (h.2.2.2.2 q j)) := by
                unfold fvv
                split <;> first | contradiction | (rename_i z; first | exact absurd z hn0 | exact absurd z hn1 | exact absurd z hn2) | (unfold rvv; rw [if_neg hne])
              simp [hg.2.2, e9]
            rcases hfo with hf | ⟨host, hf⟩
            · refine va_get (C := clN ci) (T := clT ci) (N := nfd ci) hx hb hC.1 (hC.2.1 ci hci).1 hown hK.1 hP q (by rw [wof_get hg.2.1, cel_obj hg.1]) (clsL hci) j hg.2.2 hf (fun _ z => z) hv hd ?_
              exact ih _ _ _ _ _ _ hrun ad H locs ls hH hcl hsl hL hokL (hokS.tl.cons hlt)
            · refine va_getN (C := clN ci) (T := clT ci) (N := nfd ci) hx hb hC.1 (hC.2.1 ci hci).1 hown hK.1 hP q (by rw [wof_get hg.2.1, cel_obj hg.1]) (clsL hci) j hg.2.2 hf (fun _ z => z) hv hd ?_
              exact ih _ _ _ _ _ _ hrun ad H locs ls hH hcl hsl hL hokL (hokS.tl.cons hlt)
          · cases hrun
      · cases hrun
    · cases hrun
  | putfield x =>
    obtain rfl : k = 3 := by simpa [lenOk] using hlen
    subst hnx
    simp only [stpI, stK_eq, setK_eq, hIK_eq, hJK_eq, hRK_eq, alcK_eq] at hrun
    split at hrun
    · rename_i v q r'
      cases hf0 : lkp x M.2.1 with
      | none => rw [hf0] at hrun; cases hrun
      | some cj =>
      obtain ⟨ci, j⟩ := cj
      rw [hf0] at hrun
      simp only at hrun
      have hci := (hM.2.1 x ci j hf0).1
      have hpf := hM.2.2.1 pc x _ ci j hi hf0
      split at hrun
      · rename_i hg
        have key : ftyc (ftyT ci j) = 0 ∨ ftyc (ftyT ci j) = 1 → narrow (ftyT ci j) (.int v) = .int v → fits (ftyT ci j) (.int v) = true → runN M n (pc + 3, cl, sl, vs, r', hI h q j v) = some (r, hF) → W p l e R s m args below meth c H locs cl sl (MQ below (Qm D aC A ad0 N0 r hF) args s M.2.2.2.2.2.1.1 M.2.2.2.2.2.1.2 A) (F0 m pc ls (List.map (mv ad) (.int v :: .ref q :: r'))) := by
          intro hty hn hfit hrun
          refine snd_put (h' := hI h q j v) hx hb hown hC hK hP hD hS hci hg hpf hd hn hfit ?_ (fun H1 locs1 hP1 hD1 hS1 => ?_)
          · refine wof_set rfl ?_ (fun q' hq' => cel_hI hq')
            rw [cel_obj (h := hI h q j v) hg.1]
            congr 2
            refine (map_set_range ?_ (fun i hne => ?_)).symm
            · unfold fvv
              rcases hty with z | z <;> rw [z] <;> (show Value.int (up2 h.2.2.1 q j v q j) = _; rw [up2_eq, up1_eq]; rfl)
            · refine fvv_ne (j := j) ?_ rfl rfl
              show up2 h.2.2.1 q j v q i = _
              rw [up2_eq, up1_ne hne]
          · exact ih _ _ _ _ _ _ hrun ad H1 locs1 ls ⟨hP1, hD1, hS1, hmx, hN0, had, hok⟩ hcl hsl hL hokL hokS.tl.tl
        split at hrun
        · rename_i hty
          have hint : ftyT ci j = .int := by
            revert hty; unfold ftyc; split <;> first | (intro _; assumption) | (intro z; cases z)
          exact key (Or.inl hty) (by rw [hint]; rfl) (by rw [hint]; rfl) hrun
        · rename_i hty
          have hbo : ftyT ci j = .boolean := by
            revert hty; unfold ftyc; split <;> first | (intro _; assumption) | (intro z; cases z)
          cases hq : isB v with
          | false => rw [hq] at hrun; cases hrun
          | true =>
            rw [hq] at hrun
            exact key (Or.inr hty) (by rw [hbo]; exact (isB_nar hq).1) (by rw [hbo]; exact (isB_nar hq).2.1) hrun
        · cases hrun
      · cases hrun
    · rename_i v q r'
      cases hf0 : lkp x M.2.1 with
      | none => rw [hf0] at hrun; cases hrun
      | some cj =>
      obtain ⟨ci, j⟩ := cj
      rw [hf0] at hrun
      simp only at hrun
      have hci := (hM.2.1 x ci j hf0).1
      have hpf := hM.2.2.1 pc x _ ci j hi hf0
      split at hrun
      · rename_i hg
        split at hrun
        · rename_i hty
          have hlo : ftyT ci j = .long := by
            revert hty; unfold ftyc; split <;> first | (intro _; assumption) | (intro z; cases z)
          refine snd_put (h' := hJ h q j v) hx hb hown hC hK hP hD hS hci hg hpf hd (by rw [hlo]; rfl) (by rw [hlo]; rfl) ?_ (fun H1 locs1 hP1 hD1 hS1 => ?_)
          · refine wof_set rfl ?_ (fun q' hq' => cel_hJ hq')
            rw [cel_obj (h := hJ h q j v) hg.1]
            congr 2
            refine (map_set_range ?_ (fun i hne => ?_)).symm
            · unfold fvv
              rw [hty]
              show Value.long (up2 h.2.2.2.1 q j v q j) = _
              rw [up2_eq, up1_eq]
              rfl
            · refine fvv_ne (j := j) rfl ?_ rfl
              show up2 h.2.2.2.1 q j v q i = _
              rw [up2_eq, up1_ne hne]
          · exact ih _ _ _ _ _ _ hrun ad H1 locs1 ls ⟨hP1, hD1, hS1, hmx, hN0, had, hok⟩ hcl hsl hL hokL hokS.tl.tl
        · cases hrun
      · cases hrun
    · rename_i v q r'
      cases hf0 : lkp x M.2.1 with
      | none => rw [hf0] at hrun; cases hrun
      | some cj =>
      obtain ⟨ci, j⟩ := cj
      rw [hf0] at hrun
      simp only at hrun
      have hci := (hM.2.1 x ci j hf0).1
      have hpf := hM.2.2.1 pc x _ ci j hi hf0
      split at hrun
      · rename_i hg
        have hvm : v ≠ mNul := Nat.ne_of_lt (Nat.lt_of_lt_of_le hg.2.2.2 hmx)
        split at hrun
        · rename_i hty
          have hre : narrow (ftyT ci j) (.ref (ad v)) = .ref (ad v) ∧ fits (ftyT ci j) (.ref (ad v)) = true := by
            revert hty
            exact fty_ref hci hg.2.2.1
          refine snd_put (h' := hR h q j v) hx hb hown hC hK hP hD hS hci ⟨hg.1, hg.2.1, hg.2.2.1⟩ hpf hd hre.1 hre.2 ?_ (fun H1 locs1 hP1 hD1 hS1 => ?_)
          · refine wof_set rfl ?_ (fun q' hq' => cel_hR hq')
            rw [cel_obj (h := hR h q j v) hg.1]
            congr 2
            refine (map_set_range ?_ (fun i hne => ?_)).symm
            · unfold fvv
              rw [hty]
              show rvv ad (up2 h.2.2.2.2 q j v q j) = _
              rw [up2_eq, up1_eq]
              unfold rvv
              rw [if_neg hvm]
              rfl
            · refine fvv_ne (j := j) rfl rfl ?_
              show up2 h.2.2.2.2 q j v q i = _
              rw [up2_eq, up1_ne hne]
          · exact ih _ _ _ _ _ _ hrun ad H1 locs1 ls ⟨hP1, hD1, hS1, hmx, hN0, had, hok.hR hg.2.2.2⟩ hcl hsl hL hokL hokS.tl.tl
        · cases hrun
      · cases hrun
    · cases hrun
  | iaload =>
    obtain rfl : k = 1 := by simpa [lenOk] using hlen
    subst hnx
    simp only [stpI, stK_eq, setK_eq, hIK_eq, hJK_eq, hRK_eq, alcK_eq] at hrun
    split at hrun
    · rename_i i q r'
      split at hrun
      · rename_i hg
        cases hq : inb i (h.2.1 q).2 with
        | false => rw [hq] at hrun; cases hrun
        | true =>
          rw [hq] at hrun
          refine va_iald hx hb hK.1 hP q 0 (by rw [wof_get hg.2, cel_0 hg.1]) rfl (inb_in hq) hd ?_
          exact ih _ _ _ _ _ _ hrun ad H locs ls hH hcl hsl hL hokL (hokS.tl.tl.cons trivial)
      · cases hrun
    · cases hrun
  | baload =>
    obtain rfl : k = 1 := by simpa [lenOk] using hlen
    subst hnx
    simp only [stpI, stK_eq, setK_eq, hIK_eq, hJK_eq, hRK_eq, alcK_eq] at hrun
    split at hrun
    · rename_i i q r'
      split at hrun
      · rename_i hg
        cases hq : inb i (h.2.1 q).2 with
        | false => rw [hq] at hrun; cases hrun
        | true =>
          rw [hq] at hrun
          refine va_zald hx hb hK.1 hP q 1 (by rw [wof_get hg.2, cel_1 hg.1]) rfl (inb_in hq) hd ?_
          exact ih _ _ _ _ _ _ hrun ad H locs ls hH hcl hsl hL hokL (hokS.tl.tl.cons trivial)
      · cases hrun
    · cases hrun
  | laload =>
    obtain rfl : k = 1 := by simpa [lenOk] using hlen
    subst hnx
    simp only [stpI, stK_eq, setK_eq, hIK_eq, hJK_eq, hRK_eq, alcK_eq] at hrun
    split at hrun
    · rename_i i q r'
      split at hrun
      · rename_i hg
        cases hq : inb i (h.2.1 q).2 with
        | false => rw [hq] at hrun; cases hrun
        | true =>
          rw [hq] at hrun
          refine va_lald hx hb hK.1 hP q 2 (by rw [wof_get hg.2, cel_2 hg.1]) rfl (inb_in hq) hd ?_
          exact ih _ _ _ _ _ _ hrun ad H locs ls hH hcl hsl hL hokL (hokS.tl.tl.cons trivial)
      · cases hrun
    · cases hrun
  | aaload =>
    obtain rfl : k = 1 := by simpa [lenOk] using hlen
    subst hnx
    simp only [stpI, stK_eq, setK_eq, hIK_eq, hJK_eq, hRK_eq, alcK_eq] at hrun
    split at hrun
    · rename_i i q r'
      split at hrun
      · rename_i hg
        cases hq : inb i (h.2.1 q).2 with
        | false => rw [hq] at hrun; cases hrun
        | true =>
          rw [hq] at hrun
          simp only [cond_true] at hrun
          split at hrun
          · rename_i hlt
            have hne : h.2.2.2.2 q i.toNatClampNeg ≠ mNul := by omega
            have hv : va_rf (rvo ad (h.2.2.2.2 q i.toNatClampNeg)) = .ref (ad (h.2.2.2.2 q i.toNatClampNeg)) := by unfold rvo; rw [if_neg hne]; rfl
            rcases hg.1 with hk | hk
            · refine va_aldq (C := RX2) hx hb hK.1 hP q 3 (by rw [wof_get hg.2, cel_3 hk]) rfl (inb_in hq) hd ?_
              rw [hv]
              exact ih _ _ _ _ _ _ hrun ad H locs ls hH hcl hsl hL hokL (hokS.tl.tl.cons hlt)
            · refine va_aldq (C := RX9) hx hb hK.1 hP q 4 (by rw [wof_get hg.2, cel_4 hk]) rfl (inb_in hq) hd ?_
              rw [hv]
              exact ih _ _ _ _ _ _ hrun ad H locs ls hH hcl hsl hL hokL (hokS.tl.tl.cons hlt)
          · cases hrun
      · cases hrun
    · cases hrun
  | iastore =>
    obtain rfl : k = 1 := by simpa [lenOk] using hlen
    subst hnx
    simp only [stpI, stK_eq, setK_eq, hIK_eq, hJK_eq, hRK_eq, alcK_eq] at hrun
    split at hrun
    · rename_i v i q r'
      split at hrun
      · rename_i hg
        cases hq : inb i (h.2.1 q).2 with
        | false => rw [hq] at hrun; cases hrun
        | true =>
          rw [hq] at hrun
          skip
          have hset : (wof aC ad h).set q (ad q, .inl (aC 0, (h.2.1 q).2, .inl (upd (h.2.2.1 q) i.toNatClampNeg v))) = wof aC ad (hI h q i.toNatClampNeg v) := by
            refine wof_set rfl ?_ (fun q' hq' => cel_hI hq')
            rw [cel_0 (h := hI h q i.toNatClampNeg v) hg.1]
            show Sum.inl (aC 0, (h.2.1 q).2, Sum.inl (up2 h.2.2.1 q i.toNatClampNeg v q)) = _; rw [up2_eq]; rfl
          refine va_iast hx hb hK.1 hP hD hS q 0 (by rw [wof_get hg.2, cel_0 hg.1]) rfl (inb_in hq) hd (fun H1 locs1 hP1 hD1 hS1 => ?_)
          skip
          rw [hset] at hP1 hD1
          exact ih _ _ _ _ _ _ hrun ad H1 locs1 ls ⟨hP1, hD1, hS1, hmx, hN0, had, hok⟩ hcl hsl hL hokL hokS.tl.tl.tl
      · cases hrun
    · cases hrun
  | bastore =>
    obtain rfl : k = 1 := by simpa [lenOk] using hlen
    subst hnx
    simp only [stpI, stK_eq, setK_eq, hIK_eq, hJK_eq, hRK_eq, alcK_eq] at hrun
    split at hrun
    · rename_i v i q r'
      split at hrun
      · rename_i hg
        cases hq : (inb i (h.2.1 q).2 && isB v) with
        | false => rw [hq] at hrun; cases hrun
        | true =>
          rw [hq] at hrun
          simp only [Bool.and_eq_true] at hq
          have hset : (wof aC ad h).set q (ad q, .inl (aC 1, (h.2.1 q).2, .inl (upd (h.2.2.1 q) i.toNatClampNeg v))) = wof aC ad (hI h q i.toNatClampNeg v) := by
            refine wof_set rfl ?_ (fun q' hq' => cel_hI hq')
            rw [cel_1 (h := hI h q i.toNatClampNeg v) hg.1]
            show Sum.inl (aC 1, (h.2.1 q).2, Sum.inl (up2 h.2.2.1 q i.toNatClampNeg v q)) = _; rw [up2_eq]; rfl
          refine va_zast hx hb hK.1 hP hD hS q 1 (by rw [wof_get hg.2, cel_1 hg.1]) rfl (inb_in hq.1) hd (fun H1 locs1 hP1 hD1 hS1 => ?_)
          rw [(isB_nar hq.2).2.2] at hP1 hD1
          rw [hset] at hP1 hD1
          exact ih _ _ _ _ _ _ hrun ad H1 locs1 ls ⟨hP1, hD1, hS1, hmx, hN0, had, hok⟩ hcl hsl hL hokL hokS.tl.tl.tl
      · cases hrun
    · cases hrun
  | lastore =>
    obtain rfl : k = 1 := by simpa [lenOk] using hlen
    subst hnx
    simp only [stpI, stK_eq, setK_eq, hIK_eq, hJK_eq, hRK_eq, alcK_eq] at hrun
    split at hrun
    · rename_i v i q r'
      split at hrun
      · rename_i hg
        cases hq : inb i (h.2.1 q).2 with
        | false => rw [hq] at hrun; cases hrun
        | true =>
          rw [hq] at hrun
          skip
          have hset : (wof aC ad h).set q (ad q, .inl (aC 2, (h.2.1 q).2, .inr (.inl (vp_updL (h.2.2.2.1 q) i.toNatClampNeg v)))) = wof aC ad (hJ h q i.toNatClampNeg v) := by
            refine wof_set rfl ?_ (fun q' hq' => cel_hJ hq')
            rw [cel_2 (h := hJ h q i.toNatClampNeg v) hg.1]
            show Sum.inl (aC 2, (h.2.1 q).2, Sum.inr (Sum.inl (up2 h.2.2.2.1 q i.toNatClampNeg v q))) = _; rw [up2_eq]; rfl
          refine va_last hx hb hK.1 hP hD hS q 2 (by rw [wof_get hg.2, cel_2 hg.1]) rfl (inb_in hq) hd (fun H1 locs1 hP1 hD1 hS1 => ?_)
          skip
          rw [hset] at hP1 hD1
          exact ih _ _ _ _ _ _ hrun ad H1 locs1 ls ⟨hP1, hD1, hS1, hmx, hN0, had, hok⟩ hcl hsl hL hokL hokS.tl.tl.tl
      · cases hrun
    · cases hrun
  | aastore =>
    obtain rfl : k = 1 := by simpa [lenOk] using hlen
    subst hnx
    simp only [stpI, stK_eq, setK_eq, hIK_eq, hJK_eq, hRK_eq, alcK_eq] at hrun
    split at hrun
    · rename_i v i q r'
      split at hrun
      · rename_i hg
        have hvm : v ≠ mNul := Nat.ne_of_lt (Nat.lt_of_lt_of_le hg.2.2 hmx)
        cases hq : inb i (h.2.1 q).2 with
        | false => rw [hq] at hrun; cases hrun
        | true =>
        rw [hq] at hrun
        rcases hg.1 with ⟨hk, hk2⟩ | ⟨hk, hk2⟩
        ·
          have hset : (wof aC ad h).set q (ad q, .inl (aC 3, (h.2.1 q).2, .inr (.inr (.inr (.inr (va_up (fun i => rvo ad (h.2.2.2.2 q i)) i.toNatClampNeg (some (ad v)))))))) = wof aC ad (hR h q i.toNatClampNeg v) := by
            refine wof_set rfl ?_ (fun q' hq' => cel_hR hq')
            rw [cel_3 (h := hR h q i.toNatClampNeg v) hk]
            congr 7
            funext i'
            show rvo ad (up2 h.2.2.2.2 q i.toNatClampNeg v q i') = va_up _ _ _ _
            rw [up2_eq]
            unfold va_up
            by_cases hz : i' = i.toNatClampNeg
            · rw [if_pos hz, hz, up1_eq]; unfold rvo; rw [if_neg hvm]
            · rw [if_neg hz, up1_ne hz]
          refine va_astq (r := (clN 2, clT 2, nfd 2)) hx hb hK.1 hP hD hS q 3 v 2 (by rw [wof_get hg.2.1, cel_3 hk]) rfl (by rw [wof_get hg.2.2, cel_obj (ci := 2) hk2]) (clsL (by decide)) (inb_in hq) hd (fun H1 locs1 hP1 hD1 hS1 => ?_)
          rw [hset] at hP1 hD1
          exact ih _ _ _ _ _ _ hrun ad H1 locs1 ls ⟨hP1, hD1, hS1, hmx, hN0, had, hok.hR hg.2.2⟩ hcl hsl hL hokL hokS.tl.tl.tl
        ·
          have hset : (wof aC ad h).set q (ad q, .inl (aC 4, (h.2.1 q).2, .inr (.inr (.inr (.inr (va_up (fun i => rvo ad (h.2.2.2.2 q i)) i.toNatClampNeg (some (ad v)))))))) = wof aC ad (hR h q i.toNatClampNeg v) := by
            refine wof_set rfl ?_ (fun q' hq' => cel_hR hq')
            rw [cel_4 (h := hR h q i.toNatClampNeg v) hk]
            congr 7
            funext i'
            show rvo ad (up2 h.2.2.2.2 q i.toNatClampNeg v q i') = va_up _ _ _ _
            rw [up2_eq]
            unfold va_up
            by_cases hz : i' = i.toNatClampNeg
            · rw [if_pos hz, hz, up1_eq]; unfold rvo; rw [if_neg hvm]
            · rw [if_neg hz, up1_ne hz]
          refine va_astq (r := (clN 9, clT 9, nfd 9)) hx hb hK.1 hP hD hS q 4 v 9 (by rw [wof_get hg.2.1, cel_4 hk]) rfl (by rw [wof_get hg.2.2, cel_obj (ci := 9) hk2]) (clsL (by decide)) (inb_in hq) hd (fun H1 locs1 hP1 hD1 hS1 => ?_)
          rw [hset] at hP1 hD1
          exact ih _ _ _ _ _ _ hrun ad H1 locs1 ls ⟨hP1, hD1, hS1, hmx, hN0, had, hok.hR hg.2.2⟩ hcl hsl hL hokL hokS.tl.tl.tl
      · cases hrun
    · cases hrun
  | arraylength =>
    obtain rfl : k = 1 := by simpa [lenOk] using hlen
    subst hnx
    simp only [stpI, stK_eq, setK_eq, hIK_eq, hJK_eq, hRK_eq, alcK_eq] at hrun
    split at hrun
    · rename_i q r'
      split at hrun
      · rename_i hg
        have hlt : ∀ (k : Nat) (E : vp_A) (ty : FieldType), (wof aC ad h)[q]? = some (ad q, .inl (aC k, E)) → E.1 = (h.2.1 q).2 → (tyL aC)[k]? = some (aC k, ty) → W p l e R s m args below meth c H locs cl sl (MQ below (Qm D aC A ad0 N0 r hF) args s M.2.2.2.2.2.1.1 M.2.2.2.2.2.1.2 A) (F0 m pc ls (List.map (mv ad) (.ref q :: r'))) := by
          intro k E ty h1 h2 h3
          refine va_alen hx hb hK.1 hP q k h1 h3 (by rw [h2]) hd ?_
          exact ih _ _ _ _ _ _ hrun ad H locs ls hH hcl hsl hL hokL (hokS.tl.cons trivial)
        obtain ⟨hg1, hg2⟩ := hg
        rcases (show (h.2.1 q).1 = 0 ∨ (h.2.1 q).1 = 1 ∨ (h.2.1 q).1 = 2 ∨ (h.2.1 q).1 = 3 ∨ (h.2.1 q).1 = 4 by omega) with z | z | z | z | z
        · exact hlt 0 _ .int (by rw [wof_get hg2, cel_0 z]) rfl rfl
        · exact hlt 1 _ .boolean (by rw [wof_get hg2, cel_1 z]) rfl rfl
        · exact hlt 2 _ .long (by rw [wof_get hg2, cel_2 z]) rfl rfl
        · exact hlt 3 _ (.object RX2) (by rw [wof_get hg2, cel_3 z]) rfl rfl
        · exact hlt 4 _ (.object RX9) (by rw [wof_get hg2, cel_4 z]) rfl rfl
      · cases hrun
    · cases hrun
  | new x =>
    obtain rfl : k = 3 := by simpa [lenOk] using hlen
    subst hnx
    simp only [stpI, stK_eq, setK_eq, hIK_eq, hJK_eq, hRK_eq, alcK_eq] at hrun
    cases hf0 : lkp x M.2.2.2.2.1 with
    | none => rw [hf0] at hrun; cases hrun
    | some ci =>
    rw [hf0] at hrun
    simp only at hrun
    obtain ⟨hci, hcl0⟩ := hM.2.2.2.2.2 x ci hf0
    split at hrun
    · rename_i hg
      obtain ⟨hin, hinst, hini⟩ := hC.2.1 ci hci
      refine va_new (C := clN ci) (T := clT ci) (N := nfd ci) (ci := ci) (fs := (List.range (nfd ci)).map (fun j => defaultValue (ftyT ci j))) hx hb hC.1 hin (ftyT ci) (clsT hci) hown hcl0 hinst hini hK.1 hP hD hS hA (clsL hci) (fun j hj => by simp [vp_V, hj]) (by rw [hRc]; exact hg.1) (by rw [hRs]; exact hg.2.1) hd (fun q H1 hP1 hD1 hS1 => ?_)
      have hset := wof_alc (aC := aC) (ad := ad) (kd := 10 + ci) (n := 0) (q := q) (E := .inr (ci, (List.range (nfd ci)).map (fun j => defaultValue (ftyT ci j)))) hok (by
        rw [cel_obj (ci := ci) (show ((alc h (10 + ci) 0).2.1 h.1).1 = 10 + ci from by show (up1 h.2.1 h.1 (10 + ci, 0) h.1).1 = _; rw [up1_eq])]
        congr 2
        apply List.map_congr_left
        intro j hj
        unfold fvv
        have e1 : (alc h (10 + ci) 0).2.2.1 h.1 j = 0 := by show up1 h.2.2.1 h.1 (fun _ => 0) h.1 j = 0; rw [up1_eq]
        have e2 : (alc h (10 + ci) 0).2.2.2.1 h.1 j = 0 := by show up1 h.2.2.2.1 h.1 (fun _ => 0) h.1 j = 0; rw [up1_eq]
        have e3 : (alc h (10 + ci) 0).2.2.2.2 h.1 j = mNul := by show up1 h.2.2.2.2 h.1 (fun _ => mNul) h.1 j = mNul; rw [up1_eq]
        rw [e1, e2, e3]
        exact fty_dflt hci (List.mem_range.mp hj))
      rw [hset] at hP1 hD1
      have hfr := ih _ _ _ _ _ _ hrun (up1 ad h.1 q) H1 locs ls ⟨hP1, hD1, hS1, hg.2.2, Nat.le_succ_of_le hN0, (fun p0 hp0 => by rw [up1_ne (by omega)]; exact had p0 hp0), hok.alc⟩ hg.1 hg.2.1 (hL.congr (fun p0 hp0 => up1_ne (by omega)) hokL) (hokL.up (Nat.le_succ _)) ((hokS.up (Nat.le_succ _)).cons (Nat.lt_succ_self _))
      rw [List.map_cons, mvs_congr (fun p0 (hp0 : p0 < h.1) => up1_ne (by omega)) hokS] at hfr
      have e9 : mv (up1 ad h.1 q) (.ref h.1) = .ref q := by show Value.ref (up1 ad h.1 q h.1) = _; rw [up1_eq]
      rw [e9] at hfr
      exact hfr
    · cases hrun
  | newarray ty =>
    obtain rfl : k = 2 := by simpa [lenOk] using hlen
    subst hnx
    simp only [stpI, stK_eq, setK_eq, hIK_eq, hJK_eq, hRK_eq, alcK_eq] at hrun
    split at hrun
    · rename_i n0 r'
      split at hrun
      · rename_i hg
        split at hrun
        · refine va_newa (atype := .int) (ty := .int) (a0 := (n0.toNatClampNeg, .inl (fun _ => 0))) hx hb hC.2.2.1 rfl hK.1 hP hD hS hA (fun cA => rfl) hg.1 rfl ?_ (by rw [hRc]; exact hg.2.2.1) (by rw [hRs]; exact hg.2.2.2.1) hd (fun q cA H1 hK1 hP1 hD1 hS1 => ?_)
          · have := hg.2.1
            show n0.toNatClampNeg * 4 ≤ 536870912
            omega
          have hcA : cA = aC 0 := arr_uniq (i := 5) (j := 0) hK1 hK.1 rfl rfl
          subst hcA
          have hset := wof_alc (aC := aC) (ad := ad) (kd := 0) (n := n0.toNatClampNeg) (q := q) (E := .inl (aC 0, n0.toNatClampNeg, .inl (fun _ => 0))) hok (by
            rw [cel_0 (show ((alc h 0 n0.toNatClampNeg).2.1 h.1).1 = 0 from by show (up1 h.2.1 h.1 (0, n0.toNatClampNeg) h.1).1 = _; rw [up1_eq])]
            have e0 : (alc h 0 n0.toNatClampNeg).2.1 h.1 = (0, n0.toNatClampNeg) := by show up1 h.2.1 h.1 (0, n0.toNatClampNeg) h.1 = _; rw [up1_eq]
            have e1 : (alc h 0 n0.toNatClampNeg).2.2.1 h.1 = (fun _ => 0) := by show up1 h.2.2.1 h.1 (fun _ => 0) h.1 = _; rw [up1_eq]
            have e2 : (alc h 0 n0.toNatClampNeg).2.2.2.1 h.1 = (fun _ => 0) := by show up1 h.2.2.2.1 h.1 (fun _ => 0) h.1 = _; rw [up1_eq]
            simp only [e0, e1, e2])
          rw [hset] at hP1 hD1
          have hfr := ih _ _ _ _ _ _ hrun (up1 ad h.1 q) H1 locs ls ⟨hP1, hD1, hS1, hg.2.2.2.2, Nat.le_succ_of_le hN0, (fun p0 hp0 => by rw [up1_ne (by omega)]; exact had p0 hp0), hok.alc⟩ hg.2.2.1 hg.2.2.2.1 (hL.congr (fun p0 hp0 => up1_ne (by omega)) hokL) (hokL.up (Nat.le_succ _)) ((hokS.tl.up (Nat.le_succ _)).cons (Nat.lt_succ_self _))
          rw [List.map_cons, mvs_congr (fun p0 (hp0 : p0 < h.1) => up1_ne (by omega)) hokS.tl] at hfr
          have e9 : mv (up1 ad h.1 q) (.ref h.1) = .ref q := by show Value.ref (up1 ad h.1 q h.1) = _; rw [up1_eq]
          rw [e9] at hfr
          exact hfr
        · refine va_newa (atype := .boolean) (ty := .boolean) (a0 := (n0.toNatClampNeg, .inl (fun _ => 0))) hx hb hC.2.2.2.1 rfl hK.1 hP hD hS hA (fun cA => rfl) hg.1 rfl ?_ (by rw [hRc]; exact hg.2.2.1) (by rw [hRs]; exact hg.2.2.2.1) hd (fun q cA H1 hK1 hP1 hD1 hS1 => ?_)
          · have := hg.2.1
            show n0.toNatClampNeg * 1 ≤ 536870912
            omega
          have hcA : cA = aC 1 := arr_uniq (i := 5) (j := 1) hK1 hK.1 rfl rfl
          subst hcA
          have hset := wof_alc (aC := aC) (ad := ad) (kd := 1) (n := n0.toNatClampNeg) (q := q) (E := .inl (aC 1, n0.toNatClampNeg, .inl (fun _ => 0))) hok (by
            rw [cel_1 (show ((alc h 1 n0.toNatClampNeg).2.1 h.1).1 = 1 from by show (up1 h.2.1 h.1 (1, n0.toNatClampNeg) h.1).1 = _; rw [up1_eq])]
            have e0 : (alc h 1 n0.toNatClampNeg).2.1 h.1 = (1, n0.toNatClampNeg) := by show up1 h.2.1 h.1 (1, n0.toNatClampNeg) h.1 = _; rw [up1_eq]
            have e1 : (alc h 1 n0.toNatClampNeg).2.2.1 h.1 = (fun _ => 0) := by show up1 h.2.2.1 h.1 (fun _ => 0) h.1 = _; rw [up1_eq]
            have e2 : (alc h 1 n0.toNatClampNeg).2.2.2.1 h.1 = (fun _ => 0) := by show up1 h.2.2.2.1 h.1 (fun _ => 0) h.1 = _; rw [up1_eq]
            simp only [e0, e1, e2])
          rw [hset] at hP1 hD1
          have hfr := ih _ _ _ _ _ _ hrun (up1 ad h.1 q) H1 locs ls ⟨hP1, hD1, hS1, hg.2.2.2.2, Nat.le_succ_of_le hN0, (fun p0 hp0 => by rw [up1_ne (by omega)]; exact had p0 hp0), hok.alc⟩ hg.2.2.1 hg.2.2.2.1 (hL.congr (fun p0 hp0 => up1_ne (by omega)) hokL) (hokL.up (Nat.le_succ _)) ((hokS.tl.up (Nat.le_succ _)).cons (Nat.lt_succ_self _))
          rw [List.map_cons, mvs_congr (fun p0 (hp0 : p0 < h.1) => up1_ne (by omega)) hokS.tl] at hfr
          have e9 : mv (up1 ad h.1 q) (.ref h.1) = .ref q := by show Value.ref (up1 ad h.1 q h.1) = _; rw [up1_eq]
          rw [e9] at hfr
          exact hfr
        · refine va_newa (atype := .long) (ty := .long) (a0 := (n0.toNatClampNeg, .inr (.inl (fun _ => 0)))) hx hb hC.2.2.2.2 rfl hK.1 hP hD hS hA (fun cA => rfl) hg.1 rfl ?_ (by rw [hRc]; exact hg.2.2.1) (by rw [hRs]; exact hg.2.2.2.1) hd (fun q cA H1 hK1 hP1 hD1 hS1 => ?_)
          · have := hg.2.1
            show n0.toNatClampNeg * 8 ≤ 536870912
            omega
          have hcA : cA = aC 2 := arr_uniq (i := 5) (j := 2) hK1 hK.1 rfl rfl
          subst hcA
          have hset := wof_alc (aC := aC) (ad := ad) (kd := 2) (n := n0.toNatClampNeg) (q := q) (E := .inl (aC 2, n0.toNatClampNeg, .inr (.inl (fun _ => 0)))) hok (by
            rw [cel_2 (show ((alc h 2 n0.toNatClampNeg).2.1 h.1).1 = 2 from by show (up1 h.2.1 h.1 (2, n0.toNatClampNeg) h.1).1 = _; rw [up1_eq])]
            have e0 : (alc h 2 n0.toNatClampNeg).2.1 h.1 = (2, n0.toNatClampNeg) := by show up1 h.2.1 h.1 (2, n0.toNatClampNeg) h.1 = _; rw [up1_eq]
            have e1 : (alc h 2 n0.toNatClampNeg).2.2.1 h.1 = (fun _ => 0) := by show up1 h.2.2.1 h.1 (fun _ => 0) h.1 = _; rw [up1_eq]
            have e2 : (alc h 2 n0.toNatClampNeg).2.2.2.1 h.1 = (fun _ => 0) := by show up1 h.2.2.2.1 h.1 (fun _ => 0) h.1 = _; rw [up1_eq]
            simp only [e0, e1, e2])
          rw [hset] at hP1 hD1
          have hfr := ih _ _ _ _ _ _ hrun (up1 ad h.1 q) H1 locs ls ⟨hP1, hD1, hS1, hg.2.2.2.2, Nat.le_succ_of_le hN0, (fun p0 hp0 => by rw [up1_ne (by omega)]; exact had p0 hp0), hok.alc⟩ hg.2.2.1 hg.2.2.2.1 (hL.congr (fun p0 hp0 => up1_ne (by omega)) hokL) (hokL.up (Nat.le_succ _)) ((hokS.tl.up (Nat.le_succ _)).cons (Nat.lt_succ_self _))
          rw [List.map_cons, mvs_congr (fun p0 (hp0 : p0 < h.1) => up1_ne (by omega)) hokS.tl] at hfr
          have e9 : mv (up1 ad h.1 q) (.ref h.1) = .ref q := by show Value.ref (up1 ad h.1 q h.1) = _; rw [up1_eq]
          rw [e9] at hfr
          exact hfr
        · cases hrun
      · cases hrun
    · cases hrun
  | anewarray x =>
    obtain rfl : k = 3 := by simpa [lenOk] using hlen
    subst hnx
    simp only [stpI, stK_eq, setK_eq, hIK_eq, hJK_eq, hRK_eq, alcK_eq] at hrun
    split at hrun
    · rename_i n0 r'
      cases hf0 : lkp x M.2.2.2.2.1 with
      | none => rw [hf0] at hrun; cases hrun
      | some ci =>
      rw [hf0] at hrun
      simp only at hrun
      obtain ⟨hci, hcl0⟩ := hM.2.2.2.2.2 x ci hf0
      split at hrun
      · rename_i hg
        rcases hg.2.2.2.2.2 with rfl | rfl
        ·
          refine va_newq (C := clN 2) hx hb hown hcl0 hK.2.2.1 hK.1 hP hD hS hA hg.1 rfl (by have := hg.2.1; omega) (by rw [hRc]; exact hg.2.2.1) (by rw [hRs]; exact hg.2.2.2.1) hd (fun q cA H1 hK1 hP1 hD1 hS1 => ?_)
          have hcA : cA = aC 3 := arr_uniq (i := 5) (j := 3) hK1 hK.1 rfl rfl
          subst hcA
          have hset := wof_alc (aC := aC) (ad := ad) (kd := 3) (n := n0.toNatClampNeg) (q := q) (E := .inl (aC 3, n0.toNatClampNeg, .inr (.inr (.inr (.inr (fun _ => none)))))) hok (by
            rw [cel_3 (show ((alc h 3 n0.toNatClampNeg).2.1 h.1).1 = 3 from by show (up1 h.2.1 h.1 (3, n0.toNatClampNeg) h.1).1 = _; rw [up1_eq])]
            have e0 : (alc h 3 n0.toNatClampNeg).2.1 h.1 = (3, n0.toNatClampNeg) := by show up1 h.2.1 h.1 (3, n0.toNatClampNeg) h.1 = _; rw [up1_eq]
            have e3 : (alc h 3 n0.toNatClampNeg).2.2.2.2 h.1 = (fun _ => mNul) := by show up1 h.2.2.2.2 h.1 (fun _ => mNul) h.1 = _; rw [up1_eq]
            simp only [e0, e3]
            congr 7)
          rw [hset] at hP1 hD1
          have hfr := ih _ _ _ _ _ _ hrun (up1 ad h.1 q) H1 locs ls ⟨hP1, hD1, hS1, hg.2.2.2.2.1, Nat.le_succ_of_le hN0, (fun p0 hp0 => by rw [up1_ne (by omega)]; exact had p0 hp0), hok.alc⟩ hg.2.2.1 hg.2.2.2.1 (hL.congr (fun p0 hp0 => up1_ne (by omega)) hokL) (hokL.up (Nat.le_succ _)) ((hokS.tl.up (Nat.le_succ _)).cons (Nat.lt_succ_self _))
          rw [List.map_cons, mvs_congr (fun p0 (hp0 : p0 < h.1) => up1_ne (by omega)) hokS.tl] at hfr
          have e9 : mv (up1 ad h.1 q) (.ref h.1) = .ref q := by show Value.ref (up1 ad h.1 q h.1) = _; rw [up1_eq]
          rw [e9] at hfr
          exact hfr
        ·
          refine va_newq (C := clN 9) hx hb hown hcl0 hK.2.2.2 hK.1 hP hD hS hA hg.1 rfl (by have := hg.2.1; omega) (by rw [hRc]; exact hg.2.2.1) (by rw [hRs]; exact hg.2.2.2.1) hd (fun q cA H1 hK1 hP1 hD1 hS1 => ?_)
          have hcA : cA = aC 4 := arr_uniq (i := 5) (j := 4) hK1 hK.1 rfl rfl
          subst hcA
          have hset := wof_alc (aC := aC) (ad := ad) (kd := 4) (n := n0.toNatClampNeg) (q := q) (E := .inl (aC 4, n0.toNatClampNeg, .inr (.inr (.inr (.inr (fun _ => none)))))) hok (by
            rw [cel_4 (show ((alc h 4 n0.toNatClampNeg).2.1 h.1).1 = 4 from by show (up1 h.2.1 h.1 (4, n0.toNatClampNeg) h.1).1 = _; rw [up1_eq])]
            have e0 : (alc h 4 n0.toNatClampNeg).2.1 h.1 = (4, n0.toNatClampNeg) := by show up1 h.2.1 h.1 (4, n0.toNatClampNeg) h.1 = _; rw [up1_eq]
            have e3 : (alc h 4 n0.toNatClampNeg).2.2.2.2 h.1 = (fun _ => mNul) := by show up1 h.2.2.2.2 h.1 (fun _ => mNul) h.1 = _; rw [up1_eq]
            simp only [e0, e3]
            congr 7)
          rw [hset] at hP1 hD1
          have hfr := ih _ _ _ _ _ _ hrun (up1 ad h.1 q) H1 locs ls ⟨hP1, hD1, hS1, hg.2.2.2.2.1, Nat.le_succ_of_le hN0, (fun p0 hp0 => by rw [up1_ne (by omega)]; exact had p0 hp0), hok.alc⟩ hg.2.2.1 hg.2.2.2.1 (hL.congr (fun p0 hp0 => up1_ne (by omega)) hokL) (hokL.up (Nat.le_succ _)) ((hokS.tl.up (Nat.le_succ _)).cons (Nat.lt_succ_self _))
          rw [List.map_cons, mvs_congr (fun p0 (hp0 : p0 < h.1) => up1_ne (by omega)) hokS.tl] at hfr
          have e9 : mv (up1 ad h.1 q) (.ref h.1) = .ref q := by show Value.ref (up1 ad h.1 q h.1) = _; rw [up1_eq]
          rw [e9] at hfr
          exact hfr
      · cases hrun
    · cases hrun
  | invokevirtual x =>
    obtain rfl : k = 3 := by simpa [lenOk] using hlen
    subst hnx
    simp only [stpI, stK_eq, setK_eq, hIK_eq, hJK_eq, hRK_eq, alcK_eq] at hrun
    cases hf0 : lkp (4 * x) M.2.2.2.1 with
    | none => rw [hf0] at hrun; cases hrun
    | some w =>
    obtain ⟨na, rc, mc, ms, f⟩ := w
    rw [hf0] at hrun
    simp only at hrun
    have hclk := hcal.1 pc x _ na rc mc ms f hi hf0
    split at hrun
    · rename_i q as hta
      split at hrun
      · rename_i hg
        split at hrun
        · rename_i r1 h1 hfr
          have hlen2 : ((st.take na).reverse).length = na := by simp; omega
          have hst : st.map (mv ad) = ((Value.ref q :: as).map (mv ad)).reverse ++ (st.drop na).map (mv ad) := by
            rw [← hta]; rw [← List.map_reverse, List.reverse_reverse, ← List.map_append, List.take_append_drop]
          rw [hst]
          refine hclk _ pc ls _ (Value.ref q :: as) h h1 r1 ad H locs cl sl (by rw [← hta]; exact hlen2) hfr hd (hL.1.1) ?_ ?_ ?_ hH ?_ ?_ ?_
          · rw [List.map_map, show ((fun v : Value => v.category) ∘ mv ad) = (fun v => v.category) from funext fun v => mv_cat]; exact hg.2.1
          · rw [hRc]; exact hg.2.2.1
          · rw [hRs]; exact hg.2.2.2.1
          · intro v hv
            rw [← hta] at hv
            exact hokS v (List.mem_of_mem_take (List.mem_reverse.mp hv))
          · intro ci hci; cases hci; exact ⟨q, as, rfl, fun _ => ⟨hg.2.2.2.2.1, hg.2.2.2.2.2⟩⟩
          · intro ad' H' locs' hH' had' hle hr1
            have hfin := ih _ _ _ _ _ _ hrun ad' H' locs' ls hH' hg.2.2.1 hg.2.2.2.1 (hL.congr had' hokL) (hokL.up hle) (fun v hv => by
              rcases List.mem_append.mp hv with z | z
              · cases r1 with
                | none => cases z
                | some v1 => rw [List.mem_singleton.mp z]; exact hr1 v1 rfl
              · exact okv.up hle (hokS v (List.mem_of_mem_drop z)))
            rw [List.map_append, mvs_congr had' (fun v hv => hokS v (List.mem_of_mem_drop hv))] at hfin
            exact hfin
        · cases hrun
      · cases hrun
    · cases hrun
  | invokespecial x =>
    obtain rfl : k = 3 := by simpa [lenOk] using hlen
    subst hnx
    simp only [stpI, stK_eq, setK_eq, hIK_eq, hJK_eq, hRK_eq, alcK_eq] at hrun
    cases hf0 : lkp (4 * x + 1) M.2.2.2.1 with
    | none => rw [hf0] at hrun; cases hrun
    | some w =>
    obtain ⟨na, rc, mc, ms, f⟩ := w
    rw [hf0] at hrun
    simp only at hrun
    have hclk := hcal.2.1 pc x _ na rc mc ms f hi hf0
    split at hrun
    · rename_i q as hta
      split at hrun
      · rename_i hg
        split at hrun
        · rename_i r1 h1 hfr
          have hlen2 : ((st.take na).reverse).length = na := by simp; omega
          have hst : st.map (mv ad) = ((Value.ref q :: as).map (mv ad)).reverse ++ (st.drop na).map (mv ad) := by
            rw [← hta]; rw [← List.map_reverse, List.reverse_reverse, ← List.map_append, List.take_append_drop]
          rw [hst]
          refine hclk _ pc ls _ (Value.ref q :: as) h h1 r1 ad H locs cl sl (by rw [← hta]; exact hlen2) hfr hd (hL.1.1) ?_ ?_ ?_ hH ?_ ?_ ?_
          · rw [List.map_map, show ((fun v : Value => v.category) ∘ mv ad) = (fun v => v.category) from funext fun v => mv_cat]; exact hg.2.1
          · rw [hRc]; exact hg.2.2.1
          · rw [hRs]; exact hg.2.2.2
          · intro v hv
            rw [← hta] at hv
            exact hokS v (List.mem_of_mem_take (List.mem_reverse.mp hv))
          · intro ci hci; cases hci; exact ⟨q, as, rfl, fun z => absurd z (by decide)⟩
          · intro ad' H' locs' hH' had' hle hr1
            have hfin := ih _ _ _ _ _ _ hrun ad' H' locs' ls hH' hg.2.2.1 hg.2.2.2 (hL.congr had' hokL) (hokL.up hle) (fun v hv => by
              rcases List.mem_append.mp hv with z | z
              · cases r1 with
                | none => cases z
                | some v1 => rw [List.mem_singleton.mp z]; exact hr1 v1 rfl
              · exact okv.up hle (hokS v (List.mem_of_mem_drop z)))
            rw [List.map_append, mvs_congr had' (fun v hv => hokS v (List.mem_of_mem_drop hv))] at hfin
            exact hfin
        · cases hrun
      · cases hrun
    · cases hrun
  | invokestatic x =>
    obtain rfl : k = 3 := by simpa [lenOk] using hlen
    subst hnx
    simp only [stpI, stK_eq, setK_eq, hIK_eq, hJK_eq, hRK_eq, alcK_eq] at hrun
    cases hf0 : lkp (4 * x + 2) M.2.2.2.1 with
    | none => rw [hf0] at hrun; cases hrun
    | some w =>
    obtain ⟨na, rc, mc, ms, f⟩ := w
    rw [hf0] at hrun
    simp only at hrun
    have hclk := hcal.2.2 pc x _ na rc mc ms f hi hf0
    split at hrun
    · rename_i hg
      split at hrun
      · rename_i r1 h1 hfr
        have hlen2 : ((st.take na).reverse).length = na := by simp; omega
        have hst : st.map (mv ad) = (((st.take na).reverse).map (mv ad)).reverse ++ (st.drop na).map (mv ad) := by
          rw [← List.map_reverse, List.reverse_reverse, ← List.map_append, List.take_append_drop]
        rw [hst]
        refine hclk _ pc ls _ ((st.take na).reverse) h h1 r1 ad H locs cl sl (by exact hlen2) hfr hd (hL.1.1) ?_ ?_ ?_ hH ?_ ?_ ?_
        · rw [List.map_map, show ((fun v : Value => v.category) ∘ mv ad) = (fun v => v.category) from funext fun v => mv_cat]; exact hg.2.1
        · rw [hRc]; exact hg.2.2.1
        · rw [hRs]; exact hg.2.2.2
        · intro v hv
          skip
          exact hokS v (List.mem_of_mem_take (List.mem_reverse.mp hv))
        · intro ci hci; cases hci
        · intro ad' H' locs' hH' had' hle hr1
          have hfin := ih _ _ _ _ _ _ hrun ad' H' locs' ls hH' hg.2.2.1 hg.2.2.2 (hL.congr had' hokL) (hokL.up hle) (fun v hv => by
            rcases List.mem_append.mp hv with z | z
            · cases r1 with
              | none => cases z
              | some v1 => rw [List.mem_singleton.mp z]; exact hr1 v1 rfl
            · exact okv.up hle (hokS v (List.mem_of_mem_drop z)))
          rw [List.map_append, mvs_congr had' (fun v hv => hokS v (List.mem_of_mem_drop hv))] at hfin
          exact hfin
      · cases hrun
    · cases hrun
  | ireturn =>
    obtain rfl : k = 1 := by simpa [lenOk] using hlen
    subst hnx
    simp only [stpI, stK_eq, setK_eq, hIK_eq, hJK_eq, hRK_eq, alcK_eq] at hrun
    split at hrun
    · rename_i v
      split at hrun
      · rename_i hrk
        cases hrun
        have hr' : meth.sig.returnType = some .int := by rw [hrk] at hret; exact hret
        refine W.widen hcl hsl ?_
        exact W.iret hx hb hr' (fun t ht hW => ⟨⟨ad, rfl, by rw [ht]; exact hP, hD, hmx, hN0, had, hok, (fun w hw => by cases hw; trivial)⟩, hS.F ht⟩) hS.2.2 hd hlocks
      · rename_i hrk
        have hr' : meth.sig.returnType = some .boolean := by rw [hrk] at hret; exact hret
        cases hq : isB v with
        | false => rw [hq] at hrun; cases hrun
        | true =>
          rw [hq] at hrun
          cases hrun
          refine W.widen hcl hsl ?_
          exact W.zret hx hb hr' (isB_nar hq).1 (fun t ht hW => ⟨⟨ad, rfl, by rw [ht]; exact hP, hD, hmx, hN0, had, hok, (fun w hw => by cases hw; trivial)⟩, hS.F ht⟩) hS.2.2 hd hlocks
      · cases hrun
    · cases hrun
  | lreturn =>
    obtain rfl : k = 1 := by simpa [lenOk] using hlen
    subst hnx
    simp only [stpI, stK_eq, setK_eq, hIK_eq, hJK_eq, hRK_eq, alcK_eq] at hrun
    split at hrun
    · rename_i v
      split at hrun
      · rename_i hrk
        cases hrun
        have hr' : meth.sig.returnType = some .long := by rw [hrk] at hret; exact hret
        refine W.widen hcl hsl ?_
        exact W.lret hx hb hr' (fun t ht hW => ⟨⟨ad, rfl, by rw [ht]; exact hP, hD, hmx, hN0, had, hok, (fun w hw => by cases hw; trivial)⟩, hS.F ht⟩) hS.2.2 hd hlocks
      · cases hrun
    · cases hrun
  | areturn =>
    obtain rfl : k = 1 := by simpa [lenOk] using hlen
    subst hnx
    simp only [stpI, stK_eq, setK_eq, hIK_eq, hJK_eq, hRK_eq, alcK_eq] at hrun
    split at hrun
    · rename_i v
      split at hrun
      · rename_i hrk
        cases hrun
        obtain ⟨nm, hr'⟩ : ∃ nm, meth.sig.returnType = some (.object nm) := by rw [hrk] at hret; exact hret
        refine W.widen hcl hsl ?_
        exact W.aret hx hb hr' (Or.inl ⟨nm, rfl⟩) (Or.inr ⟨ad v, rfl⟩) (fun t ht hW => ⟨⟨ad, rfl, by rw [ht]; exact hP, hD, hmx, hN0, had, hok, (fun w hw => by cases hw; exact hokS.hd)⟩, hS.F ht⟩) hS.2.2 hd hlocks
      · cases hrun
    · cases hrun
  | return_ =>
    obtain rfl : k = 1 := by simpa [lenOk] using hlen
    subst hnx
    simp only [stpI, stK_eq, setK_eq, hIK_eq, hJK_eq, hRK_eq, alcK_eq] at hrun
    split at hrun
    · split at hrun
      · rename_i hrk
        cases hrun
        have hr' : meth.sig.returnType = none := by rw [hrk] at hret; exact hret
        refine W.widen hcl hsl ?_
        exact W.vret hx hb hr' (fun t ht hW => ⟨⟨ad, rfl, by rw [ht]; exact hP, hD, hmx, hN0, had, hok, (fun w hw => by cases hw)⟩, hS.F ht⟩) hS.2.2 hd hlocks
      · cases hrun
    · cases hrun
  | _ => simp only [stpI] at hrun; cases hrun
end SND
