/-! Math.floorMod of two ints, the first not below 0, the other above: no entry runs in its place -/
def fmc : ByteArray := cJ9_floorMod_7cf53
theorem fmd_0 : decode fmc 0 = .ok (.iload_n 0, 1) := by decide +kernel
theorem fmd_1 : decode fmc 1 = .ok (.iload_n 1, 1) := by decide +kernel
theorem fmd_2 : decode fmc 2 = .ok (.irem, 1) := by decide +kernel
theorem fmd_3 : decode fmc 3 = .ok (.istore_n 2, 1) := by decide +kernel
theorem fmd_4 : decode fmc 4 = .ok (.iload_n 0, 1) := by decide +kernel
theorem fmd_5 : decode fmc 5 = .ok (.iload_n 1, 1) := by decide +kernel
theorem fmd_6 : decode fmc 6 = .ok (.ixor, 1) := by decide +kernel
theorem fmd_7 : decode fmc 7 = .ok (.ifCond .ge 11, 3) := by decide +kernel
theorem fmd_18 : decode fmc 18 = .ok (.iload_n 2, 1) := by decide +kernel
theorem fmd_19 : decode fmc 19 = .ok (.ireturn, 1) := by decide +kernel
def fmy : MethodName := yJ9_floorMod_7cf53
theorem fm_noRow0 : (NativeRow.find? natives fmy.cls fmy.name fmy.desc).isNone = true := by decide +kernel
theorem fm_noRow (p : Program) : NativeRow.find? p.tables.natives fmy.cls fmy.name fmy.desc = none := by
  cases p <;> exact Option.isNone_iff_eq_none.mp fm_noRow0
def fmspec : Spec where
  pre := .and (.code fmy fmc 3 (some .int)) (.and (.count 2) (.and (.isInt (.arg 0)) (.and (.isInt (.arg 1)) (.and (.le (.int 0) (.arg 0)) (.lt (.int 0) (.arg 1))))))
  post := .and .returned (.eq .result (.rem (.arg 0) (.arg 1)))
  changes := some []
theorem xor_nn {a b : Int32} (ha : 0 ≤ a) (hb : 0 < b) : 0 ≤ a ^^^ b := by
  have h1 : a.toBitVec.msb = false := by
    have := Int32.le_iff_toInt_le.mp ha
    rw [BitVec.msb_eq_toInt]
    simp only [decide_eq_false_iff_not]
    have e : a.toBitVec.toInt = a.toInt := rfl
    rw [e]
    have z : (0 : Int32).toInt = 0 := by decide
    omega
  have h2 : b.toBitVec.msb = false := by
    have := Int32.lt_iff_toInt_lt.mp hb
    rw [BitVec.msb_eq_toInt]
    simp only [decide_eq_false_iff_not]
    have e : b.toBitVec.toInt = b.toInt := rfl
    rw [e]
    have z : (0 : Int32).toInt = 0 := by decide
    omega
  have h3 : (a ^^^ b).toBitVec.msb = false := by
    show (a.toBitVec ^^^ b.toBitVec).msb = false
    rw [BitVec.msb_xor, h1, h2]; rfl
  rw [BitVec.msb_eq_toInt] at h3
  simp only [decide_eq_false_iff_not] at h3
  apply Int32.le_iff_toInt_le.mpr
  have z : (0 : Int32).toInt = 0 := by decide
  have e : (a ^^^ b).toBitVec.toInt = (a ^^^ b).toInt := rfl
  rw [e] at h3
  omega
theorem fm_meets (l : Launch) : MeetsLoose l fmy fmspec := by
  refine MeetsLoose.of_body_ov (code := fmc) (maxLocals := 3) (ret := some .int) fm_noRow ?_ ?_
  · intro args s h
    simp only [fmspec, Cond.before_and, Bool.and_eq_true] at h
    exact h.1
  · intro p e s m args below meth c s₁ B
    have hpre := B.pre
    simp only [fmspec, Cond.before_and, Bool.and_eq_true] at hpre
    obtain ⟨a, b, rfl⟩ := Cond.two_ints hpre.2.1 hpre.2.2.1 hpre.2.2.2.1
    have ha : 0 ≤ a := by simpa [Cond.before, Cond.holds, Cond.value, Term.eval] using hpre.2.2.2.2.1
    have hb : 0 < b := by simpa [Cond.before, Cond.holds, Cond.value, Term.eval] using hpre.2.2.2.2.2
    have hb0 : ¬ b = 0 := fun z => by subst z; exact absurd hb (by decide)
    have hx := xor_nn ha hb
    have hloc : argsToLocals #[.int a, .int b] 3 = #[.val (.int a), .val (.int b), .unset] := rfl
    have fin : ∀ r : Int32, (∀ fs, Steps p.tables e below (s₁.setTop (entryFrame m #[.int a, .int b] 3)) (s₁.setFrames fs) ∨ handOver s₁ (some (.int r)) below ≠ some fs) →
        (fmspec.post.after #[.int a, .int b] s (.returned (some (.int r))) = fun _ => true) →
        ∃ s₂ o, Steps p.tables e below (s₁.setTop (entryFrame m #[.int a, .int b] 3)) s₂ ∧ s₂.status = .running ∧ Ended s₂ below o ∧
          fmspec.ensures #[.int a, .int b] s o s₂ := by
      intro r hwalk hpost
      obtain ⟨fs, hfs⟩ := handOver_isSome (s := s₁) (some (.int r)) B.hears₁
      refine ⟨s₁.setFrames fs, .returned (some (.int r)), (hwalk fs).resolve_right (fun h => h hfs), B.here.running, B.ended hfs (by intro h; cases h), ?_, State.sameBut_nil.mpr ?_⟩
      · rw [hpost]
      · rw [State.frames_setFrames _ B.cur₁, B.back]
    refine fin (a - a / b * b) (fun fs => ?_) (by funext s'; simp [fmspec, Cond.after, Cond.holds, Cond.value, Term.eval, hb0]; exact irem_eq_mod _ _)
    by_cases hfs : handOver s₁ (some (.int (a - a / b * b))) below = some fs
    · left
      unfold entryFrame; rw [hloc]
      refine Steps.instrAtOv (c := _) (by simpa using B.here) ?_
      simp [jvm, wpRun, exec, B.here.top, B.exec, B.bytes, fmd_0]
      refine Steps.instrAtOv (c := _) (by simpa using B.here) ?_
      simp [jvm, wpRun, exec, B.here.top, B.exec, B.bytes, fmd_1]
      refine Steps.instrAtOv (c := _) (by simpa using B.here) ?_
      simp [jvm, wpRun, exec, B.here.top, B.exec, B.bytes, fmd_2, hb0]
      refine Steps.instrAtOv (c := _) (by simpa using B.here) ?_
      simp [jvm, wpRun, exec, B.here.top, B.exec, B.bytes, fmd_3, storeLocals, storeSelf, setAt, Value.category]
      refine Steps.instrAtOv (c := _) (by simpa using B.here) ?_
      simp [jvm, wpRun, exec, B.here.top, B.exec, B.bytes, fmd_4]
      refine Steps.instrAtOv (c := _) (by simpa using B.here) ?_
      simp [jvm, wpRun, exec, B.here.top, B.exec, B.bytes, fmd_5]
      refine Steps.instrAtOv (c := _) (by simpa using B.here) ?_
      simp [jvm, wpRun, exec, B.here.top, B.exec, B.bytes, fmd_6]
      refine Steps.instrAtOv (c := _) (by simpa using B.here) ?_
      simp [jvm, wpRun, exec, B.here.top, B.exec, B.bytes, fmd_7, ifCond.holds, hx]
      refine Steps.instrAtOv (c := _) (by simpa using B.here) ?_
      simp [jvm, wpRun, exec, B.here.top, B.exec, B.bytes, fmd_18]
      refine Steps.instrAtOv (c := _) (by simpa using B.here) ?_
      simp [jvm, wpRun, exec, B.here.top, B.exec, B.bytes, fmd_19, B.method₁, B.returns, narrow]
      intro acts
      rw [ret_to B.frames₁ B.method₁ B.notSynchronized rfl rfl hfs]
      exact Steps.refl _
    · exact Or.inr hfs
def fmF : CF := fun as h => match as with
  | [.int a, .int b] => if 0 ≤ a ∧ 0 < b then some (some (.int (a - a / b * b)), h) else none
  | _ => none
section FMC
variable {p : Program} {l : Launch} {e : Env} {R : Room} {s : State} {m : MethodId} {args : Array Value} {below : List Frame} {meth : Method} {c : Code} {cells slots : Nat} {T : State} {locs : List Loc}
theorem fm_V (X : Stand p l e R s m args below meth c T locs cells slots) (hexec : p.tables.exec = Jvm.exec) {own : String} {index : Nat} (hown : s.vm.findClass own = some m.cls)
    (hlink : (Cond.methodLink own index fmy).before args s = true) (hstat : (Cond.static fmy).before args s = true) (hinit : (Cond.initialized "java/lang/Math").before args s = true)
    (hcode : (Cond.code fmy fmc 3 (some .int)).before args s = true)
    {g : JFrame} (hg : g.method = m) (hsize : g.locals.size = c.maxLocals) {a b : Int32} (ha : 0 ≤ a) (hb : 0 < b) {rest : List Value} (hstack : g.stack = .int b :: .int a :: rest) (hdg : decode c.code g.pc = .ok (.invokestatic index, 3))
    (hframes : 1 ≤ R.frames) (hlocals : 2 * g.monitorRoom + (rest.map fun v => v.category).sum + 14 ≤ R.locals) (hcells : cells ≤ R.cells) (hslots : slots ≤ R.slots) :
    ∃ vm', Stand p l e R s m args below meth c (T.setVm vm') locs cells slots ∧
      ∀ target, Steps p.tables e below ((T.setVm vm').setTop { g with pc := g.pc + 3, stack := .int (a - a / b * b) :: rest }) target → Steps p.tables e below (T.setTop g) target := by
  have hb0 : ¬ b = 0 := fun z => by subst z; exact absurd hb (by decide)
  obtain ⟨v, T', X', ⟨first, t, hpost⟩, hstep⟩ := X.staticByContractV hexec hown hlink hstat hinit hcode (by decide)
    (fm_meets l)
    rfl rfl rfl rfl
    (fun args' first o s₂ h => by
      simp only [fmspec, Cond.after_and, Bool.and_eq_true] at h
      cases o with
      | returned r => exact ⟨r, rfl⟩
      | threw y => simp [Cond.after, Cond.holds, Cond.value] at h)
    hg hsize (argsL := [.int a, .int b]) (rest := rest)
    (fun sig hs => by
      have h : parseMethodDescriptor "(II)I" = some { parameters := [.int, .int], returnType := some .int } := by decide +kernel
      rw [show fmy.desc = "(II)I" from rfl, h] at hs
      rw [← Option.some.inj hs]; rfl)
    hstack hdg
    (fun vm' hW => by
      simp only [fmspec, Cond.before_and, Bool.and_eq_true]
      refine ⟨?_, rfl, rfl, rfl, ?_, ?_⟩
      · have q := hcode
        rw [← Cond.code_setVm hW.alike] at q
        simp only [Cond.before, Cond.holds, Cond.value, State.methodNamed?, State.vm_setVm] at q ⊢
        exact q
      · simpa [Cond.before, Cond.holds, Cond.value, Term.eval] using ha
      · simpa [Cond.before, Cond.holds, Cond.value, Term.eval] using hb)
    (by show 0 + 1 ≤ R.frames; omega) (by show 2 * g.monitorRoom + (rest.map fun v => v.category).sum + (3 + 11) + 0 ≤ R.locals; omega) (by show cells + 0 ≤ R.cells; omega) (by show slots + 0 ≤ R.slots; omega)
  refine ⟨T', X', fun target h => hstep target ?_⟩
  obtain rfl : v = some (.int (a - a / b * b)) := by
    rcases v with _ | w
    · simp [fmspec, Cond.after, Cond.holds, Cond.value, Term.eval, hb0] at hpost
    · cases w <;> simp [fmspec, Cond.after, Cond.holds, Cond.value, Term.eval, hb0] at hpost
      rw [irem_eq_mod]
      simp [hpost]
  exact h
end FMC
theorem clk_F {p : Program} {l : Launch} {e : Env} {R : Room} {s : State} {m : MethodId} {args : Array Value} {below : List Frame} {meth : Method} {c : Code} {cc : ByteArray} {nL : Nat} {own : String} {D : va_G} {aC : Nat → ClassId} {A : Nat → Prop} {ad0 : Nat → Nat} {N0 x : Nat} (X : CTX p s m args c cc nL own D aC A) (hst : Cond.static fmy ∈ gdW ∧ Cond.initialized "java/lang/Math" ∈ gdW ∧ Cond.code fmy fmc 3 (some .int) ∈ gdW) (hl : Cond.methodLink own x fmy ∈ gdW) (hR : 1 ≤ R.frames ∧ 22 ≤ R.locals) : CLK p l e R s m args below meth c cc nL D aC A ad0 N0 (.invokestatic x) 2 none 0 0 fmF := by
  obtain ⟨hx, hb, hml, hown, hC, hK, hA⟩ := X
  intro Q pc ls rest As h h' r ad H locs cells slots hlen hf hd hsz hrest hc1 hs1 hH hokA hrcv kk
  unfold fmF at hf
  split at hf
  · rename_i a b
    split at hf
    · rename_i hg
      cases hf
      intro T hT X
      obtain ⟨vm', X', st⟩ := fm_V X hx hown (hC.1 _ hl) (hC.1 _ hst.1) (hC.1 _ hst.2.1) (hC.1 _ hst.2.2) (g := F0 m pc ls (.int b :: .int a :: rest)) rfl (by rw [hml]; exact hsz) hg.1 hg.2 (rest := rest) rfl (by rw [hb]; exact hd) hR.1 (by have := room_rest (m := m) (pc := pc) (ls := ls) (st := .int b :: .int a :: rest) hrest; omega) hc1 hs1
      obtain ⟨t, a1, b1⟩ := kk ad H locs hH (fun _ _ => rfl) (Nat.le_refl _) (fun v z => by cases z; trivial) (T.setVm vm') hT X'
      exact ⟨t, st t a1, b1⟩
    · cases hf
  · cases hf
