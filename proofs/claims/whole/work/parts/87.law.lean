/-! THE LAW: its loop, its start; then the kit's frame -/
def lw_P (b : Addr) (xs : List Int32) (args : Array Value) (s : State) : Prop := args = #[.ref b] ∧ s.IntsAt b xs ∧ xs.length ≤ 2048 ∧ (Jvm.Cond.and given_1 narrow_1).before args s = true
def lw_Q (_ : Array Value) (s : State) (o : Outcome) (t : State) : Prop := o = .returned (some (.int 1)) ∧ Framed s o t [] 600000 7302250
def lw_Z (below : List Frame) (a : Array Value) (s : State) : State → Prop := fun t => ∃ o, t.status = .running ∧ Ended t below o ∧ lw_Q a s o t
/-- the law's own end, with 1 on the stack, nothing written that was there before, its room as the claim has it -/
theorem lw_ret {p : Program} {l : Launch} {e : Env} {s : State} {m : MethodId} {below : List Frame} {meth : Method} {c : Code} {b : Nat} (hx : p.tables.exec = Jvm.exec) (hb : c.code = code) (hr : meth.sig.returnType = ret) (hlocks : meth.locks = false) {pc : Nat} {H : Heap} {ls : Array Slot} (hdg : decode code pc = .ok (.ireturn, 1)) : W p l e room_1 s m #[Value.ref b] below meth c H [] 600000 7302250 (lw_Z below #[Value.ref b] s) (F0 m pc ls [.int 1]) := by
  intro T hT X
  obtain ⟨fs, hret, hrun, hended, hW, hframe⟩ := X.leave (v := some (.int 1)) (hlocks := hlocks) (fun h => by rw [hr] at h; cases h)
  have hmeth' : T.vm.method? m = some meth := X.method'
  refine ⟨T.setFrames fs, ?_, .returned (some (.int 1)), hrun, hended, rfl, ⟨_, rfl⟩, hW, hframe⟩
  jvm_step X.here [X.here.top, hx, hb, hdg, hmeth', hr, ret, narrow_b1]
  (try refine ⟨rfl, ?_⟩); (try refine ⟨rfl, ?_⟩)
  first | (intro acts; rw [hret _ acts rfl rfl rfl]) | rw [hret _ _ rfl rfl rfl]
  exact Steps.refl _
/-- what holds at the law's entry: the machine, the code, the tables' words (any of lw_tbl by 'hts w (by decide +kernel)'), the script of L ints xs at the cell b, what the Statement gives of the start (any of its parts by flat_of_before) -/
def lw_At (p : Program) (s : State) (m : MethodId) (meth : Method) (c : Code) (b L : Nat) (xs : Nat → Int32) : Prop :=
  p.tables.exec = Jvm.exec ∧ c.code = code ∧ meth.sig.returnType = ret ∧ c.maxLocals = 4 ∧ s.vm.findClass R_law = some m.cls ∧ (∀ w ∈ lw_tbl, w.before #[Value.ref b] s = true) ∧ va_X b L xs s s.heap ∧ b < s.heap.size ∧ meth.locks = false ∧ (Jvm.Cond.and given_1 narrow_1).before #[Value.ref b] s = true
theorem law_new {p : Program} {l : Launch} {e : Env} {R : Room} {s : State} {m : MethodId} {args : Array Value} {below : List Frame} {meth : Method} {c : Code} {cc : ByteArray} {nL : Nat} {own : String} {D : va_G} {aC : Nat → ClassId} {x ci : Nat} {Q : State → Prop} {pc : Nat} {ls : Array Slot} {rest : List Value} {h h2 : HP} {ad ad2 : Nat → Nat} {H : Heap} {locs : List Loc} {cells slots : Nat} (X : CTX p s m args c cc nL own D aC (AL s)) (hci : ci < 13) (hcl : (Cond.classLink own x (clN ci)).before args s = true) (hJ : Jt D aC s ad h ad2 h2 H locs) (hm : h.1 + 1 ≤ mNul) (hcells : cells + 1 ≤ R.cells) (hslots : slots + nfd ci ≤ R.slots) (hd : decode cc pc = .ok (.new x, 3))
    (kk : ∀ (q : Nat) (H1 : Heap), Jt D aC s (up1 ad h.1 q) (alc h (10 + ci) 0) ad2 h2 H1 locs → W p l e R s m args below meth c H1 locs (cells + 1) (slots + nfd ci) Q (F0 m (pc + 3) ls (.ref q :: rest))) : W p l e R s m args below meth c H locs cells slots Q (F0 m pc ls rest) := by
  obtain ⟨hx, hb, hml, hown, hC, hK, hA⟩ := X
  obtain ⟨hP, hD, hS, hmx, hok, hmx2, hok2⟩ := hJ
  obtain ⟨hin, hinst, hini⟩ := hC.2.1 ci hci
  refine va_new (C := clN ci) (T := clT ci) (N := nfd ci) (ci := ci) (fs := (List.range (nfd ci)).map (fun j => defaultValue (ftyT ci j))) hx hb hC.1 hin (ftyT ci) (clsT hci) hown hcl hinst hini hK.1 hP hD hS hA (clsL hci) (fun j hj => by simp [vp_V, hj]) hcells hslots hd (fun q H1 hP1 hD1 hS1 => ?_)
  have hset := wof_alc (aC := aC) (ad := ad) (kd := 10 + ci) (n := 0) (q := q) (E := .inr (ci, (List.range (nfd ci)).map (fun j => defaultValue (ftyT ci j)))) hok (by
    rw [cel_obj (ci := ci) (show ((alc h (10 + ci) 0).2.1 h.1).1 = 10 + ci from by show (up1 h.2.1 h.1 (10 + ci, 0) h.1).1 = _; rw [up1_eq])]
    congr 2
    apply List.map_congr_left
    intro j hj
    unfold fvv
    have e1 : (alc h (10 + ci) 0).2.2.1 h.1 j = 0 := by show up1 h.2.2.1 h.1 (fun _ => 0) h.1 j = 0; rw [up1_eq]
    have e2 : (alc h (10 + ci) 0).2.2.2.1 h.1 j = 0 := by show up1 h.2.2.2.1 h.1 (fun _ => 0) h.1 j = 0; rw [up1_eq]
    have e3 : (alc h (10 + ci) 0).2.2.2.2 h.1 j = mNul := by show up1 h.2.2.2.2 h.1 (fun _ => mNul) h.1 j = mNul; rw [up1_eq]
    rw [e1, e2, e3]
    exact fty_dflt hci (List.mem_range.mp hj))
  rw [List.append_assoc, hset] at hP1 hD1
  exact kk q H1 ⟨hP1, hD1, hS1, hm, hok.alc, hmx2, hok2⟩
def hE1 : HP := (0, shX, I00, J00, fun _ _ => mNul)
def hE2 : HP := (0, shM, I00, J00, fun _ _ => mNul)
theorem hE1_n : alc hE1 21 0 = (1, shX, zrI I00 0, zrJ J00 0, xR0) := by
  show (0 + 1, up1 shX 0 (21, 0), _, _, _) = _
  rw [upsh (n := 0) (v := (21, 0)) rfl]
  rfl
theorem hE2_n : alc hE2 22 0 = (1, shM, zrI I00 0, zrJ J00 0, yR0) := by
  show (0 + 1, up1 shM 0 (22, 0), _, _, _) = _
  rw [upsm (n := 0) (v := (22, 0)) rfl]
  rfl
theorem out19 : ∀ r, r < 32 → 19 ≤ r → (18 : Int) < (nI r).toInt := by decide +kernel
theorem and31 (v : Int32) : ∃ r, r < 32 ∧ v &&& nI 31 = nI r := by
  obtain ⟨n, hn, rfl⟩ := wb_of32 v
  exact ⟨n &&& 31, Nat.lt_of_le_of_lt Nat.and_le_right (by decide), and_nI n 31⟩
theorem sub4 : ∀ L, L < 4 → nI L - nI 4 < nI 0 := by decide +kernel
theorem lend {L j : Nat} (hL : L ≤ 2048) (hj : j = 0 ∨ 4 * j ≤ L) : (nI L - nI 4 < nI (4 * j)) = (L < 4 * j + 4) := by
  by_cases h : 4 ≤ L
  · rw [sub_nI h, nI_lt' (by omega) (by omega)]
    exact propext ⟨fun z => by omega, fun z => by omega⟩
  · have h0 : j = 0 := by omega
    subst h0
    exact propext ⟨fun _ => by omega, fun _ => sub4 L (by omega)⟩
theorem law_sw {p : Program} {l : Launch} {e : Env} {s : State} {m : MethodId} {args : Array Value} {below : List Frame} {meth : Method} {c : Code} {D : va_G} {aC : Nat → ClassId} {Q : State → Prop} {ls : Array Slot} {H : Heap} {locs : List Loc} {cells slots b L j a1 a2 : Nat} {xs : Nat → Int32} {adc adm : Nat → Nat} {A M : Nat → Nat → Int32} {J N : Nat → Nat → Int64} {pl st : Bool} (hCP : CAPS) (X : CTX p s m args c code 4 R_law D aC (AL s)) (hX : va_X b L xs s s.heap) (hbl : b < s.heap.size) (hj4 : 4 * j + 4 ≤ L) (hL : L ≤ 2048) (hl : lv_has ls 4 [(0, .ref b), (1, .ref a1), (2, .ref a2), (3, .int (nI (4 * j)))]) (hc : cells ≤ 600000) (hs : slots ≤ 7302250) (hJ : Jt D aC s adc (cH A J pl st) adm (mH M N) H locs) (hI : Inv A pl M N) (h1 : adc 0 = a1) (h2 : adm 0 = a2) (K : ∀ (adc adm : Nat → Nat) (A : Nat → Nat → Int32) (J : Nat → Nat → Int64) (pl st : Bool) (M : Nat → Nat → Int32) (N : Nat → Nat → Int64) (H : Heap) (locs : List Loc), Jt D aC s adc (cH A J pl st) adm (mH M N) H locs → Inv A pl M N → adc 0 = a1 → adm 0 = a2 → W p l e room_1 s m args below meth c H locs cells slots Q (F0 m 623 ls [])) : ∀ r, r < 32 → W p l e room_1 s m args below meth c H locs cells slots Q (F0 m 32 ls [.int (nI r)]) := by
  have hx := X.1
  have hb := X.2.1
  intro r hr
  match r, hr with
  | 0, _ => exact lv_tableIn hx hb d_32 (by decide) (by decide) (show _ = some (92 : Int) from rfl) (show ((32 : Nat) : Int) + 92 = ((124 : Nat) : Int) from rfl) (cs_0 hCP X hX hbl hj4 hL hl hc hs hJ hI h1 h2 K)
  | 1, _ => exact lv_tableIn hx hb d_32 (by decide) (by decide) (show _ = some (115 : Int) from rfl) (show ((32 : Nat) : Int) + 115 = ((147 : Nat) : Int) from rfl) (cs_1 hCP X hX hbl hj4 hL hl hc hs hJ hI h1 h2 K)
  | 2, _ => exact lv_tableIn hx hb d_32 (by decide) (by decide) (show _ = some (128 : Int) from rfl) (show ((32 : Nat) : Int) + 128 = ((160 : Nat) : Int) from rfl) (cs_2 hCP X hX hbl hj4 hL hl hc hs hJ hI h1 h2 K)
  | 3, _ => exact lv_tableIn hx hb d_32 (by decide) (by decide) (show _ = some (141 : Int) from rfl) (show ((32 : Nat) : Int) + 141 = ((173 : Nat) : Int) from rfl) (cs_3 hCP X hX hbl hj4 hL hl hc hs hJ hI h1 h2 K)
  | 4, _ => exact lv_tableIn hx hb d_32 (by decide) (by decide) (show _ = some (164 : Int) from rfl) (show ((32 : Nat) : Int) + 164 = ((196 : Nat) : Int) from rfl) (cs_4 hCP X hX hbl hj4 hL hl hc hs hJ hI h1 h2 K)
  | 5, _ => exact lv_tableIn hx hb d_32 (by decide) (by decide) (show _ = some (197 : Int) from rfl) (show ((32 : Nat) : Int) + 197 = ((229 : Nat) : Int) from rfl) (cs_5 hCP X hX hbl hj4 hL hl hc hs hJ hI h1 h2 K)
  | 6, _ => exact lv_tableIn hx hb d_32 (by decide) (by decide) (show _ = some (240 : Int) from rfl) (show ((32 : Nat) : Int) + 240 = ((272 : Nat) : Int) from rfl) (cs_6 hCP X hX hbl hj4 hL hl hc hs hJ hI h1 h2 K)
  | 7, _ => exact lv_tableIn hx hb d_32 (by decide) (by decide) (show _ = some (273 : Int) from rfl) (show ((32 : Nat) : Int) + 273 = ((305 : Nat) : Int) from rfl) (cs_7 hCP X hX hbl hj4 hL hl hc hs hJ hI h1 h2 K)
  | 8, _ => exact lv_tableIn hx hb d_32 (by decide) (by decide) (show _ = some (296 : Int) from rfl) (show ((32 : Nat) : Int) + 296 = ((328 : Nat) : Int) from rfl) (cs_8 hCP X hX hbl hj4 hL hl hc hs hJ hI h1 h2 K)
  | 9, _ => exact lv_tableIn hx hb d_32 (by decide) (by decide) (show _ = some (345 : Int) from rfl) (show ((32 : Nat) : Int) + 345 = ((377 : Nat) : Int) from rfl) (cs_9 hCP X hX hbl hj4 hL hl hc hs hJ hI h1 h2 K)
  | 10, _ => exact lv_tableIn hx hb d_32 (by decide) (by decide) (show _ = some (378 : Int) from rfl) (show ((32 : Nat) : Int) + 378 = ((410 : Nat) : Int) from rfl) (cs_10 hCP X hX hbl hj4 hL hl hc hs hJ hI h1 h2 K)
  | 11, _ => exact lv_tableIn hx hb d_32 (by decide) (by decide) (show _ = some (401 : Int) from rfl) (show ((32 : Nat) : Int) + 401 = ((433 : Nat) : Int) from rfl) (cs_11 hCP X hX hbl hj4 hL hl hc hs hJ hI h1 h2 K)
  | 12, _ => exact lv_tableIn hx hb d_32 (by decide) (by decide) (show _ = some (414 : Int) from rfl) (show ((32 : Nat) : Int) + 414 = ((446 : Nat) : Int) from rfl) (cs_12 hCP X hX hbl hj4 hL hl hc hs hJ hI h1 h2 K)
  | 13, _ => exact lv_tableIn hx hb d_32 (by decide) (by decide) (show _ = some (437 : Int) from rfl) (show ((32 : Nat) : Int) + 437 = ((469 : Nat) : Int) from rfl) (cs_13 hCP X hX hbl hj4 hL hl hc hs hJ hI h1 h2 K)
  | 14, _ => exact lv_tableIn hx hb d_32 (by decide) (by decide) (show _ = some (460 : Int) from rfl) (show ((32 : Nat) : Int) + 460 = ((492 : Nat) : Int) from rfl) (cs_14 hCP X hX hbl hj4 hL hl hc hs hJ hI h1 h2 K)
  | 15, _ => exact lv_tableIn hx hb d_32 (by decide) (by decide) (show _ = some (509 : Int) from rfl) (show ((32 : Nat) : Int) + 509 = ((541 : Nat) : Int) from rfl) (cs_15 hCP X hX hbl hj4 hL hl hc hs hJ hI h1 h2 K)
  | 16, _ => exact lv_tableIn hx hb d_32 (by decide) (by decide) (show _ = some (522 : Int) from rfl) (show ((32 : Nat) : Int) + 522 = ((554 : Nat) : Int) from rfl) (cs_16 hCP X hX hbl hj4 hL hl hc hs hJ hI h1 h2 K)
  | 17, _ => exact lv_tableIn hx hb d_32 (by decide) (by decide) (show _ = some (545 : Int) from rfl) (show ((32 : Nat) : Int) + 545 = ((577 : Nat) : Int) from rfl) (cs_17 hCP X hX hbl hj4 hL hl hc hs hJ hI h1 h2 K)
  | 18, _ => exact lv_tableIn hx hb d_32 (by decide) (by decide) (show _ = some (568 : Int) from rfl) (show ((32 : Nat) : Int) + 568 = ((600 : Nat) : Int) from rfl) (cs_18 hCP X hX hbl hj4 hL hl hc hs hJ hI h1 h2 K)
  | k + 19, hk => exact lv_tableOut hx hb d_32 (Or.inr (out19 (k + 19) hk (by omega))) (show ((32 : Nat) : Int) + 591 = ((623 : Nat) : Int) from rfl) (K adc adm A J pl st M N H locs hJ hI h1 h2)
theorem law_loop {p : Program} {l : Launch} {e : Env} {s : State} {m : MethodId} {below : List Frame} {meth : Method} {c : Code} {D : va_G} {aC : Nat → ClassId} {cells slots b L a1 a2 : Nat} {xs : Nat → Int32} (hCP : CAPS) (X : CTX p s m #[Value.ref b] c code 4 R_law D aC (AL s)) (hr : meth.sig.returnType = ret) (hlocks : meth.locks = false) (hX : va_X b L xs s s.heap) (hbl : b < s.heap.size) (hL : L ≤ 2048) (hc : cells ≤ 600000) (hs : slots ≤ 7302250) : ∀ d j, (j = 0 ∨ 4 * j ≤ L) → L < 4 * (j + d) + 4 → ∀ (ls : Array Slot) (adc adm : Nat → Nat) (A : Nat → Nat → Int32) (J : Nat → Nat → Int64) (pl st : Bool) (M : Nat → Nat → Int32) (N : Nat → Nat → Int64) (H : Heap) (locs : List Loc), lv_has ls 4 [(0, .ref b), (1, .ref a1), (2, .ref a2), (3, .int (nI (4 * j)))] → Jt D aC s adc (cH A J pl st) adm (mH M N) H locs → Inv A pl M N → adc 0 = a1 → adm 0 = a2 → W p l e room_1 s m #[Value.ref b] below meth c H locs cells slots (lw_Z below #[Value.ref b] s) (F0 m 18 ls []) := by
  have hx := X.1
  have hb := X.2.1
  have hbA : ¬ AL s b := fun z => absurd hbl (Nat.not_lt.mpr z)
  intro d
  induction d with
  | zero =>
    intro j hj hd ls adc adm A J pl st M N H locs hl hJ hI h1 h2
    refine lv_iload_n hx hb d_18 rfl (lv_at hl 3 rfl) ?_
    refine lv_aload_n hx hb d_19 rfl (lv_at hl 0 rfl) ?_
    refine va_slen hx hb hX hbl hbA hJ.2.2.1 d_20 ?_
    refine lv_iconst hx hb d_21 (show _ = nI 4 from rfl) ?_
    refine lv_isub hx hb d_22 ?_
    refine lv_icmp_gt hx hb d_23 (show ((23 : Nat) : Int) + 606 = ((629 : Nat) : Int) from rfl) (fun _ => ?_) (fun z => absurd ((lend hL hj).mpr (by omega)) z)
    refine lv_iconst hx hb d_629 (show _ = (1 : Int32) from rfl) ?_
    refine va_forget (fun q hq => hJ.2.2.1.2.2 q hq) ?_
    refine W.widen hc hs ?_
    exact lw_ret hx hb hr hlocks d_630
  | succ d ih =>
    intro j hj hd ls adc adm A J pl st M N H locs hl hJ hI h1 h2
    refine lv_iload_n hx hb d_18 rfl (lv_at hl 3 rfl) ?_
    refine lv_aload_n hx hb d_19 rfl (lv_at hl 0 rfl) ?_
    refine va_slen hx hb hX hbl hbA hJ.2.2.1 d_20 ?_
    refine lv_iconst hx hb d_21 (show _ = nI 4 from rfl) ?_
    refine lv_isub hx hb d_22 ?_
    refine lv_icmp_gt hx hb d_23 (show ((23 : Nat) : Int) + 606 = ((629 : Nat) : Int) from rfl) (fun _ => ?_) (fun z => ?_)
    · refine lv_iconst hx hb d_629 (show _ = (1 : Int32) from rfl) ?_
      refine va_forget (fun q hq => hJ.2.2.1.2.2 q hq) ?_
      refine W.widen hc hs ?_
      exact lw_ret hx hb hr hlocks d_630
    · have hj4 : 4 * j + 4 ≤ L := by
        have : ¬ L < 4 * j + 4 := fun w => z ((lend hL hj).mpr w)
        omega
      refine lv_aload_n hx hb d_26 rfl (lv_at hl 0 rfl) ?_
      refine lv_iload_n hx hb d_27 rfl (lv_at hl 3 rfl) ?_
      refine va_sld hx hb hX hbl hbA hJ.2.2.1 (inb_in (inb_nI (by omega) (by omega))) d_28 ?_
      refine lv_bipush hx hb d_29 (show _ = nI 31 from rfl) ?_
      refine lv_iand hx hb d_31 ?_
      obtain ⟨r, hr32, er⟩ := and31 (xs (nI (4 * j)).toNatClampNeg)
      rw [er]
      refine law_sw hCP X hX hbl hj4 hL hl hc hs hJ hI h1 h2 (fun adc' adm' A' J' pl' st' M' N' H' locs' hJ' hI' h1' h2' => ?_) r hr32
      refine lv_iinc hx hb d_623 hl (k := 3) rfl (show nI (4 * j) + nI 4 = nI (4 * (j + 1)) from by rw [nI_add]; congr 1) (by decide) rfl (fun ls' hl' => ?_)
      refine lv_goto hx hb d_626 (show ((626 : Nat) : Int) + (-608) = ((18 : Nat) : Int) from rfl) ?_
      exact ih (j + 1) (Or.inr (by omega)) (by omega) ls' adc' adm' A' J' pl' st' M' N' H' locs' (lv_sub hl' [1, 2, 3, 0] rfl) hJ' hI' h1' h2'
theorem whole_start {p : Program} {e : Env} {s : State} {m : MethodId} {below : List Frame} {meth : Method} {c : Code} (l : Launch) (hflags : l.flags = flags0) {b L : Nat} {xs : Nat → Int32} (hL : L ≤ 2048) (C0 : lw_At p s m meth c b L xs) : W p l e room_1 s m #[Value.ref b] below meth c s.heap [] 0 0 (lw_Z below #[Value.ref b] s) (entryFrame m ([Value.ref b] : List Value).toArray 4) := by
  obtain ⟨hx, hb, hr, hml, hown, hts, hX, hbl, hlocks, hgv⟩ := C0
  obtain ⟨D, aC, hK, hC⟩ := ks_of hts
  have X : CTX p s m #[Value.ref b] c code 4 R_law D aC (AL s) := ⟨hx, hb, hml, hown, hC, hK, fun q z => z⟩
  have hJ0 : Jt D aC s (fun _ => 0) hE1 (fun _ => 0) hE2 s.heap [] := ⟨fun k q hk => absurd (show ([] : va_W)[k]? = some q from hk) (by simp), ⟨fun i j p q hi => absurd (show ([] : va_W)[i]? = some p from hi) (by simp), fun k q hk => absurd (show ([] : va_W)[k]? = some q from hk) (by simp)⟩, va_S.rf, Nat.zero_le _, fun p j => Or.inl rfl, Nat.zero_le _, fun p j => Or.inl rfl⟩
  rw [lg_entry_eq]
  have hls0 := lv_entry [Value.ref b] (n := 4) (Nat.le_of_ble_eq_true rfl)
  generalize ((lg_sl [Value.ref b] ++ List.replicate (4 - (lg_sl [Value.ref b]).length) Slot.unset).toArray) = ls at hls0 ⊢
  have hls : lv_has ls 4 [(0, .ref b)] := hls0
  refine law_new (ci := 11) X (by decide) (hts _ (List.mem_of_getElem? (i := 84) (by decide +kernel))) hJ0 (by decide) (Nat.le_of_ble_eq_true rfl) (Nat.le_of_ble_eq_true rfl) d_0 (fun q1 H1 hJ1 => ?_)
  rw [hE1_n] at hJ1
  refine lv_dup hx hb d_3 rfl ?_
  have eq1 : up1 (fun _ : Nat => (0 : Nat)) hE1.1 q1 0 = q1 := rfl
  refine law_I (ad := up1 (fun _ => 0) hE1.1 q1) (q := 0) (rest := [.ref q1]) X (vX11_init l) nX11_init sX11_init (gd_of (i := 86) (by decide +kernel) rfl) ⟨Nat.le_of_ble_eq_true rfl, Nat.le_of_ble_eq_true rfl⟩ cNew d_4 hls.1 (Nat.le_of_ble_eq_true rfl) (Nat.le_of_ble_eq_true rfl) (Nat.le_of_ble_eq_true rfl) hJ1 rfl (okS.cons (show 0 < 1 by decide) okS.nil) (fun adc H2 locs2 hJ2 had2 _ => ?_)
  have ea1 : adc 0 = q1 := (had2 0 (by decide)).trans eq1
  refine lv_astore_n hx hb d_7 rfl hls (by decide) rfl (fun ls1 hls1 => ?_)
  have hJ3 := hJ2.swap
  refine law_new (ci := 12) X (by decide) (hts _ (List.mem_of_getElem? (i := 806) (by decide +kernel))) hJ3 (by decide) (Nat.le_of_ble_eq_true rfl) (Nat.le_of_ble_eq_true rfl) d_8 (fun q2 H3 hJ4 => ?_)
  rw [hE2_n] at hJ4
  refine lv_dup hx hb d_11 rfl ?_
  have eq2 : up1 (fun _ : Nat => (0 : Nat)) hE2.1 q2 0 = q2 := rfl
  obtain ⟨M0, em, hI0⟩ := inv_0 caps_ok
  refine law_I (ad := up1 (fun _ => 0) hE2.1 q2) (q := 0) (rest := [.ref q2]) X (vX12_init l) nX12_init sX12_init (gd_of (i := 808) (by decide +kernel) rfl) ⟨Nat.le_of_ble_eq_true rfl, Nat.le_of_ble_eq_true rfl⟩ em d_12 hls1.1 (Nat.le_of_ble_eq_true rfl) (Nat.le_of_ble_eq_true rfl) (Nat.le_of_ble_eq_true rfl) hJ4 nd78 (okS.cons (show 0 < 1 by decide) okS.nil) (fun adm H4 locs4 hJ5 had5 _ => ?_)
  have ea2 : adm 0 = q2 := (had5 0 (by decide)).trans eq2
  refine lv_astore_n hx hb d_15 rfl hls1 (by decide) rfl (fun ls2 hls2 => ?_)
  refine lv_iconst hx hb d_16 (show _ = nI (4 * 0) from rfl) ?_
  refine lv_istore_n hx hb d_17 rfl hls2 (by decide) rfl (fun ls3 hls3 => ?_)
  exact law_loop caps_ok X hr hlocks hX hbl hL (Nat.le_of_ble_eq_true rfl) (Nat.le_of_ble_eq_true rfl) (L + 1) 0 (Or.inl rfl) (by omega) ls3 adc adm A00 B00 false false M0 N00 H4 locs4 (lv_sub hls3 [3, 2, 1, 0] rfl) hJ5.swap hI0 ea1 ea2
set_option maxHeartbeats 4000000 in
theorem lw_walk (l : Launch) (hflags : l.flags = flags0) (b : Addr) (xs : List Int32) : MetFree l x (headSpec (Jvm.Cond.code x code maxLocals ret :: tables_1) room_1) (lw_P b xs) (fun _ _ _ _ _ => True) lw_Q := by
  refine MetFree.of_bodyS (code := code) (maxLocals := maxLocals) (ret := ret) (by decide) ?_ ?_
  · intro args s m h hn
    obtain ⟨meth, c, h1, h2, h3, h4, h5, h6, -, -⟩ := Cond.code_spec hn (atoms_spec (ws := Jvm.Cond.code x code maxLocals ret :: tables_1) h _ List.mem_cons_self)
    exact ⟨meth, c, h1, h2, h3, h4, h5, h6⟩
  · intro p e s m args below meth c s₁ B hml0 hP _
    obtain ⟨rfl, hx, hbd, hgv⟩ := hP
    obtain ⟨scr, harrAt, hlist, hof, hsmall⟩ := hx
    obtain ⟨hcb, hkn, -, -⟩ := State.arrayAt?_spec harrAt
    have hown : s.vm.findClass R_law = some m.cls := findClass_of_methodNamed B.named
    have hts0 : ∀ c ∈ (Jvm.Cond.code x code maxLocals ret :: tables_1), c.before #[Value.ref b] s = true := atoms_spec (ws := Jvm.Cond.code x code maxLocals ret :: tables_1) B.pre
    have hts : ∀ w ∈ lw_tbl, w.before #[Value.ref b] s = true := k2_hts_sels lw_privs (fun w hw => hts0 w (List.mem_cons_of_mem _ hw)) lw_privs_ok
    have hml : c.maxLocals = 4 := B.maxLocals_eq (hts0 _ List.mem_cons_self)
    have X₀ : Stand p l e room_1 s m #[Value.ref b] below meth c s₁ [] 0 0 := Stand.of_body B
    have hh0 : s₁.heap = s.heap := by rw [B.state]; rfl
    have hsz : scr.slots.size = xs.length := by rw [← Array.length_toList, hlist, List.length_map]
    have hval : ∀ j : Nat, j < xs.length → scr.slots[j]? = some (.int (xs.getD j 0)) := fun j hj => by
      rw [← Array.getElem?_toList, hlist]
      simp [hj]
    have hbl : b < s.heap.size := (Array.getElem?_eq_some_iff.mp hcb).1
    have hX : va_X b xs.length (fun j => xs.getD j 0) s s.heap := ⟨scr, hcb, hof, hkn, hsz, hval⟩
    have K : W p l e room_1 s m #[Value.ref b] below meth c s₁.heap [] 0 0 (lw_Z below #[Value.ref b] s) (entryFrame m ([Value.ref b] : List Value).toArray 4) := by
      rw [hh0]
      exact whole_start l hflags hbd ⟨B.exec, B.bytes, B.returns, hml, hown, hts, hX, hbl, B.notSynchronized, hgv⟩
    obtain ⟨t, a1, o, b1, b2, b3⟩ := K s₁ rfl X₀
    exact ⟨t, o, a1, b1, b2, b3⟩
theorem lw_pre_spec {args : Array Value} {s : State} (h : (Jvm.Cond.and given_1 narrow_1).before args s = true) (hr : rest_1_c.before args s = true) : ∃ (b : Addr) (xs : List Int32), lw_P b xs args s := by
  have hs := flat_of_before _ h
  have hq := flat_of_before _ hr
  have hc : (Cond.count 1).before args s = true := hs _ (by decide +kernel)
  have harr : (Cond.arrayOf (.arg 0) .int).before args s = true := hs _ (by decide +kernel)
  have hle : (Cond.le (.length (.arg 0)) (.int 2048)).before args s = true := hs _ (by decide +kernel)
  have hlen : (Cond.isInt (.length (.arg 0))).before args s = true := hq _ (by decide +kernel)
  have hall : (Cond.all (.arg 0) (.isInt (.elem (.arg 0) (.index 0)))).before args s = true := hq _ (by decide +kernel)
  obtain ⟨b, xs, hb, hx⟩ := State.ints_of_pre rfl harr hlen hall
  have hsm : xs.length < 2 ^ 31 := hx.choose_spec.2.2.2
  have hev : (Term.length (.arg 0)).eval args s none [] s = some (.int xs.length.toInt32) := hx.length_eval hb
  have hv := Cond.le_ints hev (show (Term.int 2048).eval args s none [] s = some (.int 2048) from rfl)
  have hd : xs.length.toInt32 ≤ 2048 := by
    simpa [Cond.before, Cond.holds, hv] using hle
  have hN : xs.length ≤ 2048 := (Int32.ofNat_le_ofNat hsm (by decide)).mp (show Int32.ofNat xs.length ≤ Int32.ofNat 2048 from hd)
  exact ⟨b, xs, Cond.one_arg hc (show args[0]? = some (.ref b) from hb), hx, hN, h⟩
theorem lw_comes (l : Launch) (hflags : l.flags = flags0) : Comes l x (Jvm.Cond.code x code maxLocals ret :: tables_1) room_1 (fun tb e args s => Calls_1 tb e args s ∧ rest_1 tb e args s ∧ Pre_1 tb e args s)
    (fun _ _ args s o t => lw_Q args s o t) := by
  intro p e ha hc hk s m args below hf hfit hheap happ hpre
  obtain ⟨b, xs, hP⟩ := lw_pre_spec hpre.2.2 hpre.2.1
  obtain ⟨k, o, h1, h2, h3, hQ⟩ := lw_walk l hflags b xs p e ha hc hk s m args below hf ((Spec.applies_iff_loose hf).mp happ).1 hP trivial
  exact ⟨k, o, h1, h2, h3, hQ⟩
theorem lw_frame {s t : State} {o : Outcome} {args : Array Value} (h : Framed s o t [] 600000 7302250) :
    Framed s o t (fieldLocs frame_1_writes args s ++ arrayLocs frame_1_arrays args s ++ staticLocs frame_1_statics s) 600000 7302250 := h
theorem lw_limb (L : Cond) (hL : ∀ (args : Array Value) (s t : State), L.after args s (.returned (some (.int 1))) t = true) :
    ArmFor flags0 classFile x code maxLocals ret World_1 tables_1 room_1 Calls_1 rest_1 Pre_1
      (fun tb e a s o t => postC L tb e a s o t ∧ Framed s o t (fieldLocs frame_1_writes a s ++ arrayLocs frame_1_arrays a s ++ staticLocs frame_1_statics s) 600000 7302250) := by
  intro l hflags _ _ p e ha hc hk s m args below hf hfit hheap happ hpre
  obtain ⟨k, o, h1, h2, h3, rfl, hF⟩ := lw_comes l hflags p e ha hc hk s m args below hf hfit hheap happ hpre
  exact ⟨k, _, h1, h2, h3, hL args s _, lw_frame hF⟩
theorem i_vc : Claimed_1_1 ∧ Claimed_1_2 := ⟨lw_limb limb_1_1 (fun args s t => by simp [limb_1_1, Cond.after, Cond.holds, Cond.value]), lw_limb limb_1_2 (fun args s t => Cond.after_iff.mpr (by
  first | (rw [show limb_1_2 = Cond.eq .result (.int 1) from rfl, Cond.eq_ints (x := 1) (y := 1) rfl rfl]; simp; done) | (simp [limb_1_2, Cond.value, Term.eval]; done)))⟩
