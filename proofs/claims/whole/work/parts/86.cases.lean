/-! the law: a call of each kind on both sides (by program) -/
theorem nd29 : va_nd (List.range 29) = true := by decide +kernel
theorem nd78 : va_nd (List.range 78) = true := by decide +kernel
theorem z29 : 0 < 29 := by decide
theorem z78 : 0 < 78 := by decide
theorem vin {j L k : Nat} (hj : 4 * j + 4 ≤ L) (hL : L ≤ 2048) (hk : k < 4) : vp_in (nI (4 * j) + nI k) L := by
  rw [nI_add]
  exact inb_in (inb_nI (by omega) (by omega))
section LCS
variable {p : Program} {l : Launch} {e : Env} {s : State} {m : MethodId} {args : Array Value} {below : List Frame} {meth : Method} {c : Code} {D : va_G} {aC : Nat → ClassId} {Q : State → Prop} {ls : Array Slot} {H : Heap} {locs : List Loc} {cells slots b L j a1 a2 : Nat} {xs : Nat → Int32} {adc adm : Nat → Nat} {A M : Nat → Nat → Int32} {J N : Nat → Nat → Int64} {pl st : Bool}
set_option maxHeartbeats 1000000 in
theorem cs_0 (hCP : CAPS) (X : CTX p s m args c code 4 R_law D aC (AL s)) (hX : va_X b L xs s s.heap) (hbl : b < s.heap.size) (hj : 4 * j + 4 ≤ L) (hL : L ≤ 2048) (hl : lv_has ls 4 [(0, .ref b), (1, .ref a1), (2, .ref a2), (3, .int (nI (4 * j)))]) (hc : cells ≤ 600000) (hs : slots ≤ 7302250) (hJ : Jt D aC s adc (cH A J pl st) adm (mH M N) H locs) (hI : Inv A pl M N) (h1 : adc 0 = a1) (h2 : adm 0 = a2) (K : ∀ (adc adm : Nat → Nat) (A : Nat → Nat → Int32) (J : Nat → Nat → Int64) (pl st : Bool) (M : Nat → Nat → Int32) (N : Nat → Nat → Int64) (H : Heap) (locs : List Loc), Jt D aC s adc (cH A J pl st) adm (mH M N) H locs → Inv A pl M N → adc 0 = a1 → adm 0 = a2 → W p l e room_1 s m args below meth c H locs cells slots Q (F0 m 623 ls [])) : W p l e room_1 s m args below meth c H locs cells slots Q (F0 m 124 ls []) := by
  have hx := X.1
  have hb := X.2.1
  have hS := hJ.2.2.1
  have hbA : ¬ AL s b := fun z => absurd hbl (Nat.not_lt.mpr z)
  subst h1
  subst h2
  refine lv_aload_n hx hb d_124 rfl (lv_at hl 1 rfl) ?_
  refine lv_aload_n hx hb d_125 rfl (lv_at hl 0 rfl) ?_
  refine lv_iload_n hx hb d_126 rfl (lv_at hl 3 rfl) ?_
  refine lv_iconst hx hb d_127 (show _ = nI 1 from rfl) ?_
  refine lv_iadd hx hb d_128 ?_
  refine va_sld hx hb hX hbl hbA hS (vin hj hL (by decide)) d_129 ?_
  obtain ⟨r, A', J', pl', st', M', N', f1, f2, hI'⟩ := e_feed (J := J) (st := st) hI (xs (nI (4 * j) + nI 1).toNatClampNeg)
  refine law_V (ad := adc) (as := [.int (xs (nI (4 * j) + nI 1).toNatClampNeg)]) (q := 0) (rest := []) (rc := 11) X (vX11_feed l) nX11_feed sX11_feed ⟨by decide, rfl⟩ (gd_of (i := 377) (by decide +kernel) rfl) ⟨Nat.le_of_ble_eq_true rfl, Nat.le_of_ble_eq_true rfl⟩ rfl f1 d_130 hl.1 (Nat.le_of_ble_eq_true rfl) hc hs hJ nd29 (okS.cons (z78 : 0 < 78) (okS.cons (v := .int _) trivial okS.nil)) ⟨rfl, z78⟩ ?_
  intro adc' H1 locs1 hJ1 had1 _
  show W p l e room_1 s m args below meth c H1 locs1 cells slots Q (F0 m 133 ls [.int r])
  have hJ2 := hJ1.swap
  have hS1 := hJ2.2.2.1
  refine lv_aload_n hx hb d_133 rfl (lv_at hl 2 rfl) ?_
  refine lv_aload_n hx hb d_134 rfl (lv_at hl 0 rfl) ?_
  refine lv_iload_n hx hb d_135 rfl (lv_at hl 3 rfl) ?_
  refine lv_iconst hx hb d_136 (show _ = nI 1 from rfl) ?_
  refine lv_iadd hx hb d_137 ?_
  refine va_sld hx hb hX hbl hbA hS1 (vin hj hL (by decide)) d_138 ?_
  refine law_V (ad := adm) (as := [.int (xs (nI (4 * j) + nI 1).toNatClampNeg)]) (q := 0) (rest := [.int r]) (rc := 12) X (vX12_feed l) nX12_feed sX12_feed ⟨by decide, rfl⟩ (gd_of (i := 1048) (by decide +kernel) rfl) ⟨Nat.le_of_ble_eq_true rfl, Nat.le_of_ble_eq_true rfl⟩ rfl f2 d_139 hl.1 (Nat.le_of_ble_eq_true rfl) hc hs hJ2 nd78 (okS.cons (z29 : 0 < 29) (okS.cons (v := .int _) trivial okS.nil)) ⟨rfl, z29⟩ ?_
  intro adm' H2 locs2 hJ3 had2 _
  show W p l e room_1 s m args below meth c H2 locs2 cells slots Q (F0 m 142 ls [.int r, .int r])
  refine lv_icmp_eq hx hb d_142 (show ((142 : Nat) : Int) + 481 = ((623 : Nat) : Int) from rfl) (fun _ => ?_) (fun z => absurd rfl z)
  exact K adc' adm' A' J' pl' st' M' N' H2 locs2 hJ3.swap hI' (had1 0 z78) (had2 0 z29)
set_option maxHeartbeats 1000000 in
theorem cs_1 (hCP : CAPS) (X : CTX p s m args c code 4 R_law D aC (AL s)) (hX : va_X b L xs s s.heap) (hbl : b < s.heap.size) (hj : 4 * j + 4 ≤ L) (hL : L ≤ 2048) (hl : lv_has ls 4 [(0, .ref b), (1, .ref a1), (2, .ref a2), (3, .int (nI (4 * j)))]) (hc : cells ≤ 600000) (hs : slots ≤ 7302250) (hJ : Jt D aC s adc (cH A J pl st) adm (mH M N) H locs) (hI : Inv A pl M N) (h1 : adc 0 = a1) (h2 : adm 0 = a2) (K : ∀ (adc adm : Nat → Nat) (A : Nat → Nat → Int32) (J : Nat → Nat → Int64) (pl st : Bool) (M : Nat → Nat → Int32) (N : Nat → Nat → Int64) (H : Heap) (locs : List Loc), Jt D aC s adc (cH A J pl st) adm (mH M N) H locs → Inv A pl M N → adc 0 = a1 → adm 0 = a2 → W p l e room_1 s m args below meth c H locs cells slots Q (F0 m 623 ls [])) : W p l e room_1 s m args below meth c H locs cells slots Q (F0 m 147 ls []) := by
  have hx := X.1
  have hb := X.2.1
  have hS := hJ.2.2.1
  have hbA : ¬ AL s b := fun z => absurd hbl (Nat.not_lt.mpr z)
  subst h1
  subst h2
  refine lv_aload_n hx hb d_147 rfl (lv_at hl 1 rfl) ?_
  obtain ⟨r, A', J', pl', st', M', N', f1, f2, hI'⟩ := e_threads (J := J) (st := st) hCP hI 
  refine law_V (ad := adc) (as := []) (q := 0) (rest := []) (rc := 11) X (vX11_threads l) nX11_threads sX11_threads ⟨by decide, rfl⟩ (gd_of (i := 387) (by decide +kernel) rfl) ⟨Nat.le_of_ble_eq_true rfl, Nat.le_of_ble_eq_true rfl⟩ rfl f1 d_148 hl.1 (Nat.le_of_ble_eq_true rfl) hc hs hJ nd29 (okS.cons (z78 : 0 < 78) okS.nil) ⟨rfl, z78⟩ ?_
  intro adc' H1 locs1 hJ1 had1 _
  show W p l e room_1 s m args below meth c H1 locs1 cells slots Q (F0 m 151 ls [.int r])
  have hJ2 := hJ1.swap
  have hS1 := hJ2.2.2.1
  refine lv_aload_n hx hb d_151 rfl (lv_at hl 2 rfl) ?_
  refine law_V (ad := adm) (as := []) (q := 0) (rest := [.int r]) (rc := 12) X (vX12_threads l) nX12_threads sX12_threads ⟨by decide, rfl⟩ (gd_of (i := 1053) (by decide +kernel) rfl) ⟨Nat.le_of_ble_eq_true rfl, Nat.le_of_ble_eq_true rfl⟩ rfl f2 d_152 hl.1 (Nat.le_of_ble_eq_true rfl) hc hs hJ2 nd78 (okS.cons (z29 : 0 < 29) okS.nil) ⟨rfl, z29⟩ ?_
  intro adm' H2 locs2 hJ3 had2 _
  show W p l e room_1 s m args below meth c H2 locs2 cells slots Q (F0 m 155 ls [.int r, .int r])
  refine lv_icmp_eq hx hb d_155 (show ((155 : Nat) : Int) + 468 = ((623 : Nat) : Int) from rfl) (fun _ => ?_) (fun z => absurd rfl z)
  exact K adc' adm' A' J' pl' st' M' N' H2 locs2 hJ3.swap hI' (had1 0 z78) (had2 0 z29)
set_option maxHeartbeats 1000000 in
theorem cs_2 (hCP : CAPS) (X : CTX p s m args c code 4 R_law D aC (AL s)) (hX : va_X b L xs s s.heap) (hbl : b < s.heap.size) (hj : 4 * j + 4 ≤ L) (hL : L ≤ 2048) (hl : lv_has ls 4 [(0, .ref b), (1, .ref a1), (2, .ref a2), (3, .int (nI (4 * j)))]) (hc : cells ≤ 600000) (hs : slots ≤ 7302250) (hJ : Jt D aC s adc (cH A J pl st) adm (mH M N) H locs) (hI : Inv A pl M N) (h1 : adc 0 = a1) (h2 : adm 0 = a2) (K : ∀ (adc adm : Nat → Nat) (A : Nat → Nat → Int32) (J : Nat → Nat → Int64) (pl st : Bool) (M : Nat → Nat → Int32) (N : Nat → Nat → Int64) (H : Heap) (locs : List Loc), Jt D aC s adc (cH A J pl st) adm (mH M N) H locs → Inv A pl M N → adc 0 = a1 → adm 0 = a2 → W p l e room_1 s m args below meth c H locs cells slots Q (F0 m 623 ls [])) : W p l e room_1 s m args below meth c H locs cells slots Q (F0 m 160 ls []) := by
  have hx := X.1
  have hb := X.2.1
  have hS := hJ.2.2.1
  have hbA : ¬ AL s b := fun z => absurd hbl (Nat.not_lt.mpr z)
  subst h1
  subst h2
  refine lv_aload_n hx hb d_160 rfl (lv_at hl 1 rfl) ?_
  obtain ⟨r, A', J', pl', st', M', N', f1, f2, hI'⟩ := e_fault (J := J) (st := st) hI 
  refine law_V (ad := adc) (as := []) (q := 0) (rest := []) (rc := 11) X (vX11_fault l) nX11_fault sX11_fault ⟨by decide, rfl⟩ (gd_of (i := 504) (by decide +kernel) rfl) ⟨Nat.le_of_ble_eq_true rfl, Nat.le_of_ble_eq_true rfl⟩ rfl f1 d_161 hl.1 (Nat.le_of_ble_eq_true rfl) hc hs hJ nd29 (okS.cons (z78 : 0 < 78) okS.nil) ⟨rfl, z78⟩ ?_
  intro adc' H1 locs1 hJ1 had1 _
  show W p l e room_1 s m args below meth c H1 locs1 cells slots Q (F0 m 164 ls [.int r])
  have hJ2 := hJ1.swap
  have hS1 := hJ2.2.2.1
  refine lv_aload_n hx hb d_164 rfl (lv_at hl 2 rfl) ?_
  refine law_V (ad := adm) (as := []) (q := 0) (rest := [.int r]) (rc := 12) X (vX12_fault l) nX12_fault sX12_fault ⟨by decide, rfl⟩ (gd_of (i := 1109) (by decide +kernel) rfl) ⟨Nat.le_of_ble_eq_true rfl, Nat.le_of_ble_eq_true rfl⟩ rfl f2 d_165 hl.1 (Nat.le_of_ble_eq_true rfl) hc hs hJ2 nd78 (okS.cons (z29 : 0 < 29) okS.nil) ⟨rfl, z29⟩ ?_
  intro adm' H2 locs2 hJ3 had2 _
  show W p l e room_1 s m args below meth c H2 locs2 cells slots Q (F0 m 168 ls [.int r, .int r])
  refine lv_icmp_eq hx hb d_168 (show ((168 : Nat) : Int) + 455 = ((623 : Nat) : Int) from rfl) (fun _ => ?_) (fun z => absurd rfl z)
  exact K adc' adm' A' J' pl' st' M' N' H2 locs2 hJ3.swap hI' (had1 0 z78) (had2 0 z29)
set_option maxHeartbeats 1000000 in
theorem cs_3 (hCP : CAPS) (X : CTX p s m args c code 4 R_law D aC (AL s)) (hX : va_X b L xs s s.heap) (hbl : b < s.heap.size) (hj : 4 * j + 4 ≤ L) (hL : L ≤ 2048) (hl : lv_has ls 4 [(0, .ref b), (1, .ref a1), (2, .ref a2), (3, .int (nI (4 * j)))]) (hc : cells ≤ 600000) (hs : slots ≤ 7302250) (hJ : Jt D aC s adc (cH A J pl st) adm (mH M N) H locs) (hI : Inv A pl M N) (h1 : adc 0 = a1) (h2 : adm 0 = a2) (K : ∀ (adc adm : Nat → Nat) (A : Nat → Nat → Int32) (J : Nat → Nat → Int64) (pl st : Bool) (M : Nat → Nat → Int32) (N : Nat → Nat → Int64) (H : Heap) (locs : List Loc), Jt D aC s adc (cH A J pl st) adm (mH M N) H locs → Inv A pl M N → adc 0 = a1 → adm 0 = a2 → W p l e room_1 s m args below meth c H locs cells slots Q (F0 m 623 ls [])) : W p l e room_1 s m args below meth c H locs cells slots Q (F0 m 173 ls []) := by
  have hx := X.1
  have hb := X.2.1
  have hS := hJ.2.2.1
  have hbA : ¬ AL s b := fun z => absurd hbl (Nat.not_lt.mpr z)
  subst h1
  subst h2
  refine lv_aload_n hx hb d_173 rfl (lv_at hl 1 rfl) ?_
  refine lv_aload_n hx hb d_174 rfl (lv_at hl 0 rfl) ?_
  refine lv_iload_n hx hb d_175 rfl (lv_at hl 3 rfl) ?_
  refine lv_iconst hx hb d_176 (show _ = nI 1 from rfl) ?_
  refine lv_iadd hx hb d_177 ?_
  refine va_sld hx hb hX hbl hbA hS (vin hj hL (by decide)) d_178 ?_
  obtain ⟨r, A', J', pl', st', M', N', f1, f2, hI'⟩ := e_told (J := J) (st := st) hCP hI (xs (nI (4 * j) + nI 1).toNatClampNeg)
  refine law_V (ad := adc) (as := [.int (xs (nI (4 * j) + nI 1).toNatClampNeg)]) (q := 0) (rest := []) (rc := 11) X (vX11_told l) nX11_told sX11_told ⟨by decide, rfl⟩ (gd_of (i := 508) (by decide +kernel) rfl) ⟨Nat.le_of_ble_eq_true rfl, Nat.le_of_ble_eq_true rfl⟩ rfl f1 d_179 hl.1 (Nat.le_of_ble_eq_true rfl) hc hs hJ nd29 (okS.cons (z78 : 0 < 78) (okS.cons (v := .int _) trivial okS.nil)) ⟨rfl, z78⟩ ?_
  intro adc' H1 locs1 hJ1 had1 _
  show W p l e room_1 s m args below meth c H1 locs1 cells slots Q (F0 m 182 ls [.int r])
  have hJ2 := hJ1.swap
  have hS1 := hJ2.2.2.1
  refine lv_aload_n hx hb d_182 rfl (lv_at hl 2 rfl) ?_
  refine lv_aload_n hx hb d_183 rfl (lv_at hl 0 rfl) ?_
  refine lv_iload_n hx hb d_184 rfl (lv_at hl 3 rfl) ?_
  refine lv_iconst hx hb d_185 (show _ = nI 1 from rfl) ?_
  refine lv_iadd hx hb d_186 ?_
  refine va_sld hx hb hX hbl hbA hS1 (vin hj hL (by decide)) d_187 ?_
  refine law_V (ad := adm) (as := [.int (xs (nI (4 * j) + nI 1).toNatClampNeg)]) (q := 0) (rest := [.int r]) (rc := 12) X (vX12_told l) nX12_told sX12_told ⟨by decide, rfl⟩ (gd_of (i := 1190) (by decide +kernel) rfl) ⟨Nat.le_of_ble_eq_true rfl, Nat.le_of_ble_eq_true rfl⟩ rfl f2 d_188 hl.1 (Nat.le_of_ble_eq_true rfl) hc hs hJ2 nd78 (okS.cons (z29 : 0 < 29) (okS.cons (v := .int _) trivial okS.nil)) ⟨rfl, z29⟩ ?_
  intro adm' H2 locs2 hJ3 had2 _
  show W p l e room_1 s m args below meth c H2 locs2 cells slots Q (F0 m 191 ls [.int r, .int r])
  refine lv_icmp_eq hx hb d_191 (show ((191 : Nat) : Int) + 432 = ((623 : Nat) : Int) from rfl) (fun _ => ?_) (fun z => absurd rfl z)
  exact K adc' adm' A' J' pl' st' M' N' H2 locs2 hJ3.swap hI' (had1 0 z78) (had2 0 z29)
set_option maxHeartbeats 1000000 in
theorem cs_4 (hCP : CAPS) (X : CTX p s m args c code 4 R_law D aC (AL s)) (hX : va_X b L xs s s.heap) (hbl : b < s.heap.size) (hj : 4 * j + 4 ≤ L) (hL : L ≤ 2048) (hl : lv_has ls 4 [(0, .ref b), (1, .ref a1), (2, .ref a2), (3, .int (nI (4 * j)))]) (hc : cells ≤ 600000) (hs : slots ≤ 7302250) (hJ : Jt D aC s adc (cH A J pl st) adm (mH M N) H locs) (hI : Inv A pl M N) (h1 : adc 0 = a1) (h2 : adm 0 = a2) (K : ∀ (adc adm : Nat → Nat) (A : Nat → Nat → Int32) (J : Nat → Nat → Int64) (pl st : Bool) (M : Nat → Nat → Int32) (N : Nat → Nat → Int64) (H : Heap) (locs : List Loc), Jt D aC s adc (cH A J pl st) adm (mH M N) H locs → Inv A pl M N → adc 0 = a1 → adm 0 = a2 → W p l e room_1 s m args below meth c H locs cells slots Q (F0 m 623 ls [])) : W p l e room_1 s m args below meth c H locs cells slots Q (F0 m 196 ls []) := by
  have hx := X.1
  have hb := X.2.1
  have hS := hJ.2.2.1
  have hbA : ¬ AL s b := fun z => absurd hbl (Nat.not_lt.mpr z)
  subst h1
  subst h2
  refine lv_aload_n hx hb d_196 rfl (lv_at hl 1 rfl) ?_
  refine lv_aload_n hx hb d_197 rfl (lv_at hl 0 rfl) ?_
  refine lv_iload_n hx hb d_198 rfl (lv_at hl 3 rfl) ?_
  refine lv_iconst hx hb d_199 (show _ = nI 1 from rfl) ?_
  refine lv_iadd hx hb d_200 ?_
  refine va_sld hx hb hX hbl hbA hS (vin hj hL (by decide)) d_201 ?_
  refine lv_aload_n hx hb d_202 rfl (lv_at hl 0 rfl) ?_
  refine lv_iload_n hx hb d_203 rfl (lv_at hl 3 rfl) ?_
  refine lv_iconst hx hb d_204 (show _ = nI 2 from rfl) ?_
  refine lv_iadd hx hb d_205 ?_
  refine va_sld hx hb hX hbl hbA hS (vin hj hL (by decide)) d_206 ?_
  obtain ⟨r, A', J', pl', st', M', N', f1, f2, hI'⟩ := e_step (J := J) (st := st) hI (xs (nI (4 * j) + nI 1).toNatClampNeg) (xs (nI (4 * j) + nI 2).toNatClampNeg)
  refine law_V (ad := adc) (as := [.int (xs (nI (4 * j) + nI 1).toNatClampNeg), .int (xs (nI (4 * j) + nI 2).toNatClampNeg)]) (q := 0) (rest := []) (rc := 11) X (vX11_step l) nX11_step sX11_step ⟨by decide, rfl⟩ (gd_of (i := 664) (by decide +kernel) rfl) ⟨Nat.le_of_ble_eq_true rfl, Nat.le_of_ble_eq_true rfl⟩ rfl f1 d_207 hl.1 (Nat.le_of_ble_eq_true rfl) hc hs hJ nd29 (okS.cons (z78 : 0 < 78) (okS.cons (v := .int _) trivial (okS.cons (v := .int _) trivial okS.nil))) ⟨rfl, z78⟩ ?_
  intro adc' H1 locs1 hJ1 had1 _
  show W p l e room_1 s m args below meth c H1 locs1 cells slots Q (F0 m 210 ls [.int r])
  have hJ2 := hJ1.swap
  have hS1 := hJ2.2.2.1
  refine lv_aload_n hx hb d_210 rfl (lv_at hl 2 rfl) ?_
  refine lv_aload_n hx hb d_211 rfl (lv_at hl 0 rfl) ?_
  refine lv_iload_n hx hb d_212 rfl (lv_at hl 3 rfl) ?_
  refine lv_iconst hx hb d_213 (show _ = nI 1 from rfl) ?_
  refine lv_iadd hx hb d_214 ?_
  refine va_sld hx hb hX hbl hbA hS1 (vin hj hL (by decide)) d_215 ?_
  refine lv_aload_n hx hb d_216 rfl (lv_at hl 0 rfl) ?_
  refine lv_iload_n hx hb d_217 rfl (lv_at hl 3 rfl) ?_
  refine lv_iconst hx hb d_218 (show _ = nI 2 from rfl) ?_
  refine lv_iadd hx hb d_219 ?_
  refine va_sld hx hb hX hbl hbA hS1 (vin hj hL (by decide)) d_220 ?_
  refine law_V (ad := adm) (as := [.int (xs (nI (4 * j) + nI 1).toNatClampNeg), .int (xs (nI (4 * j) + nI 2).toNatClampNeg)]) (q := 0) (rest := [.int r]) (rc := 12) X (vX12_step l) nX12_step sX12_step ⟨by decide, rfl⟩ (gd_of (i := 1010) (by decide +kernel) rfl) ⟨Nat.le_of_ble_eq_true rfl, Nat.le_of_ble_eq_true rfl⟩ rfl f2 d_221 hl.1 (Nat.le_of_ble_eq_true rfl) hc hs hJ2 nd78 (okS.cons (z29 : 0 < 29) (okS.cons (v := .int _) trivial (okS.cons (v := .int _) trivial okS.nil))) ⟨rfl, z29⟩ ?_
  intro adm' H2 locs2 hJ3 had2 _
  show W p l e room_1 s m args below meth c H2 locs2 cells slots Q (F0 m 224 ls [.int r, .int r])
  refine lv_icmp_eq hx hb d_224 (show ((224 : Nat) : Int) + 399 = ((623 : Nat) : Int) from rfl) (fun _ => ?_) (fun z => absurd rfl z)
  exact K adc' adm' A' J' pl' st' M' N' H2 locs2 hJ3.swap hI' (had1 0 z78) (had2 0 z29)
set_option maxHeartbeats 1000000 in
theorem cs_5 (hCP : CAPS) (X : CTX p s m args c code 4 R_law D aC (AL s)) (hX : va_X b L xs s s.heap) (hbl : b < s.heap.size) (hj : 4 * j + 4 ≤ L) (hL : L ≤ 2048) (hl : lv_has ls 4 [(0, .ref b), (1, .ref a1), (2, .ref a2), (3, .int (nI (4 * j)))]) (hc : cells ≤ 600000) (hs : slots ≤ 7302250) (hJ : Jt D aC s adc (cH A J pl st) adm (mH M N) H locs) (hI : Inv A pl M N) (h1 : adc 0 = a1) (h2 : adm 0 = a2) (K : ∀ (adc adm : Nat → Nat) (A : Nat → Nat → Int32) (J : Nat → Nat → Int64) (pl st : Bool) (M : Nat → Nat → Int32) (N : Nat → Nat → Int64) (H : Heap) (locs : List Loc), Jt D aC s adc (cH A J pl st) adm (mH M N) H locs → Inv A pl M N → adc 0 = a1 → adm 0 = a2 → W p l e room_1 s m args below meth c H locs cells slots Q (F0 m 623 ls [])) : W p l e room_1 s m args below meth c H locs cells slots Q (F0 m 229 ls []) := by
  have hx := X.1
  have hb := X.2.1
  have hS := hJ.2.2.1
  have hbA : ¬ AL s b := fun z => absurd hbl (Nat.not_lt.mpr z)
  subst h1
  subst h2
  refine lv_aload_n hx hb d_229 rfl (lv_at hl 1 rfl) ?_
  refine lv_aload_n hx hb d_230 rfl (lv_at hl 0 rfl) ?_
  refine lv_iload_n hx hb d_231 rfl (lv_at hl 3 rfl) ?_
  refine lv_iconst hx hb d_232 (show _ = nI 1 from rfl) ?_
  refine lv_iadd hx hb d_233 ?_
  refine va_sld hx hb hX hbl hbA hS (vin hj hL (by decide)) d_234 ?_
  refine lv_aload_n hx hb d_235 rfl (lv_at hl 0 rfl) ?_
  refine lv_iload_n hx hb d_236 rfl (lv_at hl 3 rfl) ?_
  refine lv_iconst hx hb d_237 (show _ = nI 2 from rfl) ?_
  refine lv_iadd hx hb d_238 ?_
  refine va_sld hx hb hX hbl hbA hS (vin hj hL (by decide)) d_239 ?_
  refine lv_aload_n hx hb d_240 rfl (lv_at hl 0 rfl) ?_
  refine lv_iload_n hx hb d_241 rfl (lv_at hl 3 rfl) ?_
  refine lv_iconst hx hb d_242 (show _ = nI 3 from rfl) ?_
  refine lv_iadd hx hb d_243 ?_
  refine va_sld hx hb hX hbl hbA hS (vin hj hL (by decide)) d_244 ?_
  obtain ⟨r, A', J', pl', st', M', N', f1, f2, hI'⟩ := e_pair (J := J) (st := st) hI (xs (nI (4 * j) + nI 1).toNatClampNeg) (xs (nI (4 * j) + nI 2).toNatClampNeg) (xs (nI (4 * j) + nI 3).toNatClampNeg)
  refine law_V (ad := adc) (as := [.int (xs (nI (4 * j) + nI 1).toNatClampNeg), .int (xs (nI (4 * j) + nI 2).toNatClampNeg), .int (xs (nI (4 * j) + nI 3).toNatClampNeg)]) (q := 0) (rest := []) (rc := 11) X (vX11_pair l) nX11_pair sX11_pair ⟨by decide, rfl⟩ (gd_of (i := 688) (by decide +kernel) rfl) ⟨Nat.le_of_ble_eq_true rfl, Nat.le_of_ble_eq_true rfl⟩ rfl f1 d_245 hl.1 (Nat.le_of_ble_eq_true rfl) hc hs hJ nd29 (okS.cons (z78 : 0 < 78) (okS.cons (v := .int _) trivial (okS.cons (v := .int _) trivial (okS.cons (v := .int _) trivial okS.nil)))) ⟨rfl, z78⟩ ?_
  intro adc' H1 locs1 hJ1 had1 _
  show W p l e room_1 s m args below meth c H1 locs1 cells slots Q (F0 m 248 ls [.int r])
  have hJ2 := hJ1.swap
  have hS1 := hJ2.2.2.1
  refine lv_aload_n hx hb d_248 rfl (lv_at hl 2 rfl) ?_
  refine lv_aload_n hx hb d_249 rfl (lv_at hl 0 rfl) ?_
  refine lv_iload_n hx hb d_250 rfl (lv_at hl 3 rfl) ?_
  refine lv_iconst hx hb d_251 (show _ = nI 1 from rfl) ?_
  refine lv_iadd hx hb d_252 ?_
  refine va_sld hx hb hX hbl hbA hS1 (vin hj hL (by decide)) d_253 ?_
  refine lv_aload_n hx hb d_254 rfl (lv_at hl 0 rfl) ?_
  refine lv_iload_n hx hb d_255 rfl (lv_at hl 3 rfl) ?_
  refine lv_iconst hx hb d_256 (show _ = nI 2 from rfl) ?_
  refine lv_iadd hx hb d_257 ?_
  refine va_sld hx hb hX hbl hbA hS1 (vin hj hL (by decide)) d_258 ?_
  refine lv_aload_n hx hb d_259 rfl (lv_at hl 0 rfl) ?_
  refine lv_iload_n hx hb d_260 rfl (lv_at hl 3 rfl) ?_
  refine lv_iconst hx hb d_261 (show _ = nI 3 from rfl) ?_
  refine lv_iadd hx hb d_262 ?_
  refine va_sld hx hb hX hbl hbA hS1 (vin hj hL (by decide)) d_263 ?_
  refine law_V (ad := adm) (as := [.int (xs (nI (4 * j) + nI 1).toNatClampNeg), .int (xs (nI (4 * j) + nI 2).toNatClampNeg), .int (xs (nI (4 * j) + nI 3).toNatClampNeg)]) (q := 0) (rest := [.int r]) (rc := 12) X (vX12_pair l) nX12_pair sX12_pair ⟨by decide, rfl⟩ (gd_of (i := 1043) (by decide +kernel) rfl) ⟨Nat.le_of_ble_eq_true rfl, Nat.le_of_ble_eq_true rfl⟩ rfl f2 d_264 hl.1 (Nat.le_of_ble_eq_true rfl) hc hs hJ2 nd78 (okS.cons (z29 : 0 < 29) (okS.cons (v := .int _) trivial (okS.cons (v := .int _) trivial (okS.cons (v := .int _) trivial okS.nil)))) ⟨rfl, z29⟩ ?_
  intro adm' H2 locs2 hJ3 had2 _
  show W p l e room_1 s m args below meth c H2 locs2 cells slots Q (F0 m 267 ls [.int r, .int r])
  refine lv_icmp_eq hx hb d_267 (show ((267 : Nat) : Int) + 356 = ((623 : Nat) : Int) from rfl) (fun _ => ?_) (fun z => absurd rfl z)
  exact K adc' adm' A' J' pl' st' M' N' H2 locs2 hJ3.swap hI' (had1 0 z78) (had2 0 z29)
set_option maxHeartbeats 1000000 in
theorem cs_6 (hCP : CAPS) (X : CTX p s m args c code 4 R_law D aC (AL s)) (hX : va_X b L xs s s.heap) (hbl : b < s.heap.size) (hj : 4 * j + 4 ≤ L) (hL : L ≤ 2048) (hl : lv_has ls 4 [(0, .ref b), (1, .ref a1), (2, .ref a2), (3, .int (nI (4 * j)))]) (hc : cells ≤ 600000) (hs : slots ≤ 7302250) (hJ : Jt D aC s adc (cH A J pl st) adm (mH M N) H locs) (hI : Inv A pl M N) (h1 : adc 0 = a1) (h2 : adm 0 = a2) (K : ∀ (adc adm : Nat → Nat) (A : Nat → Nat → Int32) (J : Nat → Nat → Int64) (pl st : Bool) (M : Nat → Nat → Int32) (N : Nat → Nat → Int64) (H : Heap) (locs : List Loc), Jt D aC s adc (cH A J pl st) adm (mH M N) H locs → Inv A pl M N → adc 0 = a1 → adm 0 = a2 → W p l e room_1 s m args below meth c H locs cells slots Q (F0 m 623 ls [])) : W p l e room_1 s m args below meth c H locs cells slots Q (F0 m 272 ls []) := by
  have hx := X.1
  have hb := X.2.1
  have hS := hJ.2.2.1
  have hbA : ¬ AL s b := fun z => absurd hbl (Nat.not_lt.mpr z)
  subst h1
  subst h2
  refine lv_aload_n hx hb d_272 rfl (lv_at hl 1 rfl) ?_
  refine lv_aload_n hx hb d_273 rfl (lv_at hl 0 rfl) ?_
  refine lv_iload_n hx hb d_274 rfl (lv_at hl 3 rfl) ?_
  refine lv_iconst hx hb d_275 (show _ = nI 1 from rfl) ?_
  refine lv_iadd hx hb d_276 ?_
  refine va_sld hx hb hX hbl hbA hS (vin hj hL (by decide)) d_277 ?_
  refine lv_aload_n hx hb d_278 rfl (lv_at hl 0 rfl) ?_
  refine lv_iload_n hx hb d_279 rfl (lv_at hl 3 rfl) ?_
  refine lv_iconst hx hb d_280 (show _ = nI 2 from rfl) ?_
  refine lv_iadd hx hb d_281 ?_
  refine va_sld hx hb hX hbl hbA hS (vin hj hL (by decide)) d_282 ?_
  obtain ⟨r, A', J', pl', st', M', N', f1, f2, hI'⟩ := e_reading (J := J) (st := st) hCP hI (xs (nI (4 * j) + nI 1).toNatClampNeg) (xs (nI (4 * j) + nI 2).toNatClampNeg)
  refine law_V (ad := adc) (as := [.int (xs (nI (4 * j) + nI 1).toNatClampNeg), .int (xs (nI (4 * j) + nI 2).toNatClampNeg)]) (q := 0) (rest := []) (rc := 11) X (vX11_reading l) nX11_reading sX11_reading ⟨by decide, rfl⟩ (gd_of (i := 697) (by decide +kernel) rfl) ⟨Nat.le_of_ble_eq_true rfl, Nat.le_of_ble_eq_true rfl⟩ rfl f1 d_283 hl.1 (Nat.le_of_ble_eq_true rfl) hc hs hJ nd29 (okS.cons (z78 : 0 < 78) (okS.cons (v := .int _) trivial (okS.cons (v := .int _) trivial okS.nil))) ⟨rfl, z78⟩ ?_
  intro adc' H1 locs1 hJ1 had1 _
  show W p l e room_1 s m args below meth c H1 locs1 cells slots Q (F0 m 286 ls [.int r])
  have hJ2 := hJ1.swap
  have hS1 := hJ2.2.2.1
  refine lv_aload_n hx hb d_286 rfl (lv_at hl 2 rfl) ?_
  refine lv_aload_n hx hb d_287 rfl (lv_at hl 0 rfl) ?_
  refine lv_iload_n hx hb d_288 rfl (lv_at hl 3 rfl) ?_
  refine lv_iconst hx hb d_289 (show _ = nI 1 from rfl) ?_
  refine lv_iadd hx hb d_290 ?_
  refine va_sld hx hb hX hbl hbA hS1 (vin hj hL (by decide)) d_291 ?_
  refine lv_aload_n hx hb d_292 rfl (lv_at hl 0 rfl) ?_
  refine lv_iload_n hx hb d_293 rfl (lv_at hl 3 rfl) ?_
  refine lv_iconst hx hb d_294 (show _ = nI 2 from rfl) ?_
  refine lv_iadd hx hb d_295 ?_
  refine va_sld hx hb hX hbl hbA hS1 (vin hj hL (by decide)) d_296 ?_
  refine law_V (ad := adm) (as := [.int (xs (nI (4 * j) + nI 1).toNatClampNeg), .int (xs (nI (4 * j) + nI 2).toNatClampNeg)]) (q := 0) (rest := [.int r]) (rc := 12) X (vX12_reading l) nX12_reading sX12_reading ⟨by decide, rfl⟩ (gd_of (i := 990) (by decide +kernel) rfl) ⟨Nat.le_of_ble_eq_true rfl, Nat.le_of_ble_eq_true rfl⟩ rfl f2 d_297 hl.1 (Nat.le_of_ble_eq_true rfl) hc hs hJ2 nd78 (okS.cons (z29 : 0 < 29) (okS.cons (v := .int _) trivial (okS.cons (v := .int _) trivial okS.nil))) ⟨rfl, z29⟩ ?_
  intro adm' H2 locs2 hJ3 had2 _
  show W p l e room_1 s m args below meth c H2 locs2 cells slots Q (F0 m 300 ls [.int r, .int r])
  refine lv_icmp_eq hx hb d_300 (show ((300 : Nat) : Int) + 323 = ((623 : Nat) : Int) from rfl) (fun _ => ?_) (fun z => absurd rfl z)
  exact K adc' adm' A' J' pl' st' M' N' H2 locs2 hJ3.swap hI' (had1 0 z78) (had2 0 z29)
set_option maxHeartbeats 1000000 in
theorem cs_7 (hCP : CAPS) (X : CTX p s m args c code 4 R_law D aC (AL s)) (hX : va_X b L xs s s.heap) (hbl : b < s.heap.size) (hj : 4 * j + 4 ≤ L) (hL : L ≤ 2048) (hl : lv_has ls 4 [(0, .ref b), (1, .ref a1), (2, .ref a2), (3, .int (nI (4 * j)))]) (hc : cells ≤ 600000) (hs : slots ≤ 7302250) (hJ : Jt D aC s adc (cH A J pl st) adm (mH M N) H locs) (hI : Inv A pl M N) (h1 : adc 0 = a1) (h2 : adm 0 = a2) (K : ∀ (adc adm : Nat → Nat) (A : Nat → Nat → Int32) (J : Nat → Nat → Int64) (pl st : Bool) (M : Nat → Nat → Int32) (N : Nat → Nat → Int64) (H : Heap) (locs : List Loc), Jt D aC s adc (cH A J pl st) adm (mH M N) H locs → Inv A pl M N → adc 0 = a1 → adm 0 = a2 → W p l e room_1 s m args below meth c H locs cells slots Q (F0 m 623 ls [])) : W p l e room_1 s m args below meth c H locs cells slots Q (F0 m 305 ls []) := by
  have hx := X.1
  have hb := X.2.1
  have hS := hJ.2.2.1
  have hbA : ¬ AL s b := fun z => absurd hbl (Nat.not_lt.mpr z)
  subst h1
  subst h2
  refine lv_aload_n hx hb d_305 rfl (lv_at hl 1 rfl) ?_
  refine lv_aload_n hx hb d_306 rfl (lv_at hl 0 rfl) ?_
  refine lv_iload_n hx hb d_307 rfl (lv_at hl 3 rfl) ?_
  refine lv_iconst hx hb d_308 (show _ = nI 1 from rfl) ?_
  refine lv_iadd hx hb d_309 ?_
  refine va_sld hx hb hX hbl hbA hS (vin hj hL (by decide)) d_310 ?_
  obtain ⟨r, A', J', pl', st', M', N', f1, f2, hI'⟩ := e_can (J := J) (st := st) hCP hI (xs (nI (4 * j) + nI 1).toNatClampNeg)
  refine law_V (ad := adc) (as := [.int (xs (nI (4 * j) + nI 1).toNatClampNeg)]) (q := 0) (rest := []) (rc := 11) X (vX11_can l) nX11_can sX11_can ⟨by decide, rfl⟩ (gd_of (i := 706) (by decide +kernel) rfl) ⟨Nat.le_of_ble_eq_true rfl, Nat.le_of_ble_eq_true rfl⟩ rfl f1 d_311 hl.1 (Nat.le_of_ble_eq_true rfl) hc hs hJ nd29 (okS.cons (z78 : 0 < 78) (okS.cons (v := .int _) trivial okS.nil)) ⟨rfl, z78⟩ ?_
  intro adc' H1 locs1 hJ1 had1 _
  show W p l e room_1 s m args below meth c H1 locs1 cells slots Q (F0 m 314 ls [.int r])
  have hJ2 := hJ1.swap
  have hS1 := hJ2.2.2.1
  refine lv_aload_n hx hb d_314 rfl (lv_at hl 2 rfl) ?_
  refine lv_aload_n hx hb d_315 rfl (lv_at hl 0 rfl) ?_
  refine lv_iload_n hx hb d_316 rfl (lv_at hl 3 rfl) ?_
  refine lv_iconst hx hb d_317 (show _ = nI 1 from rfl) ?_
  refine lv_iadd hx hb d_318 ?_
  refine va_sld hx hb hX hbl hbA hS1 (vin hj hL (by decide)) d_319 ?_
  refine law_V (ad := adm) (as := [.int (xs (nI (4 * j) + nI 1).toNatClampNeg)]) (q := 0) (rest := [.int r]) (rc := 12) X (vX12_can l) nX12_can sX12_can ⟨by decide, rfl⟩ (gd_of (i := 1006) (by decide +kernel) rfl) ⟨Nat.le_of_ble_eq_true rfl, Nat.le_of_ble_eq_true rfl⟩ rfl f2 d_320 hl.1 (Nat.le_of_ble_eq_true rfl) hc hs hJ2 nd78 (okS.cons (z29 : 0 < 29) (okS.cons (v := .int _) trivial okS.nil)) ⟨rfl, z29⟩ ?_
  intro adm' H2 locs2 hJ3 had2 _
  show W p l e room_1 s m args below meth c H2 locs2 cells slots Q (F0 m 323 ls [.int r, .int r])
  refine lv_icmp_eq hx hb d_323 (show ((323 : Nat) : Int) + 300 = ((623 : Nat) : Int) from rfl) (fun _ => ?_) (fun z => absurd rfl z)
  exact K adc' adm' A' J' pl' st' M' N' H2 locs2 hJ3.swap hI' (had1 0 z78) (had2 0 z29)
set_option maxHeartbeats 1000000 in
theorem cs_8f (hCP : CAPS) (X : CTX p s m args c code 4 R_law D aC (AL s)) (hX : va_X b L xs s s.heap) (hbl : b < s.heap.size) (hj : 4 * j + 4 ≤ L) (hL : L ≤ 2048) (hl : lv_has ls 4 [(0, .ref b), (1, .ref a1), (2, .ref a2), (3, .int (nI (4 * j)))]) (hc : cells ≤ 600000) (hs : slots ≤ 7302250) (hJ : Jt D aC s adc (cH A J pl st) adm (mH M N) H locs) (hI : Inv A pl M N) (h1 : adc 0 = a1) (h2 : adm 0 = a2) (hv : (xs (nI (4 * j) + nI 2).toNatClampNeg) = 0) (K : ∀ (adc adm : Nat → Nat) (A : Nat → Nat → Int32) (J : Nat → Nat → Int64) (pl st : Bool) (M : Nat → Nat → Int32) (N : Nat → Nat → Int64) (H : Heap) (locs : List Loc), Jt D aC s adc (cH A J pl st) adm (mH M N) H locs → Inv A pl M N → adc 0 = a1 → adm 0 = a2 → W p l e room_1 s m args below meth c H locs cells slots Q (F0 m 623 ls [])) : W p l e room_1 s m args below meth c H locs cells slots Q (F0 m 328 ls []) := by
  have hx := X.1
  have hb := X.2.1
  have hS := hJ.2.2.1
  have hbA : ¬ AL s b := fun z => absurd hbl (Nat.not_lt.mpr z)
  subst h1
  subst h2
  refine lv_aload_n hx hb d_328 rfl (lv_at hl 1 rfl) ?_
  refine lv_aload_n hx hb d_329 rfl (lv_at hl 0 rfl) ?_
  refine lv_iload_n hx hb d_330 rfl (lv_at hl 3 rfl) ?_
  refine lv_iconst hx hb d_331 (show _ = nI 1 from rfl) ?_
  refine lv_iadd hx hb d_332 ?_
  refine va_sld hx hb hX hbl hbA hS (vin hj hL (by decide)) d_333 ?_
  refine lv_aload_n hx hb d_334 rfl (lv_at hl 0 rfl) ?_
  refine lv_iload_n hx hb d_335 rfl (lv_at hl 3 rfl) ?_
  refine lv_iconst hx hb d_336 (show _ = nI 2 from rfl) ?_
  refine lv_iadd hx hb d_337 ?_
  refine va_sld hx hb hX hbl hbA hS (vin hj hL (by decide)) d_338 ?_
  refine lv_if_eq hx hb d_339 (show ((339 : Nat) : Int) + 7 = ((346 : Nat) : Int) from rfl) (fun _ => ?_) (fun z => absurd hv z)
  refine lv_iconst hx hb d_346 (show _ = tI false from rfl) ?_
  obtain ⟨r, A', J', pl', st', M', N', f1, f2, hI'⟩ := e_fence (J := J) (st := st) hI (xs (nI (4 * j) + nI 1).toNatClampNeg) false
  refine law_V (ad := adc) (as := [.int (xs (nI (4 * j) + nI 1).toNatClampNeg), .int (tI false)]) (q := 0) (rest := []) (rc := 11) X (vX11_fence l) nX11_fence sX11_fence ⟨by decide, rfl⟩ (gd_of (i := 711) (by decide +kernel) rfl) ⟨Nat.le_of_ble_eq_true rfl, Nat.le_of_ble_eq_true rfl⟩ rfl f1 d_347 hl.1 (Nat.le_of_ble_eq_true rfl) hc hs hJ nd29 (okS.cons (z78 : 0 < 78) (okS.cons (v := .int _) trivial (okS.cons (v := .int _) trivial okS.nil))) ⟨rfl, z78⟩ ?_
  intro adc' H1 locs1 hJ1 had1 _
  show W p l e room_1 s m args below meth c H1 locs1 cells slots Q (F0 m 350 ls [.int r])
  have hJ2 := hJ1.swap
  have hS1 := hJ2.2.2.1
  refine lv_aload_n hx hb d_350 rfl (lv_at hl 2 rfl) ?_
  refine lv_aload_n hx hb d_351 rfl (lv_at hl 0 rfl) ?_
  refine lv_iload_n hx hb d_352 rfl (lv_at hl 3 rfl) ?_
  refine lv_iconst hx hb d_353 (show _ = nI 1 from rfl) ?_
  refine lv_iadd hx hb d_354 ?_
  refine va_sld hx hb hX hbl hbA hS1 (vin hj hL (by decide)) d_355 ?_
  refine lv_aload_n hx hb d_356 rfl (lv_at hl 0 rfl) ?_
  refine lv_iload_n hx hb d_357 rfl (lv_at hl 3 rfl) ?_
  refine lv_iconst hx hb d_358 (show _ = nI 2 from rfl) ?_
  refine lv_iadd hx hb d_359 ?_
  refine va_sld hx hb hX hbl hbA hS1 (vin hj hL (by decide)) d_360 ?_
  refine lv_if_eq hx hb d_361 (show ((361 : Nat) : Int) + 7 = ((368 : Nat) : Int) from rfl) (fun _ => ?_) (fun z => absurd hv z)
  refine lv_iconst hx hb d_368 (show _ = tI false from rfl) ?_
  refine law_V (ad := adm) (as := [.int (xs (nI (4 * j) + nI 1).toNatClampNeg), .int (tI false)]) (q := 0) (rest := [.int r]) (rc := 12) X (vX12_fence l) nX12_fence sX12_fence ⟨by decide, rfl⟩ (gd_of (i := 1113) (by decide +kernel) rfl) ⟨Nat.le_of_ble_eq_true rfl, Nat.le_of_ble_eq_true rfl⟩ rfl f2 d_369 hl.1 (Nat.le_of_ble_eq_true rfl) hc hs hJ2 nd78 (okS.cons (z29 : 0 < 29) (okS.cons (v := .int _) trivial (okS.cons (v := .int _) trivial okS.nil))) ⟨rfl, z29⟩ ?_
  intro adm' H2 locs2 hJ3 had2 _
  show W p l e room_1 s m args below meth c H2 locs2 cells slots Q (F0 m 372 ls [.int r, .int r])
  refine lv_icmp_eq hx hb d_372 (show ((372 : Nat) : Int) + 251 = ((623 : Nat) : Int) from rfl) (fun _ => ?_) (fun z => absurd rfl z)
  exact K adc' adm' A' J' pl' st' M' N' H2 locs2 hJ3.swap hI' (had1 0 z78) (had2 0 z29)
set_option maxHeartbeats 1000000 in
theorem cs_8t (hCP : CAPS) (X : CTX p s m args c code 4 R_law D aC (AL s)) (hX : va_X b L xs s s.heap) (hbl : b < s.heap.size) (hj : 4 * j + 4 ≤ L) (hL : L ≤ 2048) (hl : lv_has ls 4 [(0, .ref b), (1, .ref a1), (2, .ref a2), (3, .int (nI (4 * j)))]) (hc : cells ≤ 600000) (hs : slots ≤ 7302250) (hJ : Jt D aC s adc (cH A J pl st) adm (mH M N) H locs) (hI : Inv A pl M N) (h1 : adc 0 = a1) (h2 : adm 0 = a2) (hv : (xs (nI (4 * j) + nI 2).toNatClampNeg) ≠ 0) (K : ∀ (adc adm : Nat → Nat) (A : Nat → Nat → Int32) (J : Nat → Nat → Int64) (pl st : Bool) (M : Nat → Nat → Int32) (N : Nat → Nat → Int64) (H : Heap) (locs : List Loc), Jt D aC s adc (cH A J pl st) adm (mH M N) H locs → Inv A pl M N → adc 0 = a1 → adm 0 = a2 → W p l e room_1 s m args below meth c H locs cells slots Q (F0 m 623 ls [])) : W p l e room_1 s m args below meth c H locs cells slots Q (F0 m 328 ls []) := by
  have hx := X.1
  have hb := X.2.1
  have hS := hJ.2.2.1
  have hbA : ¬ AL s b := fun z => absurd hbl (Nat.not_lt.mpr z)
  subst h1
  subst h2
  refine lv_aload_n hx hb d_328 rfl (lv_at hl 1 rfl) ?_
  refine lv_aload_n hx hb d_329 rfl (lv_at hl 0 rfl) ?_
  refine lv_iload_n hx hb d_330 rfl (lv_at hl 3 rfl) ?_
  refine lv_iconst hx hb d_331 (show _ = nI 1 from rfl) ?_
  refine lv_iadd hx hb d_332 ?_
  refine va_sld hx hb hX hbl hbA hS (vin hj hL (by decide)) d_333 ?_
  refine lv_aload_n hx hb d_334 rfl (lv_at hl 0 rfl) ?_
  refine lv_iload_n hx hb d_335 rfl (lv_at hl 3 rfl) ?_
  refine lv_iconst hx hb d_336 (show _ = nI 2 from rfl) ?_
  refine lv_iadd hx hb d_337 ?_
  refine va_sld hx hb hX hbl hbA hS (vin hj hL (by decide)) d_338 ?_
  refine lv_if_eq hx hb d_339 (show ((339 : Nat) : Int) + 7 = ((346 : Nat) : Int) from rfl) (fun z => absurd z hv) (fun _ => ?_)
  refine lv_iconst hx hb d_342 (show _ = tI true from rfl) ?_
  refine lv_goto hx hb d_343 (show ((343 : Nat) : Int) + 4 = ((347 : Nat) : Int) from rfl) ?_
  obtain ⟨r, A', J', pl', st', M', N', f1, f2, hI'⟩ := e_fence (J := J) (st := st) hI (xs (nI (4 * j) + nI 1).toNatClampNeg) true
  refine law_V (ad := adc) (as := [.int (xs (nI (4 * j) + nI 1).toNatClampNeg), .int (tI true)]) (q := 0) (rest := []) (rc := 11) X (vX11_fence l) nX11_fence sX11_fence ⟨by decide, rfl⟩ (gd_of (i := 711) (by decide +kernel) rfl) ⟨Nat.le_of_ble_eq_true rfl, Nat.le_of_ble_eq_true rfl⟩ rfl f1 d_347 hl.1 (Nat.le_of_ble_eq_true rfl) hc hs hJ nd29 (okS.cons (z78 : 0 < 78) (okS.cons (v := .int _) trivial (okS.cons (v := .int _) trivial okS.nil))) ⟨rfl, z78⟩ ?_
  intro adc' H1 locs1 hJ1 had1 _
  show W p l e room_1 s m args below meth c H1 locs1 cells slots Q (F0 m 350 ls [.int r])
  have hJ2 := hJ1.swap
  have hS1 := hJ2.2.2.1
  refine lv_aload_n hx hb d_350 rfl (lv_at hl 2 rfl) ?_
  refine lv_aload_n hx hb d_351 rfl (lv_at hl 0 rfl) ?_
  refine lv_iload_n hx hb d_352 rfl (lv_at hl 3 rfl) ?_
  refine lv_iconst hx hb d_353 (show _ = nI 1 from rfl) ?_
  refine lv_iadd hx hb d_354 ?_
  refine va_sld hx hb hX hbl hbA hS1 (vin hj hL (by decide)) d_355 ?_
  refine lv_aload_n hx hb d_356 rfl (lv_at hl 0 rfl) ?_
  refine lv_iload_n hx hb d_357 rfl (lv_at hl 3 rfl) ?_
  refine lv_iconst hx hb d_358 (show _ = nI 2 from rfl) ?_
  refine lv_iadd hx hb d_359 ?_
  refine va_sld hx hb hX hbl hbA hS1 (vin hj hL (by decide)) d_360 ?_
  refine lv_if_eq hx hb d_361 (show ((361 : Nat) : Int) + 7 = ((368 : Nat) : Int) from rfl) (fun z => absurd z hv) (fun _ => ?_)
  refine lv_iconst hx hb d_364 (show _ = tI true from rfl) ?_
  refine lv_goto hx hb d_365 (show ((365 : Nat) : Int) + 4 = ((369 : Nat) : Int) from rfl) ?_
  refine law_V (ad := adm) (as := [.int (xs (nI (4 * j) + nI 1).toNatClampNeg), .int (tI true)]) (q := 0) (rest := [.int r]) (rc := 12) X (vX12_fence l) nX12_fence sX12_fence ⟨by decide, rfl⟩ (gd_of (i := 1113) (by decide +kernel) rfl) ⟨Nat.le_of_ble_eq_true rfl, Nat.le_of_ble_eq_true rfl⟩ rfl f2 d_369 hl.1 (Nat.le_of_ble_eq_true rfl) hc hs hJ2 nd78 (okS.cons (z29 : 0 < 29) (okS.cons (v := .int _) trivial (okS.cons (v := .int _) trivial okS.nil))) ⟨rfl, z29⟩ ?_
  intro adm' H2 locs2 hJ3 had2 _
  show W p l e room_1 s m args below meth c H2 locs2 cells slots Q (F0 m 372 ls [.int r, .int r])
  refine lv_icmp_eq hx hb d_372 (show ((372 : Nat) : Int) + 251 = ((623 : Nat) : Int) from rfl) (fun _ => ?_) (fun z => absurd rfl z)
  exact K adc' adm' A' J' pl' st' M' N' H2 locs2 hJ3.swap hI' (had1 0 z78) (had2 0 z29)
theorem cs_8 (hCP : CAPS) (X : CTX p s m args c code 4 R_law D aC (AL s)) (hX : va_X b L xs s s.heap) (hbl : b < s.heap.size) (hj : 4 * j + 4 ≤ L) (hL : L ≤ 2048) (hl : lv_has ls 4 [(0, .ref b), (1, .ref a1), (2, .ref a2), (3, .int (nI (4 * j)))]) (hc : cells ≤ 600000) (hs : slots ≤ 7302250) (hJ : Jt D aC s adc (cH A J pl st) adm (mH M N) H locs) (hI : Inv A pl M N) (h1 : adc 0 = a1) (h2 : adm 0 = a2) (K : ∀ (adc adm : Nat → Nat) (A : Nat → Nat → Int32) (J : Nat → Nat → Int64) (pl st : Bool) (M : Nat → Nat → Int32) (N : Nat → Nat → Int64) (H : Heap) (locs : List Loc), Jt D aC s adc (cH A J pl st) adm (mH M N) H locs → Inv A pl M N → adc 0 = a1 → adm 0 = a2 → W p l e room_1 s m args below meth c H locs cells slots Q (F0 m 623 ls [])) : W p l e room_1 s m args below meth c H locs cells slots Q (F0 m 328 ls []) := by
  by_cases hv : (xs (nI (4 * j) + nI 2).toNatClampNeg) = 0
  · exact cs_8f hCP X hX hbl hj hL hl hc hs hJ hI h1 h2 hv K
  · exact cs_8t hCP X hX hbl hj hL hl hc hs hJ hI h1 h2 hv K
set_option maxHeartbeats 1000000 in
theorem cs_9 (hCP : CAPS) (X : CTX p s m args c code 4 R_law D aC (AL s)) (hX : va_X b L xs s s.heap) (hbl : b < s.heap.size) (hj : 4 * j + 4 ≤ L) (hL : L ≤ 2048) (hl : lv_has ls 4 [(0, .ref b), (1, .ref a1), (2, .ref a2), (3, .int (nI (4 * j)))]) (hc : cells ≤ 600000) (hs : slots ≤ 7302250) (hJ : Jt D aC s adc (cH A J pl st) adm (mH M N) H locs) (hI : Inv A pl M N) (h1 : adc 0 = a1) (h2 : adm 0 = a2) (K : ∀ (adc adm : Nat → Nat) (A : Nat → Nat → Int32) (J : Nat → Nat → Int64) (pl st : Bool) (M : Nat → Nat → Int32) (N : Nat → Nat → Int64) (H : Heap) (locs : List Loc), Jt D aC s adc (cH A J pl st) adm (mH M N) H locs → Inv A pl M N → adc 0 = a1 → adm 0 = a2 → W p l e room_1 s m args below meth c H locs cells slots Q (F0 m 623 ls [])) : W p l e room_1 s m args below meth c H locs cells slots Q (F0 m 377 ls []) := by
  have hx := X.1
  have hb := X.2.1
  have hS := hJ.2.2.1
  have hbA : ¬ AL s b := fun z => absurd hbl (Nat.not_lt.mpr z)
  subst h1
  subst h2
  refine lv_aload_n hx hb d_377 rfl (lv_at hl 1 rfl) ?_
  refine lv_aload_n hx hb d_378 rfl (lv_at hl 0 rfl) ?_
  refine lv_iload_n hx hb d_379 rfl (lv_at hl 3 rfl) ?_
  refine lv_iconst hx hb d_380 (show _ = nI 1 from rfl) ?_
  refine lv_iadd hx hb d_381 ?_
  refine va_sld hx hb hX hbl hbA hS (vin hj hL (by decide)) d_382 ?_
  refine lv_aload_n hx hb d_383 rfl (lv_at hl 0 rfl) ?_
  refine lv_iload_n hx hb d_384 rfl (lv_at hl 3 rfl) ?_
  refine lv_iconst hx hb d_385 (show _ = nI 2 from rfl) ?_
  refine lv_iadd hx hb d_386 ?_
  refine va_sld hx hb hX hbl hbA hS (vin hj hL (by decide)) d_387 ?_
  obtain ⟨r, A', J', pl', st', M', N', f1, f2, hI'⟩ := e_cost (J := J) (st := st) hI (xs (nI (4 * j) + nI 1).toNatClampNeg) (xs (nI (4 * j) + nI 2).toNatClampNeg)
  refine law_V (ad := adc) (as := [.int (xs (nI (4 * j) + nI 1).toNatClampNeg), .int (xs (nI (4 * j) + nI 2).toNatClampNeg)]) (q := 0) (rest := []) (rc := 11) X (vX11_cost l) nX11_cost sX11_cost ⟨by decide, rfl⟩ (gd_of (i := 735) (by decide +kernel) rfl) ⟨Nat.le_of_ble_eq_true rfl, Nat.le_of_ble_eq_true rfl⟩ rfl f1 d_388 hl.1 (Nat.le_of_ble_eq_true rfl) hc hs hJ nd29 (okS.cons (z78 : 0 < 78) (okS.cons (v := .int _) trivial (okS.cons (v := .int _) trivial okS.nil))) ⟨rfl, z78⟩ ?_
  intro adc' H1 locs1 hJ1 had1 _
  show W p l e room_1 s m args below meth c H1 locs1 cells slots Q (F0 m 391 ls [.int r])
  have hJ2 := hJ1.swap
  have hS1 := hJ2.2.2.1
  refine lv_aload_n hx hb d_391 rfl (lv_at hl 2 rfl) ?_
  refine lv_aload_n hx hb d_392 rfl (lv_at hl 0 rfl) ?_
  refine lv_iload_n hx hb d_393 rfl (lv_at hl 3 rfl) ?_
  refine lv_iconst hx hb d_394 (show _ = nI 1 from rfl) ?_
  refine lv_iadd hx hb d_395 ?_
  refine va_sld hx hb hX hbl hbA hS1 (vin hj hL (by decide)) d_396 ?_
  refine lv_aload_n hx hb d_397 rfl (lv_at hl 0 rfl) ?_
  refine lv_iload_n hx hb d_398 rfl (lv_at hl 3 rfl) ?_
  refine lv_iconst hx hb d_399 (show _ = nI 2 from rfl) ?_
  refine lv_iadd hx hb d_400 ?_
  refine va_sld hx hb hX hbl hbA hS1 (vin hj hL (by decide)) d_401 ?_
  refine law_V (ad := adm) (as := [.int (xs (nI (4 * j) + nI 1).toNatClampNeg), .int (xs (nI (4 * j) + nI 2).toNatClampNeg)]) (q := 0) (rest := [.int r]) (rc := 12) X (vX12_cost l) nX12_cost sX12_cost ⟨by decide, rfl⟩ (gd_of (i := 1125) (by decide +kernel) rfl) ⟨Nat.le_of_ble_eq_true rfl, Nat.le_of_ble_eq_true rfl⟩ rfl f2 d_402 hl.1 (Nat.le_of_ble_eq_true rfl) hc hs hJ2 nd78 (okS.cons (z29 : 0 < 29) (okS.cons (v := .int _) trivial (okS.cons (v := .int _) trivial okS.nil))) ⟨rfl, z29⟩ ?_
  intro adm' H2 locs2 hJ3 had2 _
  show W p l e room_1 s m args below meth c H2 locs2 cells slots Q (F0 m 405 ls [.int r, .int r])
  refine lv_icmp_eq hx hb d_405 (show ((405 : Nat) : Int) + 218 = ((623 : Nat) : Int) from rfl) (fun _ => ?_) (fun z => absurd rfl z)
  exact K adc' adm' A' J' pl' st' M' N' H2 locs2 hJ3.swap hI' (had1 0 z78) (had2 0 z29)
set_option maxHeartbeats 1000000 in
theorem cs_10 (hCP : CAPS) (X : CTX p s m args c code 4 R_law D aC (AL s)) (hX : va_X b L xs s s.heap) (hbl : b < s.heap.size) (hj : 4 * j + 4 ≤ L) (hL : L ≤ 2048) (hl : lv_has ls 4 [(0, .ref b), (1, .ref a1), (2, .ref a2), (3, .int (nI (4 * j)))]) (hc : cells ≤ 600000) (hs : slots ≤ 7302250) (hJ : Jt D aC s adc (cH A J pl st) adm (mH M N) H locs) (hI : Inv A pl M N) (h1 : adc 0 = a1) (h2 : adm 0 = a2) (K : ∀ (adc adm : Nat → Nat) (A : Nat → Nat → Int32) (J : Nat → Nat → Int64) (pl st : Bool) (M : Nat → Nat → Int32) (N : Nat → Nat → Int64) (H : Heap) (locs : List Loc), Jt D aC s adc (cH A J pl st) adm (mH M N) H locs → Inv A pl M N → adc 0 = a1 → adm 0 = a2 → W p l e room_1 s m args below meth c H locs cells slots Q (F0 m 623 ls [])) : W p l e room_1 s m args below meth c H locs cells slots Q (F0 m 410 ls []) := by
  have hx := X.1
  have hb := X.2.1
  have hS := hJ.2.2.1
  have hbA : ¬ AL s b := fun z => absurd hbl (Nat.not_lt.mpr z)
  subst h1
  subst h2
  refine lv_aload_n hx hb d_410 rfl (lv_at hl 1 rfl) ?_
  refine lv_aload_n hx hb d_411 rfl (lv_at hl 0 rfl) ?_
  refine lv_iload_n hx hb d_412 rfl (lv_at hl 3 rfl) ?_
  refine lv_iconst hx hb d_413 (show _ = nI 1 from rfl) ?_
  refine lv_iadd hx hb d_414 ?_
  refine va_sld hx hb hX hbl hbA hS (vin hj hL (by decide)) d_415 ?_
  obtain ⟨r, A', J', pl', st', M', N', f1, f2, hI'⟩ := e_overtaking (J := J) (st := st) hCP hI (xs (nI (4 * j) + nI 1).toNatClampNeg)
  refine law_V (ad := adc) (as := [.int (xs (nI (4 * j) + nI 1).toNatClampNeg)]) (q := 0) (rest := []) (rc := 11) X (vX11_overtaking l) nX11_overtaking sX11_overtaking ⟨by decide, rfl⟩ (gd_of (i := 743) (by decide +kernel) rfl) ⟨Nat.le_of_ble_eq_true rfl, Nat.le_of_ble_eq_true rfl⟩ rfl f1 d_416 hl.1 (Nat.le_of_ble_eq_true rfl) hc hs hJ nd29 (okS.cons (z78 : 0 < 78) (okS.cons (v := .int _) trivial okS.nil)) ⟨rfl, z78⟩ ?_
  intro adc' H1 locs1 hJ1 had1 _
  show W p l e room_1 s m args below meth c H1 locs1 cells slots Q (F0 m 419 ls [.int r])
  have hJ2 := hJ1.swap
  have hS1 := hJ2.2.2.1
  refine lv_aload_n hx hb d_419 rfl (lv_at hl 2 rfl) ?_
  refine lv_aload_n hx hb d_420 rfl (lv_at hl 0 rfl) ?_
  refine lv_iload_n hx hb d_421 rfl (lv_at hl 3 rfl) ?_
  refine lv_iconst hx hb d_422 (show _ = nI 1 from rfl) ?_
  refine lv_iadd hx hb d_423 ?_
  refine va_sld hx hb hX hbl hbA hS1 (vin hj hL (by decide)) d_424 ?_
  refine law_V (ad := adm) (as := [.int (xs (nI (4 * j) + nI 1).toNatClampNeg)]) (q := 0) (rest := [.int r]) (rc := 12) X (vX12_overtaking l) nX12_overtaking sX12_overtaking ⟨by decide, rfl⟩ (gd_of (i := 1129) (by decide +kernel) rfl) ⟨Nat.le_of_ble_eq_true rfl, Nat.le_of_ble_eq_true rfl⟩ rfl f2 d_425 hl.1 (Nat.le_of_ble_eq_true rfl) hc hs hJ2 nd78 (okS.cons (z29 : 0 < 29) (okS.cons (v := .int _) trivial okS.nil)) ⟨rfl, z29⟩ ?_
  intro adm' H2 locs2 hJ3 had2 _
  show W p l e room_1 s m args below meth c H2 locs2 cells slots Q (F0 m 428 ls [.int r, .int r])
  refine lv_icmp_eq hx hb d_428 (show ((428 : Nat) : Int) + 195 = ((623 : Nat) : Int) from rfl) (fun _ => ?_) (fun z => absurd rfl z)
  exact K adc' adm' A' J' pl' st' M' N' H2 locs2 hJ3.swap hI' (had1 0 z78) (had2 0 z29)
set_option maxHeartbeats 1000000 in
theorem cs_11 (hCP : CAPS) (X : CTX p s m args c code 4 R_law D aC (AL s)) (hX : va_X b L xs s s.heap) (hbl : b < s.heap.size) (hj : 4 * j + 4 ≤ L) (hL : L ≤ 2048) (hl : lv_has ls 4 [(0, .ref b), (1, .ref a1), (2, .ref a2), (3, .int (nI (4 * j)))]) (hc : cells ≤ 600000) (hs : slots ≤ 7302250) (hJ : Jt D aC s adc (cH A J pl st) adm (mH M N) H locs) (hI : Inv A pl M N) (h1 : adc 0 = a1) (h2 : adm 0 = a2) (K : ∀ (adc adm : Nat → Nat) (A : Nat → Nat → Int32) (J : Nat → Nat → Int64) (pl st : Bool) (M : Nat → Nat → Int32) (N : Nat → Nat → Int64) (H : Heap) (locs : List Loc), Jt D aC s adc (cH A J pl st) adm (mH M N) H locs → Inv A pl M N → adc 0 = a1 → adm 0 = a2 → W p l e room_1 s m args below meth c H locs cells slots Q (F0 m 623 ls [])) : W p l e room_1 s m args below meth c H locs cells slots Q (F0 m 433 ls []) := by
  have hx := X.1
  have hb := X.2.1
  have hS := hJ.2.2.1
  have hbA : ¬ AL s b := fun z => absurd hbl (Nat.not_lt.mpr z)
  subst h1
  subst h2
  refine lv_aload_n hx hb d_433 rfl (lv_at hl 1 rfl) ?_
  obtain ⟨r, A', J', pl', st', M', N', f1, f2, hI'⟩ := e_best (J := J) (st := st) hI 
  refine law_V (ad := adc) (as := []) (q := 0) (rest := []) (rc := 11) X (vX11_best l) nX11_best sX11_best ⟨by decide, rfl⟩ (gd_of (i := 747) (by decide +kernel) rfl) ⟨Nat.le_of_ble_eq_true rfl, Nat.le_of_ble_eq_true rfl⟩ rfl f1 d_434 hl.1 (Nat.le_of_ble_eq_true rfl) hc hs hJ nd29 (okS.cons (z78 : 0 < 78) okS.nil) ⟨rfl, z78⟩ ?_
  intro adc' H1 locs1 hJ1 had1 _
  show W p l e room_1 s m args below meth c H1 locs1 cells slots Q (F0 m 437 ls [.int r])
  have hJ2 := hJ1.swap
  have hS1 := hJ2.2.2.1
  refine lv_aload_n hx hb d_437 rfl (lv_at hl 2 rfl) ?_
  refine law_V (ad := adm) (as := []) (q := 0) (rest := [.int r]) (rc := 12) X (vX12_best l) nX12_best sX12_best ⟨by decide, rfl⟩ (gd_of (i := 1133) (by decide +kernel) rfl) ⟨Nat.le_of_ble_eq_true rfl, Nat.le_of_ble_eq_true rfl⟩ rfl f2 d_438 hl.1 (Nat.le_of_ble_eq_true rfl) hc hs hJ2 nd78 (okS.cons (z29 : 0 < 29) okS.nil) ⟨rfl, z29⟩ ?_
  intro adm' H2 locs2 hJ3 had2 _
  show W p l e room_1 s m args below meth c H2 locs2 cells slots Q (F0 m 441 ls [.int r, .int r])
  refine lv_icmp_eq hx hb d_441 (show ((441 : Nat) : Int) + 182 = ((623 : Nat) : Int) from rfl) (fun _ => ?_) (fun z => absurd rfl z)
  exact K adc' adm' A' J' pl' st' M' N' H2 locs2 hJ3.swap hI' (had1 0 z78) (had2 0 z29)
set_option maxHeartbeats 1000000 in
theorem cs_12 (hCP : CAPS) (X : CTX p s m args c code 4 R_law D aC (AL s)) (hX : va_X b L xs s s.heap) (hbl : b < s.heap.size) (hj : 4 * j + 4 ≤ L) (hL : L ≤ 2048) (hl : lv_has ls 4 [(0, .ref b), (1, .ref a1), (2, .ref a2), (3, .int (nI (4 * j)))]) (hc : cells ≤ 600000) (hs : slots ≤ 7302250) (hJ : Jt D aC s adc (cH A J pl st) adm (mH M N) H locs) (hI : Inv A pl M N) (h1 : adc 0 = a1) (h2 : adm 0 = a2) (K : ∀ (adc adm : Nat → Nat) (A : Nat → Nat → Int32) (J : Nat → Nat → Int64) (pl st : Bool) (M : Nat → Nat → Int32) (N : Nat → Nat → Int64) (H : Heap) (locs : List Loc), Jt D aC s adc (cH A J pl st) adm (mH M N) H locs → Inv A pl M N → adc 0 = a1 → adm 0 = a2 → W p l e room_1 s m args below meth c H locs cells slots Q (F0 m 623 ls [])) : W p l e room_1 s m args below meth c H locs cells slots Q (F0 m 446 ls []) := by
  have hx := X.1
  have hb := X.2.1
  have hS := hJ.2.2.1
  have hbA : ¬ AL s b := fun z => absurd hbl (Nat.not_lt.mpr z)
  subst h1
  subst h2
  refine lv_aload_n hx hb d_446 rfl (lv_at hl 1 rfl) ?_
  refine lv_aload_n hx hb d_447 rfl (lv_at hl 0 rfl) ?_
  refine lv_iload_n hx hb d_448 rfl (lv_at hl 3 rfl) ?_
  refine lv_iconst hx hb d_449 (show _ = nI 1 from rfl) ?_
  refine lv_iadd hx hb d_450 ?_
  refine va_sld hx hb hX hbl hbA hS (vin hj hL (by decide)) d_451 ?_
  obtain ⟨r, A', J', pl', st', M', N', f1, f2, hI'⟩ := e_drift (J := J) (st := st) hI (xs (nI (4 * j) + nI 1).toNatClampNeg)
  refine law_V (ad := adc) (as := [.int (xs (nI (4 * j) + nI 1).toNatClampNeg)]) (q := 0) (rest := []) (rc := 11) X (vX11_drift l) nX11_drift sX11_drift ⟨by decide, rfl⟩ (gd_of (i := 751) (by decide +kernel) rfl) ⟨Nat.le_of_ble_eq_true rfl, Nat.le_of_ble_eq_true rfl⟩ rfl f1 d_452 hl.1 (Nat.le_of_ble_eq_true rfl) hc hs hJ nd29 (okS.cons (z78 : 0 < 78) (okS.cons (v := .int _) trivial okS.nil)) ⟨rfl, z78⟩ ?_
  intro adc' H1 locs1 hJ1 had1 _
  show W p l e room_1 s m args below meth c H1 locs1 cells slots Q (F0 m 455 ls [.int r])
  have hJ2 := hJ1.swap
  have hS1 := hJ2.2.2.1
  refine lv_aload_n hx hb d_455 rfl (lv_at hl 2 rfl) ?_
  refine lv_aload_n hx hb d_456 rfl (lv_at hl 0 rfl) ?_
  refine lv_iload_n hx hb d_457 rfl (lv_at hl 3 rfl) ?_
  refine lv_iconst hx hb d_458 (show _ = nI 1 from rfl) ?_
  refine lv_iadd hx hb d_459 ?_
  refine va_sld hx hb hX hbl hbA hS1 (vin hj hL (by decide)) d_460 ?_
  refine law_V (ad := adm) (as := [.int (xs (nI (4 * j) + nI 1).toNatClampNeg)]) (q := 0) (rest := [.int r]) (rc := 12) X (vX12_drift l) nX12_drift sX12_drift ⟨by decide, rfl⟩ (gd_of (i := 1149) (by decide +kernel) rfl) ⟨Nat.le_of_ble_eq_true rfl, Nat.le_of_ble_eq_true rfl⟩ rfl f2 d_461 hl.1 (Nat.le_of_ble_eq_true rfl) hc hs hJ2 nd78 (okS.cons (z29 : 0 < 29) (okS.cons (v := .int _) trivial okS.nil)) ⟨rfl, z29⟩ ?_
  intro adm' H2 locs2 hJ3 had2 _
  show W p l e room_1 s m args below meth c H2 locs2 cells slots Q (F0 m 464 ls [.int r, .int r])
  refine lv_icmp_eq hx hb d_464 (show ((464 : Nat) : Int) + 159 = ((623 : Nat) : Int) from rfl) (fun _ => ?_) (fun z => absurd rfl z)
  exact K adc' adm' A' J' pl' st' M' N' H2 locs2 hJ3.swap hI' (had1 0 z78) (had2 0 z29)
set_option maxHeartbeats 1000000 in
theorem cs_13 (hCP : CAPS) (X : CTX p s m args c code 4 R_law D aC (AL s)) (hX : va_X b L xs s s.heap) (hbl : b < s.heap.size) (hj : 4 * j + 4 ≤ L) (hL : L ≤ 2048) (hl : lv_has ls 4 [(0, .ref b), (1, .ref a1), (2, .ref a2), (3, .int (nI (4 * j)))]) (hc : cells ≤ 600000) (hs : slots ≤ 7302250) (hJ : Jt D aC s adc (cH A J pl st) adm (mH M N) H locs) (hI : Inv A pl M N) (h1 : adc 0 = a1) (h2 : adm 0 = a2) (K : ∀ (adc adm : Nat → Nat) (A : Nat → Nat → Int32) (J : Nat → Nat → Int64) (pl st : Bool) (M : Nat → Nat → Int32) (N : Nat → Nat → Int64) (H : Heap) (locs : List Loc), Jt D aC s adc (cH A J pl st) adm (mH M N) H locs → Inv A pl M N → adc 0 = a1 → adm 0 = a2 → W p l e room_1 s m args below meth c H locs cells slots Q (F0 m 623 ls [])) : W p l e room_1 s m args below meth c H locs cells slots Q (F0 m 469 ls []) := by
  have hx := X.1
  have hb := X.2.1
  have hS := hJ.2.2.1
  have hbA : ¬ AL s b := fun z => absurd hbl (Nat.not_lt.mpr z)
  subst h1
  subst h2
  refine lv_aload_n hx hb d_469 rfl (lv_at hl 1 rfl) ?_
  refine lv_aload_n hx hb d_470 rfl (lv_at hl 0 rfl) ?_
  refine lv_iload_n hx hb d_471 rfl (lv_at hl 3 rfl) ?_
  refine lv_iconst hx hb d_472 (show _ = nI 1 from rfl) ?_
  refine lv_iadd hx hb d_473 ?_
  refine va_sld hx hb hX hbl hbA hS (vin hj hL (by decide)) d_474 ?_
  obtain ⟨r, A', J', pl', st', M', N', f1, f2, hI'⟩ := e_undo (J := J) (st := st) hI (xs (nI (4 * j) + nI 1).toNatClampNeg)
  refine law_V (ad := adc) (as := [.int (xs (nI (4 * j) + nI 1).toNatClampNeg)]) (q := 0) (rest := []) (rc := 11) X (vX11_undo l) nX11_undo sX11_undo ⟨by decide, rfl⟩ (gd_of (i := 767) (by decide +kernel) rfl) ⟨Nat.le_of_ble_eq_true rfl, Nat.le_of_ble_eq_true rfl⟩ rfl f1 d_475 hl.1 (Nat.le_of_ble_eq_true rfl) hc hs hJ nd29 (okS.cons (z78 : 0 < 78) (okS.cons (v := .int _) trivial okS.nil)) ⟨rfl, z78⟩ ?_
  intro adc' H1 locs1 hJ1 had1 _
  show W p l e room_1 s m args below meth c H1 locs1 cells slots Q (F0 m 478 ls [.int r])
  have hJ2 := hJ1.swap
  have hS1 := hJ2.2.2.1
  refine lv_aload_n hx hb d_478 rfl (lv_at hl 2 rfl) ?_
  refine lv_aload_n hx hb d_479 rfl (lv_at hl 0 rfl) ?_
  refine lv_iload_n hx hb d_480 rfl (lv_at hl 3 rfl) ?_
  refine lv_iconst hx hb d_481 (show _ = nI 1 from rfl) ?_
  refine lv_iadd hx hb d_482 ?_
  refine va_sld hx hb hX hbl hbA hS1 (vin hj hL (by decide)) d_483 ?_
  refine law_V (ad := adm) (as := [.int (xs (nI (4 * j) + nI 1).toNatClampNeg)]) (q := 0) (rest := [.int r]) (rc := 12) X (vX12_undo l) nX12_undo sX12_undo ⟨by decide, rfl⟩ (gd_of (i := 1165) (by decide +kernel) rfl) ⟨Nat.le_of_ble_eq_true rfl, Nat.le_of_ble_eq_true rfl⟩ rfl f2 d_484 hl.1 (Nat.le_of_ble_eq_true rfl) hc hs hJ2 nd78 (okS.cons (z29 : 0 < 29) (okS.cons (v := .int _) trivial okS.nil)) ⟨rfl, z29⟩ ?_
  intro adm' H2 locs2 hJ3 had2 _
  show W p l e room_1 s m args below meth c H2 locs2 cells slots Q (F0 m 487 ls [.int r, .int r])
  refine lv_icmp_eq hx hb d_487 (show ((487 : Nat) : Int) + 136 = ((623 : Nat) : Int) from rfl) (fun _ => ?_) (fun z => absurd rfl z)
  exact K adc' adm' A' J' pl' st' M' N' H2 locs2 hJ3.swap hI' (had1 0 z78) (had2 0 z29)
set_option maxHeartbeats 1000000 in
theorem cs_14f (hCP : CAPS) (X : CTX p s m args c code 4 R_law D aC (AL s)) (hX : va_X b L xs s s.heap) (hbl : b < s.heap.size) (hj : 4 * j + 4 ≤ L) (hL : L ≤ 2048) (hl : lv_has ls 4 [(0, .ref b), (1, .ref a1), (2, .ref a2), (3, .int (nI (4 * j)))]) (hc : cells ≤ 600000) (hs : slots ≤ 7302250) (hJ : Jt D aC s adc (cH A J pl st) adm (mH M N) H locs) (hI : Inv A pl M N) (h1 : adc 0 = a1) (h2 : adm 0 = a2) (hv : (xs (nI (4 * j) + nI 2).toNatClampNeg) = 0) (K : ∀ (adc adm : Nat → Nat) (A : Nat → Nat → Int32) (J : Nat → Nat → Int64) (pl st : Bool) (M : Nat → Nat → Int32) (N : Nat → Nat → Int64) (H : Heap) (locs : List Loc), Jt D aC s adc (cH A J pl st) adm (mH M N) H locs → Inv A pl M N → adc 0 = a1 → adm 0 = a2 → W p l e room_1 s m args below meth c H locs cells slots Q (F0 m 623 ls [])) : W p l e room_1 s m args below meth c H locs cells slots Q (F0 m 492 ls []) := by
  have hx := X.1
  have hb := X.2.1
  have hS := hJ.2.2.1
  have hbA : ¬ AL s b := fun z => absurd hbl (Nat.not_lt.mpr z)
  subst h1
  subst h2
  refine lv_aload_n hx hb d_492 rfl (lv_at hl 1 rfl) ?_
  refine lv_aload_n hx hb d_493 rfl (lv_at hl 0 rfl) ?_
  refine lv_iload_n hx hb d_494 rfl (lv_at hl 3 rfl) ?_
  refine lv_iconst hx hb d_495 (show _ = nI 1 from rfl) ?_
  refine lv_iadd hx hb d_496 ?_
  refine va_sld hx hb hX hbl hbA hS (vin hj hL (by decide)) d_497 ?_
  refine lv_aload_n hx hb d_498 rfl (lv_at hl 0 rfl) ?_
  refine lv_iload_n hx hb d_499 rfl (lv_at hl 3 rfl) ?_
  refine lv_iconst hx hb d_500 (show _ = nI 2 from rfl) ?_
  refine lv_iadd hx hb d_501 ?_
  refine va_sld hx hb hX hbl hbA hS (vin hj hL (by decide)) d_502 ?_
  refine lv_if_eq hx hb d_503 (show ((503 : Nat) : Int) + 7 = ((510 : Nat) : Int) from rfl) (fun _ => ?_) (fun z => absurd hv z)
  refine lv_iconst hx hb d_510 (show _ = tI false from rfl) ?_
  obtain ⟨r, A', J', pl', st', M', N', f1, f2, hI'⟩ := e_write (J := J) (st := st) hI (xs (nI (4 * j) + nI 1).toNatClampNeg) false
  refine law_V (ad := adc) (as := [.int (xs (nI (4 * j) + nI 1).toNatClampNeg), .int (tI false)]) (q := 0) (rest := []) (rc := 11) X (vX11_write l) nX11_write sX11_write ⟨by decide, rfl⟩ (gd_of (i := 775) (by decide +kernel) rfl) ⟨Nat.le_of_ble_eq_true rfl, Nat.le_of_ble_eq_true rfl⟩ rfl f1 d_511 hl.1 (Nat.le_of_ble_eq_true rfl) hc hs hJ nd29 (okS.cons (z78 : 0 < 78) (okS.cons (v := .int _) trivial (okS.cons (v := .int _) trivial okS.nil))) ⟨rfl, z78⟩ ?_
  intro adc' H1 locs1 hJ1 had1 _
  show W p l e room_1 s m args below meth c H1 locs1 cells slots Q (F0 m 514 ls [.int r])
  have hJ2 := hJ1.swap
  have hS1 := hJ2.2.2.1
  refine lv_aload_n hx hb d_514 rfl (lv_at hl 2 rfl) ?_
  refine lv_aload_n hx hb d_515 rfl (lv_at hl 0 rfl) ?_
  refine lv_iload_n hx hb d_516 rfl (lv_at hl 3 rfl) ?_
  refine lv_iconst hx hb d_517 (show _ = nI 1 from rfl) ?_
  refine lv_iadd hx hb d_518 ?_
  refine va_sld hx hb hX hbl hbA hS1 (vin hj hL (by decide)) d_519 ?_
  refine lv_aload_n hx hb d_520 rfl (lv_at hl 0 rfl) ?_
  refine lv_iload_n hx hb d_521 rfl (lv_at hl 3 rfl) ?_
  refine lv_iconst hx hb d_522 (show _ = nI 2 from rfl) ?_
  refine lv_iadd hx hb d_523 ?_
  refine va_sld hx hb hX hbl hbA hS1 (vin hj hL (by decide)) d_524 ?_
  refine lv_if_eq hx hb d_525 (show ((525 : Nat) : Int) + 7 = ((532 : Nat) : Int) from rfl) (fun _ => ?_) (fun z => absurd hv z)
  refine lv_iconst hx hb d_532 (show _ = tI false from rfl) ?_
  refine law_V (ad := adm) (as := [.int (xs (nI (4 * j) + nI 1).toNatClampNeg), .int (tI false)]) (q := 0) (rest := [.int r]) (rc := 12) X (vX12_write l) nX12_write sX12_write ⟨by decide, rfl⟩ (gd_of (i := 1169) (by decide +kernel) rfl) ⟨Nat.le_of_ble_eq_true rfl, Nat.le_of_ble_eq_true rfl⟩ rfl f2 d_533 hl.1 (Nat.le_of_ble_eq_true rfl) hc hs hJ2 nd78 (okS.cons (z29 : 0 < 29) (okS.cons (v := .int _) trivial (okS.cons (v := .int _) trivial okS.nil))) ⟨rfl, z29⟩ ?_
  intro adm' H2 locs2 hJ3 had2 _
  show W p l e room_1 s m args below meth c H2 locs2 cells slots Q (F0 m 536 ls [.int r, .int r])
  refine lv_icmp_eq hx hb d_536 (show ((536 : Nat) : Int) + 87 = ((623 : Nat) : Int) from rfl) (fun _ => ?_) (fun z => absurd rfl z)
  exact K adc' adm' A' J' pl' st' M' N' H2 locs2 hJ3.swap hI' (had1 0 z78) (had2 0 z29)
set_option maxHeartbeats 1000000 in
theorem cs_14t (hCP : CAPS) (X : CTX p s m args c code 4 R_law D aC (AL s)) (hX : va_X b L xs s s.heap) (hbl : b < s.heap.size) (hj : 4 * j + 4 ≤ L) (hL : L ≤ 2048) (hl : lv_has ls 4 [(0, .ref b), (1, .ref a1), (2, .ref a2), (3, .int (nI (4 * j)))]) (hc : cells ≤ 600000) (hs : slots ≤ 7302250) (hJ : Jt D aC s adc (cH A J pl st) adm (mH M N) H locs) (hI : Inv A pl M N) (h1 : adc 0 = a1) (h2 : adm 0 = a2) (hv : (xs (nI (4 * j) + nI 2).toNatClampNeg) ≠ 0) (K : ∀ (adc adm : Nat → Nat) (A : Nat → Nat → Int32) (J : Nat → Nat → Int64) (pl st : Bool) (M : Nat → Nat → Int32) (N : Nat → Nat → Int64) (H : Heap) (locs : List Loc), Jt D aC s adc (cH A J pl st) adm (mH M N) H locs → Inv A pl M N → adc 0 = a1 → adm 0 = a2 → W p l e room_1 s m args below meth c H locs cells slots Q (F0 m 623 ls [])) : W p l e room_1 s m args below meth c H locs cells slots Q (F0 m 492 ls []) := by
  have hx := X.1
  have hb := X.2.1
  have hS := hJ.2.2.1
  have hbA : ¬ AL s b := fun z => absurd hbl (Nat.not_lt.mpr z)
  subst h1
  subst h2
  refine lv_aload_n hx hb d_492 rfl (lv_at hl 1 rfl) ?_
  refine lv_aload_n hx hb d_493 rfl (lv_at hl 0 rfl) ?_
  refine lv_iload_n hx hb d_494 rfl (lv_at hl 3 rfl) ?_
  refine lv_iconst hx hb d_495 (show _ = nI 1 from rfl) ?_
  refine lv_iadd hx hb d_496 ?_
  refine va_sld hx hb hX hbl hbA hS (vin hj hL (by decide)) d_497 ?_
  refine lv_aload_n hx hb d_498 rfl (lv_at hl 0 rfl) ?_
  refine lv_iload_n hx hb d_499 rfl (lv_at hl 3 rfl) ?_
  refine lv_iconst hx hb d_500 (show _ = nI 2 from rfl) ?_
  refine lv_iadd hx hb d_501 ?_
  refine va_sld hx hb hX hbl hbA hS (vin hj hL (by decide)) d_502 ?_
  refine lv_if_eq hx hb d_503 (show ((503 : Nat) : Int) + 7 = ((510 : Nat) : Int) from rfl) (fun z => absurd z hv) (fun _ => ?_)
  refine lv_iconst hx hb d_506 (show _ = tI true from rfl) ?_
  refine lv_goto hx hb d_507 (show ((507 : Nat) : Int) + 4 = ((511 : Nat) : Int) from rfl) ?_
  obtain ⟨r, A', J', pl', st', M', N', f1, f2, hI'⟩ := e_write (J := J) (st := st) hI (xs (nI (4 * j) + nI 1).toNatClampNeg) true
  refine law_V (ad := adc) (as := [.int (xs (nI (4 * j) + nI 1).toNatClampNeg), .int (tI true)]) (q := 0) (rest := []) (rc := 11) X (vX11_write l) nX11_write sX11_write ⟨by decide, rfl⟩ (gd_of (i := 775) (by decide +kernel) rfl) ⟨Nat.le_of_ble_eq_true rfl, Nat.le_of_ble_eq_true rfl⟩ rfl f1 d_511 hl.1 (Nat.le_of_ble_eq_true rfl) hc hs hJ nd29 (okS.cons (z78 : 0 < 78) (okS.cons (v := .int _) trivial (okS.cons (v := .int _) trivial okS.nil))) ⟨rfl, z78⟩ ?_
  intro adc' H1 locs1 hJ1 had1 _
  show W p l e room_1 s m args below meth c H1 locs1 cells slots Q (F0 m 514 ls [.int r])
  have hJ2 := hJ1.swap
  have hS1 := hJ2.2.2.1
  refine lv_aload_n hx hb d_514 rfl (lv_at hl 2 rfl) ?_
  refine lv_aload_n hx hb d_515 rfl (lv_at hl 0 rfl) ?_
  refine lv_iload_n hx hb d_516 rfl (lv_at hl 3 rfl) ?_
  refine lv_iconst hx hb d_517 (show _ = nI 1 from rfl) ?_
  refine lv_iadd hx hb d_518 ?_
  refine va_sld hx hb hX hbl hbA hS1 (vin hj hL (by decide)) d_519 ?_
  refine lv_aload_n hx hb d_520 rfl (lv_at hl 0 rfl) ?_
  refine lv_iload_n hx hb d_521 rfl (lv_at hl 3 rfl) ?_
  refine lv_iconst hx hb d_522 (show _ = nI 2 from rfl) ?_
  refine lv_iadd hx hb d_523 ?_
  refine va_sld hx hb hX hbl hbA hS1 (vin hj hL (by decide)) d_524 ?_
  refine lv_if_eq hx hb d_525 (show ((525 : Nat) : Int) + 7 = ((532 : Nat) : Int) from rfl) (fun z => absurd z hv) (fun _ => ?_)
  refine lv_iconst hx hb d_528 (show _ = tI true from rfl) ?_
  refine lv_goto hx hb d_529 (show ((529 : Nat) : Int) + 4 = ((533 : Nat) : Int) from rfl) ?_
  refine law_V (ad := adm) (as := [.int (xs (nI (4 * j) + nI 1).toNatClampNeg), .int (tI true)]) (q := 0) (rest := [.int r]) (rc := 12) X (vX12_write l) nX12_write sX12_write ⟨by decide, rfl⟩ (gd_of (i := 1169) (by decide +kernel) rfl) ⟨Nat.le_of_ble_eq_true rfl, Nat.le_of_ble_eq_true rfl⟩ rfl f2 d_533 hl.1 (Nat.le_of_ble_eq_true rfl) hc hs hJ2 nd78 (okS.cons (z29 : 0 < 29) (okS.cons (v := .int _) trivial (okS.cons (v := .int _) trivial okS.nil))) ⟨rfl, z29⟩ ?_
  intro adm' H2 locs2 hJ3 had2 _
  show W p l e room_1 s m args below meth c H2 locs2 cells slots Q (F0 m 536 ls [.int r, .int r])
  refine lv_icmp_eq hx hb d_536 (show ((536 : Nat) : Int) + 87 = ((623 : Nat) : Int) from rfl) (fun _ => ?_) (fun z => absurd rfl z)
  exact K adc' adm' A' J' pl' st' M' N' H2 locs2 hJ3.swap hI' (had1 0 z78) (had2 0 z29)
theorem cs_14 (hCP : CAPS) (X : CTX p s m args c code 4 R_law D aC (AL s)) (hX : va_X b L xs s s.heap) (hbl : b < s.heap.size) (hj : 4 * j + 4 ≤ L) (hL : L ≤ 2048) (hl : lv_has ls 4 [(0, .ref b), (1, .ref a1), (2, .ref a2), (3, .int (nI (4 * j)))]) (hc : cells ≤ 600000) (hs : slots ≤ 7302250) (hJ : Jt D aC s adc (cH A J pl st) adm (mH M N) H locs) (hI : Inv A pl M N) (h1 : adc 0 = a1) (h2 : adm 0 = a2) (K : ∀ (adc adm : Nat → Nat) (A : Nat → Nat → Int32) (J : Nat → Nat → Int64) (pl st : Bool) (M : Nat → Nat → Int32) (N : Nat → Nat → Int64) (H : Heap) (locs : List Loc), Jt D aC s adc (cH A J pl st) adm (mH M N) H locs → Inv A pl M N → adc 0 = a1 → adm 0 = a2 → W p l e room_1 s m args below meth c H locs cells slots Q (F0 m 623 ls [])) : W p l e room_1 s m args below meth c H locs cells slots Q (F0 m 492 ls []) := by
  by_cases hv : (xs (nI (4 * j) + nI 2).toNatClampNeg) = 0
  · exact cs_14f hCP X hX hbl hj hL hl hc hs hJ hI h1 h2 hv K
  · exact cs_14t hCP X hX hbl hj hL hl hc hs hJ hI h1 h2 hv K
set_option maxHeartbeats 1000000 in
theorem cs_15 (hCP : CAPS) (X : CTX p s m args c code 4 R_law D aC (AL s)) (hX : va_X b L xs s s.heap) (hbl : b < s.heap.size) (hj : 4 * j + 4 ≤ L) (hL : L ≤ 2048) (hl : lv_has ls 4 [(0, .ref b), (1, .ref a1), (2, .ref a2), (3, .int (nI (4 * j)))]) (hc : cells ≤ 600000) (hs : slots ≤ 7302250) (hJ : Jt D aC s adc (cH A J pl st) adm (mH M N) H locs) (hI : Inv A pl M N) (h1 : adc 0 = a1) (h2 : adm 0 = a2) (K : ∀ (adc adm : Nat → Nat) (A : Nat → Nat → Int32) (J : Nat → Nat → Int64) (pl st : Bool) (M : Nat → Nat → Int32) (N : Nat → Nat → Int64) (H : Heap) (locs : List Loc), Jt D aC s adc (cH A J pl st) adm (mH M N) H locs → Inv A pl M N → adc 0 = a1 → adm 0 = a2 → W p l e room_1 s m args below meth c H locs cells slots Q (F0 m 623 ls [])) : W p l e room_1 s m args below meth c H locs cells slots Q (F0 m 541 ls []) := by
  have hx := X.1
  have hb := X.2.1
  have hS := hJ.2.2.1
  have hbA : ¬ AL s b := fun z => absurd hbl (Nat.not_lt.mpr z)
  subst h1
  subst h2
  refine lv_aload_n hx hb d_541 rfl (lv_at hl 1 rfl) ?_
  obtain ⟨r, A', J', pl', st', M', N', f1, f2, hI'⟩ := e_tear (J := J) (st := st) hI 
  refine law_V (ad := adc) (as := []) (q := 0) (rest := []) (rc := 11) X (vX11_tear l) nX11_tear sX11_tear ⟨by decide, rfl⟩ (gd_of (i := 784) (by decide +kernel) rfl) ⟨Nat.le_of_ble_eq_true rfl, Nat.le_of_ble_eq_true rfl⟩ rfl f1 d_542 hl.1 (Nat.le_of_ble_eq_true rfl) hc hs hJ nd29 (okS.cons (z78 : 0 < 78) okS.nil) ⟨rfl, z78⟩ ?_
  intro adc' H1 locs1 hJ1 had1 _
  show W p l e room_1 s m args below meth c H1 locs1 cells slots Q (F0 m 545 ls [.int r])
  have hJ2 := hJ1.swap
  have hS1 := hJ2.2.2.1
  refine lv_aload_n hx hb d_545 rfl (lv_at hl 2 rfl) ?_
  refine law_V (ad := adm) (as := []) (q := 0) (rest := [.int r]) (rc := 12) X (vX12_tear l) nX12_tear sX12_tear ⟨by decide, rfl⟩ (gd_of (i := 1174) (by decide +kernel) rfl) ⟨Nat.le_of_ble_eq_true rfl, Nat.le_of_ble_eq_true rfl⟩ rfl f2 d_546 hl.1 (Nat.le_of_ble_eq_true rfl) hc hs hJ2 nd78 (okS.cons (z29 : 0 < 29) okS.nil) ⟨rfl, z29⟩ ?_
  intro adm' H2 locs2 hJ3 had2 _
  show W p l e room_1 s m args below meth c H2 locs2 cells slots Q (F0 m 549 ls [.int r, .int r])
  refine lv_icmp_eq hx hb d_549 (show ((549 : Nat) : Int) + 74 = ((623 : Nat) : Int) from rfl) (fun _ => ?_) (fun z => absurd rfl z)
  exact K adc' adm' A' J' pl' st' M' N' H2 locs2 hJ3.swap hI' (had1 0 z78) (had2 0 z29)
set_option maxHeartbeats 1000000 in
theorem cs_16 (hCP : CAPS) (X : CTX p s m args c code 4 R_law D aC (AL s)) (hX : va_X b L xs s s.heap) (hbl : b < s.heap.size) (hj : 4 * j + 4 ≤ L) (hL : L ≤ 2048) (hl : lv_has ls 4 [(0, .ref b), (1, .ref a1), (2, .ref a2), (3, .int (nI (4 * j)))]) (hc : cells ≤ 600000) (hs : slots ≤ 7302250) (hJ : Jt D aC s adc (cH A J pl st) adm (mH M N) H locs) (hI : Inv A pl M N) (h1 : adc 0 = a1) (h2 : adm 0 = a2) (K : ∀ (adc adm : Nat → Nat) (A : Nat → Nat → Int32) (J : Nat → Nat → Int64) (pl st : Bool) (M : Nat → Nat → Int32) (N : Nat → Nat → Int64) (H : Heap) (locs : List Loc), Jt D aC s adc (cH A J pl st) adm (mH M N) H locs → Inv A pl M N → adc 0 = a1 → adm 0 = a2 → W p l e room_1 s m args below meth c H locs cells slots Q (F0 m 623 ls [])) : W p l e room_1 s m args below meth c H locs cells slots Q (F0 m 554 ls []) := by
  have hx := X.1
  have hb := X.2.1
  have hS := hJ.2.2.1
  have hbA : ¬ AL s b := fun z => absurd hbl (Nat.not_lt.mpr z)
  subst h1
  subst h2
  refine lv_aload_n hx hb d_554 rfl (lv_at hl 1 rfl) ?_
  refine lv_aload_n hx hb d_555 rfl (lv_at hl 0 rfl) ?_
  refine lv_iload_n hx hb d_556 rfl (lv_at hl 3 rfl) ?_
  refine lv_iconst hx hb d_557 (show _ = nI 1 from rfl) ?_
  refine lv_iadd hx hb d_558 ?_
  refine va_sld hx hb hX hbl hbA hS (vin hj hL (by decide)) d_559 ?_
  obtain ⟨r, A', J', pl', st', M', N', f1, f2, hI'⟩ := e_seed (J := J) (st := st) hI (xs (nI (4 * j) + nI 1).toNatClampNeg)
  refine law_V (ad := adc) (as := [.int (xs (nI (4 * j) + nI 1).toNatClampNeg)]) (q := 0) (rest := []) (rc := 11) X (vX11_seed l) nX11_seed sX11_seed ⟨by decide, rfl⟩ (gd_of (i := 788) (by decide +kernel) rfl) ⟨Nat.le_of_ble_eq_true rfl, Nat.le_of_ble_eq_true rfl⟩ rfl f1 d_560 hl.1 (Nat.le_of_ble_eq_true rfl) hc hs hJ nd29 (okS.cons (z78 : 0 < 78) (okS.cons (v := .int _) trivial okS.nil)) ⟨rfl, z78⟩ ?_
  intro adc' H1 locs1 hJ1 had1 _
  show W p l e room_1 s m args below meth c H1 locs1 cells slots Q (F0 m 563 ls [.int r])
  have hJ2 := hJ1.swap
  have hS1 := hJ2.2.2.1
  refine lv_aload_n hx hb d_563 rfl (lv_at hl 2 rfl) ?_
  refine lv_aload_n hx hb d_564 rfl (lv_at hl 0 rfl) ?_
  refine lv_iload_n hx hb d_565 rfl (lv_at hl 3 rfl) ?_
  refine lv_iconst hx hb d_566 (show _ = nI 1 from rfl) ?_
  refine lv_iadd hx hb d_567 ?_
  refine va_sld hx hb hX hbl hbA hS1 (vin hj hL (by decide)) d_568 ?_
  refine law_V (ad := adm) (as := [.int (xs (nI (4 * j) + nI 1).toNatClampNeg)]) (q := 0) (rest := [.int r]) (rc := 12) X (vX12_seed l) nX12_seed sX12_seed ⟨by decide, rfl⟩ (gd_of (i := 1178) (by decide +kernel) rfl) ⟨Nat.le_of_ble_eq_true rfl, Nat.le_of_ble_eq_true rfl⟩ rfl f2 d_569 hl.1 (Nat.le_of_ble_eq_true rfl) hc hs hJ2 nd78 (okS.cons (z29 : 0 < 29) (okS.cons (v := .int _) trivial okS.nil)) ⟨rfl, z29⟩ ?_
  intro adm' H2 locs2 hJ3 had2 _
  show W p l e room_1 s m args below meth c H2 locs2 cells slots Q (F0 m 572 ls [.int r, .int r])
  refine lv_icmp_eq hx hb d_572 (show ((572 : Nat) : Int) + 51 = ((623 : Nat) : Int) from rfl) (fun _ => ?_) (fun z => absurd rfl z)
  exact K adc' adm' A' J' pl' st' M' N' H2 locs2 hJ3.swap hI' (had1 0 z78) (had2 0 z29)
set_option maxHeartbeats 1000000 in
theorem cs_17 (hCP : CAPS) (X : CTX p s m args c code 4 R_law D aC (AL s)) (hX : va_X b L xs s s.heap) (hbl : b < s.heap.size) (hj : 4 * j + 4 ≤ L) (hL : L ≤ 2048) (hl : lv_has ls 4 [(0, .ref b), (1, .ref a1), (2, .ref a2), (3, .int (nI (4 * j)))]) (hc : cells ≤ 600000) (hs : slots ≤ 7302250) (hJ : Jt D aC s adc (cH A J pl st) adm (mH M N) H locs) (hI : Inv A pl M N) (h1 : adc 0 = a1) (h2 : adm 0 = a2) (K : ∀ (adc adm : Nat → Nat) (A : Nat → Nat → Int32) (J : Nat → Nat → Int64) (pl st : Bool) (M : Nat → Nat → Int32) (N : Nat → Nat → Int64) (H : Heap) (locs : List Loc), Jt D aC s adc (cH A J pl st) adm (mH M N) H locs → Inv A pl M N → adc 0 = a1 → adm 0 = a2 → W p l e room_1 s m args below meth c H locs cells slots Q (F0 m 623 ls [])) : W p l e room_1 s m args below meth c H locs cells slots Q (F0 m 577 ls []) := by
  have hx := X.1
  have hb := X.2.1
  have hS := hJ.2.2.1
  have hbA : ¬ AL s b := fun z => absurd hbl (Nat.not_lt.mpr z)
  subst h1
  subst h2
  refine lv_aload_n hx hb d_577 rfl (lv_at hl 1 rfl) ?_
  refine lv_aload_n hx hb d_578 rfl (lv_at hl 0 rfl) ?_
  refine lv_iload_n hx hb d_579 rfl (lv_at hl 3 rfl) ?_
  refine lv_iconst hx hb d_580 (show _ = nI 1 from rfl) ?_
  refine lv_iadd hx hb d_581 ?_
  refine va_sld hx hb hX hbl hbA hS (vin hj hL (by decide)) d_582 ?_
  obtain ⟨r, A', J', pl', st', M', N', f1, f2, hI'⟩ := e_keep (J := J) (st := st) hI (xs (nI (4 * j) + nI 1).toNatClampNeg)
  refine law_V (ad := adc) (as := [.int (xs (nI (4 * j) + nI 1).toNatClampNeg)]) (q := 0) (rest := []) (rc := 11) X (vX11_keep l) nX11_keep sX11_keep ⟨by decide, rfl⟩ (gd_of (i := 792) (by decide +kernel) rfl) ⟨Nat.le_of_ble_eq_true rfl, Nat.le_of_ble_eq_true rfl⟩ rfl f1 d_583 hl.1 (Nat.le_of_ble_eq_true rfl) hc hs hJ nd29 (okS.cons (z78 : 0 < 78) (okS.cons (v := .int _) trivial okS.nil)) ⟨rfl, z78⟩ ?_
  intro adc' H1 locs1 hJ1 had1 _
  show W p l e room_1 s m args below meth c H1 locs1 cells slots Q (F0 m 586 ls [.int r])
  have hJ2 := hJ1.swap
  have hS1 := hJ2.2.2.1
  refine lv_aload_n hx hb d_586 rfl (lv_at hl 2 rfl) ?_
  refine lv_aload_n hx hb d_587 rfl (lv_at hl 0 rfl) ?_
  refine lv_iload_n hx hb d_588 rfl (lv_at hl 3 rfl) ?_
  refine lv_iconst hx hb d_589 (show _ = nI 1 from rfl) ?_
  refine lv_iadd hx hb d_590 ?_
  refine va_sld hx hb hX hbl hbA hS1 (vin hj hL (by decide)) d_591 ?_
  refine law_V (ad := adm) (as := [.int (xs (nI (4 * j) + nI 1).toNatClampNeg)]) (q := 0) (rest := [.int r]) (rc := 12) X (vX12_keep l) nX12_keep sX12_keep ⟨by decide, rfl⟩ (gd_of (i := 1182) (by decide +kernel) rfl) ⟨Nat.le_of_ble_eq_true rfl, Nat.le_of_ble_eq_true rfl⟩ rfl f2 d_592 hl.1 (Nat.le_of_ble_eq_true rfl) hc hs hJ2 nd78 (okS.cons (z29 : 0 < 29) (okS.cons (v := .int _) trivial okS.nil)) ⟨rfl, z29⟩ ?_
  intro adm' H2 locs2 hJ3 had2 _
  show W p l e room_1 s m args below meth c H2 locs2 cells slots Q (F0 m 595 ls [.int r, .int r])
  refine lv_icmp_eq hx hb d_595 (show ((595 : Nat) : Int) + 28 = ((623 : Nat) : Int) from rfl) (fun _ => ?_) (fun z => absurd rfl z)
  exact K adc' adm' A' J' pl' st' M' N' H2 locs2 hJ3.swap hI' (had1 0 z78) (had2 0 z29)
set_option maxHeartbeats 1000000 in
theorem cs_18 (hCP : CAPS) (X : CTX p s m args c code 4 R_law D aC (AL s)) (hX : va_X b L xs s s.heap) (hbl : b < s.heap.size) (hj : 4 * j + 4 ≤ L) (hL : L ≤ 2048) (hl : lv_has ls 4 [(0, .ref b), (1, .ref a1), (2, .ref a2), (3, .int (nI (4 * j)))]) (hc : cells ≤ 600000) (hs : slots ≤ 7302250) (hJ : Jt D aC s adc (cH A J pl st) adm (mH M N) H locs) (hI : Inv A pl M N) (h1 : adc 0 = a1) (h2 : adm 0 = a2) (K : ∀ (adc adm : Nat → Nat) (A : Nat → Nat → Int32) (J : Nat → Nat → Int64) (pl st : Bool) (M : Nat → Nat → Int32) (N : Nat → Nat → Int64) (H : Heap) (locs : List Loc), Jt D aC s adc (cH A J pl st) adm (mH M N) H locs → Inv A pl M N → adc 0 = a1 → adm 0 = a2 → W p l e room_1 s m args below meth c H locs cells slots Q (F0 m 623 ls [])) : W p l e room_1 s m args below meth c H locs cells slots Q (F0 m 600 ls []) := by
  have hx := X.1
  have hb := X.2.1
  have hS := hJ.2.2.1
  have hbA : ¬ AL s b := fun z => absurd hbl (Nat.not_lt.mpr z)
  subst h1
  subst h2
  refine lv_aload_n hx hb d_600 rfl (lv_at hl 1 rfl) ?_
  refine lv_aload_n hx hb d_601 rfl (lv_at hl 0 rfl) ?_
  refine lv_iload_n hx hb d_602 rfl (lv_at hl 3 rfl) ?_
  refine lv_iconst hx hb d_603 (show _ = nI 1 from rfl) ?_
  refine lv_iadd hx hb d_604 ?_
  refine va_sld hx hb hX hbl hbA hS (vin hj hL (by decide)) d_605 ?_
  obtain ⟨r, A', J', pl', st', M', N', f1, f2, hI'⟩ := e_goBack (J := J) (st := st) hI (xs (nI (4 * j) + nI 1).toNatClampNeg)
  refine law_V (ad := adc) (as := [.int (xs (nI (4 * j) + nI 1).toNatClampNeg)]) (q := 0) (rest := []) (rc := 11) X (vX11_goBack l) nX11_goBack sX11_goBack ⟨by decide, rfl⟩ (gd_of (i := 801) (by decide +kernel) rfl) ⟨Nat.le_of_ble_eq_true rfl, Nat.le_of_ble_eq_true rfl⟩ rfl f1 d_606 hl.1 (Nat.le_of_ble_eq_true rfl) hc hs hJ nd29 (okS.cons (z78 : 0 < 78) (okS.cons (v := .int _) trivial okS.nil)) ⟨rfl, z78⟩ ?_
  intro adc' H1 locs1 hJ1 had1 _
  show W p l e room_1 s m args below meth c H1 locs1 cells slots Q (F0 m 609 ls [.int r])
  have hJ2 := hJ1.swap
  have hS1 := hJ2.2.2.1
  refine lv_aload_n hx hb d_609 rfl (lv_at hl 2 rfl) ?_
  refine lv_aload_n hx hb d_610 rfl (lv_at hl 0 rfl) ?_
  refine lv_iload_n hx hb d_611 rfl (lv_at hl 3 rfl) ?_
  refine lv_iconst hx hb d_612 (show _ = nI 1 from rfl) ?_
  refine lv_iadd hx hb d_613 ?_
  refine va_sld hx hb hX hbl hbA hS1 (vin hj hL (by decide)) d_614 ?_
  refine law_V (ad := adm) (as := [.int (xs (nI (4 * j) + nI 1).toNatClampNeg)]) (q := 0) (rest := [.int r]) (rc := 12) X (vX12_goBack l) nX12_goBack sX12_goBack ⟨by decide, rfl⟩ (gd_of (i := 1186) (by decide +kernel) rfl) ⟨Nat.le_of_ble_eq_true rfl, Nat.le_of_ble_eq_true rfl⟩ rfl f2 d_615 hl.1 (Nat.le_of_ble_eq_true rfl) hc hs hJ2 nd78 (okS.cons (z29 : 0 < 29) (okS.cons (v := .int _) trivial okS.nil)) ⟨rfl, z29⟩ ?_
  intro adm' H2 locs2 hJ3 had2 _
  show W p l e room_1 s m args below meth c H2 locs2 cells slots Q (F0 m 618 ls [.int r, .int r])
  refine lv_icmp_eq hx hb d_618 (show ((618 : Nat) : Int) + 5 = ((623 : Nat) : Int) from rfl) (fun _ => ?_) (fun z => absurd rfl z)
  exact K adc' adm' A' J' pl' st' M' N' H2 locs2 hJ3.swap hI' (had1 0 z78) (had2 0 z29)
end LCS
