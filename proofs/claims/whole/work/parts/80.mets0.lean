/-! EACH METHOD'S CONTRACT out of its data and its callees' (by program) -/
def uchk : List Cond → List Nat → Bool
  | [], _ => true
  | w :: r, i :: is => decide (lw_tbl[i]? = some w) && goodWord w && uchk r is
  | _ :: _, [] => false
theorem uchk_ok : ∀ {l : List Cond} {is : List Nat}, uchk l is = true → ∀ w ∈ l, w ∈ gdW := by
  intro l
  induction l with
  | nil => intro is _ w h; exact absurd h List.not_mem_nil
  | cons q r ih =>
    intro is h w hm
    cases is with
    | nil => cases h
    | cons i is =>
      unfold uchk at h
      simp only [Bool.and_eq_true, decide_eq_true_eq] at h
      rcases List.mem_cons.mp hm with z | z
      · subst z; exact gd_of h.1.1 h.1.2
      · exact ih h.2 w z
theorem uX0 : uchk (u_ws RX0 TX0 3) [269, 271, 273] = true := by decide +kernel
theorem uX1 : uchk (u_ws RX1 TX1 3) [230, 232, 234] = true := by decide +kernel
theorem uX2 : uchk (u_ws RX2 TX2 3) [252, 254, 256] = true := by decide +kernel
theorem uX3 : uchk (u_ws RX3 TX3 2) [187, 189] = true := by decide +kernel
theorem uX4 : uchk (u_ws RX4 TX4 7) [289, 291, 293, 295, 297, 299, 301] = true := by decide +kernel
theorem uX5 : uchk (u_ws RX5 TX5 3) [118, 120, 122] = true := by decide +kernel
theorem uX6 : uchk (u_ws RX6 TX6 6) [145, 147, 149, 151, 153, 155] = true := by decide +kernel
theorem uX7 : uchk (u_ws RX7 TX7 2) [314, 316] = true := by decide +kernel
theorem uX8 : uchk (u_ws RX8 TX8 4) [169, 171, 173, 175] = true := by decide +kernel
theorem uX9 : uchk (u_ws RX9 TX9 3) [210, 212, 214] = true := by decide +kernel
theorem uX10 : uchk (u_ws RX10 TX10 2) [102, 104] = true := by decide +kernel
theorem uX11 : uchk (u_ws RX11 TX11 19) [338, 340, 342, 344, 346, 348, 350, 352, 354, 356, 358, 360, 362, 364, 366, 368, 370, 372, 374] = true := by decide +kernel
theorem uX12 : uchk (u_ws RX12 TX12 45) [898, 900, 902, 904, 906, 908, 910, 912, 914, 916, 918, 920, 922, 924, 926, 928, 930, 932, 934, 936, 938, 940, 942, 944, 946, 948, 950, 952, 954, 956, 958, 960, 962, 964, 966, 968, 970, 972, 974, 976, 978, 980, 982, 984, 986] = true := by decide +kernel
theorem cokg (args : Array Value) (s : State) (h : ∀ w ∈ gdW, w.before args s = true) : COK args s := by
  refine ⟨h, fun ci hci => ?_, h _ (gd_of (i := 107) (by decide +kernel) rfl), h _ (gd_of (i := 989) (by decide +kernel) rfl), h _ (gd_of (i := 304) (by decide +kernel) rfl)⟩
  match ci, hci with
  | 0, _ => exact ⟨uchk_ok uX0, h _ (gd_of (i := 260) (by decide +kernel) rfl), h _ (gd_of (i := 78) (by decide +kernel) rfl)⟩
  | 1, _ => exact ⟨uchk_ok uX1, h _ (gd_of (i := 218) (by decide +kernel) rfl), h _ (gd_of (i := 76) (by decide +kernel) rfl)⟩
  | 2, _ => exact ⟨uchk_ok uX2, h _ (gd_of (i := 239) (by decide +kernel) rfl), h _ (gd_of (i := 77) (by decide +kernel) rfl)⟩
  | 3, _ => exact ⟨uchk_ok uX3, h _ (gd_of (i := 179) (by decide +kernel) rfl), h _ (gd_of (i := 73) (by decide +kernel) rfl)⟩
  | 4, _ => exact ⟨uchk_ok uX4, h _ (gd_of (i := 277) (by decide +kernel) rfl), h _ (gd_of (i := 79) (by decide +kernel) rfl)⟩
  | 5, _ => exact ⟨uchk_ok uX5, h _ (gd_of (i := 109) (by decide +kernel) rfl), h _ (gd_of (i := 70) (by decide +kernel) rfl)⟩
  | 6, _ => exact ⟨uchk_ok uX6, h _ (gd_of (i := 126) (by decide +kernel) rfl), h _ (gd_of (i := 71) (by decide +kernel) rfl)⟩
  | 7, _ => exact ⟨uchk_ok uX7, h _ (gd_of (i := 306) (by decide +kernel) rfl), h _ (gd_of (i := 80) (by decide +kernel) rfl)⟩
  | 8, _ => exact ⟨uchk_ok uX8, h _ (gd_of (i := 159) (by decide +kernel) rfl), h _ (gd_of (i := 72) (by decide +kernel) rfl)⟩
  | 9, _ => exact ⟨uchk_ok uX9, h _ (gd_of (i := 193) (by decide +kernel) rfl), h _ (gd_of (i := 74) (by decide +kernel) rfl)⟩
  | 10, _ => exact ⟨uchk_ok uX10, h _ (gd_of (i := 93) (by decide +kernel) rfl), h _ (gd_of (i := 69) (by decide +kernel) rfl)⟩
  | 11, _ => exact ⟨uchk_ok uX11, h _ (gd_of (i := 85) (by decide +kernel) rfl), h _ (gd_of (i := 68) (by decide +kernel) rfl)⟩
  | 12, _ => exact ⟨uchk_ok uX12, h _ (gd_of (i := 807) (by decide +kernel) rfl), h _ (gd_of (i := 81) (by decide +kernel) rfl)⟩
  | k + 13, hci => omega
theorem objI : Cond.instanceMethod Lib.objectInit ∈ gdW ∧ Cond.code Lib.objectInit ⟨#[0xb1]⟩ 1 none ∈ gdW := ⟨gd_of (i := 90) (by decide +kernel) rfl, gd_of (i := 91) (by decide +kernel) rfl⟩
theorem nX0_init : MNO yX0_init cX0_init 1 none 0 := ⟨gd_of (i := 263) (by decide +kernel) rfl, gd_of (i := 78) (by decide +kernel) rfl, by decide +kernel, by decide +kernel⟩
theorem sX0_init : Cond.instanceMethod yX0_init ∈ gdW ∧ yX0_init.name = "<init>" := ⟨gd_of (i := 262) (by decide +kernel) rfl, rfl⟩
theorem kX0_init : MCK yX0_init.cls cX0_init mX0_init true := ⟨by unfold dchk; decide +kernel, [265, 266, 267], [(9, 265)], [], [], by decide +kernel, by decide +kernel, by decide +kernel, by decide +kernel⟩
theorem vX0_init (l : Launch) : MetM l yX0_init cX0_init 1 none 1 22 1 20 fX0_init := metM_of true nX0_init rfl kX0_init (fun _ => rfl) cokg (fun p e s m args below meth c D aC A ad0 N0 X => List.forall_mem_cons.mpr ⟨clk_O X objI (gd_of (i := 264) (by decide +kernel) rfl) ⟨Nat.le_of_ble_eq_true rfl, Nat.le_of_ble_eq_true rfl⟩, fun _ h => absurd h List.not_mem_nil⟩)
theorem nX0_clear : MNO yX0_clear cX0_clear 1 none 0 := ⟨gd_of (i := 503) (by decide +kernel) rfl, gd_of (i := 78) (by decide +kernel) rfl, by decide +kernel, by decide +kernel⟩
theorem sX0_clear : Cond.instanceMethod yX0_clear ∈ gdW ∧ Cond.selects yX0_clear.cls yX0_clear yX0_clear ∈ gdW := ⟨gd_of (i := 501) (by decide +kernel) rfl, gd_of (i := 502) (by decide +kernel) rfl⟩
theorem kX0_clear : MCK yX0_clear.cls cX0_clear mX0_clear false := ⟨by unfold dchk; decide +kernel, [266, 267], [], [], [], by decide +kernel, by decide +kernel, by decide +kernel, by decide +kernel⟩
theorem vX0_clear (l : Launch) : MetM l yX0_clear cX0_clear 1 none 0 0 0 0 fX0_clear := metM_of false nX0_clear rfl kX0_clear (fun h => by cases h) cokg (fun p e s m args below meth c D aC A ad0 N0 X => fun _ h => absurd h List.not_mem_nil)
theorem nX0_add : MNO yX0_add cX0_add 3 (some .boolean) 2 := ⟨gd_of (i := 783) (by decide +kernel) rfl, gd_of (i := 78) (by decide +kernel) rfl, by decide +kernel, by decide +kernel⟩
theorem sX0_add : Cond.instanceMethod yX0_add ∈ gdW ∧ Cond.selects yX0_add.cls yX0_add yX0_add ∈ gdW := ⟨gd_of (i := 781) (by decide +kernel) rfl, gd_of (i := 782) (by decide +kernel) rfl⟩
theorem kX0_add : MCK yX0_add.cls cX0_add mX0_add false := ⟨by unfold dchk; decide +kernel, [265, 266, 267], [], [], [], by decide +kernel, by decide +kernel, by decide +kernel, by decide +kernel⟩
theorem vX0_add (l : Launch) : MetM l yX0_add cX0_add 3 (some .boolean) 0 0 0 0 fX0_add := metM_of false nX0_add rfl kX0_add (fun h => by cases h) cokg (fun p e s m args below meth c D aC A ad0 N0 X => fun _ h => absurd h List.not_mem_nil)
theorem nX7_at : MNO yX7_at cX7_at 2 (some .int) 1 := ⟨gd_of (i := 594) (by decide +kernel) rfl, gd_of (i := 80) (by decide +kernel) rfl, by decide +kernel, by decide +kernel⟩
theorem sX7_at : Cond.instanceMethod yX7_at ∈ gdW ∧ Cond.selects yX7_at.cls yX7_at yX7_at ∈ gdW := ⟨gd_of (i := 592) (by decide +kernel) rfl, gd_of (i := 593) (by decide +kernel) rfl⟩
theorem kX7_at : MCK yX7_at.cls cX7_at mX7_at false := ⟨by unfold dchk; decide +kernel, [311, 312], [], [], [], by decide +kernel, by decide +kernel, by decide +kernel, by decide +kernel⟩
theorem vX7_at (l : Launch) : MetM l yX7_at cX7_at 2 (some .int) 0 0 0 0 fX7_at := metM_of false nX7_at rfl kX7_at (fun h => by cases h) cokg (fun p e s m args below meth c D aC A ad0 N0 X => fun _ h => absurd h List.not_mem_nil)
theorem nX7_placeOf : MNO yX7_placeOf cX7_placeOf 6 (some .int) 1 := ⟨gd_of (i := 590) (by decide +kernel) rfl, gd_of (i := 80) (by decide +kernel) rfl, by decide +kernel, by decide +kernel⟩
theorem sX7_placeOf : Cond.instanceMethod yX7_placeOf ∈ gdW ∧ Cond.selects yX7_placeOf.cls yX7_placeOf yX7_placeOf ∈ gdW := ⟨gd_of (i := 589) (by decide +kernel) rfl, gd_of (i := 18) (by decide +kernel) rfl⟩
theorem kX7_placeOf : MCK yX7_placeOf.cls cX7_placeOf mX7_placeOf false := ⟨by unfold dchk; decide +kernel, [312], [], [], [], by decide +kernel, by decide +kernel, by decide +kernel, by decide +kernel⟩
theorem vX7_placeOf (l : Launch) : MetM l yX7_placeOf cX7_placeOf 6 (some .int) 1 21 0 0 fX7_placeOf := metM_of false nX7_placeOf rfl kX7_placeOf (fun h => by cases h) cokg (fun p e s m args below meth c D aC A ad0 N0 X => List.forall_mem_cons.mpr ⟨clk_V X (vX7_at l) nX7_at sX7_at ⟨by decide, rfl⟩ (gd_of (i := 591) (by decide +kernel) rfl) ⟨Nat.le_of_ble_eq_true rfl, Nat.le_of_ble_eq_true rfl⟩, fun _ h => absurd h List.not_mem_nil⟩)
theorem nX7_holds : MNO yX7_holds cX7_holds 2 (some .boolean) 1 := ⟨gd_of (i := 606) (by decide +kernel) rfl, gd_of (i := 80) (by decide +kernel) rfl, by decide +kernel, by decide +kernel⟩
theorem sX7_holds : Cond.instanceMethod yX7_holds ∈ gdW ∧ Cond.selects yX7_holds.cls yX7_holds yX7_holds ∈ gdW := ⟨gd_of (i := 604) (by decide +kernel) rfl, gd_of (i := 605) (by decide +kernel) rfl⟩
theorem kX7_holds : MCK yX7_holds.cls cX7_holds mX7_holds false := ⟨by unfold dchk; decide +kernel, [], [], [], [], by decide +kernel, by decide +kernel, by decide +kernel, by decide +kernel⟩
theorem vX7_holds (l : Launch) : MetM l yX7_holds cX7_holds 2 (some .boolean) 2 46 0 0 fX7_holds := metM_of false nX7_holds rfl kX7_holds (fun h => by cases h) cokg (fun p e s m args below meth c D aC A ad0 N0 X => List.forall_mem_cons.mpr ⟨clk_V X (vX7_placeOf l) nX7_placeOf sX7_placeOf ⟨by decide, rfl⟩ (gd_of (i := 587) (by decide +kernel) rfl) ⟨Nat.le_of_ble_eq_true rfl, Nat.le_of_ble_eq_true rfl⟩, List.forall_mem_cons.mpr ⟨clk_V X (vX7_at l) nX7_at sX7_at ⟨by decide, rfl⟩ (gd_of (i := 591) (by decide +kernel) rfl) ⟨Nat.le_of_ble_eq_true rfl, Nat.le_of_ble_eq_true rfl⟩, fun _ h => absurd h List.not_mem_nil⟩⟩)
theorem nX11_has : MNO yX11_has cX11_has 2 (some .boolean) 2 := ⟨gd_of (i := 518) (by decide +kernel) rfl, gd_of (i := 68) (by decide +kernel) rfl, by decide +kernel, by decide +kernel⟩
theorem sX11_has : Cond.static yX11_has ∈ gdW := gd_of (i := 517) (by decide +kernel) rfl
theorem kX11_has : MCK yX11_has.cls cX11_has mX11_has false := ⟨by unfold dchk; decide +kernel, [], [], [], [], by decide +kernel, by decide +kernel, by decide +kernel, by decide +kernel⟩
theorem vX11_has (l : Launch) : MetM l yX11_has cX11_has 2 (some .boolean) 0 0 0 0 fX11_has := metM_of false nX11_has rfl kX11_has (fun h => by cases h) cokg (fun p e s m args below meth c D aC A ad0 N0 X => fun _ h => absurd h List.not_mem_nil)
theorem nX0_firstWrong : MNO yX0_firstWrong cX0_firstWrong 3 (some .int) 1 := ⟨gd_of (i := 661) (by decide +kernel) rfl, gd_of (i := 78) (by decide +kernel) rfl, by decide +kernel, by decide +kernel⟩
theorem sX0_firstWrong : Cond.instanceMethod yX0_firstWrong ∈ gdW ∧ Cond.selects yX0_firstWrong.cls yX0_firstWrong yX0_firstWrong ∈ gdW := ⟨gd_of (i := 659) (by decide +kernel) rfl, gd_of (i := 660) (by decide +kernel) rfl⟩
theorem kX0_firstWrong : MCK yX0_firstWrong.cls cX0_firstWrong mX0_firstWrong false := ⟨by unfold dchk; decide +kernel, [265, 266, 267], [], [], [], by decide +kernel, by decide +kernel, by decide +kernel, by decide +kernel⟩
theorem vX0_firstWrong (l : Launch) : MetM l yX0_firstWrong cX0_firstWrong 3 (some .int) 3 67 0 0 fX0_firstWrong := metM_of false nX0_firstWrong rfl kX0_firstWrong (fun h => by cases h) cokg (fun p e s m args below meth c D aC A ad0 N0 X => List.forall_mem_cons.mpr ⟨clk_V X (vX7_holds l) nX7_holds sX7_holds ⟨by decide, rfl⟩ (gd_of (i := 662) (by decide +kernel) rfl) ⟨Nat.le_of_ble_eq_true rfl, Nat.le_of_ble_eq_true rfl⟩, List.forall_mem_cons.mpr ⟨clk_SN X (vX11_has l) nX11_has sX11_has (ns_of (i := 663) (by decide +kernel) rfl) ⟨Nat.le_of_ble_eq_true rfl, Nat.le_of_ble_eq_true rfl⟩, fun _ h => absurd h List.not_mem_nil⟩⟩)
theorem nJ7_fill_53178 : MNO yJ7_fill_53178 cJ7_fill_53178 4 none 2 := ⟨gd_of (i := 204) (by decide +kernel) rfl, gd_of (i := 75) (by decide +kernel) rfl, by decide +kernel, by decide +kernel⟩
theorem sJ7_fill_53178 : Cond.static yJ7_fill_53178 ∈ gdW := gd_of (i := 203) (by decide +kernel) rfl
theorem kJ7_fill_53178 : MCK yJ7_fill_53178.cls cJ7_fill_53178 mJ7_fill_53178 false := ⟨by unfold dchk; decide +kernel, [], [], [], [], by decide +kernel, by decide +kernel, by decide +kernel, by decide +kernel⟩
theorem vJ7_fill_53178 (l : Launch) : MetM l yJ7_fill_53178 cJ7_fill_53178 4 none 0 0 0 0 fJ7_fill_53178 := metM_of false nJ7_fill_53178 rfl kJ7_fill_53178 (fun h => by cases h) cokg (fun p e s m args below meth c D aC A ad0 N0 X => fun _ h => absurd h List.not_mem_nil)
theorem nX9_clear : MNO yX9_clear cX9_clear 1 none 0 := ⟨gd_of (i := 201) (by decide +kernel) rfl, gd_of (i := 74) (by decide +kernel) rfl, by decide +kernel, by decide +kernel⟩
theorem sX9_clear : Cond.instanceMethod yX9_clear ∈ gdW ∧ Cond.selects yX9_clear.cls yX9_clear yX9_clear ∈ gdW := ⟨gd_of (i := 199) (by decide +kernel) rfl, gd_of (i := 200) (by decide +kernel) rfl⟩
theorem kX9_clear : MCK yX9_clear.cls cX9_clear mX9_clear false := ⟨by unfold dchk; decide +kernel, [205, 206, 208], [], [], [], by decide +kernel, by decide +kernel, by decide +kernel, by decide +kernel⟩
theorem vX9_clear (l : Launch) : MetM l yX9_clear cX9_clear 1 none 1 23 0 0 fX9_clear := metM_of false nX9_clear rfl kX9_clear (fun h => by cases h) cokg (fun p e s m args below meth c D aC A ad0 N0 X => List.forall_mem_cons.mpr ⟨clk_S X (vJ7_fill_53178 l) nJ7_fill_53178 sJ7_fill_53178 (gd_of (i := 202) (by decide +kernel) rfl) ⟨Nat.le_of_ble_eq_true rfl, Nat.le_of_ble_eq_true rfl⟩, fun _ h => absurd h List.not_mem_nil⟩)
theorem nX9_init : MNO yX9_init cX9_init 1 none 0 := ⟨gd_of (i := 196) (by decide +kernel) rfl, gd_of (i := 74) (by decide +kernel) rfl, by decide +kernel, by decide +kernel⟩
theorem sX9_init : Cond.instanceMethod yX9_init ∈ gdW ∧ yX9_init.name = "<init>" := ⟨gd_of (i := 195) (by decide +kernel) rfl, rfl⟩
theorem kX9_init : MCK yX9_init.cls cX9_init mX9_init true := ⟨by unfold dchk; decide +kernel, [205], [(9, 205)], [], [], by decide +kernel, by decide +kernel, by decide +kernel, by decide +kernel⟩
theorem vX9_init (l : Launch) : MetM l yX9_init cX9_init 1 none 2 43 1 8 fX9_init := metM_of true nX9_init rfl kX9_init (fun _ => rfl) cokg (fun p e s m args below meth c D aC A ad0 N0 X => List.forall_mem_cons.mpr ⟨clk_O X objI (gd_of (i := 197) (by decide +kernel) rfl) ⟨Nat.le_of_ble_eq_true rfl, Nat.le_of_ble_eq_true rfl⟩, List.forall_mem_cons.mpr ⟨clk_V X (vX9_clear l) nX9_clear sX9_clear ⟨by decide, rfl⟩ (gd_of (i := 198) (by decide +kernel) rfl) ⟨Nat.le_of_ble_eq_true rfl, Nat.le_of_ble_eq_true rfl⟩, fun _ h => absurd h List.not_mem_nil⟩⟩)
theorem nX1_init : MNO yX1_init cX1_init 2 none 0 := ⟨gd_of (i := 221) (by decide +kernel) rfl, gd_of (i := 76) (by decide +kernel) rfl, by decide +kernel, by decide +kernel⟩
theorem sX1_init : Cond.instanceMethod yX1_init ∈ gdW ∧ yX1_init.name = "<init>" := ⟨gd_of (i := 220) (by decide +kernel) rfl, rfl⟩
theorem kX1_init : MCK yX1_init.cls cX1_init mX1_init true := ⟨by unfold dchk; decide +kernel, [226, 227, 228], [(11, 226)], [], [223], by decide +kernel, by decide +kernel, by decide +kernel, by decide +kernel⟩
theorem vX1_init (l : Launch) : MetM l yX1_init cX1_init 2 none 3 63 41 240 fX1_init := metM_of true nX1_init rfl kX1_init (fun _ => rfl) cokg (fun p e s m args below meth c D aC A ad0 N0 X => List.forall_mem_cons.mpr ⟨clk_O X objI (gd_of (i := 222) (by decide +kernel) rfl) ⟨Nat.le_of_ble_eq_true rfl, Nat.le_of_ble_eq_true rfl⟩, List.forall_mem_cons.mpr ⟨clk_I X (vX9_init l) nX9_init sX9_init (gd_of (i := 225) (by decide +kernel) rfl) ⟨Nat.le_of_ble_eq_true rfl, Nat.le_of_ble_eq_true rfl⟩, fun _ h => absurd h List.not_mem_nil⟩⟩)
theorem nX1_clear : MNO yX1_clear cX1_clear 1 none 0 := ⟨gd_of (i := 499) (by decide +kernel) rfl, gd_of (i := 76) (by decide +kernel) rfl, by decide +kernel, by decide +kernel⟩
theorem sX1_clear : Cond.instanceMethod yX1_clear ∈ gdW ∧ Cond.selects yX1_clear.cls yX1_clear yX1_clear ∈ gdW := ⟨gd_of (i := 497) (by decide +kernel) rfl, gd_of (i := 498) (by decide +kernel) rfl⟩
theorem kX1_clear : MCK yX1_clear.cls cX1_clear mX1_clear false := ⟨by unfold dchk; decide +kernel, [227, 228], [], [], [], by decide +kernel, by decide +kernel, by decide +kernel, by decide +kernel⟩
theorem vX1_clear (l : Launch) : MetM l yX1_clear cX1_clear 1 none 0 0 0 0 fX1_clear := metM_of false nX1_clear rfl kX1_clear (fun h => by cases h) cokg (fun p e s m args below meth c D aC A ad0 N0 X => fun _ h => absurd h List.not_mem_nil)
theorem fmI : Cond.static fmy ∈ gdW ∧ Cond.initialized "java/lang/Math" ∈ gdW ∧ Cond.code fmy fmc 3 (some .int) ∈ gdW := ⟨gd_of (i := 724) (by decide +kernel) rfl, gd_of (i := 83) (by decide +kernel) rfl, gd_of (i := 725) (by decide +kernel) rfl⟩
theorem nX1_settingAt : MNO yX1_settingAt cX1_settingAt 3 (some (.object "FenceWays$Setting")) 1 := ⟨gd_of (i := 722) (by decide +kernel) rfl, gd_of (i := 76) (by decide +kernel) rfl, by decide +kernel, by decide +kernel⟩
theorem sX1_settingAt : Cond.instanceMethod yX1_settingAt ∈ gdW ∧ Cond.selects yX1_settingAt.cls yX1_settingAt yX1_settingAt ∈ gdW := ⟨gd_of (i := 721) (by decide +kernel) rfl, gd_of (i := 24) (by decide +kernel) rfl⟩
theorem kX1_settingAt : MCK yX1_settingAt.cls cX1_settingAt mX1_settingAt false := ⟨by unfold dchk; decide +kernel, [226, 227], [], [], [], by decide +kernel, by decide +kernel, by decide +kernel, by decide +kernel⟩
theorem vX1_settingAt (l : Launch) : MetM l yX1_settingAt cX1_settingAt 3 (some (.object "FenceWays$Setting")) 1 22 0 0 fX1_settingAt := metM_of false nX1_settingAt ⟨_, rfl⟩ kX1_settingAt (fun h => by cases h) cokg (fun p e s m args below meth c D aC A ad0 N0 X => List.forall_mem_cons.mpr ⟨clk_F X fmI (gd_of (i := 723) (by decide +kernel) rfl) ⟨Nat.le_of_ble_eq_true rfl, Nat.le_of_ble_eq_true rfl⟩, fun _ h => absurd h List.not_mem_nil⟩)
theorem nX9_costOf : MNO yX9_costOf cX9_costOf 2 (some .int) 1 := ⟨gd_of (i := 681) (by decide +kernel) rfl, gd_of (i := 74) (by decide +kernel) rfl, by decide +kernel, by decide +kernel⟩
theorem sX9_costOf : Cond.instanceMethod yX9_costOf ∈ gdW ∧ Cond.selects yX9_costOf.cls yX9_costOf yX9_costOf ∈ gdW := ⟨gd_of (i := 679) (by decide +kernel) rfl, gd_of (i := 680) (by decide +kernel) rfl⟩
theorem kX9_costOf : MCK yX9_costOf.cls cX9_costOf mX9_costOf false := ⟨by unfold dchk; decide +kernel, [205], [], [], [], by decide +kernel, by decide +kernel, by decide +kernel, by decide +kernel⟩
theorem vX9_costOf (l : Launch) : MetM l yX9_costOf cX9_costOf 2 (some .int) 0 0 0 0 fX9_costOf := metM_of false nX9_costOf rfl kX9_costOf (fun h => by cases h) cokg (fun p e s m args below meth c D aC A ad0 N0 X => fun _ h => absurd h List.not_mem_nil)
theorem nX9_copy : MNO yX9_copy cX9_copy 3 none 1 := ⟨gd_of (i := 729) (by decide +kernel) rfl, gd_of (i := 74) (by decide +kernel) rfl, by decide +kernel, by decide +kernel⟩
theorem sX9_copy : Cond.instanceMethod yX9_copy ∈ gdW ∧ Cond.selects yX9_copy.cls yX9_copy yX9_copy ∈ gdW := ⟨gd_of (i := 727) (by decide +kernel) rfl, gd_of (i := 728) (by decide +kernel) rfl⟩
theorem kX9_copy : MCK yX9_copy.cls cX9_copy mX9_copy false := ⟨by unfold dchk; decide +kernel, [205, 206, 208], [], [], [], by decide +kernel, by decide +kernel, by decide +kernel, by decide +kernel⟩
theorem vX9_copy (l : Launch) : MetM l yX9_copy cX9_copy 3 none 1 21 0 0 fX9_copy := metM_of false nX9_copy rfl kX9_copy (fun h => by cases h) cokg (fun p e s m args below meth c D aC A ad0 N0 X => List.forall_mem_cons.mpr ⟨clk_V X (vX9_costOf l) nX9_costOf sX9_costOf ⟨by decide, rfl⟩ (gd_of (i := 730) (by decide +kernel) rfl) ⟨Nat.le_of_ble_eq_true rfl, Nat.le_of_ble_eq_true rfl⟩, fun _ h => absurd h List.not_mem_nil⟩)
theorem nX1_add : MNO yX1_add cX1_add 2 none 1 := ⟨gd_of (i := 718) (by decide +kernel) rfl, gd_of (i := 76) (by decide +kernel) rfl, by decide +kernel, by decide +kernel⟩
theorem sX1_add : Cond.instanceMethod yX1_add ∈ gdW ∧ Cond.selects yX1_add.cls yX1_add yX1_add ∈ gdW := ⟨gd_of (i := 716) (by decide +kernel) rfl, gd_of (i := 717) (by decide +kernel) rfl⟩
theorem kX1_add : MCK yX1_add.cls cX1_add mX1_add false := ⟨by unfold dchk; decide +kernel, [227, 228], [], [], [], by decide +kernel, by decide +kernel, by decide +kernel, by decide +kernel⟩
theorem vX1_add (l : Launch) : MetM l yX1_add cX1_add 2 none 2 44 0 0 fX1_add := metM_of false nX1_add rfl kX1_add (fun h => by cases h) cokg (fun p e s m args below meth c D aC A ad0 N0 X => List.forall_mem_cons.mpr ⟨clk_V X (vX1_settingAt l) nX1_settingAt sX1_settingAt ⟨by decide, rfl⟩ (gd_of (i := 719) (by decide +kernel) rfl) ⟨Nat.le_of_ble_eq_true rfl, Nat.le_of_ble_eq_true rfl⟩, List.forall_mem_cons.mpr ⟨clk_V X (vX9_copy l) nX9_copy sX9_copy ⟨by decide, rfl⟩ (gd_of (i := 726) (by decide +kernel) rfl) ⟨Nat.le_of_ble_eq_true rfl, Nat.le_of_ble_eq_true rfl⟩, fun _ h => absurd h List.not_mem_nil⟩⟩)
theorem nX1_takeBack : MNO yX1_takeBack cX1_takeBack 3 none 2 := ⟨gd_of (i := 774) (by decide +kernel) rfl, gd_of (i := 76) (by decide +kernel) rfl, by decide +kernel, by decide +kernel⟩
theorem sX1_takeBack : Cond.instanceMethod yX1_takeBack ∈ gdW ∧ Cond.selects yX1_takeBack.cls yX1_takeBack yX1_takeBack ∈ gdW := ⟨gd_of (i := 772) (by decide +kernel) rfl, gd_of (i := 773) (by decide +kernel) rfl⟩
theorem kX1_takeBack : MCK yX1_takeBack.cls cX1_takeBack mX1_takeBack false := ⟨by unfold dchk; decide +kernel, [228], [], [], [], by decide +kernel, by decide +kernel, by decide +kernel, by decide +kernel⟩
theorem vX1_takeBack (l : Launch) : MetM l yX1_takeBack cX1_takeBack 3 none 2 44 0 0 fX1_takeBack := metM_of false nX1_takeBack rfl kX1_takeBack (fun h => by cases h) cokg (fun p e s m args below meth c D aC A ad0 N0 X => List.forall_mem_cons.mpr ⟨clk_V X (vX1_settingAt l) nX1_settingAt sX1_settingAt ⟨by decide, rfl⟩ (gd_of (i := 719) (by decide +kernel) rfl) ⟨Nat.le_of_ble_eq_true rfl, Nat.le_of_ble_eq_true rfl⟩, List.forall_mem_cons.mpr ⟨clk_V X (vX9_copy l) nX9_copy sX9_copy ⟨by decide, rfl⟩ (gd_of (i := 726) (by decide +kernel) rfl) ⟨Nat.le_of_ble_eq_true rfl, Nat.le_of_ble_eq_true rfl⟩, fun _ h => absurd h List.not_mem_nil⟩⟩)
theorem nX2_init : MNO yX2_init cX2_init 1 none 0 := ⟨gd_of (i := 242) (by decide +kernel) rfl, gd_of (i := 77) (by decide +kernel) rfl, by decide +kernel, by decide +kernel⟩
theorem sX2_init : Cond.instanceMethod yX2_init ∈ gdW ∧ yX2_init.name = "<init>" := ⟨gd_of (i := 241) (by decide +kernel) rfl, rfl⟩
theorem kX2_init : MCK yX2_init.cls cX2_init mX2_init true := ⟨by unfold dchk; decide +kernel, [246, 248, 250], [(10, 246)], [], [244], by decide +kernel, by decide +kernel, by decide +kernel, by decide +kernel⟩
theorem vX2_init (l : Launch) : MetM l yX2_init cX2_init 1 none 3 63 2 11 fX2_init := metM_of true nX2_init rfl kX2_init (fun _ => rfl) cokg (fun p e s m args below meth c D aC A ad0 N0 X => List.forall_mem_cons.mpr ⟨clk_O X objI (gd_of (i := 243) (by decide +kernel) rfl) ⟨Nat.le_of_ble_eq_true rfl, Nat.le_of_ble_eq_true rfl⟩, List.forall_mem_cons.mpr ⟨clk_I X (vX9_init l) nX9_init sX9_init (gd_of (i := 245) (by decide +kernel) rfl) ⟨Nat.le_of_ble_eq_true rfl, Nat.le_of_ble_eq_true rfl⟩, fun _ h => absurd h List.not_mem_nil⟩⟩)
theorem nX2_hold : MNO yX2_hold cX2_hold 3 none 2 := ⟨gd_of (i := 799) (by decide +kernel) rfl, gd_of (i := 77) (by decide +kernel) rfl, by decide +kernel, by decide +kernel⟩
theorem sX2_hold : Cond.instanceMethod yX2_hold ∈ gdW ∧ Cond.selects yX2_hold.cls yX2_hold yX2_hold ∈ gdW := ⟨gd_of (i := 797) (by decide +kernel) rfl, gd_of (i := 798) (by decide +kernel) rfl⟩
theorem kX2_hold : MCK yX2_hold.cls cX2_hold mX2_hold false := ⟨by unfold dchk; decide +kernel, [246, 248, 250], [], [], [], by decide +kernel, by decide +kernel, by decide +kernel, by decide +kernel⟩
theorem vX2_hold (l : Launch) : MetM l yX2_hold cX2_hold 3 none 2 43 0 0 fX2_hold := metM_of false nX2_hold rfl kX2_hold (fun h => by cases h) cokg (fun p e s m args below meth c D aC A ad0 N0 X => List.forall_mem_cons.mpr ⟨clk_V X (vX9_copy l) nX9_copy sX9_copy ⟨by decide, rfl⟩ (gd_of (i := 800) (by decide +kernel) rfl) ⟨Nat.le_of_ble_eq_true rfl, Nat.le_of_ble_eq_true rfl⟩, fun _ h => absurd h List.not_mem_nil⟩)
theorem nX3_init : MNO yX3_init cX3_init 1 none 0 := ⟨gd_of (i := 182) (by decide +kernel) rfl, gd_of (i := 73) (by decide +kernel) rfl, by decide +kernel, by decide +kernel⟩
theorem sX3_init : Cond.instanceMethod yX3_init ∈ gdW ∧ yX3_init.name = "<init>" := ⟨gd_of (i := 181) (by decide +kernel) rfl, rfl⟩
theorem kX3_init : MCK yX3_init.cls cX3_init mX3_init true := ⟨by unfold dchk; decide +kernel, [184, 185], [(9, 184)], [], [], by decide +kernel, by decide +kernel, by decide +kernel, by decide +kernel⟩
theorem vX3_init (l : Launch) : MetM l yX3_init cX3_init 1 none 1 22 1 28 fX3_init := metM_of true nX3_init rfl kX3_init (fun _ => rfl) cokg (fun p e s m args below meth c D aC A ad0 N0 X => List.forall_mem_cons.mpr ⟨clk_O X objI (gd_of (i := 183) (by decide +kernel) rfl) ⟨Nat.le_of_ble_eq_true rfl, Nat.le_of_ble_eq_true rfl⟩, fun _ h => absurd h List.not_mem_nil⟩)
theorem nX8_giftOf : MNO yX8_giftOf cX8_giftOf 2 (some .int) 2 := ⟨gd_of (i := 450) (by decide +kernel) rfl, gd_of (i := 72) (by decide +kernel) rfl, by decide +kernel, by decide +kernel⟩
theorem sX8_giftOf : Cond.static yX8_giftOf ∈ gdW := gd_of (i := 449) (by decide +kernel) rfl
theorem kX8_giftOf : MCK yX8_giftOf.cls cX8_giftOf mX8_giftOf false := ⟨by unfold dchk; decide +kernel, [], [], [], [], by decide +kernel, by decide +kernel, by decide +kernel, by decide +kernel⟩
theorem vX8_giftOf (l : Launch) : MetM l yX8_giftOf cX8_giftOf 2 (some .int) 0 0 0 0 fX8_giftOf := metM_of false nX8_giftOf rfl kX8_giftOf (fun h => by cases h) cokg (fun p e s m args below meth c D aC A ad0 N0 X => fun _ h => absurd h List.not_mem_nil)
theorem nX8_countWith : MNO yX8_countWith cX8_countWith 4 (some .int) 2 := ⟨gd_of (i := 618) (by decide +kernel) rfl, gd_of (i := 72) (by decide +kernel) rfl, by decide +kernel, by decide +kernel⟩
theorem sX8_countWith : Cond.instanceMethod yX8_countWith ∈ gdW ∧ Cond.selects yX8_countWith.cls yX8_countWith yX8_countWith ∈ gdW := ⟨gd_of (i := 616) (by decide +kernel) rfl, gd_of (i := 617) (by decide +kernel) rfl⟩
theorem kX8_countWith : MCK yX8_countWith.cls cX8_countWith mX8_countWith false := ⟨by unfold dchk; decide +kernel, [165], [], [], [], by decide +kernel, by decide +kernel, by decide +kernel, by decide +kernel⟩
theorem vX8_countWith (l : Launch) : MetM l yX8_countWith cX8_countWith 4 (some .int) 1 21 0 0 fX8_countWith := metM_of false nX8_countWith rfl kX8_countWith (fun h => by cases h) cokg (fun p e s m args below meth c D aC A ad0 N0 X => List.forall_mem_cons.mpr ⟨clk_S X (vX8_giftOf l) nX8_giftOf sX8_giftOf (gd_of (i := 448) (by decide +kernel) rfl) ⟨Nat.le_of_ble_eq_true rfl, Nat.le_of_ble_eq_true rfl⟩, fun _ h => absurd h List.not_mem_nil⟩)
theorem nX6_cellOf : MNO yX6_cellOf cX6_cellOf 2 (some .int) 1 := ⟨gd_of (i := 462) (by decide +kernel) rfl, gd_of (i := 71) (by decide +kernel) rfl, by decide +kernel, by decide +kernel⟩
theorem sX6_cellOf : Cond.instanceMethod yX6_cellOf ∈ gdW ∧ Cond.selects yX6_cellOf.cls yX6_cellOf yX6_cellOf ∈ gdW := ⟨gd_of (i := 460) (by decide +kernel) rfl, gd_of (i := 461) (by decide +kernel) rfl⟩
theorem kX6_cellOf : MCK yX6_cellOf.cls cX6_cellOf mX6_cellOf false := ⟨by unfold dchk; decide +kernel, [132], [], [], [], by decide +kernel, by decide +kernel, by decide +kernel, by decide +kernel⟩
theorem vX6_cellOf (l : Launch) : MetM l yX6_cellOf cX6_cellOf 2 (some .int) 0 0 0 0 fX6_cellOf := metM_of false nX6_cellOf rfl kX6_cellOf (fun h => by cases h) cokg (fun p e s m args below meth c D aC A ad0 N0 X => fun _ h => absurd h List.not_mem_nil)
theorem nX6_isWriter : MNO yX6_isWriter cX6_isWriter 2 (some .boolean) 1 := ⟨gd_of (i := 447) (by decide +kernel) rfl, gd_of (i := 71) (by decide +kernel) rfl, by decide +kernel, by decide +kernel⟩
theorem sX6_isWriter : Cond.instanceMethod yX6_isWriter ∈ gdW ∧ Cond.selects yX6_isWriter.cls yX6_isWriter yX6_isWriter ∈ gdW := ⟨gd_of (i := 445) (by decide +kernel) rfl, gd_of (i := 446) (by decide +kernel) rfl⟩
theorem kX6_isWriter : MCK yX6_isWriter.cls cX6_isWriter mX6_isWriter false := ⟨by unfold dchk; decide +kernel, [142], [], [], [], by decide +kernel, by decide +kernel, by decide +kernel, by decide +kernel⟩
theorem vX6_isWriter (l : Launch) : MetM l yX6_isWriter cX6_isWriter 2 (some .boolean) 0 0 0 0 fX6_isWriter := metM_of false nX6_isWriter rfl kX6_isWriter (fun h => by cases h) cokg (fun p e s m args below meth c D aC A ad0 N0 X => fun _ h => absurd h List.not_mem_nil)
theorem nX6_kindOf : MNO yX6_kindOf cX6_kindOf 3 (some .int) 2 := ⟨gd_of (i := 551) (by decide +kernel) rfl, gd_of (i := 71) (by decide +kernel) rfl, by decide +kernel, by decide +kernel⟩
theorem sX6_kindOf : Cond.instanceMethod yX6_kindOf ∈ gdW ∧ Cond.selects yX6_kindOf.cls yX6_kindOf yX6_kindOf ∈ gdW := ⟨gd_of (i := 550) (by decide +kernel) rfl, gd_of (i := 12) (by decide +kernel) rfl⟩
theorem kX6_kindOf : MCK yX6_kindOf.cls cX6_kindOf mX6_kindOf false := ⟨by unfold dchk; decide +kernel, [], [], [], [], by decide +kernel, by decide +kernel, by decide +kernel, by decide +kernel⟩
theorem vX6_kindOf (l : Launch) : MetM l yX6_kindOf cX6_kindOf 3 (some .int) 1 21 0 0 fX6_kindOf := metM_of false nX6_kindOf rfl kX6_kindOf (fun h => by cases h) cokg (fun p e s m args below meth c D aC A ad0 N0 X => List.forall_mem_cons.mpr ⟨clk_V X (vX6_isWriter l) nX6_isWriter sX6_isWriter ⟨by decide, rfl⟩ (gd_of (i := 487) (by decide +kernel) rfl) ⟨Nat.le_of_ble_eq_true rfl, Nat.le_of_ble_eq_true rfl⟩, fun _ h => absurd h List.not_mem_nil⟩)
theorem nX6_mayOvertake : MNO yX6_mayOvertake cX6_mayOvertake 4 (some .boolean) 3 := ⟨gd_of (i := 547) (by decide +kernel) rfl, gd_of (i := 71) (by decide +kernel) rfl, by decide +kernel, by decide +kernel⟩
theorem sX6_mayOvertake : Cond.instanceMethod yX6_mayOvertake ∈ gdW ∧ Cond.selects yX6_mayOvertake.cls yX6_mayOvertake yX6_mayOvertake ∈ gdW := ⟨gd_of (i := 545) (by decide +kernel) rfl, gd_of (i := 546) (by decide +kernel) rfl⟩
theorem kX6_mayOvertake : MCK yX6_mayOvertake.cls cX6_mayOvertake mX6_mayOvertake false := ⟨by unfold dchk; decide +kernel, [], [], [], [], by decide +kernel, by decide +kernel, by decide +kernel, by decide +kernel⟩
theorem vX6_mayOvertake (l : Launch) : MetM l yX6_mayOvertake cX6_mayOvertake 4 (some .boolean) 2 43 0 0 fX6_mayOvertake := metM_of false nX6_mayOvertake rfl kX6_mayOvertake (fun h => by cases h) cokg (fun p e s m args below meth c D aC A ad0 N0 X => List.forall_mem_cons.mpr ⟨clk_SN X (vX11_has l) nX11_has sX11_has (ns_of (i := 552) (by decide +kernel) rfl) ⟨Nat.le_of_ble_eq_true rfl, Nat.le_of_ble_eq_true rfl⟩, List.forall_mem_cons.mpr ⟨clk_V X (vX6_cellOf l) nX6_cellOf sX6_cellOf ⟨by decide, rfl⟩ (gd_of (i := 486) (by decide +kernel) rfl) ⟨Nat.le_of_ble_eq_true rfl, Nat.le_of_ble_eq_true rfl⟩, List.forall_mem_cons.mpr ⟨clk_V X (vX6_kindOf l) nX6_kindOf sX6_kindOf ⟨by decide, rfl⟩ (gd_of (i := 548) (by decide +kernel) rfl) ⟨Nat.le_of_ble_eq_true rfl, Nat.le_of_ble_eq_true rfl⟩, fun _ h => absurd h List.not_mem_nil⟩⟩⟩)
theorem nX11_gapsBetween : MNO yX11_gapsBetween cX11_gapsBetween 4 (some .int) 2 := ⟨gd_of (i := 542) (by decide +kernel) rfl, gd_of (i := 68) (by decide +kernel) rfl, by decide +kernel, by decide +kernel⟩
theorem sX11_gapsBetween : Cond.static yX11_gapsBetween ∈ gdW := gd_of (i := 541) (by decide +kernel) rfl
theorem kX11_gapsBetween : MCK yX11_gapsBetween.cls cX11_gapsBetween mX11_gapsBetween false := ⟨by unfold dchk; decide +kernel, [], [], [], [], by decide +kernel, by decide +kernel, by decide +kernel, by decide +kernel⟩
theorem vX11_gapsBetween (l : Launch) : MetM l yX11_gapsBetween cX11_gapsBetween 4 (some .int) 0 0 0 0 fX11_gapsBetween := metM_of false nX11_gapsBetween rfl kX11_gapsBetween (fun h => by cases h) cokg (fun p e s m args below meth c D aC A ad0 N0 X => fun _ h => absurd h List.not_mem_nil)
theorem nX3_add : MNO yX3_add cX3_add 2 none 1 := ⟨gd_of (i := 624) (by decide +kernel) rfl, gd_of (i := 73) (by decide +kernel) rfl, by decide +kernel, by decide +kernel⟩
theorem sX3_add : Cond.instanceMethod yX3_add ∈ gdW ∧ Cond.selects yX3_add.cls yX3_add yX3_add ∈ gdW := ⟨gd_of (i := 623) (by decide +kernel) rfl, gd_of (i := 21) (by decide +kernel) rfl⟩
theorem kX3_add : MCK yX3_add.cls cX3_add mX3_add false := ⟨by unfold dchk; decide +kernel, [184, 185], [], [], [], by decide +kernel, by decide +kernel, by decide +kernel, by decide +kernel⟩
theorem vX3_add (l : Launch) : MetM l yX3_add cX3_add 2 none 0 0 0 0 fX3_add := metM_of false nX3_add rfl kX3_add (fun h => by cases h) cokg (fun p e s m args below meth c D aC A ad0 N0 X => fun _ h => absurd h List.not_mem_nil)
