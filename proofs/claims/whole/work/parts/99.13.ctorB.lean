theorem zm_X11 : Cond.instanceMethod yX11_init ∈ wU := wU_mem (List.mem_append_right _ (List.mem_append_left _ (List.mem_of_getElem? (l := tables_1_1) (i := 25) (by decide +kernel)))) (by decide +kernel)
theorem zd_X11 : Cond.code yX11_init cX11_init 1 none ∈ wU := wU_mem (List.mem_append_right _ (List.mem_append_left _ (List.mem_of_getElem? (l := tables_1_1) (i := 26) (by decide +kernel)))) (by decide +kernel)
theorem zo_X11 : Cond.methodLink RX11 3 objectInit ∈ wU := wU_mem (List.mem_append_right _ (List.mem_append_left _ (List.mem_of_getElem? (l := tables_1_1) (i := 27) (by decide +kernel)))) (by decide +kernel)
theorem zc_X11_9 : Cond.classLink RX11 9 RX8 ∈ wU := wU_mem (List.mem_append_right _ (List.mem_append_left _ (List.mem_of_getElem? (l := tables_1_1) (i := 30) (by decide +kernel)))) (by decide +kernel)
theorem zi_8 : Cond.instantiable RX8 (nF 8) ∈ wU := wU_mem (List.mem_append_right _ (List.mem_append_left _ (List.mem_of_getElem? (l := tables_1_1) (i := 31) (by decide +kernel)))) (by decide +kernel)
theorem zw_X11_9 : Kw RX11 9 8 [.null, .int 0, .int 0, .int 0, .int 0, .int 0, .int 0] := ⟨RX8, TX8, tyX8, rfl, uw_8, tyX8_ok, zc_X11_9, zi_8, in_X8, fun j hj => by
  have hj : j < 7 := hj
  match j, hj with
  | 0, _ => rfl
  | 1, _ => rfl
  | 2, _ => rfl
  | 3, _ => rfl
  | 4, _ => rfl
  | 5, _ => rfl
  | 6, _ => rfl
  | j + 7, hj => omega⟩
theorem zk_X11_12 : Cond.fieldLink RX11 12 (TX11 0).1 (TX11 0).2.1 (TX11 0).2.2.1 ∈ wU := wU_mem (List.mem_append_right _ (List.mem_append_right _ (List.mem_append_left _ (List.mem_of_getElem? (l := tables_1_2) (i := 176) (by decide +kernel))))) (by decide +kernel)
theorem zf_X11_12 : Fc RX11 12 11 0 (.object "LaughDrum$Scanner") := ⟨RX11, TX11, tyX11, rfl, Nat.le_of_ble_eq_true rfl, uw_11, zk_X11_12, tyX11_ok, nmX11, rfl, by decide +kernel⟩
theorem zc_X11_18 : Cond.classLink RX11 18 RX7 ∈ wU := wU_mem (List.mem_append_right _ (List.mem_append_left _ (List.mem_of_getElem? (l := tables_1_1) (i := 65) (by decide +kernel)))) (by decide +kernel)
theorem zi_7 : Cond.instantiable RX7 (nF 7) ∈ wU := wU_mem (List.mem_append_right _ (List.mem_append_left _ (List.mem_of_getElem? (l := tables_1_1) (i := 66) (by decide +kernel)))) (by decide +kernel)
theorem zw_X11_18 : Kw RX11 18 7 [.null, .null, .null, .int 0, .int 0] := ⟨RX7, TX7, tyX7, rfl, uw_7, tyX7_ok, zc_X11_18, zi_7, in_X7, fun j hj => by
  have hj : j < 5 := hj
  match j, hj with
  | 0, _ => rfl
  | 1, _ => rfl
  | 2, _ => rfl
  | 3, _ => rfl
  | 4, _ => rfl
  | j + 5, hj => omega⟩
theorem zg_X11_12 : Fl RX11 12 11 0 := ⟨RX11, TX11, rfl, Nat.le_of_ble_eq_true rfl, Nat.le_of_ble_eq_true rfl, uw_11, zk_X11_12⟩
theorem zl_X11_20 : Cond.methodLink RX11 20 yX7_init ∈ wU := wU_mem (List.mem_append_right _ (List.mem_append_left _ (List.mem_of_getElem? (l := tables_1_1) (i := 67) (by decide +kernel)))) (by decide +kernel)
theorem zk_X11_23 : Cond.fieldLink RX11 23 (TX11 1).1 (TX11 1).2.1 (TX11 1).2.2.1 ∈ wU := wU_mem (List.mem_append_right _ (List.mem_append_right _ (List.mem_append_left _ (List.mem_of_getElem? (l := tables_1_2) (i := 177) (by decide +kernel))))) (by decide +kernel)
theorem zf_X11_23 : Fc RX11 23 11 1 (.object "LaughDrum$Reader") := ⟨RX11, TX11, tyX11, rfl, Nat.le_of_ble_eq_true rfl, uw_11, zk_X11_23, tyX11_ok, nmX11, rfl, by decide +kernel⟩
theorem zc_X11_27 : Cond.classLink RX11 27 RX9 ∈ wU := wU_mem (List.mem_append_right _ (List.mem_append_left _ (List.mem_of_getElem? (l := tables_1_1) (i := 124) (by decide +kernel)))) (by decide +kernel)
theorem zi_9 : Cond.instantiable RX9 (nF 9) ∈ wU := wU_mem (List.mem_append_right _ (List.mem_append_left _ (List.mem_of_getElem? (l := tables_1_1) (i := 125) (by decide +kernel)))) (by decide +kernel)
theorem zw_X11_27 : Kw RX11 27 9 [.null, .int 0, .int 0, .int 0, .int 0] := ⟨RX9, TX9, tyX9, rfl, uw_9, tyX9_ok, zc_X11_27, zi_9, in_X9, fun j hj => by
  have hj : j < 5 := hj
  match j, hj with
  | 0, _ => rfl
  | 1, _ => rfl
  | 2, _ => rfl
  | 3, _ => rfl
  | 4, _ => rfl
  | j + 5, hj => omega⟩
theorem zl_X11_29 : Cond.methodLink RX11 29 yX9_init ∈ wU := wU_mem (List.mem_append_right _ (List.mem_append_left _ (List.mem_of_getElem? (l := tables_1_1) (i := 126) (by decide +kernel)))) (by decide +kernel)
theorem zk_X11_30 : Cond.fieldLink RX11 30 (TX11 2).1 (TX11 2).2.1 (TX11 2).2.2.1 ∈ wU := wU_mem (List.mem_append_right _ (List.mem_append_right _ (List.mem_append_left _ (List.mem_of_getElem? (l := tables_1_2) (i := 178) (by decide +kernel))))) (by decide +kernel)
theorem zf_X11_30 : Fc RX11 30 11 2 (.object "LaughDrum$Shelf") := ⟨RX11, TX11, tyX11, rfl, Nat.le_of_ble_eq_true rfl, uw_11, zk_X11_30, tyX11_ok, nmX11, rfl, by decide +kernel⟩
theorem zk_X11_34 : Cond.fieldLink RX11 34 (TX11 3).1 (TX11 3).2.1 (TX11 3).2.2.1 ∈ wU := wU_mem (List.mem_append_right _ (List.mem_append_right _ (List.mem_append_left _ (List.mem_of_getElem? (l := tables_1_2) (i := 179) (by decide +kernel))))) (by decide +kernel)
theorem zf_X11_34 : Fc RX11 34 11 3 (.object "LaughDrum$Shelf") := ⟨RX11, TX11, tyX11, rfl, Nat.le_of_ble_eq_true rfl, uw_11, zk_X11_34, tyX11_ok, nmX11, rfl, by decide +kernel⟩
theorem zc_X11_37 : Cond.classLink RX11 37 RX1 ∈ wU := wU_mem (List.mem_append_right _ (List.mem_append_left _ (List.mem_of_getElem? (l := tables_1_1) (i := 223) (by decide +kernel)))) (by decide +kernel)
theorem zi_1 : Cond.instantiable RX1 (nF 1) ∈ wU := wU_mem (List.mem_append_right _ (List.mem_append_left _ (List.mem_of_getElem? (l := tables_1_1) (i := 224) (by decide +kernel)))) (by decide +kernel)
theorem zw_X11_37 : Kw RX11 37 1 [.null, .null, .null, .null, .int 0] := ⟨RX1, TX1, tyX1, rfl, uw_1, tyX1_ok, zc_X11_37, zi_1, in_X1, fun j hj => by
  have hj : j < 5 := hj
  match j, hj with
  | 0, _ => rfl
  | 1, _ => rfl
  | 2, _ => rfl
  | 3, _ => rfl
  | 4, _ => rfl
  | j + 5, hj => omega⟩
theorem zk_X11_40 : Cond.fieldLink RX11 40 (TX11 4).1 (TX11 4).2.1 (TX11 4).2.2.1 ∈ wU := wU_mem (List.mem_append_right _ (List.mem_append_right _ (List.mem_append_left _ (List.mem_of_getElem? (l := tables_1_2) (i := 180) (by decide +kernel))))) (by decide +kernel)
theorem zf_X11_40 : Fc RX11 40 11 4 (.object "LaughDrum$Changes") := ⟨RX11, TX11, tyX11, rfl, Nat.le_of_ble_eq_true rfl, uw_11, zk_X11_40, tyX11_ok, nmX11, rfl, by decide +kernel⟩
theorem zc_X11_44 : Cond.classLink RX11 44 RX3 ∈ wU := wU_mem (List.mem_append_right _ (List.mem_append_right _ (List.mem_append_left _ (List.mem_of_getElem? (l := tables_1_2) (i := 7) (by decide +kernel))))) (by decide +kernel)
theorem zi_3 : Cond.instantiable RX3 (nF 3) ∈ wU := wU_mem (List.mem_append_right _ (List.mem_append_right _ (List.mem_append_left _ (List.mem_of_getElem? (l := tables_1_2) (i := 8) (by decide +kernel))))) (by decide +kernel)
theorem zw_X11_44 : Kw RX11 44 3 [.null, .null, .null, .null, .null, .int 0, .int 0] := ⟨RX3, TX3, tyX3, rfl, uw_3, tyX3_ok, zc_X11_44, zi_3, in_X3, fun j hj => by
  have hj : j < 7 := hj
  match j, hj with
  | 0, _ => rfl
  | 1, _ => rfl
  | 2, _ => rfl
  | 3, _ => rfl
  | 4, _ => rfl
  | 5, _ => rfl
  | 6, _ => rfl
  | j + 7, hj => omega⟩
theorem zk_X11_47 : Cond.fieldLink RX11 47 (TX11 5).1 (TX11 5).2.1 (TX11 5).2.2.1 ∈ wU := wU_mem (List.mem_append_right _ (List.mem_append_right _ (List.mem_append_left _ (List.mem_of_getElem? (l := tables_1_2) (i := 181) (by decide +kernel))))) (by decide +kernel)
theorem zf_X11_47 : Fc RX11 47 11 5 (.object "LaughDrum$Findings") := ⟨RX11, TX11, tyX11, rfl, Nat.le_of_ble_eq_true rfl, uw_11, zk_X11_47, tyX11_ok, nmX11, rfl, by decide +kernel⟩
theorem zc_X11_51 : Cond.classLink RX11 51 RX2 ∈ wU := wU_mem (List.mem_append_right _ (List.mem_append_right _ (List.mem_append_left _ (List.mem_of_getElem? (l := tables_1_2) (i := 37) (by decide +kernel))))) (by decide +kernel)
theorem zi_2 : Cond.instantiable RX2 (nF 2) ∈ wU := wU_mem (List.mem_append_right _ (List.mem_append_right _ (List.mem_append_left _ (List.mem_of_getElem? (l := tables_1_2) (i := 38) (by decide +kernel))))) (by decide +kernel)
theorem zw_X11_51 : Kw RX11 51 2 [.null] := ⟨RX2, TX2, tyX2, rfl, uw_2, tyX2_ok, zc_X11_51, zi_2, in_X2, fun j hj => by
  have hj : j < 1 := hj
  match j, hj with
  | 0, _ => rfl
  | j + 1, hj => omega⟩
theorem zk_X11_54 : Cond.fieldLink RX11 54 (TX11 6).1 (TX11 6).2.1 (TX11 6).2.2.1 ∈ wU := wU_mem (List.mem_append_right _ (List.mem_append_right _ (List.mem_append_left _ (List.mem_of_getElem? (l := tables_1_2) (i := 182) (by decide +kernel))))) (by decide +kernel)
theorem zf_X11_54 : Fc RX11 54 11 6 (.object "LaughDrum$Ear") := ⟨RX11, TX11, tyX11, rfl, Nat.le_of_ble_eq_true rfl, uw_11, zk_X11_54, tyX11_ok, nmX11, rfl, by decide +kernel⟩
theorem zc_X11_58 : Cond.classLink RX11 58 RX6 ∈ wU := wU_mem (List.mem_append_right _ (List.mem_append_right _ (List.mem_append_left _ (List.mem_of_getElem? (l := tables_1_2) (i := 47) (by decide +kernel))))) (by decide +kernel)
theorem zi_6 : Cond.instantiable RX6 (nF 6) ∈ wU := wU_mem (List.mem_append_right _ (List.mem_append_right _ (List.mem_append_left _ (List.mem_of_getElem? (l := tables_1_2) (i := 48) (by decide +kernel))))) (by decide +kernel)
theorem zw_X11_58 : Kw RX11 58 6 [.null, .null, .null, .int 0] := ⟨RX6, TX6, tyX6, rfl, uw_6, tyX6_ok, zc_X11_58, zi_6, in_X6, fun j hj => by
  have hj : j < 4 := hj
  match j, hj with
  | 0, _ => rfl
  | 1, _ => rfl
  | 2, _ => rfl
  | 3, _ => rfl
  | j + 4, hj => omega⟩
theorem zk_X11_61 : Cond.fieldLink RX11 61 (TX11 7).1 (TX11 7).2.1 (TX11 7).2.2.1 ∈ wU := wU_mem (List.mem_append_right _ (List.mem_append_right _ (List.mem_append_left _ (List.mem_of_getElem? (l := tables_1_2) (i := 183) (by decide +kernel))))) (by decide +kernel)
theorem zf_X11_61 : Fc RX11 61 11 7 (.object "LaughDrum$Orders") := ⟨RX11, TX11, tyX11, rfl, Nat.le_of_ble_eq_true rfl, uw_11, zk_X11_61, tyX11_ok, nmX11, rfl, by decide +kernel⟩
theorem zc_X11_65 : Cond.classLink RX11 65 RX0 ∈ wU := wU_mem (List.mem_append_right _ (List.mem_append_right _ (List.mem_append_left _ (List.mem_of_getElem? (l := tables_1_2) (i := 68) (by decide +kernel))))) (by decide +kernel)
theorem zw_X11_65 : Kw RX11 65 0 [.null, .int 0, .int 0, .int 0, .int 0, .int 0, .int 0, .int 0, .int 0, .int 0, .int 0] := ⟨RX0, TX0, tyX0, rfl, uw_0, tyX0_ok, zc_X11_65, zi_0, in_X0, fun j hj => by
  have hj : j < 11 := hj
  match j, hj with
  | 0, _ => rfl
  | 1, _ => rfl
  | 2, _ => rfl
  | 3, _ => rfl
  | 4, _ => rfl
  | 5, _ => rfl
  | 6, _ => rfl
  | 7, _ => rfl
  | 8, _ => rfl
  | 9, _ => rfl
  | 10, _ => rfl
  | j + 11, hj => omega⟩
theorem zk_X11_68 : Cond.fieldLink RX11 68 (TX11 8).1 (TX11 8).2.1 (TX11 8).2.2.1 ∈ wU := wU_mem (List.mem_append_right _ (List.mem_append_right _ (List.mem_append_left _ (List.mem_of_getElem? (l := tables_1_2) (i := 184) (by decide +kernel))))) (by decide +kernel)
theorem zf_X11_68 : Fc RX11 68 11 8 (.object "LaughDrum$Box") := ⟨RX11, TX11, tyX11, rfl, Nat.le_of_ble_eq_true rfl, uw_11, zk_X11_68, tyX11_ok, nmX11, rfl, by decide +kernel⟩
theorem zk_X11_72 : Cond.fieldLink RX11 72 (TX11 9).1 (TX11 9).2.1 (TX11 9).2.2.1 ∈ wU := wU_mem (List.mem_append_right _ (List.mem_append_right _ (List.mem_append_left _ (List.mem_of_getElem? (l := tables_1_2) (i := 185) (by decide +kernel))))) (by decide +kernel)
theorem zf_X11_72 : Fc RX11 72 11 9 (.array .int) := ⟨RX11, TX11, tyX11, rfl, Nat.le_of_ble_eq_true rfl, uw_11, zk_X11_72, tyX11_ok, nmX11, rfl, by decide +kernel⟩
theorem zk_X11_76 : Cond.fieldLink RX11 76 (TX11 10).1 (TX11 10).2.1 (TX11 10).2.2.1 ∈ wU := wU_mem (List.mem_append_right _ (List.mem_append_right _ (List.mem_append_left _ (List.mem_of_getElem? (l := tables_1_2) (i := 186) (by decide +kernel))))) (by decide +kernel)
theorem zf_X11_76 : Fc RX11 76 11 10 (.array .int) := ⟨RX11, TX11, tyX11, rfl, Nat.le_of_ble_eq_true rfl, uw_11, zk_X11_76, tyX11_ok, nmX11, rfl, by decide +kernel⟩
theorem zc_X11_79 : Cond.classLink RX11 79 RX10 ∈ wU := wU_mem (List.mem_append_right _ (List.mem_append_right _ (List.mem_append_left _ (List.mem_of_getElem? (l := tables_1_2) (i := 70) (by decide +kernel))))) (by decide +kernel)
theorem zi_10 : Cond.instantiable RX10 (nF 10) ∈ wU := wU_mem (List.mem_append_right _ (List.mem_append_right _ (List.mem_append_left _ (List.mem_of_getElem? (l := tables_1_2) (i := 71) (by decide +kernel))))) (by decide +kernel)
theorem zw_X11_79 : Kw RX11 79 10 [.null, .null, .null, .null, .null, .int 0, .int 0, .int 0, .int 0, .int 0, .int 0, .int 0, .int 0, .int 0] := ⟨RX10, TX10, tyX10, rfl, uw_10, tyX10_ok, zc_X11_79, zi_10, in_X10, fun j hj => by
  have hj : j < 14 := hj
  match j, hj with
  | 0, _ => rfl
  | 1, _ => rfl
  | 2, _ => rfl
  | 3, _ => rfl
  | 4, _ => rfl
  | 5, _ => rfl
  | 6, _ => rfl
  | 7, _ => rfl
  | 8, _ => rfl
  | 9, _ => rfl
  | 10, _ => rfl
  | 11, _ => rfl
  | 12, _ => rfl
  | 13, _ => rfl
  | j + 14, hj => omega⟩
theorem zl_X11_81 : Cond.methodLink RX11 81 yX10_init ∈ wU := wU_mem (List.mem_append_right _ (List.mem_append_right _ (List.mem_append_left _ (List.mem_of_getElem? (l := tables_1_2) (i := 72) (by decide +kernel))))) (by decide +kernel)
theorem zk_X11_82 : Cond.fieldLink RX11 82 (TX11 11).1 (TX11 11).2.1 (TX11 11).2.2.1 ∈ wU := wU_mem (List.mem_append_right _ (List.mem_append_right _ (List.mem_append_left _ (List.mem_of_getElem? (l := tables_1_2) (i := 187) (by decide +kernel))))) (by decide +kernel)
theorem zf_X11_82 : Fc RX11 82 11 11 (.object "LaughDrum$Tale") := ⟨RX11, TX11, tyX11, rfl, Nat.le_of_ble_eq_true rfl, uw_11, zk_X11_82, tyX11_ok, nmX11, rfl, by decide +kernel⟩
theorem zk_X11_86 : Cond.fieldLink RX11 86 (TX11 12).1 (TX11 12).2.1 (TX11 12).2.2.1 ∈ wU := wU_mem (List.mem_append_right _ (List.mem_append_right _ (List.mem_append_left _ (List.mem_of_getElem? (l := tables_1_2) (i := 188) (by decide +kernel))))) (by decide +kernel)
theorem zf_X11_86 : Fc RX11 86 11 12 (.object "LaughDrum$Tale") := ⟨RX11, TX11, tyX11, rfl, Nat.le_of_ble_eq_true rfl, uw_11, zk_X11_86, tyX11_ok, nmX11, rfl, by decide +kernel⟩
theorem zk_X11_89 : Cond.fieldLink RX11 89 (TX11 13).1 (TX11 13).2.1 (TX11 13).2.2.1 ∈ wU := wU_mem (List.mem_append_right _ (List.mem_append_right _ (List.mem_append_left _ (List.mem_of_getElem? (l := tables_1_2) (i := 189) (by decide +kernel))))) (by decide +kernel)
theorem zf_X11_89 : Fc RX11 89 11 13 .boolean := ⟨RX11, TX11, tyX11, rfl, Nat.le_of_ble_eq_true rfl, uw_11, zk_X11_89, tyX11_ok, nmX11, rfl, by decide +kernel⟩
set_option maxRecDepth 100000 in
set_option maxHeartbeats 4000000 in
theorem cc_X11 (l : Launch) (h0 : Nat) : CC l yX11_init cX11_init 1 ({ frames := 3, cells := 100, slots := 2492, locals := 54 } : Room) 100 2492 [(h0, .inr (11, [.null, .null, .null, .null, .null, .null, .null, .null, .null, .null, .null, .null, .null, .int 0]))] [.ref h0] (fun cy w => ∃ ad : Nat → Nat, ad 0 = h0 ∧ w = wd ΛC ad cy c0) := by
  refine CC.of RX11 rfl rfl (by decide) (Nat.le_of_ble_eq_true rfl) (fun cy x C => ?_)
  refine n_aload C dX11_init_0 rfl (q := 0) rfl ?_
  refine n_obj C dX11_init_1 zo_X11 zo_im zo_cd (Nat.le_of_ble_eq_true rfl) (Nat.le_of_ble_eq_true rfl) ?_
  refine n_aload C dX11_init_4 rfl (q := 0) rfl ?_
  refine n_new C dX11_init_5 zw_X11_9 (Nat.le_of_ble_eq_true rfl) (Nat.le_of_ble_eq_true rfl) (fun q1 => ?_)
  refine n_dup C dX11_init_8 rfl ?_
  refine n_callN (As := []) (n := 0) (mc := 1) (ms := 700) C dX11_init_9 (by decide +kernel) zm_X8 in_X8 zd_X8 rfl (by decide +kernel) ⟨rfl, rfl⟩ ⟨Nat.le_of_ble_eq_true rfl, Nat.le_of_ble_eq_true rfl⟩ ⟨Nat.le_of_ble_eq_true rfl, Nat.le_of_ble_eq_true rfl⟩ rfl rfl (Nat.le_of_ble_eq_true rfl) (cc_X8 l q1) (fun w2 hw3 => ?_)
  obtain ⟨q4, rfl⟩ := hw3
  refine n_put (q0 := 0) (ws' := [(h0, .inr (11, [.ref q1, .null, .null, .null, .null, .null, .null, .null, .null, .null, .null, .null, .null, .int 0])), (q1, .inr (8, [.ref q4, .int 0, .int 0, .int 0, .int 0, .int 0, .int 0])), (q4, .inl (cy 0, 700, .inl (fun _ => 0)))]) C dX11_init_12 zf_X11_12 rfl rfl rfl (Nat.le_of_ble_eq_true rfl) rfl ?_
  refine n_aload C dX11_init_15 rfl (q := 0) rfl ?_
  refine n_new C dX11_init_16 zw_X11_18 (Nat.le_of_ble_eq_true rfl) (Nat.le_of_ble_eq_true rfl) (fun q5 => ?_)
  refine n_dup C dX11_init_19 rfl ?_
  refine n_aload C dX11_init_20 rfl (q := 0) rfl ?_
  refine n_get (q0 := 0) C dX11_init_21 zg_X11_12 rfl rfl ?_
  refine n_call (As := [.ref q1]) (n := 1) (mc := 2) (ms := 81) C dX11_init_24 zl_X11_20 zm_X7 in_X7 zd_X7 rfl (by decide +kernel) ⟨rfl, rfl⟩ ⟨Nat.le_of_ble_eq_true rfl, Nat.le_of_ble_eq_true rfl⟩ ⟨Nat.le_of_ble_eq_true rfl, Nat.le_of_ble_eq_true rfl⟩ rfl rfl (Nat.le_of_ble_eq_true rfl) (cc_X7 l q5 q1) (fun w6 hw7 => ?_)
  obtain ⟨q8, q9, rfl⟩ := hw7
  refine n_put (q0 := 0) (ws' := [(h0, .inr (11, [.ref q1, .ref q5, .null, .null, .null, .null, .null, .null, .null, .null, .null, .null, .null, .int 0])), (q1, .inr (8, [.ref q4, .int 0, .int 0, .int 0, .int 0, .int 0, .int 0])), (q4, .inl (cy 0, 700, .inl (fun _ => 0))), (q5, .inr (7, [.ref q1, .ref q8, .null, .int 0, .int (-1)])), (q8, .inr (4, [.ref q1, .ref q9, .null, .int 0, .int 0, .int 0, .int 0, .int 0, .int 0])), (q9, .inl (cy 1, 72, .inl (fun _ => 0)))]) C dX11_init_27 zf_X11_23 rfl rfl rfl (Nat.le_of_ble_eq_true rfl) rfl ?_
  refine n_aload C dX11_init_30 rfl (q := 0) rfl ?_
  refine n_new C dX11_init_31 zw_X11_27 (Nat.le_of_ble_eq_true rfl) (Nat.le_of_ble_eq_true rfl) (fun q10 => ?_)
  refine n_dup C dX11_init_34 rfl ?_
  refine n_call (As := []) (n := 0) (mc := 13) (ms := 120) C dX11_init_35 zl_X11_29 zm_X9 in_X9 zd_X9 rfl (by decide +kernel) ⟨rfl, rfl⟩ ⟨Nat.le_of_ble_eq_true rfl, Nat.le_of_ble_eq_true rfl⟩ ⟨Nat.le_of_ble_eq_true rfl, Nat.le_of_ble_eq_true rfl⟩ rfl rfl (Nat.le_of_ble_eq_true rfl) (cc_X9 l q10) (fun w11 hw12 => ?_)
  obtain ⟨ad13, rfl, rfl⟩ := hw12
  refine n_put (q0 := 0) (ws' := ([(h0, .inr (11, [.ref q1, .ref q5, .ref (ad13 6), .null, .null, .null, .null, .null, .null, .null, .null, .null, .null, .int 0])), (q1, .inr (8, [.ref q4, .int 0, .int 0, .int 0, .int 0, .int 0, .int 0])), (q4, .inl (cy 0, 700, .inl (fun _ => 0))), (q5, .inr (7, [.ref q1, .ref q8, .null, .int 0, .int (-1)])), (q8, .inr (4, [.ref q1, .ref q9, .null, .int 0, .int 0, .int 0, .int 0, .int 0, .int 0])), (q9, .inl (cy 1, 72, .inl (fun _ => 0)))] ++ blk 6 14 ad13 cy)) C dX11_init_38 zf_X11_30 rfl rfl rfl (Nat.le_of_ble_eq_true rfl) rfl ?_
  refine n_aload C dX11_init_41 rfl (q := 0) rfl ?_
  refine n_new C dX11_init_42 zw_X11_27 (Nat.le_of_ble_eq_true rfl) (Nat.le_of_ble_eq_true rfl) (fun q14 => ?_)
  refine n_dup C dX11_init_45 rfl ?_
  refine n_call (As := []) (n := 0) (mc := 13) (ms := 120) C dX11_init_46 zl_X11_29 zm_X9 in_X9 zd_X9 rfl (by decide +kernel) ⟨rfl, rfl⟩ ⟨Nat.le_of_ble_eq_true rfl, Nat.le_of_ble_eq_true rfl⟩ ⟨Nat.le_of_ble_eq_true rfl, Nat.le_of_ble_eq_true rfl⟩ rfl rfl (Nat.le_of_ble_eq_true rfl) (cc_X9 l q14) (fun w15 hw16 => ?_)
  obtain ⟨ad17, rfl, rfl⟩ := hw16
  refine n_put (q0 := 0) (ws' := (([(h0, .inr (11, [.ref q1, .ref q5, .ref (ad13 6), .ref (ad17 6), .null, .null, .null, .null, .null, .null, .null, .null, .null, .int 0])), (q1, .inr (8, [.ref q4, .int 0, .int 0, .int 0, .int 0, .int 0, .int 0])), (q4, .inl (cy 0, 700, .inl (fun _ => 0))), (q5, .inr (7, [.ref q1, .ref q8, .null, .int 0, .int (-1)])), (q8, .inr (4, [.ref q1, .ref q9, .null, .int 0, .int 0, .int 0, .int 0, .int 0, .int 0])), (q9, .inl (cy 1, 72, .inl (fun _ => 0)))] ++ blk 6 14 ad13 cy) ++ blk 6 14 ad17 cy)) C dX11_init_49 zf_X11_34 rfl rfl rfl (Nat.le_of_ble_eq_true rfl) rfl ?_
  refine n_aload C dX11_init_52 rfl (q := 0) rfl ?_
  refine n_new C dX11_init_53 zw_X11_37 (Nat.le_of_ble_eq_true rfl) (Nat.le_of_ble_eq_true rfl) (fun q18 => ?_)
  refine n_dup C dX11_init_56 rfl ?_
  refine n_callN (As := []) (n := 0) (mc := 4) (ms := 80) C dX11_init_57 (by decide +kernel) zm_X1 in_X1 zd_X1 rfl (by decide +kernel) ⟨rfl, rfl⟩ ⟨Nat.le_of_ble_eq_true rfl, Nat.le_of_ble_eq_true rfl⟩ ⟨Nat.le_of_ble_eq_true rfl, Nat.le_of_ble_eq_true rfl⟩ rfl rfl (Nat.le_of_ble_eq_true rfl) (cc_X1 l q18) (fun w19 hw20 => ?_)
  obtain ⟨q21, q22, q23, q24, rfl⟩ := hw20
  refine n_put (q0 := 0) (ws' := ((([(h0, .inr (11, [.ref q1, .ref q5, .ref (ad13 6), .ref (ad17 6), .ref q18, .null, .null, .null, .null, .null, .null, .null, .null, .int 0])), (q1, .inr (8, [.ref q4, .int 0, .int 0, .int 0, .int 0, .int 0, .int 0])), (q4, .inl (cy 0, 700, .inl (fun _ => 0))), (q5, .inr (7, [.ref q1, .ref q8, .null, .int 0, .int (-1)])), (q8, .inr (4, [.ref q1, .ref q9, .null, .int 0, .int 0, .int 0, .int 0, .int 0, .int 0])), (q9, .inl (cy 1, 72, .inl (fun _ => 0)))] ++ blk 6 14 ad13 cy) ++ blk 6 14 ad17 cy) ++ [(q18, .inr (1, [.ref q21, .ref q22, .ref q23, .ref q24, .int 0])), (q21, .inl (cy 1, 20, .inl (fun _ => 0))), (q22, .inl (cy 1, 20, .inl (fun _ => 0))), (q23, .inl (cy 1, 20, .inl (fun _ => 0))), (q24, .inl (cy 3, 20, .inl (fun _ => 0)))])) C dX11_init_60 zf_X11_40 rfl rfl rfl (Nat.le_of_ble_eq_true rfl) rfl ?_
  refine n_aload C dX11_init_63 rfl (q := 0) rfl ?_
  refine n_new C dX11_init_64 zw_X11_44 (Nat.le_of_ble_eq_true rfl) (Nat.le_of_ble_eq_true rfl) (fun q25 => ?_)
  refine n_dup C dX11_init_67 rfl ?_
  refine n_callN (As := []) (n := 0) (mc := 5) (ms := 120) C dX11_init_68 (by decide +kernel) zm_X3 in_X3 zd_X3 rfl (by decide +kernel) ⟨rfl, rfl⟩ ⟨Nat.le_of_ble_eq_true rfl, Nat.le_of_ble_eq_true rfl⟩ ⟨Nat.le_of_ble_eq_true rfl, Nat.le_of_ble_eq_true rfl⟩ rfl rfl (Nat.le_of_ble_eq_true rfl) (cc_X3 l q25) (fun w26 hw27 => ?_)
  obtain ⟨q28, q29, q30, q31, q32, rfl⟩ := hw27
  refine n_put (q0 := 0) (ws' := ((([(h0, .inr (11, [.ref q1, .ref q5, .ref (ad13 6), .ref (ad17 6), .ref q18, .ref q25, .null, .null, .null, .null, .null, .null, .null, .int 0])), (q1, .inr (8, [.ref q4, .int 0, .int 0, .int 0, .int 0, .int 0, .int 0])), (q4, .inl (cy 0, 700, .inl (fun _ => 0))), (q5, .inr (7, [.ref q1, .ref q8, .null, .int 0, .int (-1)])), (q8, .inr (4, [.ref q1, .ref q9, .null, .int 0, .int 0, .int 0, .int 0, .int 0, .int 0])), (q9, .inl (cy 1, 72, .inl (fun _ => 0)))] ++ blk 6 14 ad13 cy) ++ blk 6 14 ad17 cy) ++ [(q18, .inr (1, [.ref q21, .ref q22, .ref q23, .ref q24, .int 0])), (q21, .inl (cy 1, 20, .inl (fun _ => 0))), (q22, .inl (cy 1, 20, .inl (fun _ => 0))), (q23, .inl (cy 1, 20, .inl (fun _ => 0))), (q24, .inl (cy 3, 20, .inl (fun _ => 0))), (q25, .inr (3, [.ref q28, .ref q29, .ref q30, .ref q31, .ref q32, .int 0, .int (-1)])), (q28, .inl (cy 1, 24, .inl (fun _ => 0))), (q29, .inl (cy 1, 24, .inl (fun _ => 0))), (q30, .inl (cy 3, 24, .inl (fun _ => 0))), (q31, .inl (cy 3, 24, .inl (fun _ => 0))), (q32, .inl (cy 3, 24, .inl (fun _ => 0)))])) C dX11_init_71 zf_X11_47 rfl rfl rfl (Nat.le_of_ble_eq_true rfl) rfl ?_
  refine n_aload C dX11_init_74 rfl (q := 0) rfl ?_
  refine n_new C dX11_init_75 zw_X11_51 (Nat.le_of_ble_eq_true rfl) (Nat.le_of_ble_eq_true rfl) (fun q33 => ?_)
  refine n_dup C dX11_init_78 rfl ?_
  refine n_callN (As := []) (n := 0) (mc := 1) (ms := 48) C dX11_init_79 (by decide +kernel) zm_X2 in_X2 zd_X2 rfl (by decide +kernel) ⟨rfl, rfl⟩ ⟨Nat.le_of_ble_eq_true rfl, Nat.le_of_ble_eq_true rfl⟩ ⟨Nat.le_of_ble_eq_true rfl, Nat.le_of_ble_eq_true rfl⟩ rfl rfl (Nat.le_of_ble_eq_true rfl) (cc_X2 l q33) (fun w34 hw35 => ?_)
  obtain ⟨q36, rfl⟩ := hw35
  refine n_put (q0 := 0) (ws' := ((([(h0, .inr (11, [.ref q1, .ref q5, .ref (ad13 6), .ref (ad17 6), .ref q18, .ref q25, .ref q33, .null, .null, .null, .null, .null, .null, .int 0])), (q1, .inr (8, [.ref q4, .int 0, .int 0, .int 0, .int 0, .int 0, .int 0])), (q4, .inl (cy 0, 700, .inl (fun _ => 0))), (q5, .inr (7, [.ref q1, .ref q8, .null, .int 0, .int (-1)])), (q8, .inr (4, [.ref q1, .ref q9, .null, .int 0, .int 0, .int 0, .int 0, .int 0, .int 0])), (q9, .inl (cy 1, 72, .inl (fun _ => 0)))] ++ blk 6 14 ad13 cy) ++ blk 6 14 ad17 cy) ++ [(q18, .inr (1, [.ref q21, .ref q22, .ref q23, .ref q24, .int 0])), (q21, .inl (cy 1, 20, .inl (fun _ => 0))), (q22, .inl (cy 1, 20, .inl (fun _ => 0))), (q23, .inl (cy 1, 20, .inl (fun _ => 0))), (q24, .inl (cy 3, 20, .inl (fun _ => 0))), (q25, .inr (3, [.ref q28, .ref q29, .ref q30, .ref q31, .ref q32, .int 0, .int (-1)])), (q28, .inl (cy 1, 24, .inl (fun _ => 0))), (q29, .inl (cy 1, 24, .inl (fun _ => 0))), (q30, .inl (cy 3, 24, .inl (fun _ => 0))), (q31, .inl (cy 3, 24, .inl (fun _ => 0))), (q32, .inl (cy 3, 24, .inl (fun _ => 0))), (q33, .inr (2, [.ref q36])), (q36, .inl (cy 1, 48, .inl (fun _ => 0)))])) C dX11_init_82 zf_X11_54 rfl rfl rfl (Nat.le_of_ble_eq_true rfl) rfl ?_
  refine n_aload C dX11_init_85 rfl (q := 0) rfl ?_
  refine n_new C dX11_init_86 zw_X11_58 (Nat.le_of_ble_eq_true rfl) (Nat.le_of_ble_eq_true rfl) (fun q37 => ?_)
  refine n_dup C dX11_init_89 rfl ?_
  refine n_callN (As := []) (n := 0) (mc := 3) (ms := 426) C dX11_init_90 (by decide +kernel) zm_X6 in_X6 zd_X6 rfl (by decide +kernel) ⟨rfl, rfl⟩ ⟨Nat.le_of_ble_eq_true rfl, Nat.le_of_ble_eq_true rfl⟩ ⟨Nat.le_of_ble_eq_true rfl, Nat.le_of_ble_eq_true rfl⟩ rfl rfl (Nat.le_of_ble_eq_true rfl) (cc_X6 l q37) (fun w38 hw39 => ?_)
  obtain ⟨q40, q41, q42, rfl⟩ := hw39
  refine n_put (q0 := 0) (ws' := ((([(h0, .inr (11, [.ref q1, .ref q5, .ref (ad13 6), .ref (ad17 6), .ref q18, .ref q25, .ref q33, .ref q37, .null, .null, .null, .null, .null, .int 0])), (q1, .inr (8, [.ref q4, .int 0, .int 0, .int 0, .int 0, .int 0, .int 0])), (q4, .inl (cy 0, 700, .inl (fun _ => 0))), (q5, .inr (7, [.ref q1, .ref q8, .null, .int 0, .int (-1)])), (q8, .inr (4, [.ref q1, .ref q9, .null, .int 0, .int 0, .int 0, .int 0, .int 0, .int 0])), (q9, .inl (cy 1, 72, .inl (fun _ => 0)))] ++ blk 6 14 ad13 cy) ++ blk 6 14 ad17 cy) ++ [(q18, .inr (1, [.ref q21, .ref q22, .ref q23, .ref q24, .int 0])), (q21, .inl (cy 1, 20, .inl (fun _ => 0))), (q22, .inl (cy 1, 20, .inl (fun _ => 0))), (q23, .inl (cy 1, 20, .inl (fun _ => 0))), (q24, .inl (cy 3, 20, .inl (fun _ => 0))), (q25, .inr (3, [.ref q28, .ref q29, .ref q30, .ref q31, .ref q32, .int 0, .int (-1)])), (q28, .inl (cy 1, 24, .inl (fun _ => 0))), (q29, .inl (cy 1, 24, .inl (fun _ => 0))), (q30, .inl (cy 3, 24, .inl (fun _ => 0))), (q31, .inl (cy 3, 24, .inl (fun _ => 0))), (q32, .inl (cy 3, 24, .inl (fun _ => 0))), (q33, .inr (2, [.ref q36])), (q36, .inl (cy 1, 48, .inl (fun _ => 0))), (q37, .inr (6, [.ref q40, .ref q41, .ref q42, .int 0])), (q40, .inl (cy 1, 384, .inl (fun _ => 0))), (q41, .inl (cy 1, 36, .inl (fun _ => 0))), (q42, .inl (cy 1, 6, .inl (fun _ => 0)))])) C dX11_init_93 zf_X11_61 rfl rfl rfl (Nat.le_of_ble_eq_true rfl) rfl ?_
  refine n_aload C dX11_init_96 rfl (q := 0) rfl ?_
  refine n_new C dX11_init_97 zw_X11_65 (Nat.le_of_ble_eq_true rfl) (Nat.le_of_ble_eq_true rfl) (fun q43 => ?_)
  refine n_dup C dX11_init_100 rfl ?_
  refine n_callN (As := []) (n := 0) (mc := 1) (ms := 8) C dX11_init_101 (by decide +kernel) zm_X0 in_X0 zd_X0 rfl (by decide +kernel) ⟨rfl, rfl⟩ ⟨Nat.le_of_ble_eq_true rfl, Nat.le_of_ble_eq_true rfl⟩ ⟨Nat.le_of_ble_eq_true rfl, Nat.le_of_ble_eq_true rfl⟩ rfl rfl (Nat.le_of_ble_eq_true rfl) (cc_X0 l q43) (fun w44 hw45 => ?_)
  obtain ⟨q46, rfl⟩ := hw45
  refine n_put (q0 := 0) (ws' := ((([(h0, .inr (11, [.ref q1, .ref q5, .ref (ad13 6), .ref (ad17 6), .ref q18, .ref q25, .ref q33, .ref q37, .ref q43, .null, .null, .null, .null, .int 0])), (q1, .inr (8, [.ref q4, .int 0, .int 0, .int 0, .int 0, .int 0, .int 0])), (q4, .inl (cy 0, 700, .inl (fun _ => 0))), (q5, .inr (7, [.ref q1, .ref q8, .null, .int 0, .int (-1)])), (q8, .inr (4, [.ref q1, .ref q9, .null, .int 0, .int 0, .int 0, .int 0, .int 0, .int 0])), (q9, .inl (cy 1, 72, .inl (fun _ => 0)))] ++ blk 6 14 ad13 cy) ++ blk 6 14 ad17 cy) ++ [(q18, .inr (1, [.ref q21, .ref q22, .ref q23, .ref q24, .int 0])), (q21, .inl (cy 1, 20, .inl (fun _ => 0))), (q22, .inl (cy 1, 20, .inl (fun _ => 0))), (q23, .inl (cy 1, 20, .inl (fun _ => 0))), (q24, .inl (cy 3, 20, .inl (fun _ => 0))), (q25, .inr (3, [.ref q28, .ref q29, .ref q30, .ref q31, .ref q32, .int 0, .int (-1)])), (q28, .inl (cy 1, 24, .inl (fun _ => 0))), (q29, .inl (cy 1, 24, .inl (fun _ => 0))), (q30, .inl (cy 3, 24, .inl (fun _ => 0))), (q31, .inl (cy 3, 24, .inl (fun _ => 0))), (q32, .inl (cy 3, 24, .inl (fun _ => 0))), (q33, .inr (2, [.ref q36])), (q36, .inl (cy 1, 48, .inl (fun _ => 0))), (q37, .inr (6, [.ref q40, .ref q41, .ref q42, .int 0])), (q40, .inl (cy 1, 384, .inl (fun _ => 0))), (q41, .inl (cy 1, 36, .inl (fun _ => 0))), (q42, .inl (cy 1, 6, .inl (fun _ => 0))), (q43, .inr (0, [.ref q46, .int 0, .int 0, .int 0, .int 0, .int 0, .int 0, .int 0, .int 0, .int 0, .int 0])), (q46, .inl (cy 1, 8, .inl (fun _ => 0)))])) C dX11_init_104 zf_X11_68 rfl rfl rfl (Nat.le_of_ble_eq_true rfl) rfl ?_
  refine n_aload C dX11_init_107 rfl (q := 0) rfl ?_
  refine n_bipush (v := 30) C dX11_init_108 (by decide) ?_
  refine n_newa (atype := .int) (ty := .int) (N' := 30) (t0 := 1) (a0 := (30, .inl (fun _ => 0))) (cA0 := cy 1) C dX11_init_110 za_int rfl rfl (fun _ => rfl) (by decide) (by decide) (Nat.le_of_ble_eq_true rfl) (Nat.le_of_ble_eq_true rfl) (Nat.le_of_ble_eq_true rfl) (fun q47 => ?_)
  refine n_put (q0 := 0) (ws' := ((([(h0, .inr (11, [.ref q1, .ref q5, .ref (ad13 6), .ref (ad17 6), .ref q18, .ref q25, .ref q33, .ref q37, .ref q43, .ref q47, .null, .null, .null, .int 0])), (q1, .inr (8, [.ref q4, .int 0, .int 0, .int 0, .int 0, .int 0, .int 0])), (q4, .inl (cy 0, 700, .inl (fun _ => 0))), (q5, .inr (7, [.ref q1, .ref q8, .null, .int 0, .int (-1)])), (q8, .inr (4, [.ref q1, .ref q9, .null, .int 0, .int 0, .int 0, .int 0, .int 0, .int 0])), (q9, .inl (cy 1, 72, .inl (fun _ => 0)))] ++ blk 6 14 ad13 cy) ++ blk 6 14 ad17 cy) ++ [(q18, .inr (1, [.ref q21, .ref q22, .ref q23, .ref q24, .int 0])), (q21, .inl (cy 1, 20, .inl (fun _ => 0))), (q22, .inl (cy 1, 20, .inl (fun _ => 0))), (q23, .inl (cy 1, 20, .inl (fun _ => 0))), (q24, .inl (cy 3, 20, .inl (fun _ => 0))), (q25, .inr (3, [.ref q28, .ref q29, .ref q30, .ref q31, .ref q32, .int 0, .int (-1)])), (q28, .inl (cy 1, 24, .inl (fun _ => 0))), (q29, .inl (cy 1, 24, .inl (fun _ => 0))), (q30, .inl (cy 3, 24, .inl (fun _ => 0))), (q31, .inl (cy 3, 24, .inl (fun _ => 0))), (q32, .inl (cy 3, 24, .inl (fun _ => 0))), (q33, .inr (2, [.ref q36])), (q36, .inl (cy 1, 48, .inl (fun _ => 0))), (q37, .inr (6, [.ref q40, .ref q41, .ref q42, .int 0])), (q40, .inl (cy 1, 384, .inl (fun _ => 0))), (q41, .inl (cy 1, 36, .inl (fun _ => 0))), (q42, .inl (cy 1, 6, .inl (fun _ => 0))), (q43, .inr (0, [.ref q46, .int 0, .int 0, .int 0, .int 0, .int 0, .int 0, .int 0, .int 0, .int 0, .int 0])), (q46, .inl (cy 1, 8, .inl (fun _ => 0))), (q47, .inl (cy 1, 30, .inl (fun _ => 0)))])) C dX11_init_112 zf_X11_72 rfl rfl rfl (Nat.le_of_ble_eq_true rfl) rfl ?_
  refine n_aload C dX11_init_115 rfl (q := 0) rfl ?_
  refine n_iconst (v := 3) C dX11_init_116 (by decide) ?_
  refine n_newa (atype := .int) (ty := .int) (N' := 3) (t0 := 1) (a0 := (3, .inl (fun _ => 0))) (cA0 := cy 1) C dX11_init_117 za_int rfl rfl (fun _ => rfl) (by decide) (by decide) (Nat.le_of_ble_eq_true rfl) (Nat.le_of_ble_eq_true rfl) (Nat.le_of_ble_eq_true rfl) (fun q48 => ?_)
  refine n_put (q0 := 0) (ws' := ((([(h0, .inr (11, [.ref q1, .ref q5, .ref (ad13 6), .ref (ad17 6), .ref q18, .ref q25, .ref q33, .ref q37, .ref q43, .ref q47, .ref q48, .null, .null, .int 0])), (q1, .inr (8, [.ref q4, .int 0, .int 0, .int 0, .int 0, .int 0, .int 0])), (q4, .inl (cy 0, 700, .inl (fun _ => 0))), (q5, .inr (7, [.ref q1, .ref q8, .null, .int 0, .int (-1)])), (q8, .inr (4, [.ref q1, .ref q9, .null, .int 0, .int 0, .int 0, .int 0, .int 0, .int 0])), (q9, .inl (cy 1, 72, .inl (fun _ => 0)))] ++ blk 6 14 ad13 cy) ++ blk 6 14 ad17 cy) ++ [(q18, .inr (1, [.ref q21, .ref q22, .ref q23, .ref q24, .int 0])), (q21, .inl (cy 1, 20, .inl (fun _ => 0))), (q22, .inl (cy 1, 20, .inl (fun _ => 0))), (q23, .inl (cy 1, 20, .inl (fun _ => 0))), (q24, .inl (cy 3, 20, .inl (fun _ => 0))), (q25, .inr (3, [.ref q28, .ref q29, .ref q30, .ref q31, .ref q32, .int 0, .int (-1)])), (q28, .inl (cy 1, 24, .inl (fun _ => 0))), (q29, .inl (cy 1, 24, .inl (fun _ => 0))), (q30, .inl (cy 3, 24, .inl (fun _ => 0))), (q31, .inl (cy 3, 24, .inl (fun _ => 0))), (q32, .inl (cy 3, 24, .inl (fun _ => 0))), (q33, .inr (2, [.ref q36])), (q36, .inl (cy 1, 48, .inl (fun _ => 0))), (q37, .inr (6, [.ref q40, .ref q41, .ref q42, .int 0])), (q40, .inl (cy 1, 384, .inl (fun _ => 0))), (q41, .inl (cy 1, 36, .inl (fun _ => 0))), (q42, .inl (cy 1, 6, .inl (fun _ => 0))), (q43, .inr (0, [.ref q46, .int 0, .int 0, .int 0, .int 0, .int 0, .int 0, .int 0, .int 0, .int 0, .int 0])), (q46, .inl (cy 1, 8, .inl (fun _ => 0))), (q47, .inl (cy 1, 30, .inl (fun _ => 0))), (q48, .inl (cy 1, 3, .inl (fun _ => 0)))])) C dX11_init_119 zf_X11_76 rfl rfl rfl (Nat.le_of_ble_eq_true rfl) rfl ?_
  refine n_aload C dX11_init_122 rfl (q := 0) rfl ?_
  refine n_new C dX11_init_123 zw_X11_79 (Nat.le_of_ble_eq_true rfl) (Nat.le_of_ble_eq_true rfl) (fun q49 => ?_)
  refine n_dup C dX11_init_126 rfl ?_
  refine n_call (As := []) (n := 0) (mc := 22) (ms := 339) C dX11_init_127 zl_X11_81 zm_X10 in_X10 zd_X10 rfl (by decide +kernel) ⟨rfl, rfl⟩ ⟨Nat.le_of_ble_eq_true rfl, Nat.le_of_ble_eq_true rfl⟩ ⟨Nat.le_of_ble_eq_true rfl, Nat.le_of_ble_eq_true rfl⟩ rfl rfl (Nat.le_of_ble_eq_true rfl) (cc_X10 l q49) (fun w50 hw51 => ?_)
  obtain ⟨ad52, rfl, rfl⟩ := hw51
  refine n_put (q0 := 0) (ws' := (((([(h0, .inr (11, [.ref q1, .ref q5, .ref (ad13 6), .ref (ad17 6), .ref q18, .ref q25, .ref q33, .ref q37, .ref q43, .ref q47, .ref q48, .ref (ad52 55), .null, .int 0])), (q1, .inr (8, [.ref q4, .int 0, .int 0, .int 0, .int 0, .int 0, .int 0])), (q4, .inl (cy 0, 700, .inl (fun _ => 0))), (q5, .inr (7, [.ref q1, .ref q8, .null, .int 0, .int (-1)])), (q8, .inr (4, [.ref q1, .ref q9, .null, .int 0, .int 0, .int 0, .int 0, .int 0, .int 0])), (q9, .inl (cy 1, 72, .inl (fun _ => 0)))] ++ blk 6 14 ad13 cy) ++ blk 6 14 ad17 cy) ++ [(q18, .inr (1, [.ref q21, .ref q22, .ref q23, .ref q24, .int 0])), (q21, .inl (cy 1, 20, .inl (fun _ => 0))), (q22, .inl (cy 1, 20, .inl (fun _ => 0))), (q23, .inl (cy 1, 20, .inl (fun _ => 0))), (q24, .inl (cy 3, 20, .inl (fun _ => 0))), (q25, .inr (3, [.ref q28, .ref q29, .ref q30, .ref q31, .ref q32, .int 0, .int (-1)])), (q28, .inl (cy 1, 24, .inl (fun _ => 0))), (q29, .inl (cy 1, 24, .inl (fun _ => 0))), (q30, .inl (cy 3, 24, .inl (fun _ => 0))), (q31, .inl (cy 3, 24, .inl (fun _ => 0))), (q32, .inl (cy 3, 24, .inl (fun _ => 0))), (q33, .inr (2, [.ref q36])), (q36, .inl (cy 1, 48, .inl (fun _ => 0))), (q37, .inr (6, [.ref q40, .ref q41, .ref q42, .int 0])), (q40, .inl (cy 1, 384, .inl (fun _ => 0))), (q41, .inl (cy 1, 36, .inl (fun _ => 0))), (q42, .inl (cy 1, 6, .inl (fun _ => 0))), (q43, .inr (0, [.ref q46, .int 0, .int 0, .int 0, .int 0, .int 0, .int 0, .int 0, .int 0, .int 0, .int 0])), (q46, .inl (cy 1, 8, .inl (fun _ => 0))), (q47, .inl (cy 1, 30, .inl (fun _ => 0))), (q48, .inl (cy 1, 3, .inl (fun _ => 0)))]) ++ blk 55 23 ad52 cy)) C dX11_init_130 zf_X11_82 rfl rfl rfl (Nat.le_of_ble_eq_true rfl) rfl ?_
  refine n_aload C dX11_init_133 rfl (q := 0) rfl ?_
  refine n_new C dX11_init_134 zw_X11_79 (Nat.le_of_ble_eq_true rfl) (Nat.le_of_ble_eq_true rfl) (fun q53 => ?_)
  refine n_dup C dX11_init_137 rfl ?_
  refine n_call (As := []) (n := 0) (mc := 22) (ms := 339) C dX11_init_138 zl_X11_81 zm_X10 in_X10 zd_X10 rfl (by decide +kernel) ⟨rfl, rfl⟩ ⟨Nat.le_of_ble_eq_true rfl, Nat.le_of_ble_eq_true rfl⟩ ⟨Nat.le_of_ble_eq_true rfl, Nat.le_of_ble_eq_true rfl⟩ rfl rfl (Nat.le_of_ble_eq_true rfl) (cc_X10 l q53) (fun w54 hw55 => ?_)
  obtain ⟨ad56, rfl, rfl⟩ := hw55
  refine n_put (q0 := 0) (ws' := ((((([(h0, .inr (11, [.ref q1, .ref q5, .ref (ad13 6), .ref (ad17 6), .ref q18, .ref q25, .ref q33, .ref q37, .ref q43, .ref q47, .ref q48, .ref (ad52 55), .ref (ad56 55), .int 0])), (q1, .inr (8, [.ref q4, .int 0, .int 0, .int 0, .int 0, .int 0, .int 0])), (q4, .inl (cy 0, 700, .inl (fun _ => 0))), (q5, .inr (7, [.ref q1, .ref q8, .null, .int 0, .int (-1)])), (q8, .inr (4, [.ref q1, .ref q9, .null, .int 0, .int 0, .int 0, .int 0, .int 0, .int 0])), (q9, .inl (cy 1, 72, .inl (fun _ => 0)))] ++ blk 6 14 ad13 cy) ++ blk 6 14 ad17 cy) ++ [(q18, .inr (1, [.ref q21, .ref q22, .ref q23, .ref q24, .int 0])), (q21, .inl (cy 1, 20, .inl (fun _ => 0))), (q22, .inl (cy 1, 20, .inl (fun _ => 0))), (q23, .inl (cy 1, 20, .inl (fun _ => 0))), (q24, .inl (cy 3, 20, .inl (fun _ => 0))), (q25, .inr (3, [.ref q28, .ref q29, .ref q30, .ref q31, .ref q32, .int 0, .int (-1)])), (q28, .inl (cy 1, 24, .inl (fun _ => 0))), (q29, .inl (cy 1, 24, .inl (fun _ => 0))), (q30, .inl (cy 3, 24, .inl (fun _ => 0))), (q31, .inl (cy 3, 24, .inl (fun _ => 0))), (q32, .inl (cy 3, 24, .inl (fun _ => 0))), (q33, .inr (2, [.ref q36])), (q36, .inl (cy 1, 48, .inl (fun _ => 0))), (q37, .inr (6, [.ref q40, .ref q41, .ref q42, .int 0])), (q40, .inl (cy 1, 384, .inl (fun _ => 0))), (q41, .inl (cy 1, 36, .inl (fun _ => 0))), (q42, .inl (cy 1, 6, .inl (fun _ => 0))), (q43, .inr (0, [.ref q46, .int 0, .int 0, .int 0, .int 0, .int 0, .int 0, .int 0, .int 0, .int 0, .int 0])), (q46, .inl (cy 1, 8, .inl (fun _ => 0))), (q47, .inl (cy 1, 30, .inl (fun _ => 0))), (q48, .inl (cy 1, 3, .inl (fun _ => 0)))]) ++ blk 55 23 ad52 cy) ++ blk 55 23 ad56 cy)) C dX11_init_141 zf_X11_86 rfl rfl rfl (Nat.le_of_ble_eq_true rfl) rfl ?_
  refine n_aload C dX11_init_144 rfl (q := 0) rfl ?_
  refine n_iconst (v := 0) C dX11_init_145 (by decide) ?_
  refine n_put (q0 := 0) (ws' := ((((([(h0, .inr (11, [.ref q1, .ref q5, .ref (ad13 6), .ref (ad17 6), .ref q18, .ref q25, .ref q33, .ref q37, .ref q43, .ref q47, .ref q48, .ref (ad52 55), .ref (ad56 55), .int 0])), (q1, .inr (8, [.ref q4, .int 0, .int 0, .int 0, .int 0, .int 0, .int 0])), (q4, .inl (cy 0, 700, .inl (fun _ => 0))), (q5, .inr (7, [.ref q1, .ref q8, .null, .int 0, .int (-1)])), (q8, .inr (4, [.ref q1, .ref q9, .null, .int 0, .int 0, .int 0, .int 0, .int 0, .int 0])), (q9, .inl (cy 1, 72, .inl (fun _ => 0)))] ++ blk 6 14 ad13 cy) ++ blk 6 14 ad17 cy) ++ [(q18, .inr (1, [.ref q21, .ref q22, .ref q23, .ref q24, .int 0])), (q21, .inl (cy 1, 20, .inl (fun _ => 0))), (q22, .inl (cy 1, 20, .inl (fun _ => 0))), (q23, .inl (cy 1, 20, .inl (fun _ => 0))), (q24, .inl (cy 3, 20, .inl (fun _ => 0))), (q25, .inr (3, [.ref q28, .ref q29, .ref q30, .ref q31, .ref q32, .int 0, .int (-1)])), (q28, .inl (cy 1, 24, .inl (fun _ => 0))), (q29, .inl (cy 1, 24, .inl (fun _ => 0))), (q30, .inl (cy 3, 24, .inl (fun _ => 0))), (q31, .inl (cy 3, 24, .inl (fun _ => 0))), (q32, .inl (cy 3, 24, .inl (fun _ => 0))), (q33, .inr (2, [.ref q36])), (q36, .inl (cy 1, 48, .inl (fun _ => 0))), (q37, .inr (6, [.ref q40, .ref q41, .ref q42, .int 0])), (q40, .inl (cy 1, 384, .inl (fun _ => 0))), (q41, .inl (cy 1, 36, .inl (fun _ => 0))), (q42, .inl (cy 1, 6, .inl (fun _ => 0))), (q43, .inr (0, [.ref q46, .int 0, .int 0, .int 0, .int 0, .int 0, .int 0, .int 0, .int 0, .int 0, .int 0])), (q46, .inl (cy 1, 8, .inl (fun _ => 0))), (q47, .inl (cy 1, 30, .inl (fun _ => 0))), (q48, .inl (cy 1, 3, .inl (fun _ => 0)))]) ++ blk 55 23 ad52 cy) ++ blk 55 23 ad56 cy)) C dX11_init_146 zf_X11_89 rfl rfl rfl (Nat.le_of_ble_eq_true rfl) rfl ?_
  obtain ⟨AD, eAD⟩ : ∃ AD : Nat → Nat, AD = (fun p => if p < 6 then ([h0, q1, q4, q5, q8, q9] : List Nat).getD p 0 else if p < 20 then ad13 p else if p < 34 then ad17 (p - 14) else if p < 55 then ([q18, q21, q22, q23, q24, q25, q28, q29, q30, q31, q32, q33, q36, q37, q40, q41, q42, q43, q46, q47, q48] : List Nat).getD (p - 34) 0 else if p < 78 then ad52 p else ad56 (p - 23)) := ⟨_, rfl⟩
  refine n_arr (q0 := 7) (n := 6) (g := fun j => some (AD (7 + 1 + 2 * j))) rfl (fun j hj => by
    rw [eAD]
    match j, hj with
    | 0, _ => rfl
    | 1, _ => rfl
    | 2, _ => rfl
    | 3, _ => rfl
    | 4, _ => rfl
    | 5, _ => rfl
    | j + 6, hj => omega) rfl ?_
  refine n_arr (q0 := 21) (n := 6) (g := fun j => some (AD (21 + 1 + 2 * j))) rfl (fun j hj => by
    rw [eAD]
    match j, hj with
    | 0, _ => rfl
    | 1, _ => rfl
    | 2, _ => rfl
    | 3, _ => rfl
    | 4, _ => rfl
    | 5, _ => rfl
    | j + 6, hj => omega) rfl ?_
  refine n_arr (q0 := 56) (n := 6) (g := fun j => some (AD (56 + 1 + 2 * j))) rfl (fun j hj => by
    rw [eAD]
    match j, hj with
    | 0, _ => rfl
    | 1, _ => rfl
    | 2, _ => rfl
    | 3, _ => rfl
    | 4, _ => rfl
    | 5, _ => rfl
    | j + 6, hj => omega) rfl ?_
  refine n_arr (q0 := 79) (n := 6) (g := fun j => some (AD (79 + 1 + 2 * j))) rfl (fun j hj => by
    rw [eAD]
    match j, hj with
    | 0, _ => rfl
    | 1, _ => rfl
    | 2, _ => rfl
    | 3, _ => rfl
    | 4, _ => rfl
    | 5, _ => rfl
    | j + 6, hj => omega) rfl ?_
  refine n_vret C dX11_init_149 rfl rfl ⟨AD, by rw [eAD]; rfl, ?_⟩
  subst eAD
  rfl
