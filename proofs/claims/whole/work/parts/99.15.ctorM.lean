/-! The reference's constructor. -/
def m00 : Hp := (fun p => if p = 2 then gWo 101 else fun k => if p = 0 ∧ k = 5 then -1 else if p = 0 ∧ k = 66 then -1 else 0, fun _ _ => 0, fun _ _ => none)
theorem zm_X12 : Cond.instanceMethod yX12_init ∈ wU := wU_mem (List.mem_append_right _ (List.mem_append_right _ (List.mem_append_right _ (List.mem_append_right _ (List.mem_append_right _ (List.mem_append_right _ (List.mem_append_left _ (List.mem_of_getElem? (l := tables_1_6) (i := 25) (by decide +kernel))))))))) (by decide +kernel)
theorem zd_X12 : Cond.code yX12_init cX12_init 1 none ∈ wU := wU_mem (List.mem_append_right _ (List.mem_append_right _ (List.mem_append_right _ (List.mem_append_right _ (List.mem_append_right _ (List.mem_append_right _ (List.mem_append_left _ (List.mem_of_getElem? (l := tables_1_6) (i := 26) rfl)))))))) rfl
theorem zo_X12 : Cond.methodLink RX12 1 objectInit ∈ wU := wU_mem (List.mem_append_right _ (List.mem_append_right _ (List.mem_append_right _ (List.mem_append_right _ (List.mem_append_right _ (List.mem_append_right _ (List.mem_append_left _ (List.mem_of_getElem? (l := tables_1_6) (i := 27) (by decide +kernel))))))))) (by decide +kernel)
theorem zk_X12_7 : Cond.fieldLink RX12 7 (TX12 0).1 (TX12 0).2.1 (TX12 0).2.2.1 ∈ wU := wU_mem (List.mem_append_right _ (List.mem_append_right _ (List.mem_append_right _ (List.mem_append_right _ (List.mem_append_right _ (List.mem_append_right _ (List.mem_append_left _ (List.mem_of_getElem? (l := tables_1_6) (i := 47) (by decide +kernel))))))))) (by decide +kernel)
theorem zf_X12_7 : Fc RX12 7 12 0 (.array .int) := ⟨RX12, TX12, tyX12, rfl, Nat.le_of_ble_eq_true rfl, uw_12, zk_X12_7, tyX12_ok, nmX12, rfl, by decide +kernel⟩
theorem zk_X12_13 : Cond.fieldLink RX12 13 (TX12 3).1 (TX12 3).2.1 (TX12 3).2.2.1 ∈ wU := wU_mem (List.mem_append_right _ (List.mem_append_right _ (List.mem_append_right _ (List.mem_append_right _ (List.mem_append_right _ (List.mem_append_right _ (List.mem_append_left _ (List.mem_of_getElem? (l := tables_1_6) (i := 50) (by decide +kernel))))))))) (by decide +kernel)
theorem zf_X12_13 : Fc RX12 13 12 3 (.array .int) := ⟨RX12, TX12, tyX12, rfl, Nat.le_of_ble_eq_true rfl, uw_12, zk_X12_13, tyX12_ok, nmX12, rfl, by decide +kernel⟩
theorem zk_X12_16 : Cond.fieldLink RX12 16 (TX12 5).1 (TX12 5).2.1 (TX12 5).2.2.1 ∈ wU := wU_mem (List.mem_append_right _ (List.mem_append_right _ (List.mem_append_right _ (List.mem_append_right _ (List.mem_append_right _ (List.mem_append_right _ (List.mem_append_left _ (List.mem_of_getElem? (l := tables_1_6) (i := 52) (by decide +kernel))))))))) (by decide +kernel)
theorem zf_X12_16 : Fc RX12 16 12 5 .int := ⟨RX12, TX12, tyX12, rfl, Nat.le_of_ble_eq_true rfl, uw_12, zk_X12_16, tyX12_ok, nmX12, rfl, by decide +kernel⟩
theorem zk_X12_20 : Cond.fieldLink RX12 20 (TX12 21).1 (TX12 21).2.1 (TX12 21).2.2.1 ∈ wU := wU_mem (List.mem_append_right _ (List.mem_append_right _ (List.mem_append_right _ (List.mem_append_right _ (List.mem_append_right _ (List.mem_append_right _ (List.mem_append_left _ (List.mem_of_getElem? (l := tables_1_6) (i := 68) (by decide +kernel))))))))) (by decide +kernel)
theorem zf_X12_20 : Fc RX12 20 12 21 (.array .boolean) := ⟨RX12, TX12, tyX12, rfl, Nat.le_of_ble_eq_true rfl, uw_12, zk_X12_20, tyX12_ok, nmX12, rfl, by decide +kernel⟩
theorem zk_X12_24 : Cond.fieldLink RX12 24 (TX12 22).1 (TX12 22).2.1 (TX12 22).2.2.1 ∈ wU := wU_mem (List.mem_append_right _ (List.mem_append_right _ (List.mem_append_right _ (List.mem_append_right _ (List.mem_append_right _ (List.mem_append_right _ (List.mem_append_left _ (List.mem_of_getElem? (l := tables_1_6) (i := 69) (by decide +kernel))))))))) (by decide +kernel)
theorem zf_X12_24 : Fc RX12 24 12 22 (.array .int) := ⟨RX12, TX12, tyX12, rfl, Nat.le_of_ble_eq_true rfl, uw_12, zk_X12_24, tyX12_ok, nmX12, rfl, by decide +kernel⟩
theorem zk_X12_27 : Cond.fieldLink RX12 27 (TX12 23).1 (TX12 23).2.1 (TX12 23).2.2.1 ∈ wU := wU_mem (List.mem_append_right _ (List.mem_append_right _ (List.mem_append_right _ (List.mem_append_right _ (List.mem_append_right _ (List.mem_append_right _ (List.mem_append_left _ (List.mem_of_getElem? (l := tables_1_6) (i := 70) (by decide +kernel))))))))) (by decide +kernel)
theorem zf_X12_27 : Fc RX12 27 12 23 (.array .int) := ⟨RX12, TX12, tyX12, rfl, Nat.le_of_ble_eq_true rfl, uw_12, zk_X12_27, tyX12_ok, nmX12, rfl, by decide +kernel⟩
theorem zk_X12_30 : Cond.fieldLink RX12 30 (TX12 24).1 (TX12 24).2.1 (TX12 24).2.2.1 ∈ wU := wU_mem (List.mem_append_right _ (List.mem_append_right _ (List.mem_append_right _ (List.mem_append_right _ (List.mem_append_right _ (List.mem_append_right _ (List.mem_append_left _ (List.mem_of_getElem? (l := tables_1_6) (i := 71) (by decide +kernel))))))))) (by decide +kernel)
theorem zf_X12_30 : Fc RX12 30 12 24 (.array .int) := ⟨RX12, TX12, tyX12, rfl, Nat.le_of_ble_eq_true rfl, uw_12, zk_X12_30, tyX12_ok, nmX12, rfl, by decide +kernel⟩
theorem zk_X12_33 : Cond.fieldLink RX12 33 (TX12 25).1 (TX12 25).2.1 (TX12 25).2.2.1 ∈ wU := wU_mem (List.mem_append_right _ (List.mem_append_right _ (List.mem_append_right _ (List.mem_append_right _ (List.mem_append_right _ (List.mem_append_right _ (List.mem_append_left _ (List.mem_of_getElem? (l := tables_1_6) (i := 72) (by decide +kernel))))))))) (by decide +kernel)
theorem zf_X12_33 : Fc RX12 33 12 25 (.array .int) := ⟨RX12, TX12, tyX12, rfl, Nat.le_of_ble_eq_true rfl, uw_12, zk_X12_33, tyX12_ok, nmX12, rfl, by decide +kernel⟩
theorem zk_X12_36 : Cond.fieldLink RX12 36 (TX12 26).1 (TX12 26).2.1 (TX12 26).2.2.1 ∈ wU := wU_mem (List.mem_append_right _ (List.mem_append_right _ (List.mem_append_right _ (List.mem_append_right _ (List.mem_append_right _ (List.mem_append_right _ (List.mem_append_left _ (List.mem_of_getElem? (l := tables_1_6) (i := 73) (by decide +kernel))))))))) (by decide +kernel)
theorem zf_X12_36 : Fc RX12 36 12 26 (.array .int) := ⟨RX12, TX12, tyX12, rfl, Nat.le_of_ble_eq_true rfl, uw_12, zk_X12_36, tyX12_ok, nmX12, rfl, by decide +kernel⟩
theorem zk_X12_39 : Cond.fieldLink RX12 39 (TX12 27).1 (TX12 27).2.1 (TX12 27).2.2.1 ∈ wU := wU_mem (List.mem_append_right _ (List.mem_append_right _ (List.mem_append_right _ (List.mem_append_right _ (List.mem_append_right _ (List.mem_append_right _ (List.mem_append_left _ (List.mem_of_getElem? (l := tables_1_6) (i := 74) (by decide +kernel))))))))) (by decide +kernel)
theorem zf_X12_39 : Fc RX12 39 12 27 (.array .int) := ⟨RX12, TX12, tyX12, rfl, Nat.le_of_ble_eq_true rfl, uw_12, zk_X12_39, tyX12_ok, nmX12, rfl, by decide +kernel⟩
theorem zk_X12_42 : Cond.fieldLink RX12 42 (TX12 28).1 (TX12 28).2.1 (TX12 28).2.2.1 ∈ wU := wU_mem (List.mem_append_right _ (List.mem_append_right _ (List.mem_append_right _ (List.mem_append_right _ (List.mem_append_right _ (List.mem_append_right _ (List.mem_append_left _ (List.mem_of_getElem? (l := tables_1_6) (i := 75) (by decide +kernel))))))))) (by decide +kernel)
theorem zf_X12_42 : Fc RX12 42 12 28 (.array .int) := ⟨RX12, TX12, tyX12, rfl, Nat.le_of_ble_eq_true rfl, uw_12, zk_X12_42, tyX12_ok, nmX12, rfl, by decide +kernel⟩
theorem zk_X12_45 : Cond.fieldLink RX12 45 (TX12 29).1 (TX12 29).2.1 (TX12 29).2.2.1 ∈ wU := wU_mem (List.mem_append_right _ (List.mem_append_right _ (List.mem_append_right _ (List.mem_append_right _ (List.mem_append_right _ (List.mem_append_right _ (List.mem_append_left _ (List.mem_of_getElem? (l := tables_1_6) (i := 76) (by decide +kernel))))))))) (by decide +kernel)
theorem zf_X12_45 : Fc RX12 45 12 29 (.array .int) := ⟨RX12, TX12, tyX12, rfl, Nat.le_of_ble_eq_true rfl, uw_12, zk_X12_45, tyX12_ok, nmX12, rfl, by decide +kernel⟩
theorem zk_X12_48 : Cond.fieldLink RX12 48 (TX12 30).1 (TX12 30).2.1 (TX12 30).2.2.1 ∈ wU := wU_mem (List.mem_append_right _ (List.mem_append_right _ (List.mem_append_right _ (List.mem_append_right _ (List.mem_append_right _ (List.mem_append_right _ (List.mem_append_left _ (List.mem_of_getElem? (l := tables_1_6) (i := 77) (by decide +kernel))))))))) (by decide +kernel)
theorem zf_X12_48 : Fc RX12 48 12 30 (.array .int) := ⟨RX12, TX12, tyX12, rfl, Nat.le_of_ble_eq_true rfl, uw_12, zk_X12_48, tyX12_ok, nmX12, rfl, by decide +kernel⟩
theorem zk_X12_51 : Cond.fieldLink RX12 51 (TX12 31).1 (TX12 31).2.1 (TX12 31).2.2.1 ∈ wU := wU_mem (List.mem_append_right _ (List.mem_append_right _ (List.mem_append_right _ (List.mem_append_right _ (List.mem_append_right _ (List.mem_append_right _ (List.mem_append_left _ (List.mem_of_getElem? (l := tables_1_6) (i := 78) (by decide +kernel))))))))) (by decide +kernel)
theorem zf_X12_51 : Fc RX12 51 12 31 (.array .int) := ⟨RX12, TX12, tyX12, rfl, Nat.le_of_ble_eq_true rfl, uw_12, zk_X12_51, tyX12_ok, nmX12, rfl, by decide +kernel⟩
theorem zk_X12_54 : Cond.fieldLink RX12 54 (TX12 32).1 (TX12 32).2.1 (TX12 32).2.2.1 ∈ wU := wU_mem (List.mem_append_right _ (List.mem_append_right _ (List.mem_append_right _ (List.mem_append_right _ (List.mem_append_right _ (List.mem_append_right _ (List.mem_append_left _ (List.mem_of_getElem? (l := tables_1_6) (i := 79) (by decide +kernel))))))))) (by decide +kernel)
theorem zf_X12_54 : Fc RX12 54 12 32 (.array .boolean) := ⟨RX12, TX12, tyX12, rfl, Nat.le_of_ble_eq_true rfl, uw_12, zk_X12_54, tyX12_ok, nmX12, rfl, by decide +kernel⟩
theorem zk_X12_57 : Cond.fieldLink RX12 57 (TX12 33).1 (TX12 33).2.1 (TX12 33).2.2.1 ∈ wU := wU_mem (List.mem_append_right _ (List.mem_append_right _ (List.mem_append_right _ (List.mem_append_right _ (List.mem_append_right _ (List.mem_append_right _ (List.mem_append_left _ (List.mem_of_getElem? (l := tables_1_6) (i := 80) (by decide +kernel))))))))) (by decide +kernel)
theorem zf_X12_57 : Fc RX12 57 12 33 (.array .int) := ⟨RX12, TX12, tyX12, rfl, Nat.le_of_ble_eq_true rfl, uw_12, zk_X12_57, tyX12_ok, nmX12, rfl, by decide +kernel⟩
theorem zk_X12_60 : Cond.fieldLink RX12 60 (TX12 34).1 (TX12 34).2.1 (TX12 34).2.2.1 ∈ wU := wU_mem (List.mem_append_right _ (List.mem_append_right _ (List.mem_append_right _ (List.mem_append_right _ (List.mem_append_right _ (List.mem_append_right _ (List.mem_append_left _ (List.mem_of_getElem? (l := tables_1_6) (i := 81) (by decide +kernel))))))))) (by decide +kernel)
theorem zf_X12_60 : Fc RX12 60 12 34 (.array .int) := ⟨RX12, TX12, tyX12, rfl, Nat.le_of_ble_eq_true rfl, uw_12, zk_X12_60, tyX12_ok, nmX12, rfl, by decide +kernel⟩
theorem zk_X12_63 : Cond.fieldLink RX12 63 (TX12 35).1 (TX12 35).2.1 (TX12 35).2.2.1 ∈ wU := wU_mem (List.mem_append_right _ (List.mem_append_right _ (List.mem_append_right _ (List.mem_append_right _ (List.mem_append_right _ (List.mem_append_right _ (List.mem_append_left _ (List.mem_of_getElem? (l := tables_1_6) (i := 82) (by decide +kernel))))))))) (by decide +kernel)
theorem zf_X12_63 : Fc RX12 63 12 35 (.array .int) := ⟨RX12, TX12, tyX12, rfl, Nat.le_of_ble_eq_true rfl, uw_12, zk_X12_63, tyX12_ok, nmX12, rfl, by decide +kernel⟩
theorem zk_X12_66 : Cond.fieldLink RX12 66 (TX12 36).1 (TX12 36).2.1 (TX12 36).2.2.1 ∈ wU := wU_mem (List.mem_append_right _ (List.mem_append_right _ (List.mem_append_right _ (List.mem_append_right _ (List.mem_append_right _ (List.mem_append_right _ (List.mem_append_left _ (List.mem_of_getElem? (l := tables_1_6) (i := 83) (by decide +kernel))))))))) (by decide +kernel)
theorem zf_X12_66 : Fc RX12 66 12 36 (.array .int) := ⟨RX12, TX12, tyX12, rfl, Nat.le_of_ble_eq_true rfl, uw_12, zk_X12_66, tyX12_ok, nmX12, rfl, by decide +kernel⟩
theorem zk_X12_69 : Cond.fieldLink RX12 69 (TX12 37).1 (TX12 37).2.1 (TX12 37).2.2.1 ∈ wU := wU_mem (List.mem_append_right _ (List.mem_append_right _ (List.mem_append_right _ (List.mem_append_right _ (List.mem_append_right _ (List.mem_append_right _ (List.mem_append_left _ (List.mem_of_getElem? (l := tables_1_6) (i := 84) (by decide +kernel))))))))) (by decide +kernel)
theorem zf_X12_69 : Fc RX12 69 12 37 (.array .int) := ⟨RX12, TX12, tyX12, rfl, Nat.le_of_ble_eq_true rfl, uw_12, zk_X12_69, tyX12_ok, nmX12, rfl, by decide +kernel⟩
theorem zk_X12_72 : Cond.fieldLink RX12 72 (TX12 38).1 (TX12 38).2.1 (TX12 38).2.2.1 ∈ wU := wU_mem (List.mem_append_right _ (List.mem_append_right _ (List.mem_append_right _ (List.mem_append_right _ (List.mem_append_right _ (List.mem_append_right _ (List.mem_append_left _ (List.mem_of_getElem? (l := tables_1_6) (i := 85) (by decide +kernel))))))))) (by decide +kernel)
theorem zf_X12_72 : Fc RX12 72 12 38 (.array .int) := ⟨RX12, TX12, tyX12, rfl, Nat.le_of_ble_eq_true rfl, uw_12, zk_X12_72, tyX12_ok, nmX12, rfl, by decide +kernel⟩
theorem zk_X12_75 : Cond.fieldLink RX12 75 (TX12 39).1 (TX12 39).2.1 (TX12 39).2.2.1 ∈ wU := wU_mem (List.mem_append_right _ (List.mem_append_right _ (List.mem_append_right _ (List.mem_append_right _ (List.mem_append_right _ (List.mem_append_right _ (List.mem_append_left _ (List.mem_of_getElem? (l := tables_1_6) (i := 86) (by decide +kernel))))))))) (by decide +kernel)
theorem zf_X12_75 : Fc RX12 75 12 39 (.array .int) := ⟨RX12, TX12, tyX12, rfl, Nat.le_of_ble_eq_true rfl, uw_12, zk_X12_75, tyX12_ok, nmX12, rfl, by decide +kernel⟩
theorem zk_X12_78 : Cond.fieldLink RX12 78 (TX12 46).1 (TX12 46).2.1 (TX12 46).2.2.1 ∈ wU := wU_mem (List.mem_append_right _ (List.mem_append_right _ (List.mem_append_right _ (List.mem_append_right _ (List.mem_append_right _ (List.mem_append_right _ (List.mem_append_left _ (List.mem_of_getElem? (l := tables_1_6) (i := 93) (by decide +kernel))))))))) (by decide +kernel)
theorem zf_X12_78 : Fc RX12 78 12 46 (.array .long) := ⟨RX12, TX12, tyX12, rfl, Nat.le_of_ble_eq_true rfl, uw_12, zk_X12_78, tyX12_ok, nmX12, rfl, by decide +kernel⟩
theorem zk_X12_82 : Cond.fieldLink RX12 82 (TX12 47).1 (TX12 47).2.1 (TX12 47).2.2.1 ∈ wU := wU_mem (List.mem_append_right _ (List.mem_append_right _ (List.mem_append_right _ (List.mem_append_right _ (List.mem_append_right _ (List.mem_append_right _ (List.mem_append_left _ (List.mem_of_getElem? (l := tables_1_6) (i := 94) (by decide +kernel))))))))) (by decide +kernel)
theorem zf_X12_82 : Fc RX12 82 12 47 (.array .long) := ⟨RX12, TX12, tyX12, rfl, Nat.le_of_ble_eq_true rfl, uw_12, zk_X12_82, tyX12_ok, nmX12, rfl, by decide +kernel⟩
theorem zk_X12_85 : Cond.fieldLink RX12 85 (TX12 49).1 (TX12 49).2.1 (TX12 49).2.2.1 ∈ wU := wU_mem (List.mem_append_right _ (List.mem_append_right _ (List.mem_append_right _ (List.mem_append_right _ (List.mem_append_right _ (List.mem_append_right _ (List.mem_append_left _ (List.mem_of_getElem? (l := tables_1_6) (i := 96) (by decide +kernel))))))))) (by decide +kernel)
theorem zf_X12_85 : Fc RX12 85 12 49 (.array .int) := ⟨RX12, TX12, tyX12, rfl, Nat.le_of_ble_eq_true rfl, uw_12, zk_X12_85, tyX12_ok, nmX12, rfl, by decide +kernel⟩
theorem zk_X12_88 : Cond.fieldLink RX12 88 (TX12 50).1 (TX12 50).2.1 (TX12 50).2.2.1 ∈ wU := wU_mem (List.mem_append_right _ (List.mem_append_right _ (List.mem_append_right _ (List.mem_append_right _ (List.mem_append_right _ (List.mem_append_right _ (List.mem_append_left _ (List.mem_of_getElem? (l := tables_1_6) (i := 97) (by decide +kernel))))))))) (by decide +kernel)
theorem zf_X12_88 : Fc RX12 88 12 50 (.array .int) := ⟨RX12, TX12, tyX12, rfl, Nat.le_of_ble_eq_true rfl, uw_12, zk_X12_88, tyX12_ok, nmX12, rfl, by decide +kernel⟩
theorem zk_X12_91 : Cond.fieldLink RX12 91 (TX12 51).1 (TX12 51).2.1 (TX12 51).2.2.1 ∈ wU := wU_mem (List.mem_append_right _ (List.mem_append_right _ (List.mem_append_right _ (List.mem_append_right _ (List.mem_append_right _ (List.mem_append_right _ (List.mem_append_left _ (List.mem_of_getElem? (l := tables_1_6) (i := 98) (by decide +kernel))))))))) (by decide +kernel)
theorem zf_X12_91 : Fc RX12 91 12 51 (.array .int) := ⟨RX12, TX12, tyX12, rfl, Nat.le_of_ble_eq_true rfl, uw_12, zk_X12_91, tyX12_ok, nmX12, rfl, by decide +kernel⟩
theorem zk_X12_94 : Cond.fieldLink RX12 94 (TX12 52).1 (TX12 52).2.1 (TX12 52).2.2.1 ∈ wU := wU_mem (List.mem_append_right _ (List.mem_append_right _ (List.mem_append_right _ (List.mem_append_right _ (List.mem_append_right _ (List.mem_append_right _ (List.mem_append_left _ (List.mem_of_getElem? (l := tables_1_6) (i := 99) (by decide +kernel))))))))) (by decide +kernel)
theorem zf_X12_94 : Fc RX12 94 12 52 (.array .int) := ⟨RX12, TX12, tyX12, rfl, Nat.le_of_ble_eq_true rfl, uw_12, zk_X12_94, tyX12_ok, nmX12, rfl, by decide +kernel⟩
theorem zk_X12_97 : Cond.fieldLink RX12 97 (TX12 53).1 (TX12 53).2.1 (TX12 53).2.2.1 ∈ wU := wU_mem (List.mem_append_right _ (List.mem_append_right _ (List.mem_append_right _ (List.mem_append_right _ (List.mem_append_right _ (List.mem_append_right _ (List.mem_append_left _ (List.mem_of_getElem? (l := tables_1_6) (i := 100) (by decide +kernel))))))))) (by decide +kernel)
theorem zf_X12_97 : Fc RX12 97 12 53 (.array .boolean) := ⟨RX12, TX12, tyX12, rfl, Nat.le_of_ble_eq_true rfl, uw_12, zk_X12_97, tyX12_ok, nmX12, rfl, by decide +kernel⟩
theorem zk_X12_100 : Cond.fieldLink RX12 100 (TX12 54).1 (TX12 54).2.1 (TX12 54).2.2.1 ∈ wU := wU_mem (List.mem_append_right _ (List.mem_append_right _ (List.mem_append_right _ (List.mem_append_right _ (List.mem_append_right _ (List.mem_append_right _ (List.mem_append_left _ (List.mem_of_getElem? (l := tables_1_6) (i := 101) (by decide +kernel))))))))) (by decide +kernel)
theorem zf_X12_100 : Fc RX12 100 12 54 (.array .int) := ⟨RX12, TX12, tyX12, rfl, Nat.le_of_ble_eq_true rfl, uw_12, zk_X12_100, tyX12_ok, nmX12, rfl, by decide +kernel⟩
theorem zk_X12_103 : Cond.fieldLink RX12 103 (TX12 55).1 (TX12 55).2.1 (TX12 55).2.2.1 ∈ wU := wU_mem (List.mem_append_right _ (List.mem_append_right _ (List.mem_append_right _ (List.mem_append_right _ (List.mem_append_right _ (List.mem_append_right _ (List.mem_append_left _ (List.mem_of_getElem? (l := tables_1_6) (i := 102) (by decide +kernel))))))))) (by decide +kernel)
theorem zf_X12_103 : Fc RX12 103 12 55 (.array .int) := ⟨RX12, TX12, tyX12, rfl, Nat.le_of_ble_eq_true rfl, uw_12, zk_X12_103, tyX12_ok, nmX12, rfl, by decide +kernel⟩
theorem zk_X12_106 : Cond.fieldLink RX12 106 (TX12 56).1 (TX12 56).2.1 (TX12 56).2.2.1 ∈ wU := wU_mem (List.mem_append_right _ (List.mem_append_right _ (List.mem_append_right _ (List.mem_append_right _ (List.mem_append_right _ (List.mem_append_right _ (List.mem_append_left _ (List.mem_of_getElem? (l := tables_1_6) (i := 103) (by decide +kernel))))))))) (by decide +kernel)
theorem zf_X12_106 : Fc RX12 106 12 56 (.array .int) := ⟨RX12, TX12, tyX12, rfl, Nat.le_of_ble_eq_true rfl, uw_12, zk_X12_106, tyX12_ok, nmX12, rfl, by decide +kernel⟩
theorem zk_X12_109 : Cond.fieldLink RX12 109 (TX12 63).1 (TX12 63).2.1 (TX12 63).2.2.1 ∈ wU := wU_mem (List.mem_append_right _ (List.mem_append_right _ (List.mem_append_right _ (List.mem_append_right _ (List.mem_append_right _ (List.mem_append_right _ (List.mem_append_left _ (List.mem_of_getElem? (l := tables_1_6) (i := 110) (by decide +kernel))))))))) (by decide +kernel)
theorem zf_X12_109 : Fc RX12 109 12 63 (.array .int) := ⟨RX12, TX12, tyX12, rfl, Nat.le_of_ble_eq_true rfl, uw_12, zk_X12_109, tyX12_ok, nmX12, rfl, by decide +kernel⟩
theorem zk_X12_112 : Cond.fieldLink RX12 112 (TX12 64).1 (TX12 64).2.1 (TX12 64).2.2.1 ∈ wU := wU_mem (List.mem_append_right _ (List.mem_append_right _ (List.mem_append_right _ (List.mem_append_right _ (List.mem_append_right _ (List.mem_append_right _ (List.mem_append_left _ (List.mem_of_getElem? (l := tables_1_6) (i := 111) (by decide +kernel))))))))) (by decide +kernel)
theorem zf_X12_112 : Fc RX12 112 12 64 (.array .int) := ⟨RX12, TX12, tyX12, rfl, Nat.le_of_ble_eq_true rfl, uw_12, zk_X12_112, tyX12_ok, nmX12, rfl, by decide +kernel⟩
theorem zk_X12_115 : Cond.fieldLink RX12 115 (TX12 66).1 (TX12 66).2.1 (TX12 66).2.2.1 ∈ wU := wU_mem (List.mem_append_right _ (List.mem_append_right _ (List.mem_append_right _ (List.mem_append_right _ (List.mem_append_right _ (List.mem_append_right _ (List.mem_append_left _ (List.mem_of_getElem? (l := tables_1_6) (i := 113) (by decide +kernel))))))))) (by decide +kernel)
theorem zf_X12_115 : Fc RX12 115 12 66 .int := ⟨RX12, TX12, tyX12, rfl, Nat.le_of_ble_eq_true rfl, uw_12, zk_X12_115, tyX12_ok, nmX12, rfl, by decide +kernel⟩
theorem zk_X12_118 : Cond.fieldLink RX12 118 (TX12 67).1 (TX12 67).2.1 (TX12 67).2.2.1 ∈ wU := wU_mem (List.mem_append_right _ (List.mem_append_right _ (List.mem_append_right _ (List.mem_append_right _ (List.mem_append_right _ (List.mem_append_right _ (List.mem_append_left _ (List.mem_of_getElem? (l := tables_1_6) (i := 114) (by decide +kernel))))))))) (by decide +kernel)
theorem zf_X12_118 : Fc RX12 118 12 67 (.array .int) := ⟨RX12, TX12, tyX12, rfl, Nat.le_of_ble_eq_true rfl, uw_12, zk_X12_118, tyX12_ok, nmX12, rfl, by decide +kernel⟩
theorem zk_X12_121 : Cond.fieldLink RX12 121 (TX12 68).1 (TX12 68).2.1 (TX12 68).2.2.1 ∈ wU := wU_mem (List.mem_append_right _ (List.mem_append_right _ (List.mem_append_right _ (List.mem_append_right _ (List.mem_append_right _ (List.mem_append_right _ (List.mem_append_left _ (List.mem_of_getElem? (l := tables_1_6) (i := 115) (by decide +kernel))))))))) (by decide +kernel)
theorem zf_X12_121 : Fc RX12 121 12 68 (.array .boolean) := ⟨RX12, TX12, tyX12, rfl, Nat.le_of_ble_eq_true rfl, uw_12, zk_X12_121, tyX12_ok, nmX12, rfl, by decide +kernel⟩
theorem zk_X12_124 : Cond.fieldLink RX12 124 (TX12 70).1 (TX12 70).2.1 (TX12 70).2.2.1 ∈ wU := wU_mem (List.mem_append_right _ (List.mem_append_right _ (List.mem_append_right _ (List.mem_append_right _ (List.mem_append_right _ (List.mem_append_right _ (List.mem_append_left _ (List.mem_of_getElem? (l := tables_1_6) (i := 117) (by decide +kernel))))))))) (by decide +kernel)
theorem zf_X12_124 : Fc RX12 124 12 70 (.array .int) := ⟨RX12, TX12, tyX12, rfl, Nat.le_of_ble_eq_true rfl, uw_12, zk_X12_124, tyX12_ok, nmX12, rfl, by decide +kernel⟩
theorem zk_X12_127 : Cond.fieldLink RX12 127 (TX12 72).1 (TX12 72).2.1 (TX12 72).2.2.1 ∈ wU := wU_mem (List.mem_append_right _ (List.mem_append_right _ (List.mem_append_right _ (List.mem_append_right _ (List.mem_append_right _ (List.mem_append_right _ (List.mem_append_left _ (List.mem_of_getElem? (l := tables_1_6) (i := 119) (by decide +kernel))))))))) (by decide +kernel)
theorem zf_X12_127 : Fc RX12 127 12 72 (.array .int) := ⟨RX12, TX12, tyX12, rfl, Nat.le_of_ble_eq_true rfl, uw_12, zk_X12_127, tyX12_ok, nmX12, rfl, by decide +kernel⟩
theorem zk_X12_130 : Cond.fieldLink RX12 130 (TX12 73).1 (TX12 73).2.1 (TX12 73).2.2.1 ∈ wU := wU_mem (List.mem_append_right _ (List.mem_append_right _ (List.mem_append_right _ (List.mem_append_right _ (List.mem_append_right _ (List.mem_append_right _ (List.mem_append_left _ (List.mem_of_getElem? (l := tables_1_6) (i := 120) (by decide +kernel))))))))) (by decide +kernel)
theorem zf_X12_130 : Fc RX12 130 12 73 (.array .int) := ⟨RX12, TX12, tyX12, rfl, Nat.le_of_ble_eq_true rfl, uw_12, zk_X12_130, tyX12_ok, nmX12, rfl, by decide +kernel⟩
theorem zl_X12_133 : Cond.methodLink RX12 133 yX12_plain ∈ wU := wU_mem (List.mem_append_right _ (List.mem_append_right _ (List.mem_append_right _ (List.mem_append_right _ (List.mem_append_right _ (List.mem_append_right _ (List.mem_append_left _ (List.mem_of_getElem? (l := tables_1_6) (i := 28) (by decide +kernel))))))))) (by decide +kernel)
theorem zl_X12_136 : Cond.methodLink RX12 136 yX12_keepText ∈ wU := wU_mem (List.mem_append_right _ (List.mem_append_right _ (List.mem_append_right _ (List.mem_append_right _ (List.mem_append_right _ (List.mem_append_right _ (List.mem_append_left _ (List.mem_of_getElem? (l := tables_1_6) (i := 32) (by decide +kernel))))))))) (by decide +kernel)
set_option maxRecDepth 100000 in
set_option maxHeartbeats 4000000 in
theorem cc_X12 (l : Launch) (h0 : Nat) : CC l yX12_init cX12_init 1 ({ frames := 3, cells := 38, slots := 2270, locals := 62 } : Room) 38 2270 [(h0, .inr (12, [.null, .int 0, .int 0, .null, .int 0, .int 0, .int 0, .int 0, .int 0, .int 0, .int 0, .int 0, .int 0, .int 0, .int 0, .int 0, .int 0, .int 0, .int 0, .int 0, .int 0, .null, .null, .null, .null, .null, .null, .null, .null, .null, .null, .null, .null, .null, .null, .null, .null, .null, .null, .null, .int 0, .int 0, .int 0, .int 0, .int 0, .int 0, .null, .null, .int 0, .null, .null, .null, .null, .null, .null, .null, .null, .long 0, .int 0, .int 0, .int 0, .int 0, .int 0, .null, .null, .int 0, .int 0, .null, .null, .int 0, .null, .int 0, .null, .null, .long 0]))] [.ref h0] (fun cy w => ∃ (ad : Nat → Nat) (m2 : Hp), ad 0 = h0 ∧ w = wd ΛM ad cy m2 ∧ ∃ m1, f12_plain m00 = some m1 ∧ f12_keepText m1 = some m2) := by
  obtain ⟨m1, e1, -, dm, -⟩ := plain_dr (m := m00)
  obtain ⟨m2, e2, -⟩ := keepT_m (drM_bz dm)
  refine CC.of RX12 rfl rfl (by decide) (Nat.le_of_ble_eq_true rfl) (fun cy x C => ?_)
  refine n_aload C dX12_init_0 rfl (q := 0) rfl ?_
  refine n_obj C dX12_init_1 zo_X12 zo_im zo_cd (Nat.le_of_ble_eq_true rfl) (Nat.le_of_ble_eq_true rfl) ?_
  refine n_aload C dX12_init_4 rfl (q := 0) rfl ?_
  refine n_sipush (v := 700) C dX12_init_5 (by decide) ?_
  refine n_newa (atype := .int) (ty := .int) (N' := 700) (t0 := 1) (a0 := (700, .inl (fun _ => 0))) (cA0 := cy 1) C dX12_init_8 za_int rfl rfl (fun _ => rfl) (by decide) (by decide) (Nat.le_of_ble_eq_true rfl) (Nat.le_of_ble_eq_true rfl) (Nat.le_of_ble_eq_true rfl) (fun q1 => ?_)
  refine n_put (q0 := 0) (ws' := [(h0, .inr (12, [.ref q1, .int 0, .int 0, .null, .int 0, .int 0, .int 0, .int 0, .int 0, .int 0, .int 0, .int 0, .int 0, .int 0, .int 0, .int 0, .int 0, .int 0, .int 0, .int 0, .int 0, .null, .null, .null, .null, .null, .null, .null, .null, .null, .null, .null, .null, .null, .null, .null, .null, .null, .null, .null, .int 0, .int 0, .int 0, .int 0, .int 0, .int 0, .null, .null, .int 0, .null, .null, .null, .null, .null, .null, .null, .null, .long 0, .int 0, .int 0, .int 0, .int 0, .int 0, .null, .null, .int 0, .int 0, .null, .null, .int 0, .null, .int 0, .null, .null, .long 0])), (q1, .inl (cy 1, 700, .inl (fun _ => 0)))]) C dX12_init_10 zf_X12_7 rfl rfl rfl (Nat.le_of_ble_eq_true rfl) rfl ?_
  refine n_aload C dX12_init_13 rfl (q := 0) rfl ?_
  refine n_bipush (v := 101) C dX12_init_14 (by decide) ?_
  refine n_newa (atype := .int) (ty := .int) (N' := 101) (t0 := 1) (a0 := (101, .inl (fun _ => 0))) (cA0 := cy 1) C dX12_init_16 za_int rfl rfl (fun _ => rfl) (by decide) (by decide) (Nat.le_of_ble_eq_true rfl) (Nat.le_of_ble_eq_true rfl) (Nat.le_of_ble_eq_true rfl) (fun q2 => ?_)
  obtain ⟨E0, eE0⟩ : ∃ E : va_E, E = .inr (12, [.ref q1, .int 0, .int 0, .null, .int 0, .int 0, .int 0, .int 0, .int 0, .int 0, .int 0, .int 0, .int 0, .int 0, .int 0, .int 0, .int 0, .int 0, .int 0, .int 0, .int 0, .null, .null, .null, .null, .null, .null, .null, .null, .null, .null, .null, .null, .null, .null, .null, .null, .null, .null, .null, .int 0, .int 0, .int 0, .int 0, .int 0, .int 0, .null, .null, .int 0, .null, .null, .null, .null, .null, .null, .null, .null, .long 0, .int 0, .int 0, .int 0, .int 0, .int 0, .null, .null, .int 0, .int 0, .null, .null, .int 0, .null, .int 0, .null, .null, .long 0]) := ⟨_, rfl⟩
  obtain ⟨E1, eE1⟩ : ∃ E : va_E, E = .inl (cy 1, 700, .inl (fun _ => 0)) := ⟨_, rfl⟩
  refine n_eq (ws' := [(h0, E0), (q1, E1), (q2, .inl (cy 1, 101, .inl (gWo 0)))]) rfl (by rw [eE0, eE1, gWo_0]; rfl) rfl rfl ?_
  refine n_dup C dX12_init_18 rfl ?_
  refine n_iconst (v := 0) C dX12_init_19 (by decide) ?_
  refine n_bipush (v := 98) C dX12_init_20 (by decide) ?_
  refine n_word (k := 0) C dX12_init_22 (by decide) (by unfold vp_in; decide) (by decide) ?_
  refine n_dup C dX12_init_23 rfl ?_
  refine n_iconst (v := 1) C dX12_init_24 (by decide) ?_
  refine n_bipush (v := 111) C dX12_init_25 (by decide) ?_
  refine n_word (k := 1) C dX12_init_27 (by decide) (by unfold vp_in; decide) (by decide) ?_
  refine n_dup C dX12_init_28 rfl ?_
  refine n_iconst (v := 2) C dX12_init_29 (by decide) ?_
  refine n_bipush (v := 120) C dX12_init_30 (by decide) ?_
  refine n_word (k := 2) C dX12_init_32 (by decide) (by unfold vp_in; decide) (by decide) ?_
  refine n_dup C dX12_init_33 rfl ?_
  refine n_iconst (v := 3) C dX12_init_34 (by decide) ?_
  refine n_bipush (v := 32) C dX12_init_35 (by decide) ?_
  refine n_word (k := 3) C dX12_init_37 (by decide) (by unfold vp_in; decide) (by decide) ?_
  refine n_dup C dX12_init_38 rfl ?_
  refine n_iconst (v := 4) C dX12_init_39 (by decide) ?_
  refine n_bipush (v := 116) C dX12_init_40 (by decide) ?_
  refine n_word (k := 4) C dX12_init_42 (by decide) (by unfold vp_in; decide) (by decide) ?_
  refine n_dup C dX12_init_43 rfl ?_
  refine n_iconst (v := 5) C dX12_init_44 (by decide) ?_
  refine n_bipush (v := 111) C dX12_init_45 (by decide) ?_
  refine n_word (k := 5) C dX12_init_47 (by decide) (by unfold vp_in; decide) (by decide) ?_
  refine n_dup C dX12_init_48 rfl ?_
  refine n_bipush (v := 6) C dX12_init_49 (by decide) ?_
  refine n_bipush (v := 111) C dX12_init_51 (by decide) ?_
  refine n_word (k := 6) C dX12_init_53 (by decide) (by unfold vp_in; decide) (by decide) ?_
  refine n_dup C dX12_init_54 rfl ?_
  refine n_bipush (v := 7) C dX12_init_55 (by decide) ?_
  refine n_bipush (v := 116) C dX12_init_57 (by decide) ?_
  refine n_word (k := 7) C dX12_init_59 (by decide) (by unfold vp_in; decide) (by decide) ?_
  refine n_dup C dX12_init_60 rfl ?_
  refine n_bipush (v := 8) C dX12_init_61 (by decide) ?_
  refine n_bipush (v := 104) C dX12_init_63 (by decide) ?_
  refine n_word (k := 8) C dX12_init_65 (by decide) (by unfold vp_in; decide) (by decide) ?_
  refine n_dup C dX12_init_66 rfl ?_
  refine n_bipush (v := 9) C dX12_init_67 (by decide) ?_
  refine n_bipush (v := 32) C dX12_init_69 (by decide) ?_
  refine n_word (k := 9) C dX12_init_71 (by decide) (by unfold vp_in; decide) (by decide) ?_
  refine n_dup C dX12_init_72 rfl ?_
  refine n_bipush (v := 10) C dX12_init_73 (by decide) ?_
  refine n_bipush (v := 107) C dX12_init_75 (by decide) ?_
  refine n_word (k := 10) C dX12_init_77 (by decide) (by unfold vp_in; decide) (by decide) ?_
  refine n_dup C dX12_init_78 rfl ?_
  refine n_bipush (v := 11) C dX12_init_79 (by decide) ?_
  refine n_bipush (v := 105) C dX12_init_81 (by decide) ?_
  refine n_word (k := 11) C dX12_init_83 (by decide) (by unfold vp_in; decide) (by decide) ?_
  refine n_dup C dX12_init_84 rfl ?_
  refine n_bipush (v := 12) C dX12_init_85 (by decide) ?_
  refine n_bipush (v := 110) C dX12_init_87 (by decide) ?_
  refine n_word (k := 12) C dX12_init_89 (by decide) (by unfold vp_in; decide) (by decide) ?_
  refine n_dup C dX12_init_90 rfl ?_
  refine n_bipush (v := 13) C dX12_init_91 (by decide) ?_
  refine n_bipush (v := 32) C dX12_init_93 (by decide) ?_
  refine n_word (k := 13) C dX12_init_95 (by decide) (by unfold vp_in; decide) (by decide) ?_
  refine n_dup C dX12_init_96 rfl ?_
  refine n_bipush (v := 14) C dX12_init_97 (by decide) ?_
  refine n_bipush (v := 103) C dX12_init_99 (by decide) ?_
  refine n_word (k := 14) C dX12_init_101 (by decide) (by unfold vp_in; decide) (by decide) ?_
  refine n_dup C dX12_init_102 rfl ?_
  refine n_bipush (v := 15) C dX12_init_103 (by decide) ?_
  refine n_bipush (v := 117) C dX12_init_105 (by decide) ?_
  refine n_word (k := 15) C dX12_init_107 (by decide) (by unfold vp_in; decide) (by decide) ?_
  refine n_dup C dX12_init_108 rfl ?_
  refine n_bipush (v := 16) C dX12_init_109 (by decide) ?_
  refine n_bipush (v := 101) C dX12_init_111 (by decide) ?_
  refine n_word (k := 16) C dX12_init_113 (by decide) (by unfold vp_in; decide) (by decide) ?_
  refine n_dup C dX12_init_114 rfl ?_
  refine n_bipush (v := 17) C dX12_init_115 (by decide) ?_
  refine n_bipush (v := 115) C dX12_init_117 (by decide) ?_
  refine n_word (k := 17) C dX12_init_119 (by decide) (by unfold vp_in; decide) (by decide) ?_
  refine n_dup C dX12_init_120 rfl ?_
  refine n_bipush (v := 18) C dX12_init_121 (by decide) ?_
  refine n_bipush (v := 116) C dX12_init_123 (by decide) ?_
  refine n_word (k := 18) C dX12_init_125 (by decide) (by unfold vp_in; decide) (by decide) ?_
  refine n_dup C dX12_init_126 rfl ?_
  refine n_bipush (v := 19) C dX12_init_127 (by decide) ?_
  refine n_bipush (v := 32) C dX12_init_129 (by decide) ?_
  refine n_word (k := 19) C dX12_init_131 (by decide) (by unfold vp_in; decide) (by decide) ?_
  refine n_dup C dX12_init_132 rfl ?_
  refine n_bipush (v := 20) C dX12_init_133 (by decide) ?_
  refine n_bipush (v := 100) C dX12_init_135 (by decide) ?_
  refine n_word (k := 20) C dX12_init_137 (by decide) (by unfold vp_in; decide) (by decide) ?_
  refine n_dup C dX12_init_138 rfl ?_
  refine n_bipush (v := 21) C dX12_init_139 (by decide) ?_
  refine n_bipush (v := 97) C dX12_init_141 (by decide) ?_
  refine n_word (k := 21) C dX12_init_143 (by decide) (by unfold vp_in; decide) (by decide) ?_
  refine n_dup C dX12_init_144 rfl ?_
  refine n_bipush (v := 22) C dX12_init_145 (by decide) ?_
  refine n_bipush (v := 109) C dX12_init_147 (by decide) ?_
  refine n_word (k := 22) C dX12_init_149 (by decide) (by unfold vp_in; decide) (by decide) ?_
  refine n_dup C dX12_init_150 rfl ?_
  refine n_bipush (v := 23) C dX12_init_151 (by decide) ?_
  refine n_bipush (v := 112) C dX12_init_153 (by decide) ?_
  refine n_word (k := 23) C dX12_init_155 (by decide) (by unfold vp_in; decide) (by decide) ?_
  refine n_dup C dX12_init_156 rfl ?_
  refine n_bipush (v := 24) C dX12_init_157 (by decide) ?_
  refine n_bipush (v := 32) C dX12_init_159 (by decide) ?_
  refine n_word (k := 24) C dX12_init_161 (by decide) (by unfold vp_in; decide) (by decide) ?_
  refine n_dup C dX12_init_162 rfl ?_
  refine n_bipush (v := 25) C dX12_init_163 (by decide) ?_
  refine n_bipush (v := 115) C dX12_init_165 (by decide) ?_
  refine n_word (k := 25) C dX12_init_167 (by decide) (by unfold vp_in; decide) (by decide) ?_
  refine n_dup C dX12_init_168 rfl ?_
  refine n_bipush (v := 26) C dX12_init_169 (by decide) ?_
  refine n_bipush (v := 101) C dX12_init_171 (by decide) ?_
  refine n_word (k := 26) C dX12_init_173 (by decide) (by unfold vp_in; decide) (by decide) ?_
  refine n_dup C dX12_init_174 rfl ?_
  refine n_bipush (v := 27) C dX12_init_175 (by decide) ?_
  refine n_bipush (v := 101) C dX12_init_177 (by decide) ?_
  refine n_word (k := 27) C dX12_init_179 (by decide) (by unfold vp_in; decide) (by decide) ?_
  refine n_dup C dX12_init_180 rfl ?_
  refine n_bipush (v := 28) C dX12_init_181 (by decide) ?_
  refine n_bipush (v := 100) C dX12_init_183 (by decide) ?_
  refine n_word (k := 28) C dX12_init_185 (by decide) (by unfold vp_in; decide) (by decide) ?_
  refine n_dup C dX12_init_186 rfl ?_
  refine n_bipush (v := 29) C dX12_init_187 (by decide) ?_
  refine n_bipush (v := 32) C dX12_init_189 (by decide) ?_
  refine n_word (k := 29) C dX12_init_191 (by decide) (by unfold vp_in; decide) (by decide) ?_
  refine n_dup C dX12_init_192 rfl ?_
  refine n_bipush (v := 30) C dX12_init_193 (by decide) ?_
  refine n_bipush (v := 108) C dX12_init_195 (by decide) ?_
  refine n_word (k := 30) C dX12_init_197 (by decide) (by unfold vp_in; decide) (by decide) ?_
  refine n_dup C dX12_init_198 rfl ?_
  refine n_bipush (v := 31) C dX12_init_199 (by decide) ?_
  refine n_bipush (v := 97) C dX12_init_201 (by decide) ?_
  refine n_word (k := 31) C dX12_init_203 (by decide) (by unfold vp_in; decide) (by decide) ?_
  refine n_dup C dX12_init_204 rfl ?_
  refine n_bipush (v := 32) C dX12_init_205 (by decide) ?_
  refine n_bipush (v := 119) C dX12_init_207 (by decide) ?_
  refine n_word (k := 32) C dX12_init_209 (by decide) (by unfold vp_in; decide) (by decide) ?_
  refine n_dup C dX12_init_210 rfl ?_
  refine n_bipush (v := 33) C dX12_init_211 (by decide) ?_
  refine n_bipush (v := 32) C dX12_init_213 (by decide) ?_
  refine n_word (k := 33) C dX12_init_215 (by decide) (by unfold vp_in; decide) (by decide) ?_
  refine n_dup C dX12_init_216 rfl ?_
  refine n_bipush (v := 34) C dX12_init_217 (by decide) ?_
  refine n_bipush (v := 119) C dX12_init_219 (by decide) ?_
  refine n_word (k := 34) C dX12_init_221 (by decide) (by unfold vp_in; decide) (by decide) ?_
  refine n_dup C dX12_init_222 rfl ?_
  refine n_bipush (v := 35) C dX12_init_223 (by decide) ?_
  refine n_bipush (v := 101) C dX12_init_225 (by decide) ?_
  refine n_word (k := 35) C dX12_init_227 (by decide) (by unfold vp_in; decide) (by decide) ?_
  refine n_dup C dX12_init_228 rfl ?_
  refine n_bipush (v := 36) C dX12_init_229 (by decide) ?_
  refine n_bipush (v := 97) C dX12_init_231 (by decide) ?_
  refine n_word (k := 36) C dX12_init_233 (by decide) (by unfold vp_in; decide) (by decide) ?_
  refine n_dup C dX12_init_234 rfl ?_
  refine n_bipush (v := 37) C dX12_init_235 (by decide) ?_
  refine n_bipush (v := 114) C dX12_init_237 (by decide) ?_
  refine n_word (k := 37) C dX12_init_239 (by decide) (by unfold vp_in; decide) (by decide) ?_
  refine n_dup C dX12_init_240 rfl ?_
  refine n_bipush (v := 38) C dX12_init_241 (by decide) ?_
  refine n_bipush (v := 32) C dX12_init_243 (by decide) ?_
  refine n_word (k := 38) C dX12_init_245 (by decide) (by unfold vp_in; decide) (by decide) ?_
  refine n_dup C dX12_init_246 rfl ?_
  refine n_bipush (v := 39) C dX12_init_247 (by decide) ?_
  refine n_bipush (v := 115) C dX12_init_249 (by decide) ?_
  refine n_word (k := 39) C dX12_init_251 (by decide) (by unfold vp_in; decide) (by decide) ?_
  refine n_dup C dX12_init_252 rfl ?_
  refine n_bipush (v := 40) C dX12_init_253 (by decide) ?_
  refine n_bipush (v := 111) C dX12_init_255 (by decide) ?_
  refine n_word (k := 40) C dX12_init_257 (by decide) (by unfold vp_in; decide) (by decide) ?_
  refine n_dup C dX12_init_258 rfl ?_
  refine n_bipush (v := 41) C dX12_init_259 (by decide) ?_
  refine n_bipush (v := 117) C dX12_init_261 (by decide) ?_
  refine n_word (k := 41) C dX12_init_263 (by decide) (by unfold vp_in; decide) (by decide) ?_
  refine n_dup C dX12_init_264 rfl ?_
  refine n_bipush (v := 42) C dX12_init_265 (by decide) ?_
  refine n_bipush (v := 114) C dX12_init_267 (by decide) ?_
  refine n_word (k := 42) C dX12_init_269 (by decide) (by unfold vp_in; decide) (by decide) ?_
  refine n_dup C dX12_init_270 rfl ?_
  refine n_bipush (v := 43) C dX12_init_271 (by decide) ?_
  refine n_bipush (v := 32) C dX12_init_273 (by decide) ?_
  refine n_word (k := 43) C dX12_init_275 (by decide) (by unfold vp_in; decide) (by decide) ?_
  refine n_dup C dX12_init_276 rfl ?_
  refine n_bipush (v := 44) C dX12_init_277 (by decide) ?_
  refine n_bipush (v := 99) C dX12_init_279 (by decide) ?_
  refine n_word (k := 44) C dX12_init_281 (by decide) (by unfold vp_in; decide) (by decide) ?_
  refine n_dup C dX12_init_282 rfl ?_
  refine n_bipush (v := 45) C dX12_init_283 (by decide) ?_
  refine n_bipush (v := 104) C dX12_init_285 (by decide) ?_
  refine n_word (k := 45) C dX12_init_287 (by decide) (by unfold vp_in; decide) (by decide) ?_
  refine n_dup C dX12_init_288 rfl ?_
  refine n_bipush (v := 46) C dX12_init_289 (by decide) ?_
  refine n_bipush (v := 97) C dX12_init_291 (by decide) ?_
  refine n_word (k := 46) C dX12_init_293 (by decide) (by unfold vp_in; decide) (by decide) ?_
  refine n_dup C dX12_init_294 rfl ?_
  refine n_bipush (v := 47) C dX12_init_295 (by decide) ?_
  refine n_bipush (v := 114) C dX12_init_297 (by decide) ?_
  refine n_word (k := 47) C dX12_init_299 (by decide) (by unfold vp_in; decide) (by decide) ?_
  refine n_dup C dX12_init_300 rfl ?_
  refine n_bipush (v := 48) C dX12_init_301 (by decide) ?_
  refine n_bipush (v := 109) C dX12_init_303 (by decide) ?_
  refine n_word (k := 48) C dX12_init_305 (by decide) (by unfold vp_in; decide) (by decide) ?_
  refine n_dup C dX12_init_306 rfl ?_
  refine n_bipush (v := 49) C dX12_init_307 (by decide) ?_
  refine n_bipush (v := 32) C dX12_init_309 (by decide) ?_
  refine n_word (k := 49) C dX12_init_311 (by decide) (by unfold vp_in; decide) (by decide) ?_
  refine n_dup C dX12_init_312 rfl ?_
  refine n_bipush (v := 50) C dX12_init_313 (by decide) ?_
  refine n_bipush (v := 97) C dX12_init_315 (by decide) ?_
  refine n_word (k := 50) C dX12_init_317 (by decide) (by unfold vp_in; decide) (by decide) ?_
  refine n_dup C dX12_init_318 rfl ?_
  refine n_bipush (v := 51) C dX12_init_319 (by decide) ?_
  refine n_bipush (v := 110) C dX12_init_321 (by decide) ?_
  refine n_word (k := 51) C dX12_init_323 (by decide) (by unfold vp_in; decide) (by decide) ?_
  refine n_dup C dX12_init_324 rfl ?_
  refine n_bipush (v := 52) C dX12_init_325 (by decide) ?_
  refine n_bipush (v := 100) C dX12_init_327 (by decide) ?_
  refine n_word (k := 52) C dX12_init_329 (by decide) (by unfold vp_in; decide) (by decide) ?_
  refine n_dup C dX12_init_330 rfl ?_
  refine n_bipush (v := 53) C dX12_init_331 (by decide) ?_
  refine n_bipush (v := 32) C dX12_init_333 (by decide) ?_
  refine n_word (k := 53) C dX12_init_335 (by decide) (by unfold vp_in; decide) (by decide) ?_
  refine n_dup C dX12_init_336 rfl ?_
  refine n_bipush (v := 54) C dX12_init_337 (by decide) ?_
  refine n_bipush (v := 111) C dX12_init_339 (by decide) ?_
  refine n_word (k := 54) C dX12_init_341 (by decide) (by unfold vp_in; decide) (by decide) ?_
  refine n_dup C dX12_init_342 rfl ?_
  refine n_bipush (v := 55) C dX12_init_343 (by decide) ?_
  refine n_bipush (v := 114) C dX12_init_345 (by decide) ?_
  refine n_word (k := 55) C dX12_init_347 (by decide) (by unfold vp_in; decide) (by decide) ?_
  refine n_dup C dX12_init_348 rfl ?_
  refine n_bipush (v := 56) C dX12_init_349 (by decide) ?_
  refine n_bipush (v := 32) C dX12_init_351 (by decide) ?_
  refine n_word (k := 56) C dX12_init_353 (by decide) (by unfold vp_in; decide) (by decide) ?_
  refine n_dup C dX12_init_354 rfl ?_
  refine n_bipush (v := 57) C dX12_init_355 (by decide) ?_
  refine n_bipush (v := 110) C dX12_init_357 (by decide) ?_
  refine n_word (k := 57) C dX12_init_359 (by decide) (by unfold vp_in; decide) (by decide) ?_
  refine n_dup C dX12_init_360 rfl ?_
  refine n_bipush (v := 58) C dX12_init_361 (by decide) ?_
  refine n_bipush (v := 111) C dX12_init_363 (by decide) ?_
  refine n_word (k := 58) C dX12_init_365 (by decide) (by unfold vp_in; decide) (by decide) ?_
  refine n_dup C dX12_init_366 rfl ?_
  refine n_bipush (v := 59) C dX12_init_367 (by decide) ?_
  refine n_bipush (v := 116) C dX12_init_369 (by decide) ?_
  refine n_word (k := 59) C dX12_init_371 (by decide) (by unfold vp_in; decide) (by decide) ?_
  refine n_dup C dX12_init_372 rfl ?_
  refine n_bipush (v := 60) C dX12_init_373 (by decide) ?_
  refine n_bipush (v := 32) C dX12_init_375 (by decide) ?_
  refine n_word (k := 60) C dX12_init_377 (by decide) (by unfold vp_in; decide) (by decide) ?_
  refine n_dup C dX12_init_378 rfl ?_
  refine n_bipush (v := 61) C dX12_init_379 (by decide) ?_
  refine n_bipush (v := 115) C dX12_init_381 (by decide) ?_
  refine n_word (k := 61) C dX12_init_383 (by decide) (by unfold vp_in; decide) (by decide) ?_
  refine n_dup C dX12_init_384 rfl ?_
  refine n_bipush (v := 62) C dX12_init_385 (by decide) ?_
  refine n_bipush (v := 112) C dX12_init_387 (by decide) ?_
  refine n_word (k := 62) C dX12_init_389 (by decide) (by unfold vp_in; decide) (by decide) ?_
  refine n_dup C dX12_init_390 rfl ?_
  refine n_bipush (v := 63) C dX12_init_391 (by decide) ?_
  refine n_bipush (v := 114) C dX12_init_393 (by decide) ?_
  refine n_word (k := 63) C dX12_init_395 (by decide) (by unfold vp_in; decide) (by decide) ?_
  refine n_dup C dX12_init_396 rfl ?_
  refine n_bipush (v := 64) C dX12_init_397 (by decide) ?_
  refine n_bipush (v := 105) C dX12_init_399 (by decide) ?_
  refine n_word (k := 64) C dX12_init_401 (by decide) (by unfold vp_in; decide) (by decide) ?_
  refine n_dup C dX12_init_402 rfl ?_
  refine n_bipush (v := 65) C dX12_init_403 (by decide) ?_
  refine n_bipush (v := 110) C dX12_init_405 (by decide) ?_
  refine n_word (k := 65) C dX12_init_407 (by decide) (by unfold vp_in; decide) (by decide) ?_
  refine n_dup C dX12_init_408 rfl ?_
  refine n_bipush (v := 66) C dX12_init_409 (by decide) ?_
  refine n_bipush (v := 103) C dX12_init_411 (by decide) ?_
  refine n_word (k := 66) C dX12_init_413 (by decide) (by unfold vp_in; decide) (by decide) ?_
  refine n_dup C dX12_init_414 rfl ?_
  refine n_bipush (v := 67) C dX12_init_415 (by decide) ?_
  refine n_bipush (v := 32) C dX12_init_417 (by decide) ?_
  refine n_word (k := 67) C dX12_init_419 (by decide) (by unfold vp_in; decide) (by decide) ?_
  refine n_dup C dX12_init_420 rfl ?_
  refine n_bipush (v := 68) C dX12_init_421 (by decide) ?_
  refine n_bipush (v := 115) C dX12_init_423 (by decide) ?_
  refine n_word (k := 68) C dX12_init_425 (by decide) (by unfold vp_in; decide) (by decide) ?_
  refine n_dup C dX12_init_426 rfl ?_
  refine n_bipush (v := 69) C dX12_init_427 (by decide) ?_
  refine n_bipush (v := 108) C dX12_init_429 (by decide) ?_
  refine n_word (k := 69) C dX12_init_431 (by decide) (by unfold vp_in; decide) (by decide) ?_
  refine n_dup C dX12_init_432 rfl ?_
  refine n_bipush (v := 70) C dX12_init_433 (by decide) ?_
  refine n_bipush (v := 111) C dX12_init_435 (by decide) ?_
  refine n_word (k := 70) C dX12_init_437 (by decide) (by unfold vp_in; decide) (by decide) ?_
  refine n_dup C dX12_init_438 rfl ?_
  refine n_bipush (v := 71) C dX12_init_439 (by decide) ?_
  refine n_bipush (v := 119) C dX12_init_441 (by decide) ?_
  refine n_word (k := 71) C dX12_init_443 (by decide) (by unfold vp_in; decide) (by decide) ?_
  refine n_dup C dX12_init_444 rfl ?_
  refine n_bipush (v := 72) C dX12_init_445 (by decide) ?_
  refine n_bipush (v := 32) C dX12_init_447 (by decide) ?_
  refine n_word (k := 72) C dX12_init_449 (by decide) (by unfold vp_in; decide) (by decide) ?_
  refine n_dup C dX12_init_450 rfl ?_
  refine n_bipush (v := 73) C dX12_init_451 (by decide) ?_
  refine n_bipush (v := 112) C dX12_init_453 (by decide) ?_
  refine n_word (k := 73) C dX12_init_455 (by decide) (by unfold vp_in; decide) (by decide) ?_
  refine n_dup C dX12_init_456 rfl ?_
  refine n_bipush (v := 74) C dX12_init_457 (by decide) ?_
  refine n_bipush (v := 105) C dX12_init_459 (by decide) ?_
  refine n_word (k := 74) C dX12_init_461 (by decide) (by unfold vp_in; decide) (by decide) ?_
  refine n_dup C dX12_init_462 rfl ?_
  refine n_bipush (v := 75) C dX12_init_463 (by decide) ?_
  refine n_bipush (v := 110) C dX12_init_465 (by decide) ?_
  refine n_word (k := 75) C dX12_init_467 (by decide) (by unfold vp_in; decide) (by decide) ?_
  refine n_dup C dX12_init_468 rfl ?_
  refine n_bipush (v := 76) C dX12_init_469 (by decide) ?_
  refine n_bipush (v := 115) C dX12_init_471 (by decide) ?_
  refine n_word (k := 76) C dX12_init_473 (by decide) (by unfold vp_in; decide) (by decide) ?_
  refine n_dup C dX12_init_474 rfl ?_
  refine n_bipush (v := 77) C dX12_init_475 (by decide) ?_
  refine n_bipush (v := 32) C dX12_init_477 (by decide) ?_
  refine n_word (k := 77) C dX12_init_479 (by decide) (by unfold vp_in; decide) (by decide) ?_
  refine n_dup C dX12_init_480 rfl ?_
  refine n_bipush (v := 78) C dX12_init_481 (by decide) ?_
  refine n_bipush (v := 102) C dX12_init_483 (by decide) ?_
  refine n_word (k := 78) C dX12_init_485 (by decide) (by unfold vp_in; decide) (by decide) ?_
  refine n_dup C dX12_init_486 rfl ?_
  refine n_bipush (v := 79) C dX12_init_487 (by decide) ?_
  refine n_bipush (v := 97) C dX12_init_489 (by decide) ?_
  refine n_word (k := 79) C dX12_init_491 (by decide) (by unfold vp_in; decide) (by decide) ?_
  refine n_dup C dX12_init_492 rfl ?_
  refine n_bipush (v := 80) C dX12_init_493 (by decide) ?_
  refine n_bipush (v := 108) C dX12_init_495 (by decide) ?_
  refine n_word (k := 80) C dX12_init_497 (by decide) (by unfold vp_in; decide) (by decide) ?_
  refine n_dup C dX12_init_498 rfl ?_
  refine n_bipush (v := 81) C dX12_init_499 (by decide) ?_
  refine n_bipush (v := 115) C dX12_init_501 (by decide) ?_
  refine n_word (k := 81) C dX12_init_503 (by decide) (by unfold vp_in; decide) (by decide) ?_
  refine n_dup C dX12_init_504 rfl ?_
  refine n_bipush (v := 82) C dX12_init_505 (by decide) ?_
  refine n_bipush (v := 101) C dX12_init_507 (by decide) ?_
  refine n_word (k := 82) C dX12_init_509 (by decide) (by unfold vp_in; decide) (by decide) ?_
  refine n_dup C dX12_init_510 rfl ?_
  refine n_bipush (v := 83) C dX12_init_511 (by decide) ?_
  refine n_bipush (v := 32) C dX12_init_513 (by decide) ?_
  refine n_word (k := 83) C dX12_init_515 (by decide) (by unfold vp_in; decide) (by decide) ?_
  refine n_dup C dX12_init_516 rfl ?_
  refine n_bipush (v := 84) C dX12_init_517 (by decide) ?_
  refine n_bipush (v := 116) C dX12_init_519 (by decide) ?_
  refine n_word (k := 84) C dX12_init_521 (by decide) (by unfold vp_in; decide) (by decide) ?_
  refine n_dup C dX12_init_522 rfl ?_
  refine n_bipush (v := 85) C dX12_init_523 (by decide) ?_
  refine n_bipush (v := 101) C dX12_init_525 (by decide) ?_
  refine n_word (k := 85) C dX12_init_527 (by decide) (by unfold vp_in; decide) (by decide) ?_
  refine n_dup C dX12_init_528 rfl ?_
  refine n_bipush (v := 86) C dX12_init_529 (by decide) ?_
  refine n_bipush (v := 101) C dX12_init_531 (by decide) ?_
  refine n_word (k := 86) C dX12_init_533 (by decide) (by unfold vp_in; decide) (by decide) ?_
  refine n_dup C dX12_init_534 rfl ?_
  refine n_bipush (v := 87) C dX12_init_535 (by decide) ?_
  refine n_bipush (v := 116) C dX12_init_537 (by decide) ?_
  refine n_word (k := 87) C dX12_init_539 (by decide) (by unfold vp_in; decide) (by decide) ?_
  refine n_dup C dX12_init_540 rfl ?_
  refine n_bipush (v := 88) C dX12_init_541 (by decide) ?_
  refine n_bipush (v := 104) C dX12_init_543 (by decide) ?_
  refine n_word (k := 88) C dX12_init_545 (by decide) (by unfold vp_in; decide) (by decide) ?_
  refine n_dup C dX12_init_546 rfl ?_
  refine n_bipush (v := 89) C dX12_init_547 (by decide) ?_
  refine n_bipush (v := 32) C dX12_init_549 (by decide) ?_
  refine n_word (k := 89) C dX12_init_551 (by decide) (by unfold vp_in; decide) (by decide) ?_
  refine n_dup C dX12_init_552 rfl ?_
  refine n_bipush (v := 90) C dX12_init_553 (by decide) ?_
  refine n_bipush (v := 112) C dX12_init_555 (by decide) ?_
  refine n_word (k := 90) C dX12_init_557 (by decide) (by unfold vp_in; decide) (by decide) ?_
  refine n_dup C dX12_init_558 rfl ?_
  refine n_bipush (v := 91) C dX12_init_559 (by decide) ?_
  refine n_bipush (v := 108) C dX12_init_561 (by decide) ?_
  refine n_word (k := 91) C dX12_init_563 (by decide) (by unfold vp_in; decide) (by decide) ?_
  refine n_dup C dX12_init_564 rfl ?_
  refine n_bipush (v := 92) C dX12_init_565 (by decide) ?_
  refine n_bipush (v := 97) C dX12_init_567 (by decide) ?_
  refine n_word (k := 92) C dX12_init_569 (by decide) (by unfold vp_in; decide) (by decide) ?_
  refine n_dup C dX12_init_570 rfl ?_
  refine n_bipush (v := 93) C dX12_init_571 (by decide) ?_
  refine n_bipush (v := 121) C dX12_init_573 (by decide) ?_
  refine n_word (k := 93) C dX12_init_575 (by decide) (by unfold vp_in; decide) (by decide) ?_
  refine n_dup C dX12_init_576 rfl ?_
  refine n_bipush (v := 94) C dX12_init_577 (by decide) ?_
  refine n_bipush (v := 115) C dX12_init_579 (by decide) ?_
  refine n_word (k := 94) C dX12_init_581 (by decide) (by unfold vp_in; decide) (by decide) ?_
  refine n_dup C dX12_init_582 rfl ?_
  refine n_bipush (v := 95) C dX12_init_583 (by decide) ?_
  refine n_bipush (v := 32) C dX12_init_585 (by decide) ?_
  refine n_word (k := 95) C dX12_init_587 (by decide) (by unfold vp_in; decide) (by decide) ?_
  refine n_dup C dX12_init_588 rfl ?_
  refine n_bipush (v := 96) C dX12_init_589 (by decide) ?_
  refine n_bipush (v := 121) C dX12_init_591 (by decide) ?_
  refine n_word (k := 96) C dX12_init_593 (by decide) (by unfold vp_in; decide) (by decide) ?_
  refine n_dup C dX12_init_594 rfl ?_
  refine n_bipush (v := 97) C dX12_init_595 (by decide) ?_
  refine n_bipush (v := 101) C dX12_init_597 (by decide) ?_
  refine n_word (k := 97) C dX12_init_599 (by decide) (by unfold vp_in; decide) (by decide) ?_
  refine n_dup C dX12_init_600 rfl ?_
  refine n_bipush (v := 98) C dX12_init_601 (by decide) ?_
  refine n_bipush (v := 97) C dX12_init_603 (by decide) ?_
  refine n_word (k := 98) C dX12_init_605 (by decide) (by unfold vp_in; decide) (by decide) ?_
  refine n_dup C dX12_init_606 rfl ?_
  refine n_bipush (v := 99) C dX12_init_607 (by decide) ?_
  refine n_bipush (v := 114) C dX12_init_609 (by decide) ?_
  refine n_word (k := 99) C dX12_init_611 (by decide) (by unfold vp_in; decide) (by decide) ?_
  refine n_dup C dX12_init_612 rfl ?_
  refine n_bipush (v := 100) C dX12_init_613 (by decide) ?_
  refine n_bipush (v := 32) C dX12_init_615 (by decide) ?_
  refine n_word (k := 100) C dX12_init_617 (by decide) (by unfold vp_in; decide) (by decide) ?_
  subst eE0
  subst eE1
  refine n_put (q0 := 0) (ws' := [(h0, .inr (12, [.ref q1, .int 0, .int 0, .ref q2, .int 0, .int 0, .int 0, .int 0, .int 0, .int 0, .int 0, .int 0, .int 0, .int 0, .int 0, .int 0, .int 0, .int 0, .int 0, .int 0, .int 0, .null, .null, .null, .null, .null, .null, .null, .null, .null, .null, .null, .null, .null, .null, .null, .null, .null, .null, .null, .int 0, .int 0, .int 0, .int 0, .int 0, .int 0, .null, .null, .int 0, .null, .null, .null, .null, .null, .null, .null, .null, .long 0, .int 0, .int 0, .int 0, .int 0, .int 0, .null, .null, .int 0, .int 0, .null, .null, .int 0, .null, .int 0, .null, .null, .long 0])), (q1, .inl (cy 1, 700, .inl (fun _ => 0))), (q2, .inl (cy 1, 101, .inl (gWo 101)))]) C dX12_init_618 zf_X12_13 rfl rfl rfl (Nat.le_of_ble_eq_true rfl) rfl ?_
  refine n_aload C dX12_init_621 rfl (q := 0) rfl ?_
  refine n_iconst (v := -1) C dX12_init_622 (by decide) ?_
  refine n_put (q0 := 0) (ws' := [(h0, .inr (12, [.ref q1, .int 0, .int 0, .ref q2, .int 0, .int (-1), .int 0, .int 0, .int 0, .int 0, .int 0, .int 0, .int 0, .int 0, .int 0, .int 0, .int 0, .int 0, .int 0, .int 0, .int 0, .null, .null, .null, .null, .null, .null, .null, .null, .null, .null, .null, .null, .null, .null, .null, .null, .null, .null, .null, .int 0, .int 0, .int 0, .int 0, .int 0, .int 0, .null, .null, .int 0, .null, .null, .null, .null, .null, .null, .null, .null, .long 0, .int 0, .int 0, .int 0, .int 0, .int 0, .null, .null, .int 0, .int 0, .null, .null, .int 0, .null, .int 0, .null, .null, .long 0])), (q1, .inl (cy 1, 700, .inl (fun _ => 0))), (q2, .inl (cy 1, 101, .inl (gWo 101)))]) C dX12_init_623 zf_X12_16 rfl rfl rfl (Nat.le_of_ble_eq_true rfl) rfl ?_
  refine n_aload C dX12_init_626 rfl (q := 0) rfl ?_
  refine n_iconst (v := 2) C dX12_init_627 (by decide) ?_
  refine n_newa (atype := .boolean) (ty := .boolean) (N' := 2) (t0 := 3) (a0 := (2, .inl (fun _ => 0))) (cA0 := cy 3) C dX12_init_628 za_boolean rfl rfl (fun _ => rfl) (by decide) (by decide) (Nat.le_of_ble_eq_true rfl) (Nat.le_of_ble_eq_true rfl) (Nat.le_of_ble_eq_true rfl) (fun q3 => ?_)
  refine n_put (q0 := 0) (ws' := [(h0, .inr (12, [.ref q1, .int 0, .int 0, .ref q2, .int 0, .int (-1), .int 0, .int 0, .int 0, .int 0, .int 0, .int 0, .int 0, .int 0, .int 0, .int 0, .int 0, .int 0, .int 0, .int 0, .int 0, .ref q3, .null, .null, .null, .null, .null, .null, .null, .null, .null, .null, .null, .null, .null, .null, .null, .null, .null, .null, .int 0, .int 0, .int 0, .int 0, .int 0, .int 0, .null, .null, .int 0, .null, .null, .null, .null, .null, .null, .null, .null, .long 0, .int 0, .int 0, .int 0, .int 0, .int 0, .null, .null, .int 0, .int 0, .null, .null, .int 0, .null, .int 0, .null, .null, .long 0])), (q1, .inl (cy 1, 700, .inl (fun _ => 0))), (q2, .inl (cy 1, 101, .inl (gWo 101))), (q3, .inl (cy 3, 2, .inl (fun _ => 0)))]) C dX12_init_630 zf_X12_20 rfl rfl rfl (Nat.le_of_ble_eq_true rfl) rfl ?_
  refine n_aload C dX12_init_633 rfl (q := 0) rfl ?_
  refine n_iconst (v := 4) C dX12_init_634 (by decide) ?_
  refine n_newa (atype := .int) (ty := .int) (N' := 4) (t0 := 1) (a0 := (4, .inl (fun _ => 0))) (cA0 := cy 1) C dX12_init_635 za_int rfl rfl (fun _ => rfl) (by decide) (by decide) (Nat.le_of_ble_eq_true rfl) (Nat.le_of_ble_eq_true rfl) (Nat.le_of_ble_eq_true rfl) (fun q4 => ?_)
  refine n_put (q0 := 0) (ws' := [(h0, .inr (12, [.ref q1, .int 0, .int 0, .ref q2, .int 0, .int (-1), .int 0, .int 0, .int 0, .int 0, .int 0, .int 0, .int 0, .int 0, .int 0, .int 0, .int 0, .int 0, .int 0, .int 0, .int 0, .ref q3, .ref q4, .null, .null, .null, .null, .null, .null, .null, .null, .null, .null, .null, .null, .null, .null, .null, .null, .null, .int 0, .int 0, .int 0, .int 0, .int 0, .int 0, .null, .null, .int 0, .null, .null, .null, .null, .null, .null, .null, .null, .long 0, .int 0, .int 0, .int 0, .int 0, .int 0, .null, .null, .int 0, .int 0, .null, .null, .int 0, .null, .int 0, .null, .null, .long 0])), (q1, .inl (cy 1, 700, .inl (fun _ => 0))), (q2, .inl (cy 1, 101, .inl (gWo 101))), (q3, .inl (cy 3, 2, .inl (fun _ => 0))), (q4, .inl (cy 1, 4, .inl (fun _ => 0)))]) C dX12_init_637 zf_X12_24 rfl rfl rfl (Nat.le_of_ble_eq_true rfl) rfl ?_
  refine n_aload C dX12_init_640 rfl (q := 0) rfl ?_
  refine n_bipush (v := 12) C dX12_init_641 (by decide) ?_
  refine n_newa (atype := .int) (ty := .int) (N' := 12) (t0 := 1) (a0 := (12, .inl (fun _ => 0))) (cA0 := cy 1) C dX12_init_643 za_int rfl rfl (fun _ => rfl) (by decide) (by decide) (Nat.le_of_ble_eq_true rfl) (Nat.le_of_ble_eq_true rfl) (Nat.le_of_ble_eq_true rfl) (fun q5 => ?_)
  refine n_put (q0 := 0) (ws' := [(h0, .inr (12, [.ref q1, .int 0, .int 0, .ref q2, .int 0, .int (-1), .int 0, .int 0, .int 0, .int 0, .int 0, .int 0, .int 0, .int 0, .int 0, .int 0, .int 0, .int 0, .int 0, .int 0, .int 0, .ref q3, .ref q4, .ref q5, .null, .null, .null, .null, .null, .null, .null, .null, .null, .null, .null, .null, .null, .null, .null, .null, .int 0, .int 0, .int 0, .int 0, .int 0, .int 0, .null, .null, .int 0, .null, .null, .null, .null, .null, .null, .null, .null, .long 0, .int 0, .int 0, .int 0, .int 0, .int 0, .null, .null, .int 0, .int 0, .null, .null, .int 0, .null, .int 0, .null, .null, .long 0])), (q1, .inl (cy 1, 700, .inl (fun _ => 0))), (q2, .inl (cy 1, 101, .inl (gWo 101))), (q3, .inl (cy 3, 2, .inl (fun _ => 0))), (q4, .inl (cy 1, 4, .inl (fun _ => 0))), (q5, .inl (cy 1, 12, .inl (fun _ => 0)))]) C dX12_init_645 zf_X12_27 rfl rfl rfl (Nat.le_of_ble_eq_true rfl) rfl ?_
  refine n_aload C dX12_init_648 rfl (q := 0) rfl ?_
  refine n_bipush (v := 12) C dX12_init_649 (by decide) ?_
  refine n_newa (atype := .int) (ty := .int) (N' := 12) (t0 := 1) (a0 := (12, .inl (fun _ => 0))) (cA0 := cy 1) C dX12_init_651 za_int rfl rfl (fun _ => rfl) (by decide) (by decide) (Nat.le_of_ble_eq_true rfl) (Nat.le_of_ble_eq_true rfl) (Nat.le_of_ble_eq_true rfl) (fun q6 => ?_)
  refine n_put (q0 := 0) (ws' := [(h0, .inr (12, [.ref q1, .int 0, .int 0, .ref q2, .int 0, .int (-1), .int 0, .int 0, .int 0, .int 0, .int 0, .int 0, .int 0, .int 0, .int 0, .int 0, .int 0, .int 0, .int 0, .int 0, .int 0, .ref q3, .ref q4, .ref q5, .ref q6, .null, .null, .null, .null, .null, .null, .null, .null, .null, .null, .null, .null, .null, .null, .null, .int 0, .int 0, .int 0, .int 0, .int 0, .int 0, .null, .null, .int 0, .null, .null, .null, .null, .null, .null, .null, .null, .long 0, .int 0, .int 0, .int 0, .int 0, .int 0, .null, .null, .int 0, .int 0, .null, .null, .int 0, .null, .int 0, .null, .null, .long 0])), (q1, .inl (cy 1, 700, .inl (fun _ => 0))), (q2, .inl (cy 1, 101, .inl (gWo 101))), (q3, .inl (cy 3, 2, .inl (fun _ => 0))), (q4, .inl (cy 1, 4, .inl (fun _ => 0))), (q5, .inl (cy 1, 12, .inl (fun _ => 0))), (q6, .inl (cy 1, 12, .inl (fun _ => 0)))]) C dX12_init_653 zf_X12_30 rfl rfl rfl (Nat.le_of_ble_eq_true rfl) rfl ?_
  refine n_aload C dX12_init_656 rfl (q := 0) rfl ?_
  refine n_bipush (v := 12) C dX12_init_657 (by decide) ?_
  refine n_newa (atype := .int) (ty := .int) (N' := 12) (t0 := 1) (a0 := (12, .inl (fun _ => 0))) (cA0 := cy 1) C dX12_init_659 za_int rfl rfl (fun _ => rfl) (by decide) (by decide) (Nat.le_of_ble_eq_true rfl) (Nat.le_of_ble_eq_true rfl) (Nat.le_of_ble_eq_true rfl) (fun q7 => ?_)
  refine n_put (q0 := 0) (ws' := [(h0, .inr (12, [.ref q1, .int 0, .int 0, .ref q2, .int 0, .int (-1), .int 0, .int 0, .int 0, .int 0, .int 0, .int 0, .int 0, .int 0, .int 0, .int 0, .int 0, .int 0, .int 0, .int 0, .int 0, .ref q3, .ref q4, .ref q5, .ref q6, .ref q7, .null, .null, .null, .null, .null, .null, .null, .null, .null, .null, .null, .null, .null, .null, .int 0, .int 0, .int 0, .int 0, .int 0, .int 0, .null, .null, .int 0, .null, .null, .null, .null, .null, .null, .null, .null, .long 0, .int 0, .int 0, .int 0, .int 0, .int 0, .null, .null, .int 0, .int 0, .null, .null, .int 0, .null, .int 0, .null, .null, .long 0])), (q1, .inl (cy 1, 700, .inl (fun _ => 0))), (q2, .inl (cy 1, 101, .inl (gWo 101))), (q3, .inl (cy 3, 2, .inl (fun _ => 0))), (q4, .inl (cy 1, 4, .inl (fun _ => 0))), (q5, .inl (cy 1, 12, .inl (fun _ => 0))), (q6, .inl (cy 1, 12, .inl (fun _ => 0))), (q7, .inl (cy 1, 12, .inl (fun _ => 0)))]) C dX12_init_661 zf_X12_33 rfl rfl rfl (Nat.le_of_ble_eq_true rfl) rfl ?_
  refine n_aload C dX12_init_664 rfl (q := 0) rfl ?_
  refine n_bipush (v := 96) C dX12_init_665 (by decide) ?_
  refine n_newa (atype := .int) (ty := .int) (N' := 96) (t0 := 1) (a0 := (96, .inl (fun _ => 0))) (cA0 := cy 1) C dX12_init_667 za_int rfl rfl (fun _ => rfl) (by decide) (by decide) (Nat.le_of_ble_eq_true rfl) (Nat.le_of_ble_eq_true rfl) (Nat.le_of_ble_eq_true rfl) (fun q8 => ?_)
  refine n_put (q0 := 0) (ws' := [(h0, .inr (12, [.ref q1, .int 0, .int 0, .ref q2, .int 0, .int (-1), .int 0, .int 0, .int 0, .int 0, .int 0, .int 0, .int 0, .int 0, .int 0, .int 0, .int 0, .int 0, .int 0, .int 0, .int 0, .ref q3, .ref q4, .ref q5, .ref q6, .ref q7, .ref q8, .null, .null, .null, .null, .null, .null, .null, .null, .null, .null, .null, .null, .null, .int 0, .int 0, .int 0, .int 0, .int 0, .int 0, .null, .null, .int 0, .null, .null, .null, .null, .null, .null, .null, .null, .long 0, .int 0, .int 0, .int 0, .int 0, .int 0, .null, .null, .int 0, .int 0, .null, .null, .int 0, .null, .int 0, .null, .null, .long 0])), (q1, .inl (cy 1, 700, .inl (fun _ => 0))), (q2, .inl (cy 1, 101, .inl (gWo 101))), (q3, .inl (cy 3, 2, .inl (fun _ => 0))), (q4, .inl (cy 1, 4, .inl (fun _ => 0))), (q5, .inl (cy 1, 12, .inl (fun _ => 0))), (q6, .inl (cy 1, 12, .inl (fun _ => 0))), (q7, .inl (cy 1, 12, .inl (fun _ => 0))), (q8, .inl (cy 1, 96, .inl (fun _ => 0)))]) C dX12_init_669 zf_X12_36 rfl rfl rfl (Nat.le_of_ble_eq_true rfl) rfl ?_
  refine n_aload C dX12_init_672 rfl (q := 0) rfl ?_
  refine n_bipush (v := 12) C dX12_init_673 (by decide) ?_
  refine n_newa (atype := .int) (ty := .int) (N' := 12) (t0 := 1) (a0 := (12, .inl (fun _ => 0))) (cA0 := cy 1) C dX12_init_675 za_int rfl rfl (fun _ => rfl) (by decide) (by decide) (Nat.le_of_ble_eq_true rfl) (Nat.le_of_ble_eq_true rfl) (Nat.le_of_ble_eq_true rfl) (fun q9 => ?_)
  refine n_put (q0 := 0) (ws' := [(h0, .inr (12, [.ref q1, .int 0, .int 0, .ref q2, .int 0, .int (-1), .int 0, .int 0, .int 0, .int 0, .int 0, .int 0, .int 0, .int 0, .int 0, .int 0, .int 0, .int 0, .int 0, .int 0, .int 0, .ref q3, .ref q4, .ref q5, .ref q6, .ref q7, .ref q8, .ref q9, .null, .null, .null, .null, .null, .null, .null, .null, .null, .null, .null, .null, .int 0, .int 0, .int 0, .int 0, .int 0, .int 0, .null, .null, .int 0, .null, .null, .null, .null, .null, .null, .null, .null, .long 0, .int 0, .int 0, .int 0, .int 0, .int 0, .null, .null, .int 0, .int 0, .null, .null, .int 0, .null, .int 0, .null, .null, .long 0])), (q1, .inl (cy 1, 700, .inl (fun _ => 0))), (q2, .inl (cy 1, 101, .inl (gWo 101))), (q3, .inl (cy 3, 2, .inl (fun _ => 0))), (q4, .inl (cy 1, 4, .inl (fun _ => 0))), (q5, .inl (cy 1, 12, .inl (fun _ => 0))), (q6, .inl (cy 1, 12, .inl (fun _ => 0))), (q7, .inl (cy 1, 12, .inl (fun _ => 0))), (q8, .inl (cy 1, 96, .inl (fun _ => 0))), (q9, .inl (cy 1, 12, .inl (fun _ => 0)))]) C dX12_init_677 zf_X12_39 rfl rfl rfl (Nat.le_of_ble_eq_true rfl) rfl ?_
  refine n_aload C dX12_init_680 rfl (q := 0) rfl ?_
  refine n_bipush (v := 12) C dX12_init_681 (by decide) ?_
  refine n_newa (atype := .int) (ty := .int) (N' := 12) (t0 := 1) (a0 := (12, .inl (fun _ => 0))) (cA0 := cy 1) C dX12_init_683 za_int rfl rfl (fun _ => rfl) (by decide) (by decide) (Nat.le_of_ble_eq_true rfl) (Nat.le_of_ble_eq_true rfl) (Nat.le_of_ble_eq_true rfl) (fun q10 => ?_)
  refine n_put (q0 := 0) (ws' := [(h0, .inr (12, [.ref q1, .int 0, .int 0, .ref q2, .int 0, .int (-1), .int 0, .int 0, .int 0, .int 0, .int 0, .int 0, .int 0, .int 0, .int 0, .int 0, .int 0, .int 0, .int 0, .int 0, .int 0, .ref q3, .ref q4, .ref q5, .ref q6, .ref q7, .ref q8, .ref q9, .ref q10, .null, .null, .null, .null, .null, .null, .null, .null, .null, .null, .null, .int 0, .int 0, .int 0, .int 0, .int 0, .int 0, .null, .null, .int 0, .null, .null, .null, .null, .null, .null, .null, .null, .long 0, .int 0, .int 0, .int 0, .int 0, .int 0, .null, .null, .int 0, .int 0, .null, .null, .int 0, .null, .int 0, .null, .null, .long 0])), (q1, .inl (cy 1, 700, .inl (fun _ => 0))), (q2, .inl (cy 1, 101, .inl (gWo 101))), (q3, .inl (cy 3, 2, .inl (fun _ => 0))), (q4, .inl (cy 1, 4, .inl (fun _ => 0))), (q5, .inl (cy 1, 12, .inl (fun _ => 0))), (q6, .inl (cy 1, 12, .inl (fun _ => 0))), (q7, .inl (cy 1, 12, .inl (fun _ => 0))), (q8, .inl (cy 1, 96, .inl (fun _ => 0))), (q9, .inl (cy 1, 12, .inl (fun _ => 0))), (q10, .inl (cy 1, 12, .inl (fun _ => 0)))]) C dX12_init_685 zf_X12_42 rfl rfl rfl (Nat.le_of_ble_eq_true rfl) rfl ?_
  refine n_aload C dX12_init_688 rfl (q := 0) rfl ?_
  refine n_bipush (v := 10) C dX12_init_689 (by decide) ?_
  refine n_newa (atype := .int) (ty := .int) (N' := 10) (t0 := 1) (a0 := (10, .inl (fun _ => 0))) (cA0 := cy 1) C dX12_init_691 za_int rfl rfl (fun _ => rfl) (by decide) (by decide) (Nat.le_of_ble_eq_true rfl) (Nat.le_of_ble_eq_true rfl) (Nat.le_of_ble_eq_true rfl) (fun q11 => ?_)
  refine n_put (q0 := 0) (ws' := [(h0, .inr (12, [.ref q1, .int 0, .int 0, .ref q2, .int 0, .int (-1), .int 0, .int 0, .int 0, .int 0, .int 0, .int 0, .int 0, .int 0, .int 0, .int 0, .int 0, .int 0, .int 0, .int 0, .int 0, .ref q3, .ref q4, .ref q5, .ref q6, .ref q7, .ref q8, .ref q9, .ref q10, .ref q11, .null, .null, .null, .null, .null, .null, .null, .null, .null, .null, .int 0, .int 0, .int 0, .int 0, .int 0, .int 0, .null, .null, .int 0, .null, .null, .null, .null, .null, .null, .null, .null, .long 0, .int 0, .int 0, .int 0, .int 0, .int 0, .null, .null, .int 0, .int 0, .null, .null, .int 0, .null, .int 0, .null, .null, .long 0])), (q1, .inl (cy 1, 700, .inl (fun _ => 0))), (q2, .inl (cy 1, 101, .inl (gWo 101))), (q3, .inl (cy 3, 2, .inl (fun _ => 0))), (q4, .inl (cy 1, 4, .inl (fun _ => 0))), (q5, .inl (cy 1, 12, .inl (fun _ => 0))), (q6, .inl (cy 1, 12, .inl (fun _ => 0))), (q7, .inl (cy 1, 12, .inl (fun _ => 0))), (q8, .inl (cy 1, 96, .inl (fun _ => 0))), (q9, .inl (cy 1, 12, .inl (fun _ => 0))), (q10, .inl (cy 1, 12, .inl (fun _ => 0))), (q11, .inl (cy 1, 10, .inl (fun _ => 0)))]) C dX12_init_693 zf_X12_45 rfl rfl rfl (Nat.le_of_ble_eq_true rfl) rfl ?_
  refine n_aload C dX12_init_696 rfl (q := 0) rfl ?_
  refine n_bipush (v := 10) C dX12_init_697 (by decide) ?_
  refine n_newa (atype := .int) (ty := .int) (N' := 10) (t0 := 1) (a0 := (10, .inl (fun _ => 0))) (cA0 := cy 1) C dX12_init_699 za_int rfl rfl (fun _ => rfl) (by decide) (by decide) (Nat.le_of_ble_eq_true rfl) (Nat.le_of_ble_eq_true rfl) (Nat.le_of_ble_eq_true rfl) (fun q12 => ?_)
  refine n_put (q0 := 0) (ws' := [(h0, .inr (12, [.ref q1, .int 0, .int 0, .ref q2, .int 0, .int (-1), .int 0, .int 0, .int 0, .int 0, .int 0, .int 0, .int 0, .int 0, .int 0, .int 0, .int 0, .int 0, .int 0, .int 0, .int 0, .ref q3, .ref q4, .ref q5, .ref q6, .ref q7, .ref q8, .ref q9, .ref q10, .ref q11, .ref q12, .null, .null, .null, .null, .null, .null, .null, .null, .null, .int 0, .int 0, .int 0, .int 0, .int 0, .int 0, .null, .null, .int 0, .null, .null, .null, .null, .null, .null, .null, .null, .long 0, .int 0, .int 0, .int 0, .int 0, .int 0, .null, .null, .int 0, .int 0, .null, .null, .int 0, .null, .int 0, .null, .null, .long 0])), (q1, .inl (cy 1, 700, .inl (fun _ => 0))), (q2, .inl (cy 1, 101, .inl (gWo 101))), (q3, .inl (cy 3, 2, .inl (fun _ => 0))), (q4, .inl (cy 1, 4, .inl (fun _ => 0))), (q5, .inl (cy 1, 12, .inl (fun _ => 0))), (q6, .inl (cy 1, 12, .inl (fun _ => 0))), (q7, .inl (cy 1, 12, .inl (fun _ => 0))), (q8, .inl (cy 1, 96, .inl (fun _ => 0))), (q9, .inl (cy 1, 12, .inl (fun _ => 0))), (q10, .inl (cy 1, 12, .inl (fun _ => 0))), (q11, .inl (cy 1, 10, .inl (fun _ => 0))), (q12, .inl (cy 1, 10, .inl (fun _ => 0)))]) C dX12_init_701 zf_X12_48 rfl rfl rfl (Nat.le_of_ble_eq_true rfl) rfl ?_
  refine n_aload C dX12_init_704 rfl (q := 0) rfl ?_
  refine n_bipush (v := 10) C dX12_init_705 (by decide) ?_
  refine n_newa (atype := .int) (ty := .int) (N' := 10) (t0 := 1) (a0 := (10, .inl (fun _ => 0))) (cA0 := cy 1) C dX12_init_707 za_int rfl rfl (fun _ => rfl) (by decide) (by decide) (Nat.le_of_ble_eq_true rfl) (Nat.le_of_ble_eq_true rfl) (Nat.le_of_ble_eq_true rfl) (fun q13 => ?_)
  refine n_put (q0 := 0) (ws' := [(h0, .inr (12, [.ref q1, .int 0, .int 0, .ref q2, .int 0, .int (-1), .int 0, .int 0, .int 0, .int 0, .int 0, .int 0, .int 0, .int 0, .int 0, .int 0, .int 0, .int 0, .int 0, .int 0, .int 0, .ref q3, .ref q4, .ref q5, .ref q6, .ref q7, .ref q8, .ref q9, .ref q10, .ref q11, .ref q12, .ref q13, .null, .null, .null, .null, .null, .null, .null, .null, .int 0, .int 0, .int 0, .int 0, .int 0, .int 0, .null, .null, .int 0, .null, .null, .null, .null, .null, .null, .null, .null, .long 0, .int 0, .int 0, .int 0, .int 0, .int 0, .null, .null, .int 0, .int 0, .null, .null, .int 0, .null, .int 0, .null, .null, .long 0])), (q1, .inl (cy 1, 700, .inl (fun _ => 0))), (q2, .inl (cy 1, 101, .inl (gWo 101))), (q3, .inl (cy 3, 2, .inl (fun _ => 0))), (q4, .inl (cy 1, 4, .inl (fun _ => 0))), (q5, .inl (cy 1, 12, .inl (fun _ => 0))), (q6, .inl (cy 1, 12, .inl (fun _ => 0))), (q7, .inl (cy 1, 12, .inl (fun _ => 0))), (q8, .inl (cy 1, 96, .inl (fun _ => 0))), (q9, .inl (cy 1, 12, .inl (fun _ => 0))), (q10, .inl (cy 1, 12, .inl (fun _ => 0))), (q11, .inl (cy 1, 10, .inl (fun _ => 0))), (q12, .inl (cy 1, 10, .inl (fun _ => 0))), (q13, .inl (cy 1, 10, .inl (fun _ => 0)))]) C dX12_init_709 zf_X12_51 rfl rfl rfl (Nat.le_of_ble_eq_true rfl) rfl ?_
  refine n_aload C dX12_init_712 rfl (q := 0) rfl ?_
  refine n_bipush (v := 6) C dX12_init_713 (by decide) ?_
  refine n_newa (atype := .boolean) (ty := .boolean) (N' := 6) (t0 := 3) (a0 := (6, .inl (fun _ => 0))) (cA0 := cy 3) C dX12_init_715 za_boolean rfl rfl (fun _ => rfl) (by decide) (by decide) (Nat.le_of_ble_eq_true rfl) (Nat.le_of_ble_eq_true rfl) (Nat.le_of_ble_eq_true rfl) (fun q14 => ?_)
  refine n_put (q0 := 0) (ws' := [(h0, .inr (12, [.ref q1, .int 0, .int 0, .ref q2, .int 0, .int (-1), .int 0, .int 0, .int 0, .int 0, .int 0, .int 0, .int 0, .int 0, .int 0, .int 0, .int 0, .int 0, .int 0, .int 0, .int 0, .ref q3, .ref q4, .ref q5, .ref q6, .ref q7, .ref q8, .ref q9, .ref q10, .ref q11, .ref q12, .ref q13, .ref q14, .null, .null, .null, .null, .null, .null, .null, .int 0, .int 0, .int 0, .int 0, .int 0, .int 0, .null, .null, .int 0, .null, .null, .null, .null, .null, .null, .null, .null, .long 0, .int 0, .int 0, .int 0, .int 0, .int 0, .null, .null, .int 0, .int 0, .null, .null, .int 0, .null, .int 0, .null, .null, .long 0])), (q1, .inl (cy 1, 700, .inl (fun _ => 0))), (q2, .inl (cy 1, 101, .inl (gWo 101))), (q3, .inl (cy 3, 2, .inl (fun _ => 0))), (q4, .inl (cy 1, 4, .inl (fun _ => 0))), (q5, .inl (cy 1, 12, .inl (fun _ => 0))), (q6, .inl (cy 1, 12, .inl (fun _ => 0))), (q7, .inl (cy 1, 12, .inl (fun _ => 0))), (q8, .inl (cy 1, 96, .inl (fun _ => 0))), (q9, .inl (cy 1, 12, .inl (fun _ => 0))), (q10, .inl (cy 1, 12, .inl (fun _ => 0))), (q11, .inl (cy 1, 10, .inl (fun _ => 0))), (q12, .inl (cy 1, 10, .inl (fun _ => 0))), (q13, .inl (cy 1, 10, .inl (fun _ => 0))), (q14, .inl (cy 3, 6, .inl (fun _ => 0)))]) C dX12_init_717 zf_X12_54 rfl rfl rfl (Nat.le_of_ble_eq_true rfl) rfl ?_
  refine n_aload C dX12_init_720 rfl (q := 0) rfl ?_
  refine n_bipush (v := 6) C dX12_init_721 (by decide) ?_
  refine n_newa (atype := .int) (ty := .int) (N' := 6) (t0 := 1) (a0 := (6, .inl (fun _ => 0))) (cA0 := cy 1) C dX12_init_723 za_int rfl rfl (fun _ => rfl) (by decide) (by decide) (Nat.le_of_ble_eq_true rfl) (Nat.le_of_ble_eq_true rfl) (Nat.le_of_ble_eq_true rfl) (fun q15 => ?_)
  refine n_put (q0 := 0) (ws' := [(h0, .inr (12, [.ref q1, .int 0, .int 0, .ref q2, .int 0, .int (-1), .int 0, .int 0, .int 0, .int 0, .int 0, .int 0, .int 0, .int 0, .int 0, .int 0, .int 0, .int 0, .int 0, .int 0, .int 0, .ref q3, .ref q4, .ref q5, .ref q6, .ref q7, .ref q8, .ref q9, .ref q10, .ref q11, .ref q12, .ref q13, .ref q14, .ref q15, .null, .null, .null, .null, .null, .null, .int 0, .int 0, .int 0, .int 0, .int 0, .int 0, .null, .null, .int 0, .null, .null, .null, .null, .null, .null, .null, .null, .long 0, .int 0, .int 0, .int 0, .int 0, .int 0, .null, .null, .int 0, .int 0, .null, .null, .int 0, .null, .int 0, .null, .null, .long 0])), (q1, .inl (cy 1, 700, .inl (fun _ => 0))), (q2, .inl (cy 1, 101, .inl (gWo 101))), (q3, .inl (cy 3, 2, .inl (fun _ => 0))), (q4, .inl (cy 1, 4, .inl (fun _ => 0))), (q5, .inl (cy 1, 12, .inl (fun _ => 0))), (q6, .inl (cy 1, 12, .inl (fun _ => 0))), (q7, .inl (cy 1, 12, .inl (fun _ => 0))), (q8, .inl (cy 1, 96, .inl (fun _ => 0))), (q9, .inl (cy 1, 12, .inl (fun _ => 0))), (q10, .inl (cy 1, 12, .inl (fun _ => 0))), (q11, .inl (cy 1, 10, .inl (fun _ => 0))), (q12, .inl (cy 1, 10, .inl (fun _ => 0))), (q13, .inl (cy 1, 10, .inl (fun _ => 0))), (q14, .inl (cy 3, 6, .inl (fun _ => 0))), (q15, .inl (cy 1, 6, .inl (fun _ => 0)))]) C dX12_init_725 zf_X12_57 rfl rfl rfl (Nat.le_of_ble_eq_true rfl) rfl ?_
  refine n_aload C dX12_init_728 rfl (q := 0) rfl ?_
  refine n_bipush (v := 6) C dX12_init_729 (by decide) ?_
  refine n_newa (atype := .int) (ty := .int) (N' := 6) (t0 := 1) (a0 := (6, .inl (fun _ => 0))) (cA0 := cy 1) C dX12_init_731 za_int rfl rfl (fun _ => rfl) (by decide) (by decide) (Nat.le_of_ble_eq_true rfl) (Nat.le_of_ble_eq_true rfl) (Nat.le_of_ble_eq_true rfl) (fun q16 => ?_)
  refine n_put (q0 := 0) (ws' := [(h0, .inr (12, [.ref q1, .int 0, .int 0, .ref q2, .int 0, .int (-1), .int 0, .int 0, .int 0, .int 0, .int 0, .int 0, .int 0, .int 0, .int 0, .int 0, .int 0, .int 0, .int 0, .int 0, .int 0, .ref q3, .ref q4, .ref q5, .ref q6, .ref q7, .ref q8, .ref q9, .ref q10, .ref q11, .ref q12, .ref q13, .ref q14, .ref q15, .ref q16, .null, .null, .null, .null, .null, .int 0, .int 0, .int 0, .int 0, .int 0, .int 0, .null, .null, .int 0, .null, .null, .null, .null, .null, .null, .null, .null, .long 0, .int 0, .int 0, .int 0, .int 0, .int 0, .null, .null, .int 0, .int 0, .null, .null, .int 0, .null, .int 0, .null, .null, .long 0])), (q1, .inl (cy 1, 700, .inl (fun _ => 0))), (q2, .inl (cy 1, 101, .inl (gWo 101))), (q3, .inl (cy 3, 2, .inl (fun _ => 0))), (q4, .inl (cy 1, 4, .inl (fun _ => 0))), (q5, .inl (cy 1, 12, .inl (fun _ => 0))), (q6, .inl (cy 1, 12, .inl (fun _ => 0))), (q7, .inl (cy 1, 12, .inl (fun _ => 0))), (q8, .inl (cy 1, 96, .inl (fun _ => 0))), (q9, .inl (cy 1, 12, .inl (fun _ => 0))), (q10, .inl (cy 1, 12, .inl (fun _ => 0))), (q11, .inl (cy 1, 10, .inl (fun _ => 0))), (q12, .inl (cy 1, 10, .inl (fun _ => 0))), (q13, .inl (cy 1, 10, .inl (fun _ => 0))), (q14, .inl (cy 3, 6, .inl (fun _ => 0))), (q15, .inl (cy 1, 6, .inl (fun _ => 0))), (q16, .inl (cy 1, 6, .inl (fun _ => 0)))]) C dX12_init_733 zf_X12_60 rfl rfl rfl (Nat.le_of_ble_eq_true rfl) rfl ?_
  refine n_aload C dX12_init_736 rfl (q := 0) rfl ?_
  refine n_sipush (v := 128) C dX12_init_737 (by decide) ?_
  refine n_newa (atype := .int) (ty := .int) (N' := 128) (t0 := 1) (a0 := (128, .inl (fun _ => 0))) (cA0 := cy 1) C dX12_init_740 za_int rfl rfl (fun _ => rfl) (by decide) (by decide) (Nat.le_of_ble_eq_true rfl) (Nat.le_of_ble_eq_true rfl) (Nat.le_of_ble_eq_true rfl) (fun q17 => ?_)
  refine n_put (q0 := 0) (ws' := [(h0, .inr (12, [.ref q1, .int 0, .int 0, .ref q2, .int 0, .int (-1), .int 0, .int 0, .int 0, .int 0, .int 0, .int 0, .int 0, .int 0, .int 0, .int 0, .int 0, .int 0, .int 0, .int 0, .int 0, .ref q3, .ref q4, .ref q5, .ref q6, .ref q7, .ref q8, .ref q9, .ref q10, .ref q11, .ref q12, .ref q13, .ref q14, .ref q15, .ref q16, .ref q17, .null, .null, .null, .null, .int 0, .int 0, .int 0, .int 0, .int 0, .int 0, .null, .null, .int 0, .null, .null, .null, .null, .null, .null, .null, .null, .long 0, .int 0, .int 0, .int 0, .int 0, .int 0, .null, .null, .int 0, .int 0, .null, .null, .int 0, .null, .int 0, .null, .null, .long 0])), (q1, .inl (cy 1, 700, .inl (fun _ => 0))), (q2, .inl (cy 1, 101, .inl (gWo 101))), (q3, .inl (cy 3, 2, .inl (fun _ => 0))), (q4, .inl (cy 1, 4, .inl (fun _ => 0))), (q5, .inl (cy 1, 12, .inl (fun _ => 0))), (q6, .inl (cy 1, 12, .inl (fun _ => 0))), (q7, .inl (cy 1, 12, .inl (fun _ => 0))), (q8, .inl (cy 1, 96, .inl (fun _ => 0))), (q9, .inl (cy 1, 12, .inl (fun _ => 0))), (q10, .inl (cy 1, 12, .inl (fun _ => 0))), (q11, .inl (cy 1, 10, .inl (fun _ => 0))), (q12, .inl (cy 1, 10, .inl (fun _ => 0))), (q13, .inl (cy 1, 10, .inl (fun _ => 0))), (q14, .inl (cy 3, 6, .inl (fun _ => 0))), (q15, .inl (cy 1, 6, .inl (fun _ => 0))), (q16, .inl (cy 1, 6, .inl (fun _ => 0))), (q17, .inl (cy 1, 128, .inl (fun _ => 0)))]) C dX12_init_742 zf_X12_63 rfl rfl rfl (Nat.le_of_ble_eq_true rfl) rfl ?_
  refine n_aload C dX12_init_745 rfl (q := 0) rfl ?_
  refine n_sipush (v := 128) C dX12_init_746 (by decide) ?_
  refine n_newa (atype := .int) (ty := .int) (N' := 128) (t0 := 1) (a0 := (128, .inl (fun _ => 0))) (cA0 := cy 1) C dX12_init_749 za_int rfl rfl (fun _ => rfl) (by decide) (by decide) (Nat.le_of_ble_eq_true rfl) (Nat.le_of_ble_eq_true rfl) (Nat.le_of_ble_eq_true rfl) (fun q18 => ?_)
  refine n_put (q0 := 0) (ws' := [(h0, .inr (12, [.ref q1, .int 0, .int 0, .ref q2, .int 0, .int (-1), .int 0, .int 0, .int 0, .int 0, .int 0, .int 0, .int 0, .int 0, .int 0, .int 0, .int 0, .int 0, .int 0, .int 0, .int 0, .ref q3, .ref q4, .ref q5, .ref q6, .ref q7, .ref q8, .ref q9, .ref q10, .ref q11, .ref q12, .ref q13, .ref q14, .ref q15, .ref q16, .ref q17, .ref q18, .null, .null, .null, .int 0, .int 0, .int 0, .int 0, .int 0, .int 0, .null, .null, .int 0, .null, .null, .null, .null, .null, .null, .null, .null, .long 0, .int 0, .int 0, .int 0, .int 0, .int 0, .null, .null, .int 0, .int 0, .null, .null, .int 0, .null, .int 0, .null, .null, .long 0])), (q1, .inl (cy 1, 700, .inl (fun _ => 0))), (q2, .inl (cy 1, 101, .inl (gWo 101))), (q3, .inl (cy 3, 2, .inl (fun _ => 0))), (q4, .inl (cy 1, 4, .inl (fun _ => 0))), (q5, .inl (cy 1, 12, .inl (fun _ => 0))), (q6, .inl (cy 1, 12, .inl (fun _ => 0))), (q7, .inl (cy 1, 12, .inl (fun _ => 0))), (q8, .inl (cy 1, 96, .inl (fun _ => 0))), (q9, .inl (cy 1, 12, .inl (fun _ => 0))), (q10, .inl (cy 1, 12, .inl (fun _ => 0))), (q11, .inl (cy 1, 10, .inl (fun _ => 0))), (q12, .inl (cy 1, 10, .inl (fun _ => 0))), (q13, .inl (cy 1, 10, .inl (fun _ => 0))), (q14, .inl (cy 3, 6, .inl (fun _ => 0))), (q15, .inl (cy 1, 6, .inl (fun _ => 0))), (q16, .inl (cy 1, 6, .inl (fun _ => 0))), (q17, .inl (cy 1, 128, .inl (fun _ => 0))), (q18, .inl (cy 1, 128, .inl (fun _ => 0)))]) C dX12_init_751 zf_X12_66 rfl rfl rfl (Nat.le_of_ble_eq_true rfl) rfl ?_
  refine n_aload C dX12_init_754 rfl (q := 0) rfl ?_
  refine n_sipush (v := 128) C dX12_init_755 (by decide) ?_
  refine n_newa (atype := .int) (ty := .int) (N' := 128) (t0 := 1) (a0 := (128, .inl (fun _ => 0))) (cA0 := cy 1) C dX12_init_758 za_int rfl rfl (fun _ => rfl) (by decide) (by decide) (Nat.le_of_ble_eq_true rfl) (Nat.le_of_ble_eq_true rfl) (Nat.le_of_ble_eq_true rfl) (fun q19 => ?_)
  refine n_put (q0 := 0) (ws' := [(h0, .inr (12, [.ref q1, .int 0, .int 0, .ref q2, .int 0, .int (-1), .int 0, .int 0, .int 0, .int 0, .int 0, .int 0, .int 0, .int 0, .int 0, .int 0, .int 0, .int 0, .int 0, .int 0, .int 0, .ref q3, .ref q4, .ref q5, .ref q6, .ref q7, .ref q8, .ref q9, .ref q10, .ref q11, .ref q12, .ref q13, .ref q14, .ref q15, .ref q16, .ref q17, .ref q18, .ref q19, .null, .null, .int 0, .int 0, .int 0, .int 0, .int 0, .int 0, .null, .null, .int 0, .null, .null, .null, .null, .null, .null, .null, .null, .long 0, .int 0, .int 0, .int 0, .int 0, .int 0, .null, .null, .int 0, .int 0, .null, .null, .int 0, .null, .int 0, .null, .null, .long 0])), (q1, .inl (cy 1, 700, .inl (fun _ => 0))), (q2, .inl (cy 1, 101, .inl (gWo 101))), (q3, .inl (cy 3, 2, .inl (fun _ => 0))), (q4, .inl (cy 1, 4, .inl (fun _ => 0))), (q5, .inl (cy 1, 12, .inl (fun _ => 0))), (q6, .inl (cy 1, 12, .inl (fun _ => 0))), (q7, .inl (cy 1, 12, .inl (fun _ => 0))), (q8, .inl (cy 1, 96, .inl (fun _ => 0))), (q9, .inl (cy 1, 12, .inl (fun _ => 0))), (q10, .inl (cy 1, 12, .inl (fun _ => 0))), (q11, .inl (cy 1, 10, .inl (fun _ => 0))), (q12, .inl (cy 1, 10, .inl (fun _ => 0))), (q13, .inl (cy 1, 10, .inl (fun _ => 0))), (q14, .inl (cy 3, 6, .inl (fun _ => 0))), (q15, .inl (cy 1, 6, .inl (fun _ => 0))), (q16, .inl (cy 1, 6, .inl (fun _ => 0))), (q17, .inl (cy 1, 128, .inl (fun _ => 0))), (q18, .inl (cy 1, 128, .inl (fun _ => 0))), (q19, .inl (cy 1, 128, .inl (fun _ => 0)))]) C dX12_init_760 zf_X12_69 rfl rfl rfl (Nat.le_of_ble_eq_true rfl) rfl ?_
  refine n_aload C dX12_init_763 rfl (q := 0) rfl ?_
  refine n_bipush (v := 96) C dX12_init_764 (by decide) ?_
  refine n_newa (atype := .int) (ty := .int) (N' := 96) (t0 := 1) (a0 := (96, .inl (fun _ => 0))) (cA0 := cy 1) C dX12_init_766 za_int rfl rfl (fun _ => rfl) (by decide) (by decide) (Nat.le_of_ble_eq_true rfl) (Nat.le_of_ble_eq_true rfl) (Nat.le_of_ble_eq_true rfl) (fun q20 => ?_)
  refine n_put (q0 := 0) (ws' := [(h0, .inr (12, [.ref q1, .int 0, .int 0, .ref q2, .int 0, .int (-1), .int 0, .int 0, .int 0, .int 0, .int 0, .int 0, .int 0, .int 0, .int 0, .int 0, .int 0, .int 0, .int 0, .int 0, .int 0, .ref q3, .ref q4, .ref q5, .ref q6, .ref q7, .ref q8, .ref q9, .ref q10, .ref q11, .ref q12, .ref q13, .ref q14, .ref q15, .ref q16, .ref q17, .ref q18, .ref q19, .ref q20, .null, .int 0, .int 0, .int 0, .int 0, .int 0, .int 0, .null, .null, .int 0, .null, .null, .null, .null, .null, .null, .null, .null, .long 0, .int 0, .int 0, .int 0, .int 0, .int 0, .null, .null, .int 0, .int 0, .null, .null, .int 0, .null, .int 0, .null, .null, .long 0])), (q1, .inl (cy 1, 700, .inl (fun _ => 0))), (q2, .inl (cy 1, 101, .inl (gWo 101))), (q3, .inl (cy 3, 2, .inl (fun _ => 0))), (q4, .inl (cy 1, 4, .inl (fun _ => 0))), (q5, .inl (cy 1, 12, .inl (fun _ => 0))), (q6, .inl (cy 1, 12, .inl (fun _ => 0))), (q7, .inl (cy 1, 12, .inl (fun _ => 0))), (q8, .inl (cy 1, 96, .inl (fun _ => 0))), (q9, .inl (cy 1, 12, .inl (fun _ => 0))), (q10, .inl (cy 1, 12, .inl (fun _ => 0))), (q11, .inl (cy 1, 10, .inl (fun _ => 0))), (q12, .inl (cy 1, 10, .inl (fun _ => 0))), (q13, .inl (cy 1, 10, .inl (fun _ => 0))), (q14, .inl (cy 3, 6, .inl (fun _ => 0))), (q15, .inl (cy 1, 6, .inl (fun _ => 0))), (q16, .inl (cy 1, 6, .inl (fun _ => 0))), (q17, .inl (cy 1, 128, .inl (fun _ => 0))), (q18, .inl (cy 1, 128, .inl (fun _ => 0))), (q19, .inl (cy 1, 128, .inl (fun _ => 0))), (q20, .inl (cy 1, 96, .inl (fun _ => 0)))]) C dX12_init_768 zf_X12_72 rfl rfl rfl (Nat.le_of_ble_eq_true rfl) rfl ?_
  refine n_aload C dX12_init_771 rfl (q := 0) rfl ?_
  refine n_bipush (v := 96) C dX12_init_772 (by decide) ?_
  refine n_newa (atype := .int) (ty := .int) (N' := 96) (t0 := 1) (a0 := (96, .inl (fun _ => 0))) (cA0 := cy 1) C dX12_init_774 za_int rfl rfl (fun _ => rfl) (by decide) (by decide) (Nat.le_of_ble_eq_true rfl) (Nat.le_of_ble_eq_true rfl) (Nat.le_of_ble_eq_true rfl) (fun q21 => ?_)
  refine n_put (q0 := 0) (ws' := [(h0, .inr (12, [.ref q1, .int 0, .int 0, .ref q2, .int 0, .int (-1), .int 0, .int 0, .int 0, .int 0, .int 0, .int 0, .int 0, .int 0, .int 0, .int 0, .int 0, .int 0, .int 0, .int 0, .int 0, .ref q3, .ref q4, .ref q5, .ref q6, .ref q7, .ref q8, .ref q9, .ref q10, .ref q11, .ref q12, .ref q13, .ref q14, .ref q15, .ref q16, .ref q17, .ref q18, .ref q19, .ref q20, .ref q21, .int 0, .int 0, .int 0, .int 0, .int 0, .int 0, .null, .null, .int 0, .null, .null, .null, .null, .null, .null, .null, .null, .long 0, .int 0, .int 0, .int 0, .int 0, .int 0, .null, .null, .int 0, .int 0, .null, .null, .int 0, .null, .int 0, .null, .null, .long 0])), (q1, .inl (cy 1, 700, .inl (fun _ => 0))), (q2, .inl (cy 1, 101, .inl (gWo 101))), (q3, .inl (cy 3, 2, .inl (fun _ => 0))), (q4, .inl (cy 1, 4, .inl (fun _ => 0))), (q5, .inl (cy 1, 12, .inl (fun _ => 0))), (q6, .inl (cy 1, 12, .inl (fun _ => 0))), (q7, .inl (cy 1, 12, .inl (fun _ => 0))), (q8, .inl (cy 1, 96, .inl (fun _ => 0))), (q9, .inl (cy 1, 12, .inl (fun _ => 0))), (q10, .inl (cy 1, 12, .inl (fun _ => 0))), (q11, .inl (cy 1, 10, .inl (fun _ => 0))), (q12, .inl (cy 1, 10, .inl (fun _ => 0))), (q13, .inl (cy 1, 10, .inl (fun _ => 0))), (q14, .inl (cy 3, 6, .inl (fun _ => 0))), (q15, .inl (cy 1, 6, .inl (fun _ => 0))), (q16, .inl (cy 1, 6, .inl (fun _ => 0))), (q17, .inl (cy 1, 128, .inl (fun _ => 0))), (q18, .inl (cy 1, 128, .inl (fun _ => 0))), (q19, .inl (cy 1, 128, .inl (fun _ => 0))), (q20, .inl (cy 1, 96, .inl (fun _ => 0))), (q21, .inl (cy 1, 96, .inl (fun _ => 0)))]) C dX12_init_776 zf_X12_75 rfl rfl rfl (Nat.le_of_ble_eq_true rfl) rfl ?_
  refine n_aload C dX12_init_779 rfl (q := 0) rfl ?_
  refine n_bipush (v := 7) C dX12_init_780 (by decide) ?_
  refine n_newa (atype := .long) (ty := .long) (N' := 7) (t0 := 2) (a0 := (7, .inr (.inl (fun _ => 0)))) (cA0 := cy 2) C dX12_init_782 za_long rfl rfl (fun _ => rfl) (by decide) (by decide) (Nat.le_of_ble_eq_true rfl) (Nat.le_of_ble_eq_true rfl) (Nat.le_of_ble_eq_true rfl) (fun q22 => ?_)
  refine n_put (q0 := 0) (ws' := [(h0, .inr (12, [.ref q1, .int 0, .int 0, .ref q2, .int 0, .int (-1), .int 0, .int 0, .int 0, .int 0, .int 0, .int 0, .int 0, .int 0, .int 0, .int 0, .int 0, .int 0, .int 0, .int 0, .int 0, .ref q3, .ref q4, .ref q5, .ref q6, .ref q7, .ref q8, .ref q9, .ref q10, .ref q11, .ref q12, .ref q13, .ref q14, .ref q15, .ref q16, .ref q17, .ref q18, .ref q19, .ref q20, .ref q21, .int 0, .int 0, .int 0, .int 0, .int 0, .int 0, .ref q22, .null, .int 0, .null, .null, .null, .null, .null, .null, .null, .null, .long 0, .int 0, .int 0, .int 0, .int 0, .int 0, .null, .null, .int 0, .int 0, .null, .null, .int 0, .null, .int 0, .null, .null, .long 0])), (q1, .inl (cy 1, 700, .inl (fun _ => 0))), (q2, .inl (cy 1, 101, .inl (gWo 101))), (q3, .inl (cy 3, 2, .inl (fun _ => 0))), (q4, .inl (cy 1, 4, .inl (fun _ => 0))), (q5, .inl (cy 1, 12, .inl (fun _ => 0))), (q6, .inl (cy 1, 12, .inl (fun _ => 0))), (q7, .inl (cy 1, 12, .inl (fun _ => 0))), (q8, .inl (cy 1, 96, .inl (fun _ => 0))), (q9, .inl (cy 1, 12, .inl (fun _ => 0))), (q10, .inl (cy 1, 12, .inl (fun _ => 0))), (q11, .inl (cy 1, 10, .inl (fun _ => 0))), (q12, .inl (cy 1, 10, .inl (fun _ => 0))), (q13, .inl (cy 1, 10, .inl (fun _ => 0))), (q14, .inl (cy 3, 6, .inl (fun _ => 0))), (q15, .inl (cy 1, 6, .inl (fun _ => 0))), (q16, .inl (cy 1, 6, .inl (fun _ => 0))), (q17, .inl (cy 1, 128, .inl (fun _ => 0))), (q18, .inl (cy 1, 128, .inl (fun _ => 0))), (q19, .inl (cy 1, 128, .inl (fun _ => 0))), (q20, .inl (cy 1, 96, .inl (fun _ => 0))), (q21, .inl (cy 1, 96, .inl (fun _ => 0))), (q22, .inl (cy 2, 7, .inr (.inl (fun _ => 0))))]) C dX12_init_784 zf_X12_78 rfl rfl rfl (Nat.le_of_ble_eq_true rfl) rfl ?_
  refine n_aload C dX12_init_787 rfl (q := 0) rfl ?_
  refine n_bipush (v := 64) C dX12_init_788 (by decide) ?_
  refine n_newa (atype := .long) (ty := .long) (N' := 64) (t0 := 2) (a0 := (64, .inr (.inl (fun _ => 0)))) (cA0 := cy 2) C dX12_init_790 za_long rfl rfl (fun _ => rfl) (by decide) (by decide) (Nat.le_of_ble_eq_true rfl) (Nat.le_of_ble_eq_true rfl) (Nat.le_of_ble_eq_true rfl) (fun q23 => ?_)
  refine n_put (q0 := 0) (ws' := [(h0, .inr (12, [.ref q1, .int 0, .int 0, .ref q2, .int 0, .int (-1), .int 0, .int 0, .int 0, .int 0, .int 0, .int 0, .int 0, .int 0, .int 0, .int 0, .int 0, .int 0, .int 0, .int 0, .int 0, .ref q3, .ref q4, .ref q5, .ref q6, .ref q7, .ref q8, .ref q9, .ref q10, .ref q11, .ref q12, .ref q13, .ref q14, .ref q15, .ref q16, .ref q17, .ref q18, .ref q19, .ref q20, .ref q21, .int 0, .int 0, .int 0, .int 0, .int 0, .int 0, .ref q22, .ref q23, .int 0, .null, .null, .null, .null, .null, .null, .null, .null, .long 0, .int 0, .int 0, .int 0, .int 0, .int 0, .null, .null, .int 0, .int 0, .null, .null, .int 0, .null, .int 0, .null, .null, .long 0])), (q1, .inl (cy 1, 700, .inl (fun _ => 0))), (q2, .inl (cy 1, 101, .inl (gWo 101))), (q3, .inl (cy 3, 2, .inl (fun _ => 0))), (q4, .inl (cy 1, 4, .inl (fun _ => 0))), (q5, .inl (cy 1, 12, .inl (fun _ => 0))), (q6, .inl (cy 1, 12, .inl (fun _ => 0))), (q7, .inl (cy 1, 12, .inl (fun _ => 0))), (q8, .inl (cy 1, 96, .inl (fun _ => 0))), (q9, .inl (cy 1, 12, .inl (fun _ => 0))), (q10, .inl (cy 1, 12, .inl (fun _ => 0))), (q11, .inl (cy 1, 10, .inl (fun _ => 0))), (q12, .inl (cy 1, 10, .inl (fun _ => 0))), (q13, .inl (cy 1, 10, .inl (fun _ => 0))), (q14, .inl (cy 3, 6, .inl (fun _ => 0))), (q15, .inl (cy 1, 6, .inl (fun _ => 0))), (q16, .inl (cy 1, 6, .inl (fun _ => 0))), (q17, .inl (cy 1, 128, .inl (fun _ => 0))), (q18, .inl (cy 1, 128, .inl (fun _ => 0))), (q19, .inl (cy 1, 128, .inl (fun _ => 0))), (q20, .inl (cy 1, 96, .inl (fun _ => 0))), (q21, .inl (cy 1, 96, .inl (fun _ => 0))), (q22, .inl (cy 2, 7, .inr (.inl (fun _ => 0)))), (q23, .inl (cy 2, 64, .inr (.inl (fun _ => 0))))]) C dX12_init_792 zf_X12_82 rfl rfl rfl (Nat.le_of_ble_eq_true rfl) rfl ?_
  refine n_aload C dX12_init_795 rfl (q := 0) rfl ?_
  refine n_bipush (v := 12) C dX12_init_796 (by decide) ?_
  refine n_newa (atype := .int) (ty := .int) (N' := 12) (t0 := 1) (a0 := (12, .inl (fun _ => 0))) (cA0 := cy 1) C dX12_init_798 za_int rfl rfl (fun _ => rfl) (by decide) (by decide) (Nat.le_of_ble_eq_true rfl) (Nat.le_of_ble_eq_true rfl) (Nat.le_of_ble_eq_true rfl) (fun q24 => ?_)
  refine n_put (q0 := 0) (ws' := [(h0, .inr (12, [.ref q1, .int 0, .int 0, .ref q2, .int 0, .int (-1), .int 0, .int 0, .int 0, .int 0, .int 0, .int 0, .int 0, .int 0, .int 0, .int 0, .int 0, .int 0, .int 0, .int 0, .int 0, .ref q3, .ref q4, .ref q5, .ref q6, .ref q7, .ref q8, .ref q9, .ref q10, .ref q11, .ref q12, .ref q13, .ref q14, .ref q15, .ref q16, .ref q17, .ref q18, .ref q19, .ref q20, .ref q21, .int 0, .int 0, .int 0, .int 0, .int 0, .int 0, .ref q22, .ref q23, .int 0, .ref q24, .null, .null, .null, .null, .null, .null, .null, .long 0, .int 0, .int 0, .int 0, .int 0, .int 0, .null, .null, .int 0, .int 0, .null, .null, .int 0, .null, .int 0, .null, .null, .long 0])), (q1, .inl (cy 1, 700, .inl (fun _ => 0))), (q2, .inl (cy 1, 101, .inl (gWo 101))), (q3, .inl (cy 3, 2, .inl (fun _ => 0))), (q4, .inl (cy 1, 4, .inl (fun _ => 0))), (q5, .inl (cy 1, 12, .inl (fun _ => 0))), (q6, .inl (cy 1, 12, .inl (fun _ => 0))), (q7, .inl (cy 1, 12, .inl (fun _ => 0))), (q8, .inl (cy 1, 96, .inl (fun _ => 0))), (q9, .inl (cy 1, 12, .inl (fun _ => 0))), (q10, .inl (cy 1, 12, .inl (fun _ => 0))), (q11, .inl (cy 1, 10, .inl (fun _ => 0))), (q12, .inl (cy 1, 10, .inl (fun _ => 0))), (q13, .inl (cy 1, 10, .inl (fun _ => 0))), (q14, .inl (cy 3, 6, .inl (fun _ => 0))), (q15, .inl (cy 1, 6, .inl (fun _ => 0))), (q16, .inl (cy 1, 6, .inl (fun _ => 0))), (q17, .inl (cy 1, 128, .inl (fun _ => 0))), (q18, .inl (cy 1, 128, .inl (fun _ => 0))), (q19, .inl (cy 1, 128, .inl (fun _ => 0))), (q20, .inl (cy 1, 96, .inl (fun _ => 0))), (q21, .inl (cy 1, 96, .inl (fun _ => 0))), (q22, .inl (cy 2, 7, .inr (.inl (fun _ => 0)))), (q23, .inl (cy 2, 64, .inr (.inl (fun _ => 0)))), (q24, .inl (cy 1, 12, .inl (fun _ => 0)))]) C dX12_init_800 zf_X12_85 rfl rfl rfl (Nat.le_of_ble_eq_true rfl) rfl ?_
  refine n_aload C dX12_init_803 rfl (q := 0) rfl ?_
  refine n_bipush (v := 12) C dX12_init_804 (by decide) ?_
  refine n_newa (atype := .int) (ty := .int) (N' := 12) (t0 := 1) (a0 := (12, .inl (fun _ => 0))) (cA0 := cy 1) C dX12_init_806 za_int rfl rfl (fun _ => rfl) (by decide) (by decide) (Nat.le_of_ble_eq_true rfl) (Nat.le_of_ble_eq_true rfl) (Nat.le_of_ble_eq_true rfl) (fun q25 => ?_)
  refine n_put (q0 := 0) (ws' := [(h0, .inr (12, [.ref q1, .int 0, .int 0, .ref q2, .int 0, .int (-1), .int 0, .int 0, .int 0, .int 0, .int 0, .int 0, .int 0, .int 0, .int 0, .int 0, .int 0, .int 0, .int 0, .int 0, .int 0, .ref q3, .ref q4, .ref q5, .ref q6, .ref q7, .ref q8, .ref q9, .ref q10, .ref q11, .ref q12, .ref q13, .ref q14, .ref q15, .ref q16, .ref q17, .ref q18, .ref q19, .ref q20, .ref q21, .int 0, .int 0, .int 0, .int 0, .int 0, .int 0, .ref q22, .ref q23, .int 0, .ref q24, .ref q25, .null, .null, .null, .null, .null, .null, .long 0, .int 0, .int 0, .int 0, .int 0, .int 0, .null, .null, .int 0, .int 0, .null, .null, .int 0, .null, .int 0, .null, .null, .long 0])), (q1, .inl (cy 1, 700, .inl (fun _ => 0))), (q2, .inl (cy 1, 101, .inl (gWo 101))), (q3, .inl (cy 3, 2, .inl (fun _ => 0))), (q4, .inl (cy 1, 4, .inl (fun _ => 0))), (q5, .inl (cy 1, 12, .inl (fun _ => 0))), (q6, .inl (cy 1, 12, .inl (fun _ => 0))), (q7, .inl (cy 1, 12, .inl (fun _ => 0))), (q8, .inl (cy 1, 96, .inl (fun _ => 0))), (q9, .inl (cy 1, 12, .inl (fun _ => 0))), (q10, .inl (cy 1, 12, .inl (fun _ => 0))), (q11, .inl (cy 1, 10, .inl (fun _ => 0))), (q12, .inl (cy 1, 10, .inl (fun _ => 0))), (q13, .inl (cy 1, 10, .inl (fun _ => 0))), (q14, .inl (cy 3, 6, .inl (fun _ => 0))), (q15, .inl (cy 1, 6, .inl (fun _ => 0))), (q16, .inl (cy 1, 6, .inl (fun _ => 0))), (q17, .inl (cy 1, 128, .inl (fun _ => 0))), (q18, .inl (cy 1, 128, .inl (fun _ => 0))), (q19, .inl (cy 1, 128, .inl (fun _ => 0))), (q20, .inl (cy 1, 96, .inl (fun _ => 0))), (q21, .inl (cy 1, 96, .inl (fun _ => 0))), (q22, .inl (cy 2, 7, .inr (.inl (fun _ => 0)))), (q23, .inl (cy 2, 64, .inr (.inl (fun _ => 0)))), (q24, .inl (cy 1, 12, .inl (fun _ => 0))), (q25, .inl (cy 1, 12, .inl (fun _ => 0)))]) C dX12_init_808 zf_X12_88 rfl rfl rfl (Nat.le_of_ble_eq_true rfl) rfl ?_
  refine n_aload C dX12_init_811 rfl (q := 0) rfl ?_
  refine n_bipush (v := 12) C dX12_init_812 (by decide) ?_
  refine n_newa (atype := .int) (ty := .int) (N' := 12) (t0 := 1) (a0 := (12, .inl (fun _ => 0))) (cA0 := cy 1) C dX12_init_814 za_int rfl rfl (fun _ => rfl) (by decide) (by decide) (Nat.le_of_ble_eq_true rfl) (Nat.le_of_ble_eq_true rfl) (Nat.le_of_ble_eq_true rfl) (fun q26 => ?_)
  refine n_put (q0 := 0) (ws' := [(h0, .inr (12, [.ref q1, .int 0, .int 0, .ref q2, .int 0, .int (-1), .int 0, .int 0, .int 0, .int 0, .int 0, .int 0, .int 0, .int 0, .int 0, .int 0, .int 0, .int 0, .int 0, .int 0, .int 0, .ref q3, .ref q4, .ref q5, .ref q6, .ref q7, .ref q8, .ref q9, .ref q10, .ref q11, .ref q12, .ref q13, .ref q14, .ref q15, .ref q16, .ref q17, .ref q18, .ref q19, .ref q20, .ref q21, .int 0, .int 0, .int 0, .int 0, .int 0, .int 0, .ref q22, .ref q23, .int 0, .ref q24, .ref q25, .ref q26, .null, .null, .null, .null, .null, .long 0, .int 0, .int 0, .int 0, .int 0, .int 0, .null, .null, .int 0, .int 0, .null, .null, .int 0, .null, .int 0, .null, .null, .long 0])), (q1, .inl (cy 1, 700, .inl (fun _ => 0))), (q2, .inl (cy 1, 101, .inl (gWo 101))), (q3, .inl (cy 3, 2, .inl (fun _ => 0))), (q4, .inl (cy 1, 4, .inl (fun _ => 0))), (q5, .inl (cy 1, 12, .inl (fun _ => 0))), (q6, .inl (cy 1, 12, .inl (fun _ => 0))), (q7, .inl (cy 1, 12, .inl (fun _ => 0))), (q8, .inl (cy 1, 96, .inl (fun _ => 0))), (q9, .inl (cy 1, 12, .inl (fun _ => 0))), (q10, .inl (cy 1, 12, .inl (fun _ => 0))), (q11, .inl (cy 1, 10, .inl (fun _ => 0))), (q12, .inl (cy 1, 10, .inl (fun _ => 0))), (q13, .inl (cy 1, 10, .inl (fun _ => 0))), (q14, .inl (cy 3, 6, .inl (fun _ => 0))), (q15, .inl (cy 1, 6, .inl (fun _ => 0))), (q16, .inl (cy 1, 6, .inl (fun _ => 0))), (q17, .inl (cy 1, 128, .inl (fun _ => 0))), (q18, .inl (cy 1, 128, .inl (fun _ => 0))), (q19, .inl (cy 1, 128, .inl (fun _ => 0))), (q20, .inl (cy 1, 96, .inl (fun _ => 0))), (q21, .inl (cy 1, 96, .inl (fun _ => 0))), (q22, .inl (cy 2, 7, .inr (.inl (fun _ => 0)))), (q23, .inl (cy 2, 64, .inr (.inl (fun _ => 0)))), (q24, .inl (cy 1, 12, .inl (fun _ => 0))), (q25, .inl (cy 1, 12, .inl (fun _ => 0))), (q26, .inl (cy 1, 12, .inl (fun _ => 0)))]) C dX12_init_816 zf_X12_91 rfl rfl rfl (Nat.le_of_ble_eq_true rfl) rfl ?_
  refine n_aload C dX12_init_819 rfl (q := 0) rfl ?_
  refine n_bipush (v := 12) C dX12_init_820 (by decide) ?_
  refine n_newa (atype := .int) (ty := .int) (N' := 12) (t0 := 1) (a0 := (12, .inl (fun _ => 0))) (cA0 := cy 1) C dX12_init_822 za_int rfl rfl (fun _ => rfl) (by decide) (by decide) (Nat.le_of_ble_eq_true rfl) (Nat.le_of_ble_eq_true rfl) (Nat.le_of_ble_eq_true rfl) (fun q27 => ?_)
  refine n_put (q0 := 0) (ws' := [(h0, .inr (12, [.ref q1, .int 0, .int 0, .ref q2, .int 0, .int (-1), .int 0, .int 0, .int 0, .int 0, .int 0, .int 0, .int 0, .int 0, .int 0, .int 0, .int 0, .int 0, .int 0, .int 0, .int 0, .ref q3, .ref q4, .ref q5, .ref q6, .ref q7, .ref q8, .ref q9, .ref q10, .ref q11, .ref q12, .ref q13, .ref q14, .ref q15, .ref q16, .ref q17, .ref q18, .ref q19, .ref q20, .ref q21, .int 0, .int 0, .int 0, .int 0, .int 0, .int 0, .ref q22, .ref q23, .int 0, .ref q24, .ref q25, .ref q26, .ref q27, .null, .null, .null, .null, .long 0, .int 0, .int 0, .int 0, .int 0, .int 0, .null, .null, .int 0, .int 0, .null, .null, .int 0, .null, .int 0, .null, .null, .long 0])), (q1, .inl (cy 1, 700, .inl (fun _ => 0))), (q2, .inl (cy 1, 101, .inl (gWo 101))), (q3, .inl (cy 3, 2, .inl (fun _ => 0))), (q4, .inl (cy 1, 4, .inl (fun _ => 0))), (q5, .inl (cy 1, 12, .inl (fun _ => 0))), (q6, .inl (cy 1, 12, .inl (fun _ => 0))), (q7, .inl (cy 1, 12, .inl (fun _ => 0))), (q8, .inl (cy 1, 96, .inl (fun _ => 0))), (q9, .inl (cy 1, 12, .inl (fun _ => 0))), (q10, .inl (cy 1, 12, .inl (fun _ => 0))), (q11, .inl (cy 1, 10, .inl (fun _ => 0))), (q12, .inl (cy 1, 10, .inl (fun _ => 0))), (q13, .inl (cy 1, 10, .inl (fun _ => 0))), (q14, .inl (cy 3, 6, .inl (fun _ => 0))), (q15, .inl (cy 1, 6, .inl (fun _ => 0))), (q16, .inl (cy 1, 6, .inl (fun _ => 0))), (q17, .inl (cy 1, 128, .inl (fun _ => 0))), (q18, .inl (cy 1, 128, .inl (fun _ => 0))), (q19, .inl (cy 1, 128, .inl (fun _ => 0))), (q20, .inl (cy 1, 96, .inl (fun _ => 0))), (q21, .inl (cy 1, 96, .inl (fun _ => 0))), (q22, .inl (cy 2, 7, .inr (.inl (fun _ => 0)))), (q23, .inl (cy 2, 64, .inr (.inl (fun _ => 0)))), (q24, .inl (cy 1, 12, .inl (fun _ => 0))), (q25, .inl (cy 1, 12, .inl (fun _ => 0))), (q26, .inl (cy 1, 12, .inl (fun _ => 0))), (q27, .inl (cy 1, 12, .inl (fun _ => 0)))]) C dX12_init_824 zf_X12_94 rfl rfl rfl (Nat.le_of_ble_eq_true rfl) rfl ?_
  refine n_aload C dX12_init_827 rfl (q := 0) rfl ?_
  refine n_bipush (v := 12) C dX12_init_828 (by decide) ?_
  refine n_newa (atype := .boolean) (ty := .boolean) (N' := 12) (t0 := 3) (a0 := (12, .inl (fun _ => 0))) (cA0 := cy 3) C dX12_init_830 za_boolean rfl rfl (fun _ => rfl) (by decide) (by decide) (Nat.le_of_ble_eq_true rfl) (Nat.le_of_ble_eq_true rfl) (Nat.le_of_ble_eq_true rfl) (fun q28 => ?_)
  refine n_put (q0 := 0) (ws' := [(h0, .inr (12, [.ref q1, .int 0, .int 0, .ref q2, .int 0, .int (-1), .int 0, .int 0, .int 0, .int 0, .int 0, .int 0, .int 0, .int 0, .int 0, .int 0, .int 0, .int 0, .int 0, .int 0, .int 0, .ref q3, .ref q4, .ref q5, .ref q6, .ref q7, .ref q8, .ref q9, .ref q10, .ref q11, .ref q12, .ref q13, .ref q14, .ref q15, .ref q16, .ref q17, .ref q18, .ref q19, .ref q20, .ref q21, .int 0, .int 0, .int 0, .int 0, .int 0, .int 0, .ref q22, .ref q23, .int 0, .ref q24, .ref q25, .ref q26, .ref q27, .ref q28, .null, .null, .null, .long 0, .int 0, .int 0, .int 0, .int 0, .int 0, .null, .null, .int 0, .int 0, .null, .null, .int 0, .null, .int 0, .null, .null, .long 0])), (q1, .inl (cy 1, 700, .inl (fun _ => 0))), (q2, .inl (cy 1, 101, .inl (gWo 101))), (q3, .inl (cy 3, 2, .inl (fun _ => 0))), (q4, .inl (cy 1, 4, .inl (fun _ => 0))), (q5, .inl (cy 1, 12, .inl (fun _ => 0))), (q6, .inl (cy 1, 12, .inl (fun _ => 0))), (q7, .inl (cy 1, 12, .inl (fun _ => 0))), (q8, .inl (cy 1, 96, .inl (fun _ => 0))), (q9, .inl (cy 1, 12, .inl (fun _ => 0))), (q10, .inl (cy 1, 12, .inl (fun _ => 0))), (q11, .inl (cy 1, 10, .inl (fun _ => 0))), (q12, .inl (cy 1, 10, .inl (fun _ => 0))), (q13, .inl (cy 1, 10, .inl (fun _ => 0))), (q14, .inl (cy 3, 6, .inl (fun _ => 0))), (q15, .inl (cy 1, 6, .inl (fun _ => 0))), (q16, .inl (cy 1, 6, .inl (fun _ => 0))), (q17, .inl (cy 1, 128, .inl (fun _ => 0))), (q18, .inl (cy 1, 128, .inl (fun _ => 0))), (q19, .inl (cy 1, 128, .inl (fun _ => 0))), (q20, .inl (cy 1, 96, .inl (fun _ => 0))), (q21, .inl (cy 1, 96, .inl (fun _ => 0))), (q22, .inl (cy 2, 7, .inr (.inl (fun _ => 0)))), (q23, .inl (cy 2, 64, .inr (.inl (fun _ => 0)))), (q24, .inl (cy 1, 12, .inl (fun _ => 0))), (q25, .inl (cy 1, 12, .inl (fun _ => 0))), (q26, .inl (cy 1, 12, .inl (fun _ => 0))), (q27, .inl (cy 1, 12, .inl (fun _ => 0))), (q28, .inl (cy 3, 12, .inl (fun _ => 0)))]) C dX12_init_832 zf_X12_97 rfl rfl rfl (Nat.le_of_ble_eq_true rfl) rfl ?_
  refine n_aload C dX12_init_835 rfl (q := 0) rfl ?_
  refine n_bipush (v := 12) C dX12_init_836 (by decide) ?_
  refine n_newa (atype := .int) (ty := .int) (N' := 12) (t0 := 1) (a0 := (12, .inl (fun _ => 0))) (cA0 := cy 1) C dX12_init_838 za_int rfl rfl (fun _ => rfl) (by decide) (by decide) (Nat.le_of_ble_eq_true rfl) (Nat.le_of_ble_eq_true rfl) (Nat.le_of_ble_eq_true rfl) (fun q29 => ?_)
  refine n_put (q0 := 0) (ws' := [(h0, .inr (12, [.ref q1, .int 0, .int 0, .ref q2, .int 0, .int (-1), .int 0, .int 0, .int 0, .int 0, .int 0, .int 0, .int 0, .int 0, .int 0, .int 0, .int 0, .int 0, .int 0, .int 0, .int 0, .ref q3, .ref q4, .ref q5, .ref q6, .ref q7, .ref q8, .ref q9, .ref q10, .ref q11, .ref q12, .ref q13, .ref q14, .ref q15, .ref q16, .ref q17, .ref q18, .ref q19, .ref q20, .ref q21, .int 0, .int 0, .int 0, .int 0, .int 0, .int 0, .ref q22, .ref q23, .int 0, .ref q24, .ref q25, .ref q26, .ref q27, .ref q28, .ref q29, .null, .null, .long 0, .int 0, .int 0, .int 0, .int 0, .int 0, .null, .null, .int 0, .int 0, .null, .null, .int 0, .null, .int 0, .null, .null, .long 0])), (q1, .inl (cy 1, 700, .inl (fun _ => 0))), (q2, .inl (cy 1, 101, .inl (gWo 101))), (q3, .inl (cy 3, 2, .inl (fun _ => 0))), (q4, .inl (cy 1, 4, .inl (fun _ => 0))), (q5, .inl (cy 1, 12, .inl (fun _ => 0))), (q6, .inl (cy 1, 12, .inl (fun _ => 0))), (q7, .inl (cy 1, 12, .inl (fun _ => 0))), (q8, .inl (cy 1, 96, .inl (fun _ => 0))), (q9, .inl (cy 1, 12, .inl (fun _ => 0))), (q10, .inl (cy 1, 12, .inl (fun _ => 0))), (q11, .inl (cy 1, 10, .inl (fun _ => 0))), (q12, .inl (cy 1, 10, .inl (fun _ => 0))), (q13, .inl (cy 1, 10, .inl (fun _ => 0))), (q14, .inl (cy 3, 6, .inl (fun _ => 0))), (q15, .inl (cy 1, 6, .inl (fun _ => 0))), (q16, .inl (cy 1, 6, .inl (fun _ => 0))), (q17, .inl (cy 1, 128, .inl (fun _ => 0))), (q18, .inl (cy 1, 128, .inl (fun _ => 0))), (q19, .inl (cy 1, 128, .inl (fun _ => 0))), (q20, .inl (cy 1, 96, .inl (fun _ => 0))), (q21, .inl (cy 1, 96, .inl (fun _ => 0))), (q22, .inl (cy 2, 7, .inr (.inl (fun _ => 0)))), (q23, .inl (cy 2, 64, .inr (.inl (fun _ => 0)))), (q24, .inl (cy 1, 12, .inl (fun _ => 0))), (q25, .inl (cy 1, 12, .inl (fun _ => 0))), (q26, .inl (cy 1, 12, .inl (fun _ => 0))), (q27, .inl (cy 1, 12, .inl (fun _ => 0))), (q28, .inl (cy 3, 12, .inl (fun _ => 0))), (q29, .inl (cy 1, 12, .inl (fun _ => 0)))]) C dX12_init_840 zf_X12_100 rfl rfl rfl (Nat.le_of_ble_eq_true rfl) rfl ?_
  refine n_aload C dX12_init_843 rfl (q := 0) rfl ?_
  refine n_iconst (v := 2) C dX12_init_844 (by decide) ?_
  refine n_newa (atype := .int) (ty := .int) (N' := 2) (t0 := 1) (a0 := (2, .inl (fun _ => 0))) (cA0 := cy 1) C dX12_init_845 za_int rfl rfl (fun _ => rfl) (by decide) (by decide) (Nat.le_of_ble_eq_true rfl) (Nat.le_of_ble_eq_true rfl) (Nat.le_of_ble_eq_true rfl) (fun q30 => ?_)
  refine n_put (q0 := 0) (ws' := [(h0, .inr (12, [.ref q1, .int 0, .int 0, .ref q2, .int 0, .int (-1), .int 0, .int 0, .int 0, .int 0, .int 0, .int 0, .int 0, .int 0, .int 0, .int 0, .int 0, .int 0, .int 0, .int 0, .int 0, .ref q3, .ref q4, .ref q5, .ref q6, .ref q7, .ref q8, .ref q9, .ref q10, .ref q11, .ref q12, .ref q13, .ref q14, .ref q15, .ref q16, .ref q17, .ref q18, .ref q19, .ref q20, .ref q21, .int 0, .int 0, .int 0, .int 0, .int 0, .int 0, .ref q22, .ref q23, .int 0, .ref q24, .ref q25, .ref q26, .ref q27, .ref q28, .ref q29, .ref q30, .null, .long 0, .int 0, .int 0, .int 0, .int 0, .int 0, .null, .null, .int 0, .int 0, .null, .null, .int 0, .null, .int 0, .null, .null, .long 0])), (q1, .inl (cy 1, 700, .inl (fun _ => 0))), (q2, .inl (cy 1, 101, .inl (gWo 101))), (q3, .inl (cy 3, 2, .inl (fun _ => 0))), (q4, .inl (cy 1, 4, .inl (fun _ => 0))), (q5, .inl (cy 1, 12, .inl (fun _ => 0))), (q6, .inl (cy 1, 12, .inl (fun _ => 0))), (q7, .inl (cy 1, 12, .inl (fun _ => 0))), (q8, .inl (cy 1, 96, .inl (fun _ => 0))), (q9, .inl (cy 1, 12, .inl (fun _ => 0))), (q10, .inl (cy 1, 12, .inl (fun _ => 0))), (q11, .inl (cy 1, 10, .inl (fun _ => 0))), (q12, .inl (cy 1, 10, .inl (fun _ => 0))), (q13, .inl (cy 1, 10, .inl (fun _ => 0))), (q14, .inl (cy 3, 6, .inl (fun _ => 0))), (q15, .inl (cy 1, 6, .inl (fun _ => 0))), (q16, .inl (cy 1, 6, .inl (fun _ => 0))), (q17, .inl (cy 1, 128, .inl (fun _ => 0))), (q18, .inl (cy 1, 128, .inl (fun _ => 0))), (q19, .inl (cy 1, 128, .inl (fun _ => 0))), (q20, .inl (cy 1, 96, .inl (fun _ => 0))), (q21, .inl (cy 1, 96, .inl (fun _ => 0))), (q22, .inl (cy 2, 7, .inr (.inl (fun _ => 0)))), (q23, .inl (cy 2, 64, .inr (.inl (fun _ => 0)))), (q24, .inl (cy 1, 12, .inl (fun _ => 0))), (q25, .inl (cy 1, 12, .inl (fun _ => 0))), (q26, .inl (cy 1, 12, .inl (fun _ => 0))), (q27, .inl (cy 1, 12, .inl (fun _ => 0))), (q28, .inl (cy 3, 12, .inl (fun _ => 0))), (q29, .inl (cy 1, 12, .inl (fun _ => 0))), (q30, .inl (cy 1, 2, .inl (fun _ => 0)))]) C dX12_init_847 zf_X12_103 rfl rfl rfl (Nat.le_of_ble_eq_true rfl) rfl ?_
  refine n_aload C dX12_init_850 rfl (q := 0) rfl ?_
  refine n_iconst (v := 2) C dX12_init_851 (by decide) ?_
  refine n_newa (atype := .int) (ty := .int) (N' := 2) (t0 := 1) (a0 := (2, .inl (fun _ => 0))) (cA0 := cy 1) C dX12_init_852 za_int rfl rfl (fun _ => rfl) (by decide) (by decide) (Nat.le_of_ble_eq_true rfl) (Nat.le_of_ble_eq_true rfl) (Nat.le_of_ble_eq_true rfl) (fun q31 => ?_)
  refine n_put (q0 := 0) (ws' := [(h0, .inr (12, [.ref q1, .int 0, .int 0, .ref q2, .int 0, .int (-1), .int 0, .int 0, .int 0, .int 0, .int 0, .int 0, .int 0, .int 0, .int 0, .int 0, .int 0, .int 0, .int 0, .int 0, .int 0, .ref q3, .ref q4, .ref q5, .ref q6, .ref q7, .ref q8, .ref q9, .ref q10, .ref q11, .ref q12, .ref q13, .ref q14, .ref q15, .ref q16, .ref q17, .ref q18, .ref q19, .ref q20, .ref q21, .int 0, .int 0, .int 0, .int 0, .int 0, .int 0, .ref q22, .ref q23, .int 0, .ref q24, .ref q25, .ref q26, .ref q27, .ref q28, .ref q29, .ref q30, .ref q31, .long 0, .int 0, .int 0, .int 0, .int 0, .int 0, .null, .null, .int 0, .int 0, .null, .null, .int 0, .null, .int 0, .null, .null, .long 0])), (q1, .inl (cy 1, 700, .inl (fun _ => 0))), (q2, .inl (cy 1, 101, .inl (gWo 101))), (q3, .inl (cy 3, 2, .inl (fun _ => 0))), (q4, .inl (cy 1, 4, .inl (fun _ => 0))), (q5, .inl (cy 1, 12, .inl (fun _ => 0))), (q6, .inl (cy 1, 12, .inl (fun _ => 0))), (q7, .inl (cy 1, 12, .inl (fun _ => 0))), (q8, .inl (cy 1, 96, .inl (fun _ => 0))), (q9, .inl (cy 1, 12, .inl (fun _ => 0))), (q10, .inl (cy 1, 12, .inl (fun _ => 0))), (q11, .inl (cy 1, 10, .inl (fun _ => 0))), (q12, .inl (cy 1, 10, .inl (fun _ => 0))), (q13, .inl (cy 1, 10, .inl (fun _ => 0))), (q14, .inl (cy 3, 6, .inl (fun _ => 0))), (q15, .inl (cy 1, 6, .inl (fun _ => 0))), (q16, .inl (cy 1, 6, .inl (fun _ => 0))), (q17, .inl (cy 1, 128, .inl (fun _ => 0))), (q18, .inl (cy 1, 128, .inl (fun _ => 0))), (q19, .inl (cy 1, 128, .inl (fun _ => 0))), (q20, .inl (cy 1, 96, .inl (fun _ => 0))), (q21, .inl (cy 1, 96, .inl (fun _ => 0))), (q22, .inl (cy 2, 7, .inr (.inl (fun _ => 0)))), (q23, .inl (cy 2, 64, .inr (.inl (fun _ => 0)))), (q24, .inl (cy 1, 12, .inl (fun _ => 0))), (q25, .inl (cy 1, 12, .inl (fun _ => 0))), (q26, .inl (cy 1, 12, .inl (fun _ => 0))), (q27, .inl (cy 1, 12, .inl (fun _ => 0))), (q28, .inl (cy 3, 12, .inl (fun _ => 0))), (q29, .inl (cy 1, 12, .inl (fun _ => 0))), (q30, .inl (cy 1, 2, .inl (fun _ => 0))), (q31, .inl (cy 1, 2, .inl (fun _ => 0)))]) C dX12_init_854 zf_X12_106 rfl rfl rfl (Nat.le_of_ble_eq_true rfl) rfl ?_
  refine n_aload C dX12_init_857 rfl (q := 0) rfl ?_
  refine n_bipush (v := 6) C dX12_init_858 (by decide) ?_
  refine n_newa (atype := .int) (ty := .int) (N' := 6) (t0 := 1) (a0 := (6, .inl (fun _ => 0))) (cA0 := cy 1) C dX12_init_860 za_int rfl rfl (fun _ => rfl) (by decide) (by decide) (Nat.le_of_ble_eq_true rfl) (Nat.le_of_ble_eq_true rfl) (Nat.le_of_ble_eq_true rfl) (fun q32 => ?_)
  refine n_put (q0 := 0) (ws' := [(h0, .inr (12, [.ref q1, .int 0, .int 0, .ref q2, .int 0, .int (-1), .int 0, .int 0, .int 0, .int 0, .int 0, .int 0, .int 0, .int 0, .int 0, .int 0, .int 0, .int 0, .int 0, .int 0, .int 0, .ref q3, .ref q4, .ref q5, .ref q6, .ref q7, .ref q8, .ref q9, .ref q10, .ref q11, .ref q12, .ref q13, .ref q14, .ref q15, .ref q16, .ref q17, .ref q18, .ref q19, .ref q20, .ref q21, .int 0, .int 0, .int 0, .int 0, .int 0, .int 0, .ref q22, .ref q23, .int 0, .ref q24, .ref q25, .ref q26, .ref q27, .ref q28, .ref q29, .ref q30, .ref q31, .long 0, .int 0, .int 0, .int 0, .int 0, .int 0, .ref q32, .null, .int 0, .int 0, .null, .null, .int 0, .null, .int 0, .null, .null, .long 0])), (q1, .inl (cy 1, 700, .inl (fun _ => 0))), (q2, .inl (cy 1, 101, .inl (gWo 101))), (q3, .inl (cy 3, 2, .inl (fun _ => 0))), (q4, .inl (cy 1, 4, .inl (fun _ => 0))), (q5, .inl (cy 1, 12, .inl (fun _ => 0))), (q6, .inl (cy 1, 12, .inl (fun _ => 0))), (q7, .inl (cy 1, 12, .inl (fun _ => 0))), (q8, .inl (cy 1, 96, .inl (fun _ => 0))), (q9, .inl (cy 1, 12, .inl (fun _ => 0))), (q10, .inl (cy 1, 12, .inl (fun _ => 0))), (q11, .inl (cy 1, 10, .inl (fun _ => 0))), (q12, .inl (cy 1, 10, .inl (fun _ => 0))), (q13, .inl (cy 1, 10, .inl (fun _ => 0))), (q14, .inl (cy 3, 6, .inl (fun _ => 0))), (q15, .inl (cy 1, 6, .inl (fun _ => 0))), (q16, .inl (cy 1, 6, .inl (fun _ => 0))), (q17, .inl (cy 1, 128, .inl (fun _ => 0))), (q18, .inl (cy 1, 128, .inl (fun _ => 0))), (q19, .inl (cy 1, 128, .inl (fun _ => 0))), (q20, .inl (cy 1, 96, .inl (fun _ => 0))), (q21, .inl (cy 1, 96, .inl (fun _ => 0))), (q22, .inl (cy 2, 7, .inr (.inl (fun _ => 0)))), (q23, .inl (cy 2, 64, .inr (.inl (fun _ => 0)))), (q24, .inl (cy 1, 12, .inl (fun _ => 0))), (q25, .inl (cy 1, 12, .inl (fun _ => 0))), (q26, .inl (cy 1, 12, .inl (fun _ => 0))), (q27, .inl (cy 1, 12, .inl (fun _ => 0))), (q28, .inl (cy 3, 12, .inl (fun _ => 0))), (q29, .inl (cy 1, 12, .inl (fun _ => 0))), (q30, .inl (cy 1, 2, .inl (fun _ => 0))), (q31, .inl (cy 1, 2, .inl (fun _ => 0))), (q32, .inl (cy 1, 6, .inl (fun _ => 0)))]) C dX12_init_862 zf_X12_109 rfl rfl rfl (Nat.le_of_ble_eq_true rfl) rfl ?_
  refine n_aload C dX12_init_865 rfl (q := 0) rfl ?_
  refine n_bipush (v := 36) C dX12_init_866 (by decide) ?_
  refine n_newa (atype := .int) (ty := .int) (N' := 36) (t0 := 1) (a0 := (36, .inl (fun _ => 0))) (cA0 := cy 1) C dX12_init_868 za_int rfl rfl (fun _ => rfl) (by decide) (by decide) (Nat.le_of_ble_eq_true rfl) (Nat.le_of_ble_eq_true rfl) (Nat.le_of_ble_eq_true rfl) (fun q33 => ?_)
  refine n_put (q0 := 0) (ws' := [(h0, .inr (12, [.ref q1, .int 0, .int 0, .ref q2, .int 0, .int (-1), .int 0, .int 0, .int 0, .int 0, .int 0, .int 0, .int 0, .int 0, .int 0, .int 0, .int 0, .int 0, .int 0, .int 0, .int 0, .ref q3, .ref q4, .ref q5, .ref q6, .ref q7, .ref q8, .ref q9, .ref q10, .ref q11, .ref q12, .ref q13, .ref q14, .ref q15, .ref q16, .ref q17, .ref q18, .ref q19, .ref q20, .ref q21, .int 0, .int 0, .int 0, .int 0, .int 0, .int 0, .ref q22, .ref q23, .int 0, .ref q24, .ref q25, .ref q26, .ref q27, .ref q28, .ref q29, .ref q30, .ref q31, .long 0, .int 0, .int 0, .int 0, .int 0, .int 0, .ref q32, .ref q33, .int 0, .int 0, .null, .null, .int 0, .null, .int 0, .null, .null, .long 0])), (q1, .inl (cy 1, 700, .inl (fun _ => 0))), (q2, .inl (cy 1, 101, .inl (gWo 101))), (q3, .inl (cy 3, 2, .inl (fun _ => 0))), (q4, .inl (cy 1, 4, .inl (fun _ => 0))), (q5, .inl (cy 1, 12, .inl (fun _ => 0))), (q6, .inl (cy 1, 12, .inl (fun _ => 0))), (q7, .inl (cy 1, 12, .inl (fun _ => 0))), (q8, .inl (cy 1, 96, .inl (fun _ => 0))), (q9, .inl (cy 1, 12, .inl (fun _ => 0))), (q10, .inl (cy 1, 12, .inl (fun _ => 0))), (q11, .inl (cy 1, 10, .inl (fun _ => 0))), (q12, .inl (cy 1, 10, .inl (fun _ => 0))), (q13, .inl (cy 1, 10, .inl (fun _ => 0))), (q14, .inl (cy 3, 6, .inl (fun _ => 0))), (q15, .inl (cy 1, 6, .inl (fun _ => 0))), (q16, .inl (cy 1, 6, .inl (fun _ => 0))), (q17, .inl (cy 1, 128, .inl (fun _ => 0))), (q18, .inl (cy 1, 128, .inl (fun _ => 0))), (q19, .inl (cy 1, 128, .inl (fun _ => 0))), (q20, .inl (cy 1, 96, .inl (fun _ => 0))), (q21, .inl (cy 1, 96, .inl (fun _ => 0))), (q22, .inl (cy 2, 7, .inr (.inl (fun _ => 0)))), (q23, .inl (cy 2, 64, .inr (.inl (fun _ => 0)))), (q24, .inl (cy 1, 12, .inl (fun _ => 0))), (q25, .inl (cy 1, 12, .inl (fun _ => 0))), (q26, .inl (cy 1, 12, .inl (fun _ => 0))), (q27, .inl (cy 1, 12, .inl (fun _ => 0))), (q28, .inl (cy 3, 12, .inl (fun _ => 0))), (q29, .inl (cy 1, 12, .inl (fun _ => 0))), (q30, .inl (cy 1, 2, .inl (fun _ => 0))), (q31, .inl (cy 1, 2, .inl (fun _ => 0))), (q32, .inl (cy 1, 6, .inl (fun _ => 0))), (q33, .inl (cy 1, 36, .inl (fun _ => 0)))]) C dX12_init_870 zf_X12_112 rfl rfl rfl (Nat.le_of_ble_eq_true rfl) rfl ?_
  refine n_aload C dX12_init_873 rfl (q := 0) rfl ?_
  refine n_iconst (v := -1) C dX12_init_874 (by decide) ?_
  refine n_put (q0 := 0) (ws' := [(h0, .inr (12, [.ref q1, .int 0, .int 0, .ref q2, .int 0, .int (-1), .int 0, .int 0, .int 0, .int 0, .int 0, .int 0, .int 0, .int 0, .int 0, .int 0, .int 0, .int 0, .int 0, .int 0, .int 0, .ref q3, .ref q4, .ref q5, .ref q6, .ref q7, .ref q8, .ref q9, .ref q10, .ref q11, .ref q12, .ref q13, .ref q14, .ref q15, .ref q16, .ref q17, .ref q18, .ref q19, .ref q20, .ref q21, .int 0, .int 0, .int 0, .int 0, .int 0, .int 0, .ref q22, .ref q23, .int 0, .ref q24, .ref q25, .ref q26, .ref q27, .ref q28, .ref q29, .ref q30, .ref q31, .long 0, .int 0, .int 0, .int 0, .int 0, .int 0, .ref q32, .ref q33, .int 0, .int (-1), .null, .null, .int 0, .null, .int 0, .null, .null, .long 0])), (q1, .inl (cy 1, 700, .inl (fun _ => 0))), (q2, .inl (cy 1, 101, .inl (gWo 101))), (q3, .inl (cy 3, 2, .inl (fun _ => 0))), (q4, .inl (cy 1, 4, .inl (fun _ => 0))), (q5, .inl (cy 1, 12, .inl (fun _ => 0))), (q6, .inl (cy 1, 12, .inl (fun _ => 0))), (q7, .inl (cy 1, 12, .inl (fun _ => 0))), (q8, .inl (cy 1, 96, .inl (fun _ => 0))), (q9, .inl (cy 1, 12, .inl (fun _ => 0))), (q10, .inl (cy 1, 12, .inl (fun _ => 0))), (q11, .inl (cy 1, 10, .inl (fun _ => 0))), (q12, .inl (cy 1, 10, .inl (fun _ => 0))), (q13, .inl (cy 1, 10, .inl (fun _ => 0))), (q14, .inl (cy 3, 6, .inl (fun _ => 0))), (q15, .inl (cy 1, 6, .inl (fun _ => 0))), (q16, .inl (cy 1, 6, .inl (fun _ => 0))), (q17, .inl (cy 1, 128, .inl (fun _ => 0))), (q18, .inl (cy 1, 128, .inl (fun _ => 0))), (q19, .inl (cy 1, 128, .inl (fun _ => 0))), (q20, .inl (cy 1, 96, .inl (fun _ => 0))), (q21, .inl (cy 1, 96, .inl (fun _ => 0))), (q22, .inl (cy 2, 7, .inr (.inl (fun _ => 0)))), (q23, .inl (cy 2, 64, .inr (.inl (fun _ => 0)))), (q24, .inl (cy 1, 12, .inl (fun _ => 0))), (q25, .inl (cy 1, 12, .inl (fun _ => 0))), (q26, .inl (cy 1, 12, .inl (fun _ => 0))), (q27, .inl (cy 1, 12, .inl (fun _ => 0))), (q28, .inl (cy 3, 12, .inl (fun _ => 0))), (q29, .inl (cy 1, 12, .inl (fun _ => 0))), (q30, .inl (cy 1, 2, .inl (fun _ => 0))), (q31, .inl (cy 1, 2, .inl (fun _ => 0))), (q32, .inl (cy 1, 6, .inl (fun _ => 0))), (q33, .inl (cy 1, 36, .inl (fun _ => 0)))]) C dX12_init_875 zf_X12_115 rfl rfl rfl (Nat.le_of_ble_eq_true rfl) rfl ?_
  refine n_aload C dX12_init_878 rfl (q := 0) rfl ?_
  refine n_bipush (v := 72) C dX12_init_879 (by decide) ?_
  refine n_newa (atype := .int) (ty := .int) (N' := 72) (t0 := 1) (a0 := (72, .inl (fun _ => 0))) (cA0 := cy 1) C dX12_init_881 za_int rfl rfl (fun _ => rfl) (by decide) (by decide) (Nat.le_of_ble_eq_true rfl) (Nat.le_of_ble_eq_true rfl) (Nat.le_of_ble_eq_true rfl) (fun q34 => ?_)
  refine n_put (q0 := 0) (ws' := [(h0, .inr (12, [.ref q1, .int 0, .int 0, .ref q2, .int 0, .int (-1), .int 0, .int 0, .int 0, .int 0, .int 0, .int 0, .int 0, .int 0, .int 0, .int 0, .int 0, .int 0, .int 0, .int 0, .int 0, .ref q3, .ref q4, .ref q5, .ref q6, .ref q7, .ref q8, .ref q9, .ref q10, .ref q11, .ref q12, .ref q13, .ref q14, .ref q15, .ref q16, .ref q17, .ref q18, .ref q19, .ref q20, .ref q21, .int 0, .int 0, .int 0, .int 0, .int 0, .int 0, .ref q22, .ref q23, .int 0, .ref q24, .ref q25, .ref q26, .ref q27, .ref q28, .ref q29, .ref q30, .ref q31, .long 0, .int 0, .int 0, .int 0, .int 0, .int 0, .ref q32, .ref q33, .int 0, .int (-1), .ref q34, .null, .int 0, .null, .int 0, .null, .null, .long 0])), (q1, .inl (cy 1, 700, .inl (fun _ => 0))), (q2, .inl (cy 1, 101, .inl (gWo 101))), (q3, .inl (cy 3, 2, .inl (fun _ => 0))), (q4, .inl (cy 1, 4, .inl (fun _ => 0))), (q5, .inl (cy 1, 12, .inl (fun _ => 0))), (q6, .inl (cy 1, 12, .inl (fun _ => 0))), (q7, .inl (cy 1, 12, .inl (fun _ => 0))), (q8, .inl (cy 1, 96, .inl (fun _ => 0))), (q9, .inl (cy 1, 12, .inl (fun _ => 0))), (q10, .inl (cy 1, 12, .inl (fun _ => 0))), (q11, .inl (cy 1, 10, .inl (fun _ => 0))), (q12, .inl (cy 1, 10, .inl (fun _ => 0))), (q13, .inl (cy 1, 10, .inl (fun _ => 0))), (q14, .inl (cy 3, 6, .inl (fun _ => 0))), (q15, .inl (cy 1, 6, .inl (fun _ => 0))), (q16, .inl (cy 1, 6, .inl (fun _ => 0))), (q17, .inl (cy 1, 128, .inl (fun _ => 0))), (q18, .inl (cy 1, 128, .inl (fun _ => 0))), (q19, .inl (cy 1, 128, .inl (fun _ => 0))), (q20, .inl (cy 1, 96, .inl (fun _ => 0))), (q21, .inl (cy 1, 96, .inl (fun _ => 0))), (q22, .inl (cy 2, 7, .inr (.inl (fun _ => 0)))), (q23, .inl (cy 2, 64, .inr (.inl (fun _ => 0)))), (q24, .inl (cy 1, 12, .inl (fun _ => 0))), (q25, .inl (cy 1, 12, .inl (fun _ => 0))), (q26, .inl (cy 1, 12, .inl (fun _ => 0))), (q27, .inl (cy 1, 12, .inl (fun _ => 0))), (q28, .inl (cy 3, 12, .inl (fun _ => 0))), (q29, .inl (cy 1, 12, .inl (fun _ => 0))), (q30, .inl (cy 1, 2, .inl (fun _ => 0))), (q31, .inl (cy 1, 2, .inl (fun _ => 0))), (q32, .inl (cy 1, 6, .inl (fun _ => 0))), (q33, .inl (cy 1, 36, .inl (fun _ => 0))), (q34, .inl (cy 1, 72, .inl (fun _ => 0)))]) C dX12_init_883 zf_X12_118 rfl rfl rfl (Nat.le_of_ble_eq_true rfl) rfl ?_
  refine n_aload C dX12_init_886 rfl (q := 0) rfl ?_
  refine n_bipush (v := 24) C dX12_init_887 (by decide) ?_
  refine n_newa (atype := .boolean) (ty := .boolean) (N' := 24) (t0 := 3) (a0 := (24, .inl (fun _ => 0))) (cA0 := cy 3) C dX12_init_889 za_boolean rfl rfl (fun _ => rfl) (by decide) (by decide) (Nat.le_of_ble_eq_true rfl) (Nat.le_of_ble_eq_true rfl) (Nat.le_of_ble_eq_true rfl) (fun q35 => ?_)
  refine n_put (q0 := 0) (ws' := [(h0, .inr (12, [.ref q1, .int 0, .int 0, .ref q2, .int 0, .int (-1), .int 0, .int 0, .int 0, .int 0, .int 0, .int 0, .int 0, .int 0, .int 0, .int 0, .int 0, .int 0, .int 0, .int 0, .int 0, .ref q3, .ref q4, .ref q5, .ref q6, .ref q7, .ref q8, .ref q9, .ref q10, .ref q11, .ref q12, .ref q13, .ref q14, .ref q15, .ref q16, .ref q17, .ref q18, .ref q19, .ref q20, .ref q21, .int 0, .int 0, .int 0, .int 0, .int 0, .int 0, .ref q22, .ref q23, .int 0, .ref q24, .ref q25, .ref q26, .ref q27, .ref q28, .ref q29, .ref q30, .ref q31, .long 0, .int 0, .int 0, .int 0, .int 0, .int 0, .ref q32, .ref q33, .int 0, .int (-1), .ref q34, .ref q35, .int 0, .null, .int 0, .null, .null, .long 0])), (q1, .inl (cy 1, 700, .inl (fun _ => 0))), (q2, .inl (cy 1, 101, .inl (gWo 101))), (q3, .inl (cy 3, 2, .inl (fun _ => 0))), (q4, .inl (cy 1, 4, .inl (fun _ => 0))), (q5, .inl (cy 1, 12, .inl (fun _ => 0))), (q6, .inl (cy 1, 12, .inl (fun _ => 0))), (q7, .inl (cy 1, 12, .inl (fun _ => 0))), (q8, .inl (cy 1, 96, .inl (fun _ => 0))), (q9, .inl (cy 1, 12, .inl (fun _ => 0))), (q10, .inl (cy 1, 12, .inl (fun _ => 0))), (q11, .inl (cy 1, 10, .inl (fun _ => 0))), (q12, .inl (cy 1, 10, .inl (fun _ => 0))), (q13, .inl (cy 1, 10, .inl (fun _ => 0))), (q14, .inl (cy 3, 6, .inl (fun _ => 0))), (q15, .inl (cy 1, 6, .inl (fun _ => 0))), (q16, .inl (cy 1, 6, .inl (fun _ => 0))), (q17, .inl (cy 1, 128, .inl (fun _ => 0))), (q18, .inl (cy 1, 128, .inl (fun _ => 0))), (q19, .inl (cy 1, 128, .inl (fun _ => 0))), (q20, .inl (cy 1, 96, .inl (fun _ => 0))), (q21, .inl (cy 1, 96, .inl (fun _ => 0))), (q22, .inl (cy 2, 7, .inr (.inl (fun _ => 0)))), (q23, .inl (cy 2, 64, .inr (.inl (fun _ => 0)))), (q24, .inl (cy 1, 12, .inl (fun _ => 0))), (q25, .inl (cy 1, 12, .inl (fun _ => 0))), (q26, .inl (cy 1, 12, .inl (fun _ => 0))), (q27, .inl (cy 1, 12, .inl (fun _ => 0))), (q28, .inl (cy 3, 12, .inl (fun _ => 0))), (q29, .inl (cy 1, 12, .inl (fun _ => 0))), (q30, .inl (cy 1, 2, .inl (fun _ => 0))), (q31, .inl (cy 1, 2, .inl (fun _ => 0))), (q32, .inl (cy 1, 6, .inl (fun _ => 0))), (q33, .inl (cy 1, 36, .inl (fun _ => 0))), (q34, .inl (cy 1, 72, .inl (fun _ => 0))), (q35, .inl (cy 3, 24, .inl (fun _ => 0)))]) C dX12_init_891 zf_X12_121 rfl rfl rfl (Nat.le_of_ble_eq_true rfl) rfl ?_
  refine n_aload C dX12_init_894 rfl (q := 0) rfl ?_
  refine n_sipush (v := 360) C dX12_init_895 (by decide) ?_
  refine n_newa (atype := .int) (ty := .int) (N' := 360) (t0 := 1) (a0 := (360, .inl (fun _ => 0))) (cA0 := cy 1) C dX12_init_898 za_int rfl rfl (fun _ => rfl) (by decide) (by decide) (Nat.le_of_ble_eq_true rfl) (Nat.le_of_ble_eq_true rfl) (Nat.le_of_ble_eq_true rfl) (fun q36 => ?_)
  refine n_put (q0 := 0) (ws' := [(h0, .inr (12, [.ref q1, .int 0, .int 0, .ref q2, .int 0, .int (-1), .int 0, .int 0, .int 0, .int 0, .int 0, .int 0, .int 0, .int 0, .int 0, .int 0, .int 0, .int 0, .int 0, .int 0, .int 0, .ref q3, .ref q4, .ref q5, .ref q6, .ref q7, .ref q8, .ref q9, .ref q10, .ref q11, .ref q12, .ref q13, .ref q14, .ref q15, .ref q16, .ref q17, .ref q18, .ref q19, .ref q20, .ref q21, .int 0, .int 0, .int 0, .int 0, .int 0, .int 0, .ref q22, .ref q23, .int 0, .ref q24, .ref q25, .ref q26, .ref q27, .ref q28, .ref q29, .ref q30, .ref q31, .long 0, .int 0, .int 0, .int 0, .int 0, .int 0, .ref q32, .ref q33, .int 0, .int (-1), .ref q34, .ref q35, .int 0, .ref q36, .int 0, .null, .null, .long 0])), (q1, .inl (cy 1, 700, .inl (fun _ => 0))), (q2, .inl (cy 1, 101, .inl (gWo 101))), (q3, .inl (cy 3, 2, .inl (fun _ => 0))), (q4, .inl (cy 1, 4, .inl (fun _ => 0))), (q5, .inl (cy 1, 12, .inl (fun _ => 0))), (q6, .inl (cy 1, 12, .inl (fun _ => 0))), (q7, .inl (cy 1, 12, .inl (fun _ => 0))), (q8, .inl (cy 1, 96, .inl (fun _ => 0))), (q9, .inl (cy 1, 12, .inl (fun _ => 0))), (q10, .inl (cy 1, 12, .inl (fun _ => 0))), (q11, .inl (cy 1, 10, .inl (fun _ => 0))), (q12, .inl (cy 1, 10, .inl (fun _ => 0))), (q13, .inl (cy 1, 10, .inl (fun _ => 0))), (q14, .inl (cy 3, 6, .inl (fun _ => 0))), (q15, .inl (cy 1, 6, .inl (fun _ => 0))), (q16, .inl (cy 1, 6, .inl (fun _ => 0))), (q17, .inl (cy 1, 128, .inl (fun _ => 0))), (q18, .inl (cy 1, 128, .inl (fun _ => 0))), (q19, .inl (cy 1, 128, .inl (fun _ => 0))), (q20, .inl (cy 1, 96, .inl (fun _ => 0))), (q21, .inl (cy 1, 96, .inl (fun _ => 0))), (q22, .inl (cy 2, 7, .inr (.inl (fun _ => 0)))), (q23, .inl (cy 2, 64, .inr (.inl (fun _ => 0)))), (q24, .inl (cy 1, 12, .inl (fun _ => 0))), (q25, .inl (cy 1, 12, .inl (fun _ => 0))), (q26, .inl (cy 1, 12, .inl (fun _ => 0))), (q27, .inl (cy 1, 12, .inl (fun _ => 0))), (q28, .inl (cy 3, 12, .inl (fun _ => 0))), (q29, .inl (cy 1, 12, .inl (fun _ => 0))), (q30, .inl (cy 1, 2, .inl (fun _ => 0))), (q31, .inl (cy 1, 2, .inl (fun _ => 0))), (q32, .inl (cy 1, 6, .inl (fun _ => 0))), (q33, .inl (cy 1, 36, .inl (fun _ => 0))), (q34, .inl (cy 1, 72, .inl (fun _ => 0))), (q35, .inl (cy 3, 24, .inl (fun _ => 0))), (q36, .inl (cy 1, 360, .inl (fun _ => 0)))]) C dX12_init_900 zf_X12_124 rfl rfl rfl (Nat.le_of_ble_eq_true rfl) rfl ?_
  refine n_aload C dX12_init_903 rfl (q := 0) rfl ?_
  refine n_bipush (v := 18) C dX12_init_904 (by decide) ?_
  refine n_newa (atype := .int) (ty := .int) (N' := 18) (t0 := 1) (a0 := (18, .inl (fun _ => 0))) (cA0 := cy 1) C dX12_init_906 za_int rfl rfl (fun _ => rfl) (by decide) (by decide) (Nat.le_of_ble_eq_true rfl) (Nat.le_of_ble_eq_true rfl) (Nat.le_of_ble_eq_true rfl) (fun q37 => ?_)
  refine n_put (q0 := 0) (ws' := [(h0, .inr (12, [.ref q1, .int 0, .int 0, .ref q2, .int 0, .int (-1), .int 0, .int 0, .int 0, .int 0, .int 0, .int 0, .int 0, .int 0, .int 0, .int 0, .int 0, .int 0, .int 0, .int 0, .int 0, .ref q3, .ref q4, .ref q5, .ref q6, .ref q7, .ref q8, .ref q9, .ref q10, .ref q11, .ref q12, .ref q13, .ref q14, .ref q15, .ref q16, .ref q17, .ref q18, .ref q19, .ref q20, .ref q21, .int 0, .int 0, .int 0, .int 0, .int 0, .int 0, .ref q22, .ref q23, .int 0, .ref q24, .ref q25, .ref q26, .ref q27, .ref q28, .ref q29, .ref q30, .ref q31, .long 0, .int 0, .int 0, .int 0, .int 0, .int 0, .ref q32, .ref q33, .int 0, .int (-1), .ref q34, .ref q35, .int 0, .ref q36, .int 0, .ref q37, .null, .long 0])), (q1, .inl (cy 1, 700, .inl (fun _ => 0))), (q2, .inl (cy 1, 101, .inl (gWo 101))), (q3, .inl (cy 3, 2, .inl (fun _ => 0))), (q4, .inl (cy 1, 4, .inl (fun _ => 0))), (q5, .inl (cy 1, 12, .inl (fun _ => 0))), (q6, .inl (cy 1, 12, .inl (fun _ => 0))), (q7, .inl (cy 1, 12, .inl (fun _ => 0))), (q8, .inl (cy 1, 96, .inl (fun _ => 0))), (q9, .inl (cy 1, 12, .inl (fun _ => 0))), (q10, .inl (cy 1, 12, .inl (fun _ => 0))), (q11, .inl (cy 1, 10, .inl (fun _ => 0))), (q12, .inl (cy 1, 10, .inl (fun _ => 0))), (q13, .inl (cy 1, 10, .inl (fun _ => 0))), (q14, .inl (cy 3, 6, .inl (fun _ => 0))), (q15, .inl (cy 1, 6, .inl (fun _ => 0))), (q16, .inl (cy 1, 6, .inl (fun _ => 0))), (q17, .inl (cy 1, 128, .inl (fun _ => 0))), (q18, .inl (cy 1, 128, .inl (fun _ => 0))), (q19, .inl (cy 1, 128, .inl (fun _ => 0))), (q20, .inl (cy 1, 96, .inl (fun _ => 0))), (q21, .inl (cy 1, 96, .inl (fun _ => 0))), (q22, .inl (cy 2, 7, .inr (.inl (fun _ => 0)))), (q23, .inl (cy 2, 64, .inr (.inl (fun _ => 0)))), (q24, .inl (cy 1, 12, .inl (fun _ => 0))), (q25, .inl (cy 1, 12, .inl (fun _ => 0))), (q26, .inl (cy 1, 12, .inl (fun _ => 0))), (q27, .inl (cy 1, 12, .inl (fun _ => 0))), (q28, .inl (cy 3, 12, .inl (fun _ => 0))), (q29, .inl (cy 1, 12, .inl (fun _ => 0))), (q30, .inl (cy 1, 2, .inl (fun _ => 0))), (q31, .inl (cy 1, 2, .inl (fun _ => 0))), (q32, .inl (cy 1, 6, .inl (fun _ => 0))), (q33, .inl (cy 1, 36, .inl (fun _ => 0))), (q34, .inl (cy 1, 72, .inl (fun _ => 0))), (q35, .inl (cy 3, 24, .inl (fun _ => 0))), (q36, .inl (cy 1, 360, .inl (fun _ => 0))), (q37, .inl (cy 1, 18, .inl (fun _ => 0)))]) C dX12_init_908 zf_X12_127 rfl rfl rfl (Nat.le_of_ble_eq_true rfl) rfl ?_
  refine n_aload C dX12_init_911 rfl (q := 0) rfl ?_
  refine n_bipush (v := 20) C dX12_init_912 (by decide) ?_
  refine n_newa (atype := .int) (ty := .int) (N' := 20) (t0 := 1) (a0 := (20, .inl (fun _ => 0))) (cA0 := cy 1) C dX12_init_914 za_int rfl rfl (fun _ => rfl) (by decide) (by decide) (Nat.le_of_ble_eq_true rfl) (Nat.le_of_ble_eq_true rfl) (Nat.le_of_ble_eq_true rfl) (fun q38 => ?_)
  refine n_put (q0 := 0) (ws' := [(h0, .inr (12, [.ref q1, .int 0, .int 0, .ref q2, .int 0, .int (-1), .int 0, .int 0, .int 0, .int 0, .int 0, .int 0, .int 0, .int 0, .int 0, .int 0, .int 0, .int 0, .int 0, .int 0, .int 0, .ref q3, .ref q4, .ref q5, .ref q6, .ref q7, .ref q8, .ref q9, .ref q10, .ref q11, .ref q12, .ref q13, .ref q14, .ref q15, .ref q16, .ref q17, .ref q18, .ref q19, .ref q20, .ref q21, .int 0, .int 0, .int 0, .int 0, .int 0, .int 0, .ref q22, .ref q23, .int 0, .ref q24, .ref q25, .ref q26, .ref q27, .ref q28, .ref q29, .ref q30, .ref q31, .long 0, .int 0, .int 0, .int 0, .int 0, .int 0, .ref q32, .ref q33, .int 0, .int (-1), .ref q34, .ref q35, .int 0, .ref q36, .int 0, .ref q37, .ref q38, .long 0])), (q1, .inl (cy 1, 700, .inl (fun _ => 0))), (q2, .inl (cy 1, 101, .inl (gWo 101))), (q3, .inl (cy 3, 2, .inl (fun _ => 0))), (q4, .inl (cy 1, 4, .inl (fun _ => 0))), (q5, .inl (cy 1, 12, .inl (fun _ => 0))), (q6, .inl (cy 1, 12, .inl (fun _ => 0))), (q7, .inl (cy 1, 12, .inl (fun _ => 0))), (q8, .inl (cy 1, 96, .inl (fun _ => 0))), (q9, .inl (cy 1, 12, .inl (fun _ => 0))), (q10, .inl (cy 1, 12, .inl (fun _ => 0))), (q11, .inl (cy 1, 10, .inl (fun _ => 0))), (q12, .inl (cy 1, 10, .inl (fun _ => 0))), (q13, .inl (cy 1, 10, .inl (fun _ => 0))), (q14, .inl (cy 3, 6, .inl (fun _ => 0))), (q15, .inl (cy 1, 6, .inl (fun _ => 0))), (q16, .inl (cy 1, 6, .inl (fun _ => 0))), (q17, .inl (cy 1, 128, .inl (fun _ => 0))), (q18, .inl (cy 1, 128, .inl (fun _ => 0))), (q19, .inl (cy 1, 128, .inl (fun _ => 0))), (q20, .inl (cy 1, 96, .inl (fun _ => 0))), (q21, .inl (cy 1, 96, .inl (fun _ => 0))), (q22, .inl (cy 2, 7, .inr (.inl (fun _ => 0)))), (q23, .inl (cy 2, 64, .inr (.inl (fun _ => 0)))), (q24, .inl (cy 1, 12, .inl (fun _ => 0))), (q25, .inl (cy 1, 12, .inl (fun _ => 0))), (q26, .inl (cy 1, 12, .inl (fun _ => 0))), (q27, .inl (cy 1, 12, .inl (fun _ => 0))), (q28, .inl (cy 3, 12, .inl (fun _ => 0))), (q29, .inl (cy 1, 12, .inl (fun _ => 0))), (q30, .inl (cy 1, 2, .inl (fun _ => 0))), (q31, .inl (cy 1, 2, .inl (fun _ => 0))), (q32, .inl (cy 1, 6, .inl (fun _ => 0))), (q33, .inl (cy 1, 36, .inl (fun _ => 0))), (q34, .inl (cy 1, 72, .inl (fun _ => 0))), (q35, .inl (cy 3, 24, .inl (fun _ => 0))), (q36, .inl (cy 1, 360, .inl (fun _ => 0))), (q37, .inl (cy 1, 18, .inl (fun _ => 0))), (q38, .inl (cy 1, 20, .inl (fun _ => 0)))]) C dX12_init_916 zf_X12_130 rfl rfl rfl (Nat.le_of_ble_eq_true rfl) rfl ?_
  obtain ⟨AD, eAD⟩ : ∃ AD : Nat → Nat, AD = fun p => ([h0, q1, q2, q3, q4, q5, q6, q7, q8, q9, q10, q11, q12, q13, q14, q15, q16, q17, q18, q19, q20, q21, q22, q23, q24, q25, q26, q27, q28, q29, q30, q31, q32, q33, q34, q35, q36, q37, q38] : List Nat).getD p 0 := ⟨_, rfl⟩
  have eA0 : h0 = AD 0 := by rw [eAD]; rfl
  refine n_eq (ws' := wd ΛM AD cy m00) rfl (by subst eAD; rfl) rfl rfl ?_
  refine n_aload C dX12_init_919 rfl (q := 0) (v := AD 0) (by rw [← eA0]; rfl) ?_
  refine n_ok (ad := AD) C dX12_init_920 zl_X12_133 yv_f12_plain rfl ⟨rfl, rfl⟩ ⟨Nat.le_of_ble_eq_true rfl, Nat.le_of_ble_eq_true rfl⟩ ⟨Nat.le_of_ble_eq_true rfl, Nat.le_of_ble_eq_true rfl⟩ (Nat.le_of_ble_eq_true rfl) rfl (ok_f12_plain (K := fun h => h = m1) m00 ⟨m1, e1, rfl⟩) (fun r h hp => hp.1) (fun r h hp => ?_)
  have e3 := hp.2
  subst e3
  refine n_aload C dX12_init_923 rfl (q := 0) (v := AD 0) (by rw [← eA0]; rfl) ?_
  refine n_ok (ad := AD) C dX12_init_924 zl_X12_136 yv_f12_keepText rfl ⟨rfl, rfl⟩ ⟨Nat.le_of_ble_eq_true rfl, Nat.le_of_ble_eq_true rfl⟩ ⟨Nat.le_of_ble_eq_true rfl, Nat.le_of_ble_eq_true rfl⟩ (Nat.le_of_ble_eq_true rfl) rfl (ok_f12_keepText (K := fun h => h = m2) h ⟨m2, e2, rfl⟩) (fun r h hp => hp.1) (fun r h hp => ?_)
  have e4 := hp.2
  subst e4
  exact n_vret C dX12_init_927 rfl rfl ⟨AD, h, eA0.symm, rfl, _, e1, e2⟩
