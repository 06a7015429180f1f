theorem ly_0_0 : u_lay RX0 TX0 0 ∈ wU := wU_mem (List.mem_append_right _ (List.mem_of_getElem? (l := tables_1) (i := 175) (by decide +kernel))) (by decide +kernel)
theorem ly_0_1 : u_lay RX0 TX0 1 ∈ wU := wU_mem (List.mem_append_right _ (List.mem_of_getElem? (l := tables_1) (i := 177) (by decide +kernel))) (by decide +kernel)
theorem ly_0_2 : u_lay RX0 TX0 2 ∈ wU := wU_mem (List.mem_append_right _ (List.mem_of_getElem? (l := tables_1) (i := 179) (by decide +kernel))) (by decide +kernel)
theorem ly_0_3 : u_lay RX0 TX0 3 ∈ wU := wU_mem (List.mem_append_right _ (List.mem_of_getElem? (l := tables_1) (i := 181) (by decide +kernel))) (by decide +kernel)
theorem ly_0_4 : u_lay RX0 TX0 4 ∈ wU := wU_mem (List.mem_append_right _ (List.mem_of_getElem? (l := tables_1) (i := 183) (by decide +kernel))) (by decide +kernel)
theorem ly_0_5 : u_lay RX0 TX0 5 ∈ wU := wU_mem (List.mem_append_right _ (List.mem_of_getElem? (l := tables_1) (i := 185) (by decide +kernel))) (by decide +kernel)
theorem ly_0_6 : u_lay RX0 TX0 6 ∈ wU := wU_mem (List.mem_append_right _ (List.mem_of_getElem? (l := tables_1) (i := 187) (by decide +kernel))) (by decide +kernel)
theorem ly_0_7 : u_lay RX0 TX0 7 ∈ wU := wU_mem (List.mem_append_right _ (List.mem_of_getElem? (l := tables_1) (i := 189) (by decide +kernel))) (by decide +kernel)
theorem ly_0_8 : u_lay RX0 TX0 8 ∈ wU := wU_mem (List.mem_append_right _ (List.mem_of_getElem? (l := tables_1) (i := 191) (by decide +kernel))) (by decide +kernel)
theorem ly_0_9 : u_lay RX0 TX0 9 ∈ wU := wU_mem (List.mem_append_right _ (List.mem_of_getElem? (l := tables_1) (i := 193) (by decide +kernel))) (by decide +kernel)
theorem ly_0_10 : u_lay RX0 TX0 10 ∈ wU := wU_mem (List.mem_append_right _ (List.mem_of_getElem? (l := tables_1) (i := 195) (by decide +kernel))) (by decide +kernel)
theorem uw_0 : ∀ w ∈ u_ws RX0 TX0 (nF 0), w ∈ wU := by
  intro w hw
  obtain ⟨k, hk, rfl⟩ := List.mem_map.mp hw
  have hk := List.mem_range.mp hk
  have hk : k < 11 := hk
  match k, hk with
  | 0, _ => exact ly_0_0
  | 1, _ => exact ly_0_1
  | 2, _ => exact ly_0_2
  | 3, _ => exact ly_0_3
  | 4, _ => exact ly_0_4
  | 5, _ => exact ly_0_5
  | 6, _ => exact ly_0_6
  | 7, _ => exact ly_0_7
  | 8, _ => exact ly_0_8
  | 9, _ => exact ly_0_9
  | 10, _ => exact ly_0_10
  | k + 11, hk => omega
theorem ly_1_0 : u_lay RX1 TX1 0 ∈ wU := wU_mem (List.mem_append_right _ (List.mem_of_getElem? (l := tables_1) (i := 235) (by decide +kernel))) (by decide +kernel)
theorem ly_1_1 : u_lay RX1 TX1 1 ∈ wU := wU_mem (List.mem_append_right _ (List.mem_of_getElem? (l := tables_1) (i := 237) (by decide +kernel))) (by decide +kernel)
theorem ly_1_2 : u_lay RX1 TX1 2 ∈ wU := wU_mem (List.mem_append_right _ (List.mem_of_getElem? (l := tables_1) (i := 239) (by decide +kernel))) (by decide +kernel)
theorem ly_1_3 : u_lay RX1 TX1 3 ∈ wU := wU_mem (List.mem_append_right _ (List.mem_of_getElem? (l := tables_1) (i := 241) (by decide +kernel))) (by decide +kernel)
theorem ly_1_4 : u_lay RX1 TX1 4 ∈ wU := wU_mem (List.mem_append_right _ (List.mem_of_getElem? (l := tables_1) (i := 243) (by decide +kernel))) (by decide +kernel)
theorem uw_1 : ∀ w ∈ u_ws RX1 TX1 (nF 1), w ∈ wU := by
  intro w hw
  obtain ⟨k, hk, rfl⟩ := List.mem_map.mp hw
  have hk := List.mem_range.mp hk
  have hk : k < 5 := hk
  match k, hk with
  | 0, _ => exact ly_1_0
  | 1, _ => exact ly_1_1
  | 2, _ => exact ly_1_2
  | 3, _ => exact ly_1_3
  | 4, _ => exact ly_1_4
  | k + 5, hk => omega
theorem ly_2_0 : u_lay RX2 TX2 0 ∈ wU := wU_mem (List.mem_append_right _ (List.mem_of_getElem? (l := tables_1) (i := 284) (by decide +kernel))) (by decide +kernel)
theorem uw_2 : ∀ w ∈ u_ws RX2 TX2 (nF 2), w ∈ wU := by
  intro w hw
  obtain ⟨k, hk, rfl⟩ := List.mem_map.mp hw
  have hk := List.mem_range.mp hk
  have hk : k < 1 := hk
  match k, hk with
  | 0, _ => exact ly_2_0
  | k + 1, hk => omega
theorem ly_3_0 : u_lay RX3 TX3 0 ∈ wU := wU_mem (List.mem_append_right _ (List.mem_of_getElem? (l := tables_1) (i := 262) (by decide +kernel))) (by decide +kernel)
theorem ly_3_1 : u_lay RX3 TX3 1 ∈ wU := wU_mem (List.mem_append_right _ (List.mem_of_getElem? (l := tables_1) (i := 264) (by decide +kernel))) (by decide +kernel)
theorem ly_3_2 : u_lay RX3 TX3 2 ∈ wU := wU_mem (List.mem_append_right _ (List.mem_of_getElem? (l := tables_1) (i := 266) (by decide +kernel))) (by decide +kernel)
theorem ly_3_3 : u_lay RX3 TX3 3 ∈ wU := wU_mem (List.mem_append_right _ (List.mem_of_getElem? (l := tables_1) (i := 268) (by decide +kernel))) (by decide +kernel)
theorem ly_3_4 : u_lay RX3 TX3 4 ∈ wU := wU_mem (List.mem_append_right _ (List.mem_of_getElem? (l := tables_1) (i := 270) (by decide +kernel))) (by decide +kernel)
theorem ly_3_5 : u_lay RX3 TX3 5 ∈ wU := wU_mem (List.mem_append_right _ (List.mem_of_getElem? (l := tables_1) (i := 272) (by decide +kernel))) (by decide +kernel)
theorem ly_3_6 : u_lay RX3 TX3 6 ∈ wU := wU_mem (List.mem_append_right _ (List.mem_of_getElem? (l := tables_1) (i := 274) (by decide +kernel))) (by decide +kernel)
theorem uw_3 : ∀ w ∈ u_ws RX3 TX3 (nF 3), w ∈ wU := by
  intro w hw
  obtain ⟨k, hk, rfl⟩ := List.mem_map.mp hw
  have hk := List.mem_range.mp hk
  have hk : k < 7 := hk
  match k, hk with
  | 0, _ => exact ly_3_0
  | 1, _ => exact ly_3_1
  | 2, _ => exact ly_3_2
  | 3, _ => exact ly_3_3
  | 4, _ => exact ly_3_4
  | 5, _ => exact ly_3_5
  | 6, _ => exact ly_3_6
  | k + 7, hk => omega
theorem ly_4_0 : u_lay RX4 TX4 0 ∈ wU := wU_mem (List.mem_append_right _ (List.mem_of_getElem? (l := tables_1) (i := 86) (by decide +kernel))) (by decide +kernel)
theorem ly_4_1 : u_lay RX4 TX4 1 ∈ wU := wU_mem (List.mem_append_right _ (List.mem_of_getElem? (l := tables_1) (i := 88) (by decide +kernel))) (by decide +kernel)
theorem ly_4_2 : u_lay RX4 TX4 2 ∈ wU := wU_mem (List.mem_append_right _ (List.mem_of_getElem? (l := tables_1) (i := 90) (by decide +kernel))) (by decide +kernel)
theorem ly_4_3 : u_lay RX4 TX4 3 ∈ wU := wU_mem (List.mem_append_right _ (List.mem_of_getElem? (l := tables_1) (i := 92) (by decide +kernel))) (by decide +kernel)
theorem ly_4_4 : u_lay RX4 TX4 4 ∈ wU := wU_mem (List.mem_append_right _ (List.mem_of_getElem? (l := tables_1) (i := 94) (by decide +kernel))) (by decide +kernel)
theorem ly_4_5 : u_lay RX4 TX4 5 ∈ wU := wU_mem (List.mem_append_right _ (List.mem_of_getElem? (l := tables_1) (i := 96) (by decide +kernel))) (by decide +kernel)
theorem ly_4_6 : u_lay RX4 TX4 6 ∈ wU := wU_mem (List.mem_append_right _ (List.mem_of_getElem? (l := tables_1) (i := 98) (by decide +kernel))) (by decide +kernel)
theorem ly_4_7 : u_lay RX4 TX4 7 ∈ wU := wU_mem (List.mem_append_right _ (List.mem_of_getElem? (l := tables_1) (i := 100) (by decide +kernel))) (by decide +kernel)
theorem ly_4_8 : u_lay RX4 TX4 8 ∈ wU := wU_mem (List.mem_append_right _ (List.mem_of_getElem? (l := tables_1) (i := 102) (by decide +kernel))) (by decide +kernel)
theorem uw_4 : ∀ w ∈ u_ws RX4 TX4 (nF 4), w ∈ wU := by
  intro w hw
  obtain ⟨k, hk, rfl⟩ := List.mem_map.mp hw
  have hk := List.mem_range.mp hk
  have hk : k < 9 := hk
  match k, hk with
  | 0, _ => exact ly_4_0
  | 1, _ => exact ly_4_1
  | 2, _ => exact ly_4_2
  | 3, _ => exact ly_4_3
  | 4, _ => exact ly_4_4
  | 5, _ => exact ly_4_5
  | 6, _ => exact ly_4_6
  | 7, _ => exact ly_4_7
  | 8, _ => exact ly_4_8
  | k + 9, hk => omega
theorem ly_5_0 : u_lay RX5 TX5 0 ∈ wU := wU_mem (List.mem_append_right _ (List.mem_of_getElem? (l := tables_1) (i := 333) (by decide +kernel))) (by decide +kernel)
theorem ly_5_1 : u_lay RX5 TX5 1 ∈ wU := wU_mem (List.mem_append_right _ (List.mem_of_getElem? (l := tables_1) (i := 335) (by decide +kernel))) (by decide +kernel)
theorem ly_5_2 : u_lay RX5 TX5 2 ∈ wU := wU_mem (List.mem_append_right _ (List.mem_of_getElem? (l := tables_1) (i := 337) (by decide +kernel))) (by decide +kernel)
theorem ly_5_3 : u_lay RX5 TX5 3 ∈ wU := wU_mem (List.mem_append_right _ (List.mem_of_getElem? (l := tables_1) (i := 339) (by decide +kernel))) (by decide +kernel)
theorem ly_5_4 : u_lay RX5 TX5 4 ∈ wU := wU_mem (List.mem_append_right _ (List.mem_of_getElem? (l := tables_1) (i := 341) (by decide +kernel))) (by decide +kernel)
theorem ly_5_5 : u_lay RX5 TX5 5 ∈ wU := wU_mem (List.mem_append_right _ (List.mem_of_getElem? (l := tables_1) (i := 343) (by decide +kernel))) (by decide +kernel)
theorem uw_5 : ∀ w ∈ u_ws RX5 TX5 (nF 5), w ∈ wU := by
  intro w hw
  obtain ⟨k, hk, rfl⟩ := List.mem_map.mp hw
  have hk := List.mem_range.mp hk
  have hk : k < 6 := hk
  match k, hk with
  | 0, _ => exact ly_5_0
  | 1, _ => exact ly_5_1
  | 2, _ => exact ly_5_2
  | 3, _ => exact ly_5_3
  | 4, _ => exact ly_5_4
  | 5, _ => exact ly_5_5
  | k + 6, hk => omega
theorem ly_6_0 : u_lay RX6 TX6 0 ∈ wU := wU_mem (List.mem_append_right _ (List.mem_of_getElem? (l := tables_1) (i := 299) (by decide +kernel))) (by decide +kernel)
theorem ly_6_1 : u_lay RX6 TX6 1 ∈ wU := wU_mem (List.mem_append_right _ (List.mem_of_getElem? (l := tables_1) (i := 301) (by decide +kernel))) (by decide +kernel)
theorem ly_6_2 : u_lay RX6 TX6 2 ∈ wU := wU_mem (List.mem_append_right _ (List.mem_of_getElem? (l := tables_1) (i := 303) (by decide +kernel))) (by decide +kernel)
theorem ly_6_3 : u_lay RX6 TX6 3 ∈ wU := wU_mem (List.mem_append_right _ (List.mem_of_getElem? (l := tables_1) (i := 305) (by decide +kernel))) (by decide +kernel)
theorem uw_6 : ∀ w ∈ u_ws RX6 TX6 (nF 6), w ∈ wU := by
  intro w hw
  obtain ⟨k, hk, rfl⟩ := List.mem_map.mp hw
  have hk := List.mem_range.mp hk
  have hk : k < 4 := hk
  match k, hk with
  | 0, _ => exact ly_6_0
  | 1, _ => exact ly_6_1
  | 2, _ => exact ly_6_2
  | 3, _ => exact ly_6_3
  | k + 4, hk => omega
theorem ly_7_0 : u_lay RX7 TX7 0 ∈ wU := wU_mem (List.mem_append_right _ (List.mem_of_getElem? (l := tables_1) (i := 113) (by decide +kernel))) (by decide +kernel)
theorem ly_7_1 : u_lay RX7 TX7 1 ∈ wU := wU_mem (List.mem_append_right _ (List.mem_of_getElem? (l := tables_1) (i := 115) (by decide +kernel))) (by decide +kernel)
theorem ly_7_2 : u_lay RX7 TX7 2 ∈ wU := wU_mem (List.mem_append_right _ (List.mem_of_getElem? (l := tables_1) (i := 117) (by decide +kernel))) (by decide +kernel)
theorem ly_7_3 : u_lay RX7 TX7 3 ∈ wU := wU_mem (List.mem_append_right _ (List.mem_of_getElem? (l := tables_1) (i := 119) (by decide +kernel))) (by decide +kernel)
theorem ly_7_4 : u_lay RX7 TX7 4 ∈ wU := wU_mem (List.mem_append_right _ (List.mem_of_getElem? (l := tables_1) (i := 121) (by decide +kernel))) (by decide +kernel)
theorem uw_7 : ∀ w ∈ u_ws RX7 TX7 (nF 7), w ∈ wU := by
  intro w hw
  obtain ⟨k, hk, rfl⟩ := List.mem_map.mp hw
  have hk := List.mem_range.mp hk
  have hk : k < 5 := hk
  match k, hk with
  | 0, _ => exact ly_7_0
  | 1, _ => exact ly_7_1
  | 2, _ => exact ly_7_2
  | 3, _ => exact ly_7_3
  | 4, _ => exact ly_7_4
  | k + 5, hk => omega
theorem ly_8_0 : u_lay RX8 TX8 0 ∈ wU := wU_mem (List.mem_append_right _ (List.mem_of_getElem? (l := tables_1) (i := 49) (by decide +kernel))) (by decide +kernel)
theorem ly_8_1 : u_lay RX8 TX8 1 ∈ wU := wU_mem (List.mem_append_right _ (List.mem_of_getElem? (l := tables_1) (i := 51) (by decide +kernel))) (by decide +kernel)
theorem ly_8_2 : u_lay RX8 TX8 2 ∈ wU := wU_mem (List.mem_append_right _ (List.mem_of_getElem? (l := tables_1) (i := 53) (by decide +kernel))) (by decide +kernel)
theorem ly_8_3 : u_lay RX8 TX8 3 ∈ wU := wU_mem (List.mem_append_right _ (List.mem_of_getElem? (l := tables_1) (i := 55) (by decide +kernel))) (by decide +kernel)
theorem ly_8_4 : u_lay RX8 TX8 4 ∈ wU := wU_mem (List.mem_append_right _ (List.mem_of_getElem? (l := tables_1) (i := 57) (by decide +kernel))) (by decide +kernel)
theorem ly_8_5 : u_lay RX8 TX8 5 ∈ wU := wU_mem (List.mem_append_right _ (List.mem_of_getElem? (l := tables_1) (i := 59) (by decide +kernel))) (by decide +kernel)
theorem ly_8_6 : u_lay RX8 TX8 6 ∈ wU := wU_mem (List.mem_append_right _ (List.mem_of_getElem? (l := tables_1) (i := 61) (by decide +kernel))) (by decide +kernel)
theorem uw_8 : ∀ w ∈ u_ws RX8 TX8 (nF 8), w ∈ wU := by
  intro w hw
  obtain ⟨k, hk, rfl⟩ := List.mem_map.mp hw
  have hk := List.mem_range.mp hk
  have hk : k < 7 := hk
  match k, hk with
  | 0, _ => exact ly_8_0
  | 1, _ => exact ly_8_1
  | 2, _ => exact ly_8_2
  | 3, _ => exact ly_8_3
  | 4, _ => exact ly_8_4
  | 5, _ => exact ly_8_5
  | 6, _ => exact ly_8_6
  | k + 7, hk => omega
theorem ly_9_0 : u_lay RX9 TX9 0 ∈ wU := wU_mem (List.mem_append_right _ (List.mem_of_getElem? (l := tables_1) (i := 212) (by decide +kernel))) (by decide +kernel)
theorem ly_9_1 : u_lay RX9 TX9 1 ∈ wU := wU_mem (List.mem_append_right _ (List.mem_of_getElem? (l := tables_1) (i := 214) (by decide +kernel))) (by decide +kernel)
theorem ly_9_2 : u_lay RX9 TX9 2 ∈ wU := wU_mem (List.mem_append_right _ (List.mem_of_getElem? (l := tables_1) (i := 216) (by decide +kernel))) (by decide +kernel)
theorem ly_9_3 : u_lay RX9 TX9 3 ∈ wU := wU_mem (List.mem_append_right _ (List.mem_of_getElem? (l := tables_1) (i := 218) (by decide +kernel))) (by decide +kernel)
theorem ly_9_4 : u_lay RX9 TX9 4 ∈ wU := wU_mem (List.mem_append_right _ (List.mem_of_getElem? (l := tables_1) (i := 220) (by decide +kernel))) (by decide +kernel)
theorem uw_9 : ∀ w ∈ u_ws RX9 TX9 (nF 9), w ∈ wU := by
  intro w hw
  obtain ⟨k, hk, rfl⟩ := List.mem_map.mp hw
  have hk := List.mem_range.mp hk
  have hk : k < 5 := hk
  match k, hk with
  | 0, _ => exact ly_9_0
  | 1, _ => exact ly_9_1
  | 2, _ => exact ly_9_2
  | 3, _ => exact ly_9_3
  | 4, _ => exact ly_9_4
  | k + 5, hk => omega
theorem ly_10_0 : u_lay RX10 TX10 0 ∈ wU := wU_mem (List.mem_append_right _ (List.mem_of_getElem? (l := tables_1) (i := 387) (by decide +kernel))) (by decide +kernel)
theorem ly_10_1 : u_lay RX10 TX10 1 ∈ wU := wU_mem (List.mem_append_right _ (List.mem_of_getElem? (l := tables_1) (i := 389) (by decide +kernel))) (by decide +kernel)
theorem ly_10_2 : u_lay RX10 TX10 2 ∈ wU := wU_mem (List.mem_append_right _ (List.mem_of_getElem? (l := tables_1) (i := 391) (by decide +kernel))) (by decide +kernel)
theorem ly_10_3 : u_lay RX10 TX10 3 ∈ wU := wU_mem (List.mem_append_right _ (List.mem_of_getElem? (l := tables_1) (i := 393) (by decide +kernel))) (by decide +kernel)
theorem ly_10_4 : u_lay RX10 TX10 4 ∈ wU := wU_mem (List.mem_append_right _ (List.mem_of_getElem? (l := tables_1) (i := 395) (by decide +kernel))) (by decide +kernel)
theorem ly_10_5 : u_lay RX10 TX10 5 ∈ wU := wU_mem (List.mem_append_right _ (List.mem_of_getElem? (l := tables_1) (i := 397) (by decide +kernel))) (by decide +kernel)
theorem ly_10_6 : u_lay RX10 TX10 6 ∈ wU := wU_mem (List.mem_append_right _ (List.mem_of_getElem? (l := tables_1) (i := 399) (by decide +kernel))) (by decide +kernel)
theorem ly_10_7 : u_lay RX10 TX10 7 ∈ wU := wU_mem (List.mem_append_right _ (List.mem_of_getElem? (l := tables_1) (i := 401) (by decide +kernel))) (by decide +kernel)
theorem ly_10_8 : u_lay RX10 TX10 8 ∈ wU := wU_mem (List.mem_append_right _ (List.mem_of_getElem? (l := tables_1) (i := 403) (by decide +kernel))) (by decide +kernel)
theorem ly_10_9 : u_lay RX10 TX10 9 ∈ wU := wU_mem (List.mem_append_right _ (List.mem_of_getElem? (l := tables_1) (i := 405) (by decide +kernel))) (by decide +kernel)
theorem ly_10_10 : u_lay RX10 TX10 10 ∈ wU := wU_mem (List.mem_append_right _ (List.mem_of_getElem? (l := tables_1) (i := 407) (by decide +kernel))) (by decide +kernel)
theorem ly_10_11 : u_lay RX10 TX10 11 ∈ wU := wU_mem (List.mem_append_right _ (List.mem_of_getElem? (l := tables_1) (i := 409) (by decide +kernel))) (by decide +kernel)
theorem ly_10_12 : u_lay RX10 TX10 12 ∈ wU := wU_mem (List.mem_append_right _ (List.mem_of_getElem? (l := tables_1) (i := 411) (by decide +kernel))) (by decide +kernel)
theorem ly_10_13 : u_lay RX10 TX10 13 ∈ wU := wU_mem (List.mem_append_right _ (List.mem_of_getElem? (l := tables_1) (i := 413) (by decide +kernel))) (by decide +kernel)
theorem uw_10 : ∀ w ∈ u_ws RX10 TX10 (nF 10), w ∈ wU := by
  intro w hw
  obtain ⟨k, hk, rfl⟩ := List.mem_map.mp hw
  have hk := List.mem_range.mp hk
  have hk : k < 14 := hk
  match k, hk with
  | 0, _ => exact ly_10_0
  | 1, _ => exact ly_10_1
  | 2, _ => exact ly_10_2
  | 3, _ => exact ly_10_3
  | 4, _ => exact ly_10_4
  | 5, _ => exact ly_10_5
  | 6, _ => exact ly_10_6
  | 7, _ => exact ly_10_7
  | 8, _ => exact ly_10_8
  | 9, _ => exact ly_10_9
  | 10, _ => exact ly_10_10
  | 11, _ => exact ly_10_11
  | 12, _ => exact ly_10_12
  | 13, _ => exact ly_10_13
  | k + 14, hk => omega
theorem ly_11_0 : u_lay RX11 TX11 0 ∈ wU := wU_mem (List.mem_append_right _ (List.mem_of_getElem? (l := tables_1) (i := 430) (by decide +kernel))) (by decide +kernel)
theorem ly_11_1 : u_lay RX11 TX11 1 ∈ wU := wU_mem (List.mem_append_right _ (List.mem_of_getElem? (l := tables_1) (i := 432) (by decide +kernel))) (by decide +kernel)
theorem ly_11_2 : u_lay RX11 TX11 2 ∈ wU := wU_mem (List.mem_append_right _ (List.mem_of_getElem? (l := tables_1) (i := 434) (by decide +kernel))) (by decide +kernel)
theorem ly_11_3 : u_lay RX11 TX11 3 ∈ wU := wU_mem (List.mem_append_right _ (List.mem_of_getElem? (l := tables_1) (i := 436) (by decide +kernel))) (by decide +kernel)
theorem ly_11_4 : u_lay RX11 TX11 4 ∈ wU := wU_mem (List.mem_append_right _ (List.mem_of_getElem? (l := tables_1) (i := 438) (by decide +kernel))) (by decide +kernel)
theorem ly_11_5 : u_lay RX11 TX11 5 ∈ wU := wU_mem (List.mem_append_right _ (List.mem_of_getElem? (l := tables_1) (i := 440) (by decide +kernel))) (by decide +kernel)
theorem ly_11_6 : u_lay RX11 TX11 6 ∈ wU := wU_mem (List.mem_append_right _ (List.mem_of_getElem? (l := tables_1) (i := 442) (by decide +kernel))) (by decide +kernel)
theorem ly_11_7 : u_lay RX11 TX11 7 ∈ wU := wU_mem (List.mem_append_right _ (List.mem_of_getElem? (l := tables_1) (i := 444) (by decide +kernel))) (by decide +kernel)
theorem ly_11_8 : u_lay RX11 TX11 8 ∈ wU := wU_mem (List.mem_append_right _ (List.mem_of_getElem? (l := tables_1) (i := 446) (by decide +kernel))) (by decide +kernel)
theorem ly_11_9 : u_lay RX11 TX11 9 ∈ wU := wU_mem (List.mem_append_right _ (List.mem_of_getElem? (l := tables_1) (i := 448) (by decide +kernel))) (by decide +kernel)
theorem ly_11_10 : u_lay RX11 TX11 10 ∈ wU := wU_mem (List.mem_append_right _ (List.mem_of_getElem? (l := tables_1) (i := 450) (by decide +kernel))) (by decide +kernel)
theorem ly_11_11 : u_lay RX11 TX11 11 ∈ wU := wU_mem (List.mem_append_right _ (List.mem_of_getElem? (l := tables_1) (i := 452) (by decide +kernel))) (by decide +kernel)
theorem ly_11_12 : u_lay RX11 TX11 12 ∈ wU := wU_mem (List.mem_append_right _ (List.mem_of_getElem? (l := tables_1) (i := 454) (by decide +kernel))) (by decide +kernel)
theorem ly_11_13 : u_lay RX11 TX11 13 ∈ wU := wU_mem (List.mem_append_right _ (List.mem_of_getElem? (l := tables_1) (i := 456) (by decide +kernel))) (by decide +kernel)
theorem uw_11 : ∀ w ∈ u_ws RX11 TX11 (nF 11), w ∈ wU := by
  intro w hw
  obtain ⟨k, hk, rfl⟩ := List.mem_map.mp hw
  have hk := List.mem_range.mp hk
  have hk : k < 14 := hk
  match k, hk with
  | 0, _ => exact ly_11_0
  | 1, _ => exact ly_11_1
  | 2, _ => exact ly_11_2
  | 3, _ => exact ly_11_3
  | 4, _ => exact ly_11_4
  | 5, _ => exact ly_11_5
  | 6, _ => exact ly_11_6
  | 7, _ => exact ly_11_7
  | 8, _ => exact ly_11_8
  | 9, _ => exact ly_11_9
  | 10, _ => exact ly_11_10
  | 11, _ => exact ly_11_11
  | 12, _ => exact ly_11_12
  | 13, _ => exact ly_11_13
  | k + 14, hk => omega
theorem ly_12_0 : u_lay RX12 TX12 0 ∈ wU := wU_mem (List.mem_append_right _ (List.mem_of_getElem? (l := tables_1) (i := 1322) (by decide +kernel))) (by decide +kernel)
theorem ly_12_1 : u_lay RX12 TX12 1 ∈ wU := wU_mem (List.mem_append_right _ (List.mem_of_getElem? (l := tables_1) (i := 1324) (by decide +kernel))) (by decide +kernel)
theorem ly_12_2 : u_lay RX12 TX12 2 ∈ wU := wU_mem (List.mem_append_right _ (List.mem_of_getElem? (l := tables_1) (i := 1326) (by decide +kernel))) (by decide +kernel)
theorem ly_12_3 : u_lay RX12 TX12 3 ∈ wU := wU_mem (List.mem_append_right _ (List.mem_of_getElem? (l := tables_1) (i := 1328) (by decide +kernel))) (by decide +kernel)
theorem ly_12_4 : u_lay RX12 TX12 4 ∈ wU := wU_mem (List.mem_append_right _ (List.mem_of_getElem? (l := tables_1) (i := 1330) (by decide +kernel))) (by decide +kernel)
theorem ly_12_5 : u_lay RX12 TX12 5 ∈ wU := wU_mem (List.mem_append_right _ (List.mem_of_getElem? (l := tables_1) (i := 1332) (by decide +kernel))) (by decide +kernel)
theorem ly_12_6 : u_lay RX12 TX12 6 ∈ wU := wU_mem (List.mem_append_right _ (List.mem_of_getElem? (l := tables_1) (i := 1334) (by decide +kernel))) (by decide +kernel)
theorem ly_12_7 : u_lay RX12 TX12 7 ∈ wU := wU_mem (List.mem_append_right _ (List.mem_of_getElem? (l := tables_1) (i := 1336) (by decide +kernel))) (by decide +kernel)
theorem ly_12_8 : u_lay RX12 TX12 8 ∈ wU := wU_mem (List.mem_append_right _ (List.mem_of_getElem? (l := tables_1) (i := 1338) (by decide +kernel))) (by decide +kernel)
theorem ly_12_9 : u_lay RX12 TX12 9 ∈ wU := wU_mem (List.mem_append_right _ (List.mem_of_getElem? (l := tables_1) (i := 1340) (by decide +kernel))) (by decide +kernel)
theorem ly_12_10 : u_lay RX12 TX12 10 ∈ wU := wU_mem (List.mem_append_right _ (List.mem_of_getElem? (l := tables_1) (i := 1342) (by decide +kernel))) (by decide +kernel)
theorem ly_12_11 : u_lay RX12 TX12 11 ∈ wU := wU_mem (List.mem_append_right _ (List.mem_of_getElem? (l := tables_1) (i := 1344) (by decide +kernel))) (by decide +kernel)
theorem ly_12_12 : u_lay RX12 TX12 12 ∈ wU := wU_mem (List.mem_append_right _ (List.mem_of_getElem? (l := tables_1) (i := 1346) (by decide +kernel))) (by decide +kernel)
theorem ly_12_13 : u_lay RX12 TX12 13 ∈ wU := wU_mem (List.mem_append_right _ (List.mem_of_getElem? (l := tables_1) (i := 1348) (by decide +kernel))) (by decide +kernel)
theorem ly_12_14 : u_lay RX12 TX12 14 ∈ wU := wU_mem (List.mem_append_right _ (List.mem_of_getElem? (l := tables_1) (i := 1350) (by decide +kernel))) (by decide +kernel)
theorem ly_12_15 : u_lay RX12 TX12 15 ∈ wU := wU_mem (List.mem_append_right _ (List.mem_of_getElem? (l := tables_1) (i := 1352) (by decide +kernel))) (by decide +kernel)
theorem ly_12_16 : u_lay RX12 TX12 16 ∈ wU := wU_mem (List.mem_append_right _ (List.mem_of_getElem? (l := tables_1) (i := 1354) (by decide +kernel))) (by decide +kernel)
theorem ly_12_17 : u_lay RX12 TX12 17 ∈ wU := wU_mem (List.mem_append_right _ (List.mem_of_getElem? (l := tables_1) (i := 1356) (by decide +kernel))) (by decide +kernel)
theorem ly_12_18 : u_lay RX12 TX12 18 ∈ wU := wU_mem (List.mem_append_right _ (List.mem_of_getElem? (l := tables_1) (i := 1358) (by decide +kernel))) (by decide +kernel)
theorem ly_12_19 : u_lay RX12 TX12 19 ∈ wU := wU_mem (List.mem_append_right _ (List.mem_of_getElem? (l := tables_1) (i := 1360) (by decide +kernel))) (by decide +kernel)
theorem ly_12_20 : u_lay RX12 TX12 20 ∈ wU := wU_mem (List.mem_append_right _ (List.mem_of_getElem? (l := tables_1) (i := 1362) (by decide +kernel))) (by decide +kernel)
theorem ly_12_21 : u_lay RX12 TX12 21 ∈ wU := wU_mem (List.mem_append_right _ (List.mem_of_getElem? (l := tables_1) (i := 1364) (by decide +kernel))) (by decide +kernel)
theorem ly_12_22 : u_lay RX12 TX12 22 ∈ wU := wU_mem (List.mem_append_right _ (List.mem_of_getElem? (l := tables_1) (i := 1366) (by decide +kernel))) (by decide +kernel)
theorem ly_12_23 : u_lay RX12 TX12 23 ∈ wU := wU_mem (List.mem_append_right _ (List.mem_of_getElem? (l := tables_1) (i := 1368) (by decide +kernel))) (by decide +kernel)
theorem ly_12_24 : u_lay RX12 TX12 24 ∈ wU := wU_mem (List.mem_append_right _ (List.mem_of_getElem? (l := tables_1) (i := 1370) (by decide +kernel))) (by decide +kernel)
theorem ly_12_25 : u_lay RX12 TX12 25 ∈ wU := wU_mem (List.mem_append_right _ (List.mem_of_getElem? (l := tables_1) (i := 1372) (by decide +kernel))) (by decide +kernel)
theorem ly_12_26 : u_lay RX12 TX12 26 ∈ wU := wU_mem (List.mem_append_right _ (List.mem_of_getElem? (l := tables_1) (i := 1374) (by decide +kernel))) (by decide +kernel)
theorem ly_12_27 : u_lay RX12 TX12 27 ∈ wU := wU_mem (List.mem_append_right _ (List.mem_of_getElem? (l := tables_1) (i := 1376) (by decide +kernel))) (by decide +kernel)
theorem ly_12_28 : u_lay RX12 TX12 28 ∈ wU := wU_mem (List.mem_append_right _ (List.mem_of_getElem? (l := tables_1) (i := 1378) (by decide +kernel))) (by decide +kernel)
theorem ly_12_29 : u_lay RX12 TX12 29 ∈ wU := wU_mem (List.mem_append_right _ (List.mem_of_getElem? (l := tables_1) (i := 1380) (by decide +kernel))) (by decide +kernel)
theorem ly_12_30 : u_lay RX12 TX12 30 ∈ wU := wU_mem (List.mem_append_right _ (List.mem_of_getElem? (l := tables_1) (i := 1382) (by decide +kernel))) (by decide +kernel)
theorem ly_12_31 : u_lay RX12 TX12 31 ∈ wU := wU_mem (List.mem_append_right _ (List.mem_of_getElem? (l := tables_1) (i := 1384) (by decide +kernel))) (by decide +kernel)
theorem ly_12_32 : u_lay RX12 TX12 32 ∈ wU := wU_mem (List.mem_append_right _ (List.mem_of_getElem? (l := tables_1) (i := 1386) (by decide +kernel))) (by decide +kernel)
theorem ly_12_33 : u_lay RX12 TX12 33 ∈ wU := wU_mem (List.mem_append_right _ (List.mem_of_getElem? (l := tables_1) (i := 1388) (by decide +kernel))) (by decide +kernel)
theorem ly_12_34 : u_lay RX12 TX12 34 ∈ wU := wU_mem (List.mem_append_right _ (List.mem_of_getElem? (l := tables_1) (i := 1390) (by decide +kernel))) (by decide +kernel)
theorem ly_12_35 : u_lay RX12 TX12 35 ∈ wU := wU_mem (List.mem_append_right _ (List.mem_of_getElem? (l := tables_1) (i := 1392) (by decide +kernel))) (by decide +kernel)
theorem ly_12_36 : u_lay RX12 TX12 36 ∈ wU := wU_mem (List.mem_append_right _ (List.mem_of_getElem? (l := tables_1) (i := 1394) (by decide +kernel))) (by decide +kernel)
theorem ly_12_37 : u_lay RX12 TX12 37 ∈ wU := wU_mem (List.mem_append_right _ (List.mem_of_getElem? (l := tables_1) (i := 1396) (by decide +kernel))) (by decide +kernel)
theorem ly_12_38 : u_lay RX12 TX12 38 ∈ wU := wU_mem (List.mem_append_right _ (List.mem_of_getElem? (l := tables_1) (i := 1398) (by decide +kernel))) (by decide +kernel)
theorem ly_12_39 : u_lay RX12 TX12 39 ∈ wU := wU_mem (List.mem_append_right _ (List.mem_of_getElem? (l := tables_1) (i := 1400) (by decide +kernel))) (by decide +kernel)
theorem ly_12_40 : u_lay RX12 TX12 40 ∈ wU := wU_mem (List.mem_append_right _ (List.mem_of_getElem? (l := tables_1) (i := 1402) (by decide +kernel))) (by decide +kernel)
theorem ly_12_41 : u_lay RX12 TX12 41 ∈ wU := wU_mem (List.mem_append_right _ (List.mem_of_getElem? (l := tables_1) (i := 1404) (by decide +kernel))) (by decide +kernel)
theorem ly_12_42 : u_lay RX12 TX12 42 ∈ wU := wU_mem (List.mem_append_right _ (List.mem_of_getElem? (l := tables_1) (i := 1406) (by decide +kernel))) (by decide +kernel)
theorem ly_12_43 : u_lay RX12 TX12 43 ∈ wU := wU_mem (List.mem_append_right _ (List.mem_of_getElem? (l := tables_1) (i := 1408) (by decide +kernel))) (by decide +kernel)
theorem ly_12_44 : u_lay RX12 TX12 44 ∈ wU := wU_mem (List.mem_append_right _ (List.mem_of_getElem? (l := tables_1) (i := 1410) (by decide +kernel))) (by decide +kernel)
theorem ly_12_45 : u_lay RX12 TX12 45 ∈ wU := wU_mem (List.mem_append_right _ (List.mem_of_getElem? (l := tables_1) (i := 1412) (by decide +kernel))) (by decide +kernel)
theorem ly_12_46 : u_lay RX12 TX12 46 ∈ wU := wU_mem (List.mem_append_right _ (List.mem_of_getElem? (l := tables_1) (i := 1414) (by decide +kernel))) (by decide +kernel)
theorem ly_12_47 : u_lay RX12 TX12 47 ∈ wU := wU_mem (List.mem_append_right _ (List.mem_of_getElem? (l := tables_1) (i := 1416) (by decide +kernel))) (by decide +kernel)
theorem ly_12_48 : u_lay RX12 TX12 48 ∈ wU := wU_mem (List.mem_append_right _ (List.mem_of_getElem? (l := tables_1) (i := 1418) (by decide +kernel))) (by decide +kernel)
theorem ly_12_49 : u_lay RX12 TX12 49 ∈ wU := wU_mem (List.mem_append_right _ (List.mem_of_getElem? (l := tables_1) (i := 1420) (by decide +kernel))) (by decide +kernel)
theorem ly_12_50 : u_lay RX12 TX12 50 ∈ wU := wU_mem (List.mem_append_right _ (List.mem_of_getElem? (l := tables_1) (i := 1422) (by decide +kernel))) (by decide +kernel)
theorem ly_12_51 : u_lay RX12 TX12 51 ∈ wU := wU_mem (List.mem_append_right _ (List.mem_of_getElem? (l := tables_1) (i := 1424) (by decide +kernel))) (by decide +kernel)
theorem ly_12_52 : u_lay RX12 TX12 52 ∈ wU := wU_mem (List.mem_append_right _ (List.mem_of_getElem? (l := tables_1) (i := 1426) (by decide +kernel))) (by decide +kernel)
theorem ly_12_53 : u_lay RX12 TX12 53 ∈ wU := wU_mem (List.mem_append_right _ (List.mem_of_getElem? (l := tables_1) (i := 1428) (by decide +kernel))) (by decide +kernel)
theorem ly_12_54 : u_lay RX12 TX12 54 ∈ wU := wU_mem (List.mem_append_right _ (List.mem_of_getElem? (l := tables_1) (i := 1430) (by decide +kernel))) (by decide +kernel)
theorem ly_12_55 : u_lay RX12 TX12 55 ∈ wU := wU_mem (List.mem_append_right _ (List.mem_of_getElem? (l := tables_1) (i := 1432) (by decide +kernel))) (by decide +kernel)
theorem ly_12_56 : u_lay RX12 TX12 56 ∈ wU := wU_mem (List.mem_append_right _ (List.mem_of_getElem? (l := tables_1) (i := 1434) (by decide +kernel))) (by decide +kernel)
theorem ly_12_57 : u_lay RX12 TX12 57 ∈ wU := wU_mem (List.mem_append_right _ (List.mem_of_getElem? (l := tables_1) (i := 1436) (by decide +kernel))) (by decide +kernel)
theorem ly_12_58 : u_lay RX12 TX12 58 ∈ wU := wU_mem (List.mem_append_right _ (List.mem_of_getElem? (l := tables_1) (i := 1438) (by decide +kernel))) (by decide +kernel)
theorem ly_12_59 : u_lay RX12 TX12 59 ∈ wU := wU_mem (List.mem_append_right _ (List.mem_of_getElem? (l := tables_1) (i := 1440) (by decide +kernel))) (by decide +kernel)
theorem ly_12_60 : u_lay RX12 TX12 60 ∈ wU := wU_mem (List.mem_append_right _ (List.mem_of_getElem? (l := tables_1) (i := 1442) (by decide +kernel))) (by decide +kernel)
theorem ly_12_61 : u_lay RX12 TX12 61 ∈ wU := wU_mem (List.mem_append_right _ (List.mem_of_getElem? (l := tables_1) (i := 1444) (by decide +kernel))) (by decide +kernel)
theorem ly_12_62 : u_lay RX12 TX12 62 ∈ wU := wU_mem (List.mem_append_right _ (List.mem_of_getElem? (l := tables_1) (i := 1446) (by decide +kernel))) (by decide +kernel)
theorem ly_12_63 : u_lay RX12 TX12 63 ∈ wU := wU_mem (List.mem_append_right _ (List.mem_of_getElem? (l := tables_1) (i := 1448) (by decide +kernel))) (by decide +kernel)
theorem ly_12_64 : u_lay RX12 TX12 64 ∈ wU := wU_mem (List.mem_append_right _ (List.mem_of_getElem? (l := tables_1) (i := 1450) (by decide +kernel))) (by decide +kernel)
theorem ly_12_65 : u_lay RX12 TX12 65 ∈ wU := wU_mem (List.mem_append_right _ (List.mem_of_getElem? (l := tables_1) (i := 1452) (by decide +kernel))) (by decide +kernel)
theorem ly_12_66 : u_lay RX12 TX12 66 ∈ wU := wU_mem (List.mem_append_right _ (List.mem_of_getElem? (l := tables_1) (i := 1454) (by decide +kernel))) (by decide +kernel)
theorem ly_12_67 : u_lay RX12 TX12 67 ∈ wU := wU_mem (List.mem_append_right _ (List.mem_of_getElem? (l := tables_1) (i := 1456) (by decide +kernel))) (by decide +kernel)
theorem ly_12_68 : u_lay RX12 TX12 68 ∈ wU := wU_mem (List.mem_append_right _ (List.mem_of_getElem? (l := tables_1) (i := 1458) (by decide +kernel))) (by decide +kernel)
theorem ly_12_69 : u_lay RX12 TX12 69 ∈ wU := wU_mem (List.mem_append_right _ (List.mem_of_getElem? (l := tables_1) (i := 1460) (by decide +kernel))) (by decide +kernel)
theorem ly_12_70 : u_lay RX12 TX12 70 ∈ wU := wU_mem (List.mem_append_right _ (List.mem_of_getElem? (l := tables_1) (i := 1462) (by decide +kernel))) (by decide +kernel)
theorem ly_12_71 : u_lay RX12 TX12 71 ∈ wU := wU_mem (List.mem_append_right _ (List.mem_of_getElem? (l := tables_1) (i := 1464) (by decide +kernel))) (by decide +kernel)
theorem ly_12_72 : u_lay RX12 TX12 72 ∈ wU := wU_mem (List.mem_append_right _ (List.mem_of_getElem? (l := tables_1) (i := 1466) (by decide +kernel))) (by decide +kernel)
theorem ly_12_73 : u_lay RX12 TX12 73 ∈ wU := wU_mem (List.mem_append_right _ (List.mem_of_getElem? (l := tables_1) (i := 1468) (by decide +kernel))) (by decide +kernel)
theorem ly_12_74 : u_lay RX12 TX12 74 ∈ wU := wU_mem (List.mem_append_right _ (List.mem_of_getElem? (l := tables_1) (i := 1470) (by decide +kernel))) (by decide +kernel)
theorem uw_12 : ∀ w ∈ u_ws RX12 TX12 (nF 12), w ∈ wU := by
  intro w hw
  obtain ⟨k, hk, rfl⟩ := List.mem_map.mp hw
  have hk := List.mem_range.mp hk
  have hk : k < 75 := hk
  match k, hk with
  | 0, _ => exact ly_12_0
  | 1, _ => exact ly_12_1
  | 2, _ => exact ly_12_2
  | 3, _ => exact ly_12_3
  | 4, _ => exact ly_12_4
  | 5, _ => exact ly_12_5
  | 6, _ => exact ly_12_6
  | 7, _ => exact ly_12_7
  | 8, _ => exact ly_12_8
  | 9, _ => exact ly_12_9
  | 10, _ => exact ly_12_10
  | 11, _ => exact ly_12_11
  | 12, _ => exact ly_12_12
  | 13, _ => exact ly_12_13
  | 14, _ => exact ly_12_14
  | 15, _ => exact ly_12_15
  | 16, _ => exact ly_12_16
  | 17, _ => exact ly_12_17
  | 18, _ => exact ly_12_18
  | 19, _ => exact ly_12_19
  | 20, _ => exact ly_12_20
  | 21, _ => exact ly_12_21
  | 22, _ => exact ly_12_22
  | 23, _ => exact ly_12_23
  | 24, _ => exact ly_12_24
  | 25, _ => exact ly_12_25
  | 26, _ => exact ly_12_26
  | 27, _ => exact ly_12_27
  | 28, _ => exact ly_12_28
  | 29, _ => exact ly_12_29
  | 30, _ => exact ly_12_30
  | 31, _ => exact ly_12_31
  | 32, _ => exact ly_12_32
  | 33, _ => exact ly_12_33
  | 34, _ => exact ly_12_34
  | 35, _ => exact ly_12_35
  | 36, _ => exact ly_12_36
  | 37, _ => exact ly_12_37
  | 38, _ => exact ly_12_38
  | 39, _ => exact ly_12_39
  | 40, _ => exact ly_12_40
  | 41, _ => exact ly_12_41
  | 42, _ => exact ly_12_42
  | 43, _ => exact ly_12_43
  | 44, _ => exact ly_12_44
  | 45, _ => exact ly_12_45
  | 46, _ => exact ly_12_46
  | 47, _ => exact ly_12_47
  | 48, _ => exact ly_12_48
  | 49, _ => exact ly_12_49
  | 50, _ => exact ly_12_50
  | 51, _ => exact ly_12_51
  | 52, _ => exact ly_12_52
  | 53, _ => exact ly_12_53
  | 54, _ => exact ly_12_54
  | 55, _ => exact ly_12_55
  | 56, _ => exact ly_12_56
  | 57, _ => exact ly_12_57
  | 58, _ => exact ly_12_58
  | 59, _ => exact ly_12_59
  | 60, _ => exact ly_12_60
  | 61, _ => exact ly_12_61
  | 62, _ => exact ly_12_62
  | 63, _ => exact ly_12_63
  | 64, _ => exact ly_12_64
  | 65, _ => exact ly_12_65
  | 66, _ => exact ly_12_66
  | 67, _ => exact ly_12_67
  | 68, _ => exact ly_12_68
  | 69, _ => exact ly_12_69
  | 70, _ => exact ly_12_70
  | 71, _ => exact ly_12_71
  | 72, _ => exact ly_12_72
  | 73, _ => exact ly_12_73
  | 74, _ => exact ly_12_74
  | k + 75, hk => omega
theorem fk_X11_12 : Cond.fieldLink RX11 12 (TX11 0).1 (TX11 0).2.1 (TX11 0).2.2.1 ∈ wU := wU_mem (List.mem_append_right _ (List.mem_of_getElem? (l := tables_1) (i := 416) (by decide +kernel))) (by decide +kernel)
theorem fl_X11_12 : Fl RX11 12 11 0 := ⟨RX11, TX11, rfl, Nat.le_of_ble_eq_true rfl, Nat.le_of_ble_eq_true rfl, uw_11, fk_X11_12⟩
theorem fk_X11_23 : Cond.fieldLink RX11 23 (TX11 1).1 (TX11 1).2.1 (TX11 1).2.2.1 ∈ wU := wU_mem (List.mem_append_right _ (List.mem_of_getElem? (l := tables_1) (i := 417) (by decide +kernel))) (by decide +kernel)
theorem fl_X11_23 : Fl RX11 23 11 1 := ⟨RX11, TX11, rfl, Nat.le_of_ble_eq_true rfl, Nat.le_of_ble_eq_true rfl, uw_11, fk_X11_23⟩
theorem fk_X11_30 : Cond.fieldLink RX11 30 (TX11 2).1 (TX11 2).2.1 (TX11 2).2.2.1 ∈ wU := wU_mem (List.mem_append_right _ (List.mem_of_getElem? (l := tables_1) (i := 418) (by decide +kernel))) (by decide +kernel)
theorem fl_X11_30 : Fl RX11 30 11 2 := ⟨RX11, TX11, rfl, Nat.le_of_ble_eq_true rfl, Nat.le_of_ble_eq_true rfl, uw_11, fk_X11_30⟩
theorem fk_X11_34 : Cond.fieldLink RX11 34 (TX11 3).1 (TX11 3).2.1 (TX11 3).2.2.1 ∈ wU := wU_mem (List.mem_append_right _ (List.mem_of_getElem? (l := tables_1) (i := 419) (by decide +kernel))) (by decide +kernel)
theorem fl_X11_34 : Fl RX11 34 11 3 := ⟨RX11, TX11, rfl, Nat.le_of_ble_eq_true rfl, Nat.le_of_ble_eq_true rfl, uw_11, fk_X11_34⟩
theorem fk_X11_40 : Cond.fieldLink RX11 40 (TX11 4).1 (TX11 4).2.1 (TX11 4).2.2.1 ∈ wU := wU_mem (List.mem_append_right _ (List.mem_of_getElem? (l := tables_1) (i := 420) (by decide +kernel))) (by decide +kernel)
theorem fl_X11_40 : Fl RX11 40 11 4 := ⟨RX11, TX11, rfl, Nat.le_of_ble_eq_true rfl, Nat.le_of_ble_eq_true rfl, uw_11, fk_X11_40⟩
theorem fk_X11_47 : Cond.fieldLink RX11 47 (TX11 5).1 (TX11 5).2.1 (TX11 5).2.2.1 ∈ wU := wU_mem (List.mem_append_right _ (List.mem_of_getElem? (l := tables_1) (i := 421) (by decide +kernel))) (by decide +kernel)
theorem fl_X11_47 : Fl RX11 47 11 5 := ⟨RX11, TX11, rfl, Nat.le_of_ble_eq_true rfl, Nat.le_of_ble_eq_true rfl, uw_11, fk_X11_47⟩
theorem fk_X11_54 : Cond.fieldLink RX11 54 (TX11 6).1 (TX11 6).2.1 (TX11 6).2.2.1 ∈ wU := wU_mem (List.mem_append_right _ (List.mem_of_getElem? (l := tables_1) (i := 422) (by decide +kernel))) (by decide +kernel)
theorem fl_X11_54 : Fl RX11 54 11 6 := ⟨RX11, TX11, rfl, Nat.le_of_ble_eq_true rfl, Nat.le_of_ble_eq_true rfl, uw_11, fk_X11_54⟩
theorem fk_X11_61 : Cond.fieldLink RX11 61 (TX11 7).1 (TX11 7).2.1 (TX11 7).2.2.1 ∈ wU := wU_mem (List.mem_append_right _ (List.mem_of_getElem? (l := tables_1) (i := 423) (by decide +kernel))) (by decide +kernel)
theorem fl_X11_61 : Fl RX11 61 11 7 := ⟨RX11, TX11, rfl, Nat.le_of_ble_eq_true rfl, Nat.le_of_ble_eq_true rfl, uw_11, fk_X11_61⟩
theorem fk_X11_68 : Cond.fieldLink RX11 68 (TX11 8).1 (TX11 8).2.1 (TX11 8).2.2.1 ∈ wU := wU_mem (List.mem_append_right _ (List.mem_of_getElem? (l := tables_1) (i := 424) (by decide +kernel))) (by decide +kernel)
theorem fl_X11_68 : Fl RX11 68 11 8 := ⟨RX11, TX11, rfl, Nat.le_of_ble_eq_true rfl, Nat.le_of_ble_eq_true rfl, uw_11, fk_X11_68⟩
theorem fk_X11_72 : Cond.fieldLink RX11 72 (TX11 9).1 (TX11 9).2.1 (TX11 9).2.2.1 ∈ wU := wU_mem (List.mem_append_right _ (List.mem_of_getElem? (l := tables_1) (i := 425) (by decide +kernel))) (by decide +kernel)
theorem fl_X11_72 : Fl RX11 72 11 9 := ⟨RX11, TX11, rfl, Nat.le_of_ble_eq_true rfl, Nat.le_of_ble_eq_true rfl, uw_11, fk_X11_72⟩
theorem fk_X11_76 : Cond.fieldLink RX11 76 (TX11 10).1 (TX11 10).2.1 (TX11 10).2.2.1 ∈ wU := wU_mem (List.mem_append_right _ (List.mem_of_getElem? (l := tables_1) (i := 426) (by decide +kernel))) (by decide +kernel)
theorem fl_X11_76 : Fl RX11 76 11 10 := ⟨RX11, TX11, rfl, Nat.le_of_ble_eq_true rfl, Nat.le_of_ble_eq_true rfl, uw_11, fk_X11_76⟩
theorem fk_X11_82 : Cond.fieldLink RX11 82 (TX11 11).1 (TX11 11).2.1 (TX11 11).2.2.1 ∈ wU := wU_mem (List.mem_append_right _ (List.mem_of_getElem? (l := tables_1) (i := 427) (by decide +kernel))) (by decide +kernel)
theorem fl_X11_82 : Fl RX11 82 11 11 := ⟨RX11, TX11, rfl, Nat.le_of_ble_eq_true rfl, Nat.le_of_ble_eq_true rfl, uw_11, fk_X11_82⟩
theorem fk_X11_86 : Cond.fieldLink RX11 86 (TX11 12).1 (TX11 12).2.1 (TX11 12).2.2.1 ∈ wU := wU_mem (List.mem_append_right _ (List.mem_of_getElem? (l := tables_1) (i := 428) (by decide +kernel))) (by decide +kernel)
theorem fl_X11_86 : Fl RX11 86 11 12 := ⟨RX11, TX11, rfl, Nat.le_of_ble_eq_true rfl, Nat.le_of_ble_eq_true rfl, uw_11, fk_X11_86⟩
theorem fk_X11_89 : Cond.fieldLink RX11 89 (TX11 13).1 (TX11 13).2.1 (TX11 13).2.2.1 ∈ wU := wU_mem (List.mem_append_right _ (List.mem_of_getElem? (l := tables_1) (i := 429) (by decide +kernel))) (by decide +kernel)
theorem fl_X11_89 : Fl RX11 89 11 13 := ⟨RX11, TX11, rfl, Nat.le_of_ble_eq_true rfl, Nat.le_of_ble_eq_true rfl, uw_11, fk_X11_89⟩
theorem fk_X11_93 : Cond.fieldLink RX11 93 (TX8 1).1 (TX8 1).2.1 (TX8 1).2.2.1 ∈ wU := wU_mem (List.mem_append_right _ (List.mem_of_getElem? (l := tables_1) (i := 37) (by decide +kernel))) (by decide +kernel)
theorem fl_X11_93 : Fl RX11 93 8 1 := ⟨RX8, TX8, rfl, Nat.le_of_ble_eq_true rfl, Nat.le_of_ble_eq_true rfl, uw_8, fk_X11_93⟩
theorem fk_X11_105 : Cond.fieldLink RX11 105 (TX7 3).1 (TX7 3).2.1 (TX7 3).2.2.1 ∈ wU := wU_mem (List.mem_append_right _ (List.mem_of_getElem? (l := tables_1) (i := 110) (by decide +kernel))) (by decide +kernel)
theorem fl_X11_105 : Fl RX11 105 7 3 := ⟨RX7, TX7, rfl, Nat.le_of_ble_eq_true rfl, Nat.le_of_ble_eq_true rfl, uw_7, fk_X11_105⟩
theorem fk_X11_116 : Cond.fieldLink RX11 116 (TX10 11).1 (TX10 11).2.1 (TX10 11).2.2.1 ∈ wU := wU_mem (List.mem_append_right _ (List.mem_of_getElem? (l := tables_1) (i := 382) (by decide +kernel))) (by decide +kernel)
theorem fl_X11_116 : Fl RX11 116 10 11 := ⟨RX10, TX10, rfl, Nat.le_of_ble_eq_true rfl, Nat.le_of_ble_eq_true rfl, uw_10, fk_X11_116⟩
theorem fk_X11_119 : Cond.fieldLink RX11 119 (TX7 4).1 (TX7 4).2.1 (TX7 4).2.2.1 ∈ wU := wU_mem (List.mem_append_right _ (List.mem_of_getElem? (l := tables_1) (i := 112) (by decide +kernel))) (by decide +kernel)
theorem fl_X11_119 : Fl RX11 119 7 4 := ⟨RX7, TX7, rfl, Nat.le_of_ble_eq_true rfl, Nat.le_of_ble_eq_true rfl, uw_7, fk_X11_119⟩
theorem fk_X11_140 : Cond.fieldLink RX11 140 (TX9 0).1 (TX9 0).2.1 (TX9 0).2.2.1 ∈ wU := wU_mem (List.mem_append_right _ (List.mem_of_getElem? (l := tables_1) (i := 201) (by decide +kernel))) (by decide +kernel)
theorem fl_X11_140 : Fl RX11 140 9 0 := ⟨RX9, TX9, rfl, Nat.le_of_ble_eq_true rfl, Nat.le_of_ble_eq_true rfl, uw_9, fk_X11_140⟩
theorem fk_X11_144 : Cond.fieldLink RX11 144 (TX0 5).1 (TX0 5).2.1 (TX0 5).2.2.1 ∈ wU := wU_mem (List.mem_append_right _ (List.mem_of_getElem? (l := tables_1) (i := 157) (by decide +kernel))) (by decide +kernel)
theorem fl_X11_144 : Fl RX11 144 0 5 := ⟨RX0, TX0, rfl, Nat.le_of_ble_eq_true rfl, Nat.le_of_ble_eq_true rfl, uw_0, fk_X11_144⟩
theorem fk_X11_147 : Cond.fieldLink RX11 147 (TX0 2).1 (TX0 2).2.1 (TX0 2).2.2.1 ∈ wU := wU_mem (List.mem_append_right _ (List.mem_of_getElem? (l := tables_1) (i := 145) (by decide +kernel))) (by decide +kernel)
theorem fl_X11_147 : Fl RX11 147 0 2 := ⟨RX0, TX0, rfl, Nat.le_of_ble_eq_true rfl, Nat.le_of_ble_eq_true rfl, uw_0, fk_X11_147⟩
theorem fk_X11_150 : Cond.fieldLink RX11 150 (TX0 6).1 (TX0 6).2.1 (TX0 6).2.2.1 ∈ wU := wU_mem (List.mem_append_right _ (List.mem_of_getElem? (l := tables_1) (i := 161) (by decide +kernel))) (by decide +kernel)
theorem fl_X11_150 : Fl RX11 150 0 6 := ⟨RX0, TX0, rfl, Nat.le_of_ble_eq_true rfl, Nat.le_of_ble_eq_true rfl, uw_0, fk_X11_150⟩
theorem fk_X11_153 : Cond.fieldLink RX11 153 (TX0 7).1 (TX0 7).2.1 (TX0 7).2.2.1 ∈ wU := wU_mem (List.mem_append_right _ (List.mem_of_getElem? (l := tables_1) (i := 164) (by decide +kernel))) (by decide +kernel)
theorem fl_X11_153 : Fl RX11 153 0 7 := ⟨RX0, TX0, rfl, Nat.le_of_ble_eq_true rfl, Nat.le_of_ble_eq_true rfl, uw_0, fk_X11_153⟩
theorem fk_X11_156 : Cond.fieldLink RX11 156 (TX0 8).1 (TX0 8).2.1 (TX0 8).2.2.1 ∈ wU := wU_mem (List.mem_append_right _ (List.mem_of_getElem? (l := tables_1) (i := 166) (by decide +kernel))) (by decide +kernel)
theorem fl_X11_156 : Fl RX11 156 0 8 := ⟨RX0, TX0, rfl, Nat.le_of_ble_eq_true rfl, Nat.le_of_ble_eq_true rfl, uw_0, fk_X11_156⟩
theorem fk_X11_159 : Cond.fieldLink RX11 159 (TX0 10).1 (TX0 10).2.1 (TX0 10).2.2.1 ∈ wU := wU_mem (List.mem_append_right _ (List.mem_of_getElem? (l := tables_1) (i := 174) (by decide +kernel))) (by decide +kernel)
theorem fl_X11_159 : Fl RX11 159 0 10 := ⟨RX0, TX0, rfl, Nat.le_of_ble_eq_true rfl, Nat.le_of_ble_eq_true rfl, uw_0, fk_X11_159⟩
theorem fk_X11_162 : Cond.fieldLink RX11 162 (TX0 9).1 (TX0 9).2.1 (TX0 9).2.2.1 ∈ wU := wU_mem (List.mem_append_right _ (List.mem_of_getElem? (l := tables_1) (i := 170) (by decide +kernel))) (by decide +kernel)
theorem fl_X11_162 : Fl RX11 162 0 9 := ⟨RX0, TX0, rfl, Nat.le_of_ble_eq_true rfl, Nat.le_of_ble_eq_true rfl, uw_0, fk_X11_162⟩
theorem fk_X11_174 : Cond.fieldLink RX11 174 (TX0 0).1 (TX0 0).2.1 (TX0 0).2.2.1 ∈ wU := wU_mem (List.mem_append_right _ (List.mem_of_getElem? (l := tables_1) (i := 138) (by decide +kernel))) (by decide +kernel)
theorem fl_X11_174 : Fl RX11 174 0 0 := ⟨RX0, TX0, rfl, Nat.le_of_ble_eq_true rfl, Nat.le_of_ble_eq_true rfl, uw_0, fk_X11_174⟩
theorem fk_X11_180 : Cond.fieldLink RX11 180 (TX10 8).1 (TX10 8).2.1 (TX10 8).2.2.1 ∈ wU := wU_mem (List.mem_append_right _ (List.mem_of_getElem? (l := tables_1) (i := 372) (by decide +kernel))) (by decide +kernel)
theorem fl_X11_180 : Fl RX11 180 10 8 := ⟨RX10, TX10, rfl, Nat.le_of_ble_eq_true rfl, Nat.le_of_ble_eq_true rfl, uw_10, fk_X11_180⟩
theorem fk_X11_183 : Cond.fieldLink RX11 183 (TX10 3).1 (TX10 3).2.1 (TX10 3).2.2.1 ∈ wU := wU_mem (List.mem_append_right _ (List.mem_of_getElem? (l := tables_1) (i := 358) (by decide +kernel))) (by decide +kernel)
theorem fl_X11_183 : Fl RX11 183 10 3 := ⟨RX10, TX10, rfl, Nat.le_of_ble_eq_true rfl, Nat.le_of_ble_eq_true rfl, uw_10, fk_X11_183⟩
theorem fk_X11_186 : Cond.fieldLink RX11 186 (TX10 4).1 (TX10 4).2.1 (TX10 4).2.2.1 ∈ wU := wU_mem (List.mem_append_right _ (List.mem_of_getElem? (l := tables_1) (i := 361) (by decide +kernel))) (by decide +kernel)
theorem fl_X11_186 : Fl RX11 186 10 4 := ⟨RX10, TX10, rfl, Nat.le_of_ble_eq_true rfl, Nat.le_of_ble_eq_true rfl, uw_10, fk_X11_186⟩
theorem fk_X11_194 : Cond.fieldLink RX11 194 (TX10 1).1 (TX10 1).2.1 (TX10 1).2.2.1 ∈ wU := wU_mem (List.mem_append_right _ (List.mem_of_getElem? (l := tables_1) (i := 353) (by decide +kernel))) (by decide +kernel)
theorem fl_X11_194 : Fl RX11 194 10 1 := ⟨RX10, TX10, rfl, Nat.le_of_ble_eq_true rfl, Nat.le_of_ble_eq_true rfl, uw_10, fk_X11_194⟩
theorem fk_X11_198 : Cond.fieldLink RX11 198 (TX9 2).1 (TX9 2).2.1 (TX9 2).2.2.1 ∈ wU := wU_mem (List.mem_append_right _ (List.mem_of_getElem? (l := tables_1) (i := 208) (by decide +kernel))) (by decide +kernel)
theorem fl_X11_198 : Fl RX11 198 9 2 := ⟨RX9, TX9, rfl, Nat.le_of_ble_eq_true rfl, Nat.le_of_ble_eq_true rfl, uw_9, fk_X11_198⟩
theorem fk_X11_253 : Cond.fieldLink RX11 253 (TX6 3).1 (TX6 3).2.1 (TX6 3).2.2.1 ∈ wU := wU_mem (List.mem_append_right _ (List.mem_of_getElem? (l := tables_1) (i := 298) (by decide +kernel))) (by decide +kernel)
theorem fl_X11_253 : Fl RX11 253 6 3 := ⟨RX6, TX6, rfl, Nat.le_of_ble_eq_true rfl, Nat.le_of_ble_eq_true rfl, uw_6, fk_X11_253⟩
theorem fk_X11_256 : Cond.fieldLink RX11 256 (TX6 2).1 (TX6 2).2.1 (TX6 2).2.2.1 ∈ wU := wU_mem (List.mem_append_right _ (List.mem_of_getElem? (l := tables_1) (i := 296) (by decide +kernel))) (by decide +kernel)
theorem fl_X11_256 : Fl RX11 256 6 2 := ⟨RX6, TX6, rfl, Nat.le_of_ble_eq_true rfl, Nat.le_of_ble_eq_true rfl, uw_6, fk_X11_256⟩
theorem fk_X11_263 : Cond.fieldLink RX11 263 (TX9 1).1 (TX9 1).2.1 (TX9 1).2.2.1 ∈ wU := wU_mem (List.mem_append_right _ (List.mem_of_getElem? (l := tables_1) (i := 206) (by decide +kernel))) (by decide +kernel)
theorem fl_X11_263 : Fl RX11 263 9 1 := ⟨RX9, TX9, rfl, Nat.le_of_ble_eq_true rfl, Nat.le_of_ble_eq_true rfl, uw_9, fk_X11_263⟩
theorem fk_X11_318 : Cond.fieldLink RX11 318 (TX3 5).1 (TX3 5).2.1 (TX3 5).2.2.1 ∈ wU := wU_mem (List.mem_append_right _ (List.mem_of_getElem? (l := tables_1) (i := 259) (by decide +kernel))) (by decide +kernel)
theorem fl_X11_318 : Fl RX11 318 3 5 := ⟨RX3, TX3, rfl, Nat.le_of_ble_eq_true rfl, Nat.le_of_ble_eq_true rfl, uw_3, fk_X11_318⟩
theorem fk_X11_322 : Cond.fieldLink RX11 322 (TX3 6).1 (TX3 6).2.1 (TX3 6).2.2.1 ∈ wU := wU_mem (List.mem_append_right _ (List.mem_of_getElem? (l := tables_1) (i := 261) (by decide +kernel))) (by decide +kernel)
theorem fl_X11_322 : Fl RX11 322 3 6 := ⟨RX3, TX3, rfl, Nat.le_of_ble_eq_true rfl, Nat.le_of_ble_eq_true rfl, uw_3, fk_X11_322⟩
theorem fk_X11_338 : Cond.fieldLink RX11 338 (TX1 4).1 (TX1 4).2.1 (TX1 4).2.2.1 ∈ wU := wU_mem (List.mem_append_right _ (List.mem_of_getElem? (l := tables_1) (i := 234) (by decide +kernel))) (by decide +kernel)
theorem fl_X11_338 : Fl RX11 338 1 4 := ⟨RX1, TX1, rfl, Nat.le_of_ble_eq_true rfl, Nat.le_of_ble_eq_true rfl, uw_1, fk_X11_338⟩
theorem fk_X11_344 : Cond.fieldLink RX11 344 (TX10 7).1 (TX10 7).2.1 (TX10 7).2.2.1 ∈ wU := wU_mem (List.mem_append_right _ (List.mem_of_getElem? (l := tables_1) (i := 370) (by decide +kernel))) (by decide +kernel)
theorem fl_X11_344 : Fl RX11 344 10 7 := ⟨RX10, TX10, rfl, Nat.le_of_ble_eq_true rfl, Nat.le_of_ble_eq_true rfl, uw_10, fk_X11_344⟩
theorem fk_X11_347 : Cond.fieldLink RX11 347 (TX5 5).1 (TX5 5).2.1 (TX5 5).2.2.1 ∈ wU := wU_mem (List.mem_append_right _ (List.mem_of_getElem? (l := tables_1) (i := 332) (by decide +kernel))) (by decide +kernel)
theorem fl_X11_347 : Fl RX11 347 5 5 := ⟨RX5, TX5, rfl, Nat.le_of_ble_eq_true rfl, Nat.le_of_ble_eq_true rfl, uw_5, fk_X11_347⟩
theorem fk_X11_353 : Cond.fieldLink RX11 353 (TX9 4).1 (TX9 4).2.1 (TX9 4).2.2.1 ∈ wU := wU_mem (List.mem_append_right _ (List.mem_of_getElem? (l := tables_1) (i := 211) (by decide +kernel))) (by decide +kernel)
theorem fl_X11_353 : Fl RX11 353 9 4 := ⟨RX9, TX9, rfl, Nat.le_of_ble_eq_true rfl, Nat.le_of_ble_eq_true rfl, uw_9, fk_X11_353⟩
theorem fk_X11_364 : Cond.fieldLink RX11 364 (TX10 9).1 (TX10 9).2.1 (TX10 9).2.2.1 ∈ wU := wU_mem (List.mem_append_right _ (List.mem_of_getElem? (l := tables_1) (i := 376) (by decide +kernel))) (by decide +kernel)
theorem fl_X11_364 : Fl RX11 364 10 9 := ⟨RX10, TX10, rfl, Nat.le_of_ble_eq_true rfl, Nat.le_of_ble_eq_true rfl, uw_10, fk_X11_364⟩
theorem fk_X11_379 : Cond.fieldLink RX11 379 (TX0 4).1 (TX0 4).2.1 (TX0 4).2.2.1 ∈ wU := wU_mem (List.mem_append_right _ (List.mem_of_getElem? (l := tables_1) (i := 153) (by decide +kernel))) (by decide +kernel)
theorem fl_X11_379 : Fl RX11 379 0 4 := ⟨RX0, TX0, rfl, Nat.le_of_ble_eq_true rfl, Nat.le_of_ble_eq_true rfl, uw_0, fk_X11_379⟩
theorem fk_X0_9 : Cond.fieldLink RX0 9 (TX0 0).1 (TX0 0).2.1 (TX0 0).2.2.1 ∈ wU := wU_mem (List.mem_append_right _ (List.mem_of_getElem? (l := tables_1) (i := 137) (by decide +kernel))) (by decide +kernel)
theorem fl_X0_9 : Fl RX0 9 0 0 := ⟨RX0, TX0, rfl, Nat.le_of_ble_eq_true rfl, Nat.le_of_ble_eq_true rfl, uw_0, fk_X0_9⟩
theorem fk_X0_21 : Cond.fieldLink RX0 21 (TX0 1).1 (TX0 1).2.1 (TX0 1).2.2.1 ∈ wU := wU_mem (List.mem_append_right _ (List.mem_of_getElem? (l := tables_1) (i := 140) (by decide +kernel))) (by decide +kernel)
theorem fl_X0_21 : Fl RX0 21 0 1 := ⟨RX0, TX0, rfl, Nat.le_of_ble_eq_true rfl, Nat.le_of_ble_eq_true rfl, uw_0, fk_X0_21⟩
theorem fk_X0_25 : Cond.fieldLink RX0 25 (TX0 2).1 (TX0 2).2.1 (TX0 2).2.2.1 ∈ wU := wU_mem (List.mem_append_right _ (List.mem_of_getElem? (l := tables_1) (i := 143) (by decide +kernel))) (by decide +kernel)
theorem fl_X0_25 : Fl RX0 25 0 2 := ⟨RX0, TX0, rfl, Nat.le_of_ble_eq_true rfl, Nat.le_of_ble_eq_true rfl, uw_0, fk_X0_25⟩
theorem fk_X0_28 : Cond.fieldLink RX0 28 (TX0 3).1 (TX0 3).2.1 (TX0 3).2.2.1 ∈ wU := wU_mem (List.mem_append_right _ (List.mem_of_getElem? (l := tables_1) (i := 147) (by decide +kernel))) (by decide +kernel)
theorem fl_X0_28 : Fl RX0 28 0 3 := ⟨RX0, TX0, rfl, Nat.le_of_ble_eq_true rfl, Nat.le_of_ble_eq_true rfl, uw_0, fk_X0_28⟩
theorem fk_X0_31 : Cond.fieldLink RX0 31 (TX0 4).1 (TX0 4).2.1 (TX0 4).2.2.1 ∈ wU := wU_mem (List.mem_append_right _ (List.mem_of_getElem? (l := tables_1) (i := 150) (by decide +kernel))) (by decide +kernel)
theorem fl_X0_31 : Fl RX0 31 0 4 := ⟨RX0, TX0, rfl, Nat.le_of_ble_eq_true rfl, Nat.le_of_ble_eq_true rfl, uw_0, fk_X0_31⟩
theorem fk_X0_34 : Cond.fieldLink RX0 34 (TX0 5).1 (TX0 5).2.1 (TX0 5).2.2.1 ∈ wU := wU_mem (List.mem_append_right _ (List.mem_of_getElem? (l := tables_1) (i := 154) (by decide +kernel))) (by decide +kernel)
theorem fl_X0_34 : Fl RX0 34 0 5 := ⟨RX0, TX0, rfl, Nat.le_of_ble_eq_true rfl, Nat.le_of_ble_eq_true rfl, uw_0, fk_X0_34⟩
theorem fk_X0_37 : Cond.fieldLink RX0 37 (TX0 6).1 (TX0 6).2.1 (TX0 6).2.2.1 ∈ wU := wU_mem (List.mem_append_right _ (List.mem_of_getElem? (l := tables_1) (i := 159) (by decide +kernel))) (by decide +kernel)
theorem fl_X0_37 : Fl RX0 37 0 6 := ⟨RX0, TX0, rfl, Nat.le_of_ble_eq_true rfl, Nat.le_of_ble_eq_true rfl, uw_0, fk_X0_37⟩
theorem fk_X0_40 : Cond.fieldLink RX0 40 (TX0 7).1 (TX0 7).2.1 (TX0 7).2.2.1 ∈ wU := wU_mem (List.mem_append_right _ (List.mem_of_getElem? (l := tables_1) (i := 162) (by decide +kernel))) (by decide +kernel)
theorem fl_X0_40 : Fl RX0 40 0 7 := ⟨RX0, TX0, rfl, Nat.le_of_ble_eq_true rfl, Nat.le_of_ble_eq_true rfl, uw_0, fk_X0_40⟩
theorem fk_X0_43 : Cond.fieldLink RX0 43 (TX0 8).1 (TX0 8).2.1 (TX0 8).2.2.1 ∈ wU := wU_mem (List.mem_append_right _ (List.mem_of_getElem? (l := tables_1) (i := 165) (by decide +kernel))) (by decide +kernel)
theorem fl_X0_43 : Fl RX0 43 0 8 := ⟨RX0, TX0, rfl, Nat.le_of_ble_eq_true rfl, Nat.le_of_ble_eq_true rfl, uw_0, fk_X0_43⟩
theorem fk_X0_46 : Cond.fieldLink RX0 46 (TX0 9).1 (TX0 9).2.1 (TX0 9).2.2.1 ∈ wU := wU_mem (List.mem_append_right _ (List.mem_of_getElem? (l := tables_1) (i := 167) (by decide +kernel))) (by decide +kernel)
theorem fl_X0_46 : Fl RX0 46 0 9 := ⟨RX0, TX0, rfl, Nat.le_of_ble_eq_true rfl, Nat.le_of_ble_eq_true rfl, uw_0, fk_X0_46⟩
theorem fk_X0_49 : Cond.fieldLink RX0 49 (TX0 10).1 (TX0 10).2.1 (TX0 10).2.2.1 ∈ wU := wU_mem (List.mem_append_right _ (List.mem_of_getElem? (l := tables_1) (i := 172) (by decide +kernel))) (by decide +kernel)
theorem fl_X0_49 : Fl RX0 49 0 10 := ⟨RX0, TX0, rfl, Nat.le_of_ble_eq_true rfl, Nat.le_of_ble_eq_true rfl, uw_0, fk_X0_49⟩
theorem fk_X1_9 : Cond.fieldLink RX1 9 (TX1 0).1 (TX1 0).2.1 (TX1 0).2.2.1 ∈ wU := wU_mem (List.mem_append_right _ (List.mem_of_getElem? (l := tables_1) (i := 229) (by decide +kernel))) (by decide +kernel)
theorem fl_X1_9 : Fl RX1 9 1 0 := ⟨RX1, TX1, rfl, Nat.le_of_ble_eq_true rfl, Nat.le_of_ble_eq_true rfl, uw_1, fk_X1_9⟩
theorem fk_X1_15 : Cond.fieldLink RX1 15 (TX1 1).1 (TX1 1).2.1 (TX1 1).2.2.1 ∈ wU := wU_mem (List.mem_append_right _ (List.mem_of_getElem? (l := tables_1) (i := 230) (by decide +kernel))) (by decide +kernel)
theorem fl_X1_15 : Fl RX1 15 1 1 := ⟨RX1, TX1, rfl, Nat.le_of_ble_eq_true rfl, Nat.le_of_ble_eq_true rfl, uw_1, fk_X1_15⟩
theorem fk_X1_18 : Cond.fieldLink RX1 18 (TX1 2).1 (TX1 2).2.1 (TX1 2).2.2.1 ∈ wU := wU_mem (List.mem_append_right _ (List.mem_of_getElem? (l := tables_1) (i := 231) (by decide +kernel))) (by decide +kernel)
theorem fl_X1_18 : Fl RX1 18 1 2 := ⟨RX1, TX1, rfl, Nat.le_of_ble_eq_true rfl, Nat.le_of_ble_eq_true rfl, uw_1, fk_X1_18⟩
theorem fk_X1_21 : Cond.fieldLink RX1 21 (TX1 3).1 (TX1 3).2.1 (TX1 3).2.2.1 ∈ wU := wU_mem (List.mem_append_right _ (List.mem_of_getElem? (l := tables_1) (i := 232) (by decide +kernel))) (by decide +kernel)
theorem fl_X1_21 : Fl RX1 21 1 3 := ⟨RX1, TX1, rfl, Nat.le_of_ble_eq_true rfl, Nat.le_of_ble_eq_true rfl, uw_1, fk_X1_21⟩
theorem fk_X1_25 : Cond.fieldLink RX1 25 (TX1 4).1 (TX1 4).2.1 (TX1 4).2.2.1 ∈ wU := wU_mem (List.mem_append_right _ (List.mem_of_getElem? (l := tables_1) (i := 233) (by decide +kernel))) (by decide +kernel)
theorem fl_X1_25 : Fl RX1 25 1 4 := ⟨RX1, TX1, rfl, Nat.le_of_ble_eq_true rfl, Nat.le_of_ble_eq_true rfl, uw_1, fk_X1_25⟩
theorem fk_X1_32 : Cond.fieldLink RX1 32 (TX0 5).1 (TX0 5).2.1 (TX0 5).2.2.1 ∈ wU := wU_mem (List.mem_append_right _ (List.mem_of_getElem? (l := tables_1) (i := 155) (by decide +kernel))) (by decide +kernel)
theorem fl_X1_32 : Fl RX1 32 0 5 := ⟨RX0, TX0, rfl, Nat.le_of_ble_eq_true rfl, Nat.le_of_ble_eq_true rfl, uw_0, fk_X1_32⟩
theorem fk_X1_37 : Cond.fieldLink RX1 37 (TX0 9).1 (TX0 9).2.1 (TX0 9).2.2.1 ∈ wU := wU_mem (List.mem_append_right _ (List.mem_of_getElem? (l := tables_1) (i := 168) (by decide +kernel))) (by decide +kernel)
theorem fl_X1_37 : Fl RX1 37 0 9 := ⟨RX0, TX0, rfl, Nat.le_of_ble_eq_true rfl, Nat.le_of_ble_eq_true rfl, uw_0, fk_X1_37⟩
theorem fk_X1_39 : Cond.fieldLink RX1 39 (TX0 10).1 (TX0 10).2.1 (TX0 10).2.2.1 ∈ wU := wU_mem (List.mem_append_right _ (List.mem_of_getElem? (l := tables_1) (i := 173) (by decide +kernel))) (by decide +kernel)
theorem fl_X1_39 : Fl RX1 39 0 10 := ⟨RX0, TX0, rfl, Nat.le_of_ble_eq_true rfl, Nat.le_of_ble_eq_true rfl, uw_0, fk_X1_39⟩
theorem fk_X1_42 : Cond.fieldLink RX1 42 (TX9 0).1 (TX9 0).2.1 (TX9 0).2.2.1 ∈ wU := wU_mem (List.mem_append_right _ (List.mem_of_getElem? (l := tables_1) (i := 200) (by decide +kernel))) (by decide +kernel)
theorem fl_X1_42 : Fl RX1 42 9 0 := ⟨RX9, TX9, rfl, Nat.le_of_ble_eq_true rfl, Nat.le_of_ble_eq_true rfl, uw_9, fk_X1_42⟩
theorem fk_X2_9 : Cond.fieldLink RX2 9 (TX2 0).1 (TX2 0).2.1 (TX2 0).2.2.1 ∈ wU := wU_mem (List.mem_append_right _ (List.mem_of_getElem? (l := tables_1) (i := 283) (by decide +kernel))) (by decide +kernel)
theorem fl_X2_9 : Fl RX2 9 2 0 := ⟨RX2, TX2, rfl, Nat.le_of_ble_eq_true rfl, Nat.le_of_ble_eq_true rfl, uw_2, fk_X2_9⟩
theorem fk_X2_15 : Cond.fieldLink RX2 15 (TX9 1).1 (TX9 1).2.1 (TX9 1).2.2.1 ∈ wU := wU_mem (List.mem_append_right _ (List.mem_of_getElem? (l := tables_1) (i := 203) (by decide +kernel))) (by decide +kernel)
theorem fl_X2_15 : Fl RX2 15 9 1 := ⟨RX9, TX9, rfl, Nat.le_of_ble_eq_true rfl, Nat.le_of_ble_eq_true rfl, uw_9, fk_X2_15⟩
theorem fk_X2_21 : Cond.fieldLink RX2 21 (TX9 0).1 (TX9 0).2.1 (TX9 0).2.2.1 ∈ wU := wU_mem (List.mem_append_right _ (List.mem_of_getElem? (l := tables_1) (i := 199) (by decide +kernel))) (by decide +kernel)
theorem fl_X2_21 : Fl RX2 21 9 0 := ⟨RX9, TX9, rfl, Nat.le_of_ble_eq_true rfl, Nat.le_of_ble_eq_true rfl, uw_9, fk_X2_21⟩
theorem fk_X3_9 : Cond.fieldLink RX3 9 (TX3 0).1 (TX3 0).2.1 (TX3 0).2.2.1 ∈ wU := wU_mem (List.mem_append_right _ (List.mem_of_getElem? (l := tables_1) (i := 253) (by decide +kernel))) (by decide +kernel)
theorem fl_X3_9 : Fl RX3 9 3 0 := ⟨RX3, TX3, rfl, Nat.le_of_ble_eq_true rfl, Nat.le_of_ble_eq_true rfl, uw_3, fk_X3_9⟩
theorem fk_X3_15 : Cond.fieldLink RX3 15 (TX3 1).1 (TX3 1).2.1 (TX3 1).2.2.1 ∈ wU := wU_mem (List.mem_append_right _ (List.mem_of_getElem? (l := tables_1) (i := 254) (by decide +kernel))) (by decide +kernel)
theorem fl_X3_15 : Fl RX3 15 3 1 := ⟨RX3, TX3, rfl, Nat.le_of_ble_eq_true rfl, Nat.le_of_ble_eq_true rfl, uw_3, fk_X3_15⟩
theorem fk_X3_18 : Cond.fieldLink RX3 18 (TX3 2).1 (TX3 2).2.1 (TX3 2).2.2.1 ∈ wU := wU_mem (List.mem_append_right _ (List.mem_of_getElem? (l := tables_1) (i := 255) (by decide +kernel))) (by decide +kernel)
theorem fl_X3_18 : Fl RX3 18 3 2 := ⟨RX3, TX3, rfl, Nat.le_of_ble_eq_true rfl, Nat.le_of_ble_eq_true rfl, uw_3, fk_X3_18⟩
theorem fk_X3_22 : Cond.fieldLink RX3 22 (TX3 3).1 (TX3 3).2.1 (TX3 3).2.2.1 ∈ wU := wU_mem (List.mem_append_right _ (List.mem_of_getElem? (l := tables_1) (i := 256) (by decide +kernel))) (by decide +kernel)
theorem fl_X3_22 : Fl RX3 22 3 3 := ⟨RX3, TX3, rfl, Nat.le_of_ble_eq_true rfl, Nat.le_of_ble_eq_true rfl, uw_3, fk_X3_22⟩
theorem fk_X3_25 : Cond.fieldLink RX3 25 (TX3 4).1 (TX3 4).2.1 (TX3 4).2.2.1 ∈ wU := wU_mem (List.mem_append_right _ (List.mem_of_getElem? (l := tables_1) (i := 257) (by decide +kernel))) (by decide +kernel)
theorem fl_X3_25 : Fl RX3 25 3 4 := ⟨RX3, TX3, rfl, Nat.le_of_ble_eq_true rfl, Nat.le_of_ble_eq_true rfl, uw_3, fk_X3_25⟩
theorem fk_X3_28 : Cond.fieldLink RX3 28 (TX3 6).1 (TX3 6).2.1 (TX3 6).2.2.1 ∈ wU := wU_mem (List.mem_append_right _ (List.mem_of_getElem? (l := tables_1) (i := 260) (by decide +kernel))) (by decide +kernel)
theorem fl_X3_28 : Fl RX3 28 3 6 := ⟨RX3, TX3, rfl, Nat.le_of_ble_eq_true rfl, Nat.le_of_ble_eq_true rfl, uw_3, fk_X3_28⟩
theorem fk_X3_32 : Cond.fieldLink RX3 32 (TX3 5).1 (TX3 5).2.1 (TX3 5).2.2.1 ∈ wU := wU_mem (List.mem_append_right _ (List.mem_of_getElem? (l := tables_1) (i := 258) (by decide +kernel))) (by decide +kernel)
theorem fl_X3_32 : Fl RX3 32 3 5 := ⟨RX3, TX3, rfl, Nat.le_of_ble_eq_true rfl, Nat.le_of_ble_eq_true rfl, uw_3, fk_X3_32⟩
theorem fk_X4_9 : Cond.fieldLink RX4 9 (TX4 1).1 (TX4 1).2.1 (TX4 1).2.2.1 ∈ wU := wU_mem (List.mem_append_right _ (List.mem_of_getElem? (l := tables_1) (i := 78) (by decide +kernel))) (by decide +kernel)
theorem fl_X4_9 : Fl RX4 9 4 1 := ⟨RX4, TX4, rfl, Nat.le_of_ble_eq_true rfl, Nat.le_of_ble_eq_true rfl, uw_4, fk_X4_9⟩
theorem fk_X4_15 : Cond.fieldLink RX4 15 (TX4 0).1 (TX4 0).2.1 (TX4 0).2.2.1 ∈ wU := wU_mem (List.mem_append_right _ (List.mem_of_getElem? (l := tables_1) (i := 77) (by decide +kernel))) (by decide +kernel)
theorem fl_X4_15 : Fl RX4 15 4 0 := ⟨RX4, TX4, rfl, Nat.le_of_ble_eq_true rfl, Nat.le_of_ble_eq_true rfl, uw_4, fk_X4_15⟩
theorem fk_X4_19 : Cond.fieldLink RX4 19 (TX4 2).1 (TX4 2).2.1 (TX4 2).2.2.1 ∈ wU := wU_mem (List.mem_append_right _ (List.mem_of_getElem? (l := tables_1) (i := 79) (by decide +kernel))) (by decide +kernel)
theorem fl_X4_19 : Fl RX4 19 4 2 := ⟨RX4, TX4, rfl, Nat.le_of_ble_eq_true rfl, Nat.le_of_ble_eq_true rfl, uw_4, fk_X4_19⟩
theorem fk_X4_23 : Cond.fieldLink RX4 23 (TX4 3).1 (TX4 3).2.1 (TX4 3).2.2.1 ∈ wU := wU_mem (List.mem_append_right _ (List.mem_of_getElem? (l := tables_1) (i := 80) (by decide +kernel))) (by decide +kernel)
theorem fl_X4_23 : Fl RX4 23 4 3 := ⟨RX4, TX4, rfl, Nat.le_of_ble_eq_true rfl, Nat.le_of_ble_eq_true rfl, uw_4, fk_X4_23⟩
theorem fk_X4_27 : Cond.fieldLink RX4 27 (TX5 5).1 (TX5 5).2.1 (TX5 5).2.2.1 ∈ wU := wU_mem (List.mem_append_right _ (List.mem_of_getElem? (l := tables_1) (i := 331) (by decide +kernel))) (by decide +kernel)
theorem fl_X4_27 : Fl RX4 27 5 5 := ⟨RX5, TX5, rfl, Nat.le_of_ble_eq_true rfl, Nat.le_of_ble_eq_true rfl, uw_5, fk_X4_27⟩
theorem fk_X4_32 : Cond.fieldLink RX4 32 (TX4 4).1 (TX4 4).2.1 (TX4 4).2.2.1 ∈ wU := wU_mem (List.mem_append_right _ (List.mem_of_getElem? (l := tables_1) (i := 81) (by decide +kernel))) (by decide +kernel)
theorem fl_X4_32 : Fl RX4 32 4 4 := ⟨RX4, TX4, rfl, Nat.le_of_ble_eq_true rfl, Nat.le_of_ble_eq_true rfl, uw_4, fk_X4_32⟩
theorem fk_X4_33 : Cond.fieldLink RX4 33 (TX4 5).1 (TX4 5).2.1 (TX4 5).2.2.1 ∈ wU := wU_mem (List.mem_append_right _ (List.mem_of_getElem? (l := tables_1) (i := 82) (by decide +kernel))) (by decide +kernel)
theorem fl_X4_33 : Fl RX4 33 4 5 := ⟨RX4, TX4, rfl, Nat.le_of_ble_eq_true rfl, Nat.le_of_ble_eq_true rfl, uw_4, fk_X4_33⟩
theorem fk_X4_36 : Cond.fieldLink RX4 36 (TX4 6).1 (TX4 6).2.1 (TX4 6).2.2.1 ∈ wU := wU_mem (List.mem_append_right _ (List.mem_of_getElem? (l := tables_1) (i := 83) (by decide +kernel))) (by decide +kernel)
theorem fl_X4_36 : Fl RX4 36 4 6 := ⟨RX4, TX4, rfl, Nat.le_of_ble_eq_true rfl, Nat.le_of_ble_eq_true rfl, uw_4, fk_X4_36⟩
theorem fk_X4_39 : Cond.fieldLink RX4 39 (TX4 7).1 (TX4 7).2.1 (TX4 7).2.2.1 ∈ wU := wU_mem (List.mem_append_right _ (List.mem_of_getElem? (l := tables_1) (i := 84) (by decide +kernel))) (by decide +kernel)
theorem fl_X4_39 : Fl RX4 39 4 7 := ⟨RX4, TX4, rfl, Nat.le_of_ble_eq_true rfl, Nat.le_of_ble_eq_true rfl, uw_4, fk_X4_39⟩
theorem fk_X4_43 : Cond.fieldLink RX4 43 (TX4 8).1 (TX4 8).2.1 (TX4 8).2.2.1 ∈ wU := wU_mem (List.mem_append_right _ (List.mem_of_getElem? (l := tables_1) (i := 85) (by decide +kernel))) (by decide +kernel)
theorem fl_X4_43 : Fl RX4 43 4 8 := ⟨RX4, TX4, rfl, Nat.le_of_ble_eq_true rfl, Nat.le_of_ble_eq_true rfl, uw_4, fk_X4_43⟩
theorem fk_X4_56 : Cond.fieldLink RX4 56 (TX5 2).1 (TX5 2).2.1 (TX5 2).2.2.1 ∈ wU := wU_mem (List.mem_append_right _ (List.mem_of_getElem? (l := tables_1) (i := 326) (by decide +kernel))) (by decide +kernel)
theorem fl_X4_56 : Fl RX4 56 5 2 := ⟨RX5, TX5, rfl, Nat.le_of_ble_eq_true rfl, Nat.le_of_ble_eq_true rfl, uw_5, fk_X4_56⟩
theorem fk_X4_59 : Cond.fieldLink RX4 59 (TX5 3).1 (TX5 3).2.1 (TX5 3).2.2.1 ∈ wU := wU_mem (List.mem_append_right _ (List.mem_of_getElem? (l := tables_1) (i := 328) (by decide +kernel))) (by decide +kernel)
theorem fl_X4_59 : Fl RX4 59 5 3 := ⟨RX5, TX5, rfl, Nat.le_of_ble_eq_true rfl, Nat.le_of_ble_eq_true rfl, uw_5, fk_X4_59⟩
theorem fk_X4_82 : Cond.fieldLink RX4 82 (TX8 6).1 (TX8 6).2.1 (TX8 6).2.2.1 ∈ wU := wU_mem (List.mem_append_right _ (List.mem_of_getElem? (l := tables_1) (i := 46) (by decide +kernel))) (by decide +kernel)
theorem fl_X4_82 : Fl RX4 82 8 6 := ⟨RX8, TX8, rfl, Nat.le_of_ble_eq_true rfl, Nat.le_of_ble_eq_true rfl, uw_8, fk_X4_82⟩
theorem fk_X4_99 : Cond.fieldLink RX4 99 (TX8 5).1 (TX8 5).2.1 (TX8 5).2.2.1 ∈ wU := wU_mem (List.mem_append_right _ (List.mem_of_getElem? (l := tables_1) (i := 45) (by decide +kernel))) (by decide +kernel)
theorem fl_X4_99 : Fl RX4 99 8 5 := ⟨RX8, TX8, rfl, Nat.le_of_ble_eq_true rfl, Nat.le_of_ble_eq_true rfl, uw_8, fk_X4_99⟩
theorem fk_X5_9 : Cond.fieldLink RX5 9 (TX5 0).1 (TX5 0).2.1 (TX5 0).2.2.1 ∈ wU := wU_mem (List.mem_append_right _ (List.mem_of_getElem? (l := tables_1) (i := 323) (by decide +kernel))) (by decide +kernel)
theorem fl_X5_9 : Fl RX5 9 5 0 := ⟨RX5, TX5, rfl, Nat.le_of_ble_eq_true rfl, Nat.le_of_ble_eq_true rfl, uw_5, fk_X5_9⟩
theorem fk_X5_15 : Cond.fieldLink RX5 15 (TX5 1).1 (TX5 1).2.1 (TX5 1).2.2.1 ∈ wU := wU_mem (List.mem_append_right _ (List.mem_of_getElem? (l := tables_1) (i := 324) (by decide +kernel))) (by decide +kernel)
theorem fl_X5_15 : Fl RX5 15 5 1 := ⟨RX5, TX5, rfl, Nat.le_of_ble_eq_true rfl, Nat.le_of_ble_eq_true rfl, uw_5, fk_X5_15⟩
theorem fk_X5_18 : Cond.fieldLink RX5 18 (TX5 2).1 (TX5 2).2.1 (TX5 2).2.2.1 ∈ wU := wU_mem (List.mem_append_right _ (List.mem_of_getElem? (l := tables_1) (i := 325) (by decide +kernel))) (by decide +kernel)
theorem fl_X5_18 : Fl RX5 18 5 2 := ⟨RX5, TX5, rfl, Nat.le_of_ble_eq_true rfl, Nat.le_of_ble_eq_true rfl, uw_5, fk_X5_18⟩
theorem fk_X5_21 : Cond.fieldLink RX5 21 (TX5 3).1 (TX5 3).2.1 (TX5 3).2.2.1 ∈ wU := wU_mem (List.mem_append_right _ (List.mem_of_getElem? (l := tables_1) (i := 327) (by decide +kernel))) (by decide +kernel)
theorem fl_X5_21 : Fl RX5 21 5 3 := ⟨RX5, TX5, rfl, Nat.le_of_ble_eq_true rfl, Nat.le_of_ble_eq_true rfl, uw_5, fk_X5_21⟩
theorem fk_X5_24 : Cond.fieldLink RX5 24 (TX5 4).1 (TX5 4).2.1 (TX5 4).2.2.1 ∈ wU := wU_mem (List.mem_append_right _ (List.mem_of_getElem? (l := tables_1) (i := 329) (by decide +kernel))) (by decide +kernel)
theorem fl_X5_24 : Fl RX5 24 5 4 := ⟨RX5, TX5, rfl, Nat.le_of_ble_eq_true rfl, Nat.le_of_ble_eq_true rfl, uw_5, fk_X5_24⟩
theorem fk_X5_28 : Cond.fieldLink RX5 28 (TX5 5).1 (TX5 5).2.1 (TX5 5).2.2.1 ∈ wU := wU_mem (List.mem_append_right _ (List.mem_of_getElem? (l := tables_1) (i := 330) (by decide +kernel))) (by decide +kernel)
theorem fl_X5_28 : Fl RX5 28 5 5 := ⟨RX5, TX5, rfl, Nat.le_of_ble_eq_true rfl, Nat.le_of_ble_eq_true rfl, uw_5, fk_X5_28⟩
theorem fk_X5_50 : Cond.fieldLink RX5 50 (TX0 5).1 (TX0 5).2.1 (TX0 5).2.2.1 ∈ wU := wU_mem (List.mem_append_right _ (List.mem_of_getElem? (l := tables_1) (i := 156) (by decide +kernel))) (by decide +kernel)
theorem fl_X5_50 : Fl RX5 50 0 5 := ⟨RX0, TX0, rfl, Nat.le_of_ble_eq_true rfl, Nat.le_of_ble_eq_true rfl, uw_0, fk_X5_50⟩
theorem fk_X5_55 : Cond.fieldLink RX5 55 (TX0 2).1 (TX0 2).2.1 (TX0 2).2.2.1 ∈ wU := wU_mem (List.mem_append_right _ (List.mem_of_getElem? (l := tables_1) (i := 144) (by decide +kernel))) (by decide +kernel)
theorem fl_X5_55 : Fl RX5 55 0 2 := ⟨RX0, TX0, rfl, Nat.le_of_ble_eq_true rfl, Nat.le_of_ble_eq_true rfl, uw_0, fk_X5_55⟩
theorem fk_X5_58 : Cond.fieldLink RX5 58 (TX0 3).1 (TX0 3).2.1 (TX0 3).2.2.1 ∈ wU := wU_mem (List.mem_append_right _ (List.mem_of_getElem? (l := tables_1) (i := 148) (by decide +kernel))) (by decide +kernel)
theorem fl_X5_58 : Fl RX5 58 0 3 := ⟨RX0, TX0, rfl, Nat.le_of_ble_eq_true rfl, Nat.le_of_ble_eq_true rfl, uw_0, fk_X5_58⟩
theorem fk_X5_61 : Cond.fieldLink RX5 61 (TX0 6).1 (TX0 6).2.1 (TX0 6).2.2.1 ∈ wU := wU_mem (List.mem_append_right _ (List.mem_of_getElem? (l := tables_1) (i := 160) (by decide +kernel))) (by decide +kernel)
theorem fl_X5_61 : Fl RX5 61 0 6 := ⟨RX0, TX0, rfl, Nat.le_of_ble_eq_true rfl, Nat.le_of_ble_eq_true rfl, uw_0, fk_X5_61⟩
theorem fk_X5_64 : Cond.fieldLink RX5 64 (TX0 9).1 (TX0 9).2.1 (TX0 9).2.2.1 ∈ wU := wU_mem (List.mem_append_right _ (List.mem_of_getElem? (l := tables_1) (i := 169) (by decide +kernel))) (by decide +kernel)
theorem fl_X5_64 : Fl RX5 64 0 9 := ⟨RX0, TX0, rfl, Nat.le_of_ble_eq_true rfl, Nat.le_of_ble_eq_true rfl, uw_0, fk_X5_64⟩
theorem fk_X5_73 : Cond.fieldLink RX5 73 (TX0 7).1 (TX0 7).2.1 (TX0 7).2.2.1 ∈ wU := wU_mem (List.mem_append_right _ (List.mem_of_getElem? (l := tables_1) (i := 163) (by decide +kernel))) (by decide +kernel)
theorem fl_X5_73 : Fl RX5 73 0 7 := ⟨RX0, TX0, rfl, Nat.le_of_ble_eq_true rfl, Nat.le_of_ble_eq_true rfl, uw_0, fk_X5_73⟩
theorem fk_X6_9 : Cond.fieldLink RX6 9 (TX6 0).1 (TX6 0).2.1 (TX6 0).2.2.1 ∈ wU := wU_mem (List.mem_append_right _ (List.mem_of_getElem? (l := tables_1) (i := 293) (by decide +kernel))) (by decide +kernel)
theorem fl_X6_9 : Fl RX6 9 6 0 := ⟨RX6, TX6, rfl, Nat.le_of_ble_eq_true rfl, Nat.le_of_ble_eq_true rfl, uw_6, fk_X6_9⟩
theorem fk_X6_15 : Cond.fieldLink RX6 15 (TX6 1).1 (TX6 1).2.1 (TX6 1).2.2.1 ∈ wU := wU_mem (List.mem_append_right _ (List.mem_of_getElem? (l := tables_1) (i := 294) (by decide +kernel))) (by decide +kernel)
theorem fl_X6_15 : Fl RX6 15 6 1 := ⟨RX6, TX6, rfl, Nat.le_of_ble_eq_true rfl, Nat.le_of_ble_eq_true rfl, uw_6, fk_X6_15⟩
theorem fk_X6_18 : Cond.fieldLink RX6 18 (TX6 2).1 (TX6 2).2.1 (TX6 2).2.2.1 ∈ wU := wU_mem (List.mem_append_right _ (List.mem_of_getElem? (l := tables_1) (i := 295) (by decide +kernel))) (by decide +kernel)
theorem fl_X6_18 : Fl RX6 18 6 2 := ⟨RX6, TX6, rfl, Nat.le_of_ble_eq_true rfl, Nat.le_of_ble_eq_true rfl, uw_6, fk_X6_18⟩
theorem fk_X6_21 : Cond.fieldLink RX6 21 (TX6 3).1 (TX6 3).2.1 (TX6 3).2.2.1 ∈ wU := wU_mem (List.mem_append_right _ (List.mem_of_getElem? (l := tables_1) (i := 297) (by decide +kernel))) (by decide +kernel)
theorem fl_X6_21 : Fl RX6 21 6 3 := ⟨RX6, TX6, rfl, Nat.le_of_ble_eq_true rfl, Nat.le_of_ble_eq_true rfl, uw_6, fk_X6_21⟩
theorem fk_X6_44 : Cond.fieldLink RX6 44 (TX9 1).1 (TX9 1).2.1 (TX9 1).2.2.1 ∈ wU := wU_mem (List.mem_append_right _ (List.mem_of_getElem? (l := tables_1) (i := 205) (by decide +kernel))) (by decide +kernel)
theorem fl_X6_44 : Fl RX6 44 9 1 := ⟨RX9, TX9, rfl, Nat.le_of_ble_eq_true rfl, Nat.le_of_ble_eq_true rfl, uw_9, fk_X6_44⟩
theorem fk_X6_49 : Cond.fieldLink RX6 49 (TX9 0).1 (TX9 0).2.1 (TX9 0).2.2.1 ∈ wU := wU_mem (List.mem_append_right _ (List.mem_of_getElem? (l := tables_1) (i := 202) (by decide +kernel))) (by decide +kernel)
theorem fl_X6_49 : Fl RX6 49 9 0 := ⟨RX9, TX9, rfl, Nat.le_of_ble_eq_true rfl, Nat.le_of_ble_eq_true rfl, uw_9, fk_X6_49⟩
theorem fk_X6_53 : Cond.fieldLink RX6 53 (TX0 4).1 (TX0 4).2.1 (TX0 4).2.2.1 ∈ wU := wU_mem (List.mem_append_right _ (List.mem_of_getElem? (l := tables_1) (i := 151) (by decide +kernel))) (by decide +kernel)
theorem fl_X6_53 : Fl RX6 53 0 4 := ⟨RX0, TX0, rfl, Nat.le_of_ble_eq_true rfl, Nat.le_of_ble_eq_true rfl, uw_0, fk_X6_53⟩
theorem fk_X7_9 : Cond.fieldLink RX7 9 (TX7 3).1 (TX7 3).2.1 (TX7 3).2.2.1 ∈ wU := wU_mem (List.mem_append_right _ (List.mem_of_getElem? (l := tables_1) (i := 109) (by decide +kernel))) (by decide +kernel)
theorem fl_X7_9 : Fl RX7 9 7 3 := ⟨RX7, TX7, rfl, Nat.le_of_ble_eq_true rfl, Nat.le_of_ble_eq_true rfl, uw_7, fk_X7_9⟩
theorem fk_X7_15 : Cond.fieldLink RX7 15 (TX7 4).1 (TX7 4).2.1 (TX7 4).2.2.1 ∈ wU := wU_mem (List.mem_append_right _ (List.mem_of_getElem? (l := tables_1) (i := 111) (by decide +kernel))) (by decide +kernel)
theorem fl_X7_15 : Fl RX7 15 7 4 := ⟨RX7, TX7, rfl, Nat.le_of_ble_eq_true rfl, Nat.le_of_ble_eq_true rfl, uw_7, fk_X7_15⟩
theorem fk_X7_18 : Cond.fieldLink RX7 18 (TX7 0).1 (TX7 0).2.1 (TX7 0).2.2.1 ∈ wU := wU_mem (List.mem_append_right _ (List.mem_of_getElem? (l := tables_1) (i := 106) (by decide +kernel))) (by decide +kernel)
theorem fl_X7_18 : Fl RX7 18 7 0 := ⟨RX7, TX7, rfl, Nat.le_of_ble_eq_true rfl, Nat.le_of_ble_eq_true rfl, uw_7, fk_X7_18⟩
theorem fk_X7_27 : Cond.fieldLink RX7 27 (TX7 1).1 (TX7 1).2.1 (TX7 1).2.2.1 ∈ wU := wU_mem (List.mem_append_right _ (List.mem_of_getElem? (l := tables_1) (i := 107) (by decide +kernel))) (by decide +kernel)
theorem fl_X7_27 : Fl RX7 27 7 1 := ⟨RX7, TX7, rfl, Nat.le_of_ble_eq_true rfl, Nat.le_of_ble_eq_true rfl, uw_7, fk_X7_27⟩
theorem fk_X7_31 : Cond.fieldLink RX7 31 (TX7 2).1 (TX7 2).2.1 (TX7 2).2.2.1 ∈ wU := wU_mem (List.mem_append_right _ (List.mem_of_getElem? (l := tables_1) (i := 108) (by decide +kernel))) (by decide +kernel)
theorem fl_X7_31 : Fl RX7 31 7 2 := ⟨RX7, TX7, rfl, Nat.le_of_ble_eq_true rfl, Nat.le_of_ble_eq_true rfl, uw_7, fk_X7_31⟩
theorem fk_X7_46 : Cond.fieldLink RX7 46 (TX8 5).1 (TX8 5).2.1 (TX8 5).2.2.1 ∈ wU := wU_mem (List.mem_append_right _ (List.mem_of_getElem? (l := tables_1) (i := 43) (by decide +kernel))) (by decide +kernel)
theorem fl_X7_46 : Fl RX7 46 8 5 := ⟨RX8, TX8, rfl, Nat.le_of_ble_eq_true rfl, Nat.le_of_ble_eq_true rfl, uw_8, fk_X7_46⟩
theorem fk_X7_52 : Cond.fieldLink RX7 52 (TX10 11).1 (TX10 11).2.1 (TX10 11).2.2.1 ∈ wU := wU_mem (List.mem_append_right _ (List.mem_of_getElem? (l := tables_1) (i := 381) (by decide +kernel))) (by decide +kernel)
theorem fl_X7_52 : Fl RX7 52 10 11 := ⟨RX10, TX10, rfl, Nat.le_of_ble_eq_true rfl, Nat.le_of_ble_eq_true rfl, uw_10, fk_X7_52⟩
theorem fk_X7_55 : Cond.fieldLink RX7 55 (TX8 4).1 (TX8 4).2.1 (TX8 4).2.2.1 ∈ wU := wU_mem (List.mem_append_right _ (List.mem_of_getElem? (l := tables_1) (i := 41) (by decide +kernel))) (by decide +kernel)
theorem fl_X7_55 : Fl RX7 55 8 4 := ⟨RX8, TX8, rfl, Nat.le_of_ble_eq_true rfl, Nat.le_of_ble_eq_true rfl, uw_8, fk_X7_55⟩
theorem fk_X7_64 : Cond.fieldLink RX7 64 (TX8 6).1 (TX8 6).2.1 (TX8 6).2.2.1 ∈ wU := wU_mem (List.mem_append_right _ (List.mem_of_getElem? (l := tables_1) (i := 48) (by decide +kernel))) (by decide +kernel)
theorem fl_X7_64 : Fl RX7 64 8 6 := ⟨RX8, TX8, rfl, Nat.le_of_ble_eq_true rfl, Nat.le_of_ble_eq_true rfl, uw_8, fk_X7_64⟩
theorem fk_X7_99 : Cond.fieldLink RX7 99 (TX10 5).1 (TX10 5).2.1 (TX10 5).2.2.1 ∈ wU := wU_mem (List.mem_append_right _ (List.mem_of_getElem? (l := tables_1) (i := 365) (by decide +kernel))) (by decide +kernel)
theorem fl_X7_99 : Fl RX7 99 10 5 := ⟨RX10, TX10, rfl, Nat.le_of_ble_eq_true rfl, Nat.le_of_ble_eq_true rfl, uw_10, fk_X7_99⟩
theorem fk_X7_110 : Cond.fieldLink RX7 110 (TX10 0).1 (TX10 0).2.1 (TX10 0).2.2.1 ∈ wU := wU_mem (List.mem_append_right _ (List.mem_of_getElem? (l := tables_1) (i := 350) (by decide +kernel))) (by decide +kernel)
theorem fl_X7_110 : Fl RX7 110 10 0 := ⟨RX10, TX10, rfl, Nat.le_of_ble_eq_true rfl, Nat.le_of_ble_eq_true rfl, uw_10, fk_X7_110⟩
theorem fk_X7_114 : Cond.fieldLink RX7 114 (TX0 1).1 (TX0 1).2.1 (TX0 1).2.2.1 ∈ wU := wU_mem (List.mem_append_right _ (List.mem_of_getElem? (l := tables_1) (i := 142) (by decide +kernel))) (by decide +kernel)
theorem fl_X7_114 : Fl RX7 114 0 1 := ⟨RX0, TX0, rfl, Nat.le_of_ble_eq_true rfl, Nat.le_of_ble_eq_true rfl, uw_0, fk_X7_114⟩
theorem fk_X7_123 : Cond.fieldLink RX7 123 (TX0 5).1 (TX0 5).2.1 (TX0 5).2.2.1 ∈ wU := wU_mem (List.mem_append_right _ (List.mem_of_getElem? (l := tables_1) (i := 158) (by decide +kernel))) (by decide +kernel)
theorem fl_X7_123 : Fl RX7 123 0 5 := ⟨RX0, TX0, rfl, Nat.le_of_ble_eq_true rfl, Nat.le_of_ble_eq_true rfl, uw_0, fk_X7_123⟩
theorem fk_X7_126 : Cond.fieldLink RX7 126 (TX0 2).1 (TX0 2).2.1 (TX0 2).2.2.1 ∈ wU := wU_mem (List.mem_append_right _ (List.mem_of_getElem? (l := tables_1) (i := 146) (by decide +kernel))) (by decide +kernel)
theorem fl_X7_126 : Fl RX7 126 0 2 := ⟨RX0, TX0, rfl, Nat.le_of_ble_eq_true rfl, Nat.le_of_ble_eq_true rfl, uw_0, fk_X7_126⟩
theorem fk_X7_129 : Cond.fieldLink RX7 129 (TX0 3).1 (TX0 3).2.1 (TX0 3).2.2.1 ∈ wU := wU_mem (List.mem_append_right _ (List.mem_of_getElem? (l := tables_1) (i := 149) (by decide +kernel))) (by decide +kernel)
theorem fl_X7_129 : Fl RX7 129 0 3 := ⟨RX0, TX0, rfl, Nat.le_of_ble_eq_true rfl, Nat.le_of_ble_eq_true rfl, uw_0, fk_X7_129⟩
theorem fk_X7_132 : Cond.fieldLink RX7 132 (TX0 0).1 (TX0 0).2.1 (TX0 0).2.2.1 ∈ wU := wU_mem (List.mem_append_right _ (List.mem_of_getElem? (l := tables_1) (i := 139) (by decide +kernel))) (by decide +kernel)
theorem fl_X7_132 : Fl RX7 132 0 0 := ⟨RX0, TX0, rfl, Nat.le_of_ble_eq_true rfl, Nat.le_of_ble_eq_true rfl, uw_0, fk_X7_132⟩
theorem fk_X7_136 : Cond.fieldLink RX7 136 (TX0 9).1 (TX0 9).2.1 (TX0 9).2.2.1 ∈ wU := wU_mem (List.mem_append_right _ (List.mem_of_getElem? (l := tables_1) (i := 171) (by decide +kernel))) (by decide +kernel)
theorem fl_X7_136 : Fl RX7 136 0 9 := ⟨RX0, TX0, rfl, Nat.le_of_ble_eq_true rfl, Nat.le_of_ble_eq_true rfl, uw_0, fk_X7_136⟩
theorem fk_X7_139 : Cond.fieldLink RX7 139 (TX0 4).1 (TX0 4).2.1 (TX0 4).2.2.1 ∈ wU := wU_mem (List.mem_append_right _ (List.mem_of_getElem? (l := tables_1) (i := 152) (by decide +kernel))) (by decide +kernel)
theorem fl_X7_139 : Fl RX7 139 0 4 := ⟨RX0, TX0, rfl, Nat.le_of_ble_eq_true rfl, Nat.le_of_ble_eq_true rfl, uw_0, fk_X7_139⟩
theorem fk_X7_142 : Cond.fieldLink RX7 142 (TX10 6).1 (TX10 6).2.1 (TX10 6).2.2.1 ∈ wU := wU_mem (List.mem_append_right _ (List.mem_of_getElem? (l := tables_1) (i := 367) (by decide +kernel))) (by decide +kernel)
theorem fl_X7_142 : Fl RX7 142 10 6 := ⟨RX10, TX10, rfl, Nat.le_of_ble_eq_true rfl, Nat.le_of_ble_eq_true rfl, uw_10, fk_X7_142⟩
theorem fk_X7_155 : Cond.fieldLink RX7 155 (TX10 7).1 (TX10 7).2.1 (TX10 7).2.2.1 ∈ wU := wU_mem (List.mem_append_right _ (List.mem_of_getElem? (l := tables_1) (i := 369) (by decide +kernel))) (by decide +kernel)
theorem fl_X7_155 : Fl RX7 155 10 7 := ⟨RX10, TX10, rfl, Nat.le_of_ble_eq_true rfl, Nat.le_of_ble_eq_true rfl, uw_10, fk_X7_155⟩
theorem fk_X7_161 : Cond.fieldLink RX7 161 (TX10 8).1 (TX10 8).2.1 (TX10 8).2.2.1 ∈ wU := wU_mem (List.mem_append_right _ (List.mem_of_getElem? (l := tables_1) (i := 373) (by decide +kernel))) (by decide +kernel)
theorem fl_X7_161 : Fl RX7 161 10 8 := ⟨RX10, TX10, rfl, Nat.le_of_ble_eq_true rfl, Nat.le_of_ble_eq_true rfl, uw_10, fk_X7_161⟩
theorem fk_X7_167 : Cond.fieldLink RX7 167 (TX10 2).1 (TX10 2).2.1 (TX10 2).2.2.1 ∈ wU := wU_mem (List.mem_append_right _ (List.mem_of_getElem? (l := tables_1) (i := 356) (by decide +kernel))) (by decide +kernel)
theorem fl_X7_167 : Fl RX7 167 10 2 := ⟨RX10, TX10, rfl, Nat.le_of_ble_eq_true rfl, Nat.le_of_ble_eq_true rfl, uw_10, fk_X7_167⟩
theorem fk_X7_170 : Cond.fieldLink RX7 170 (TX10 3).1 (TX10 3).2.1 (TX10 3).2.2.1 ∈ wU := wU_mem (List.mem_append_right _ (List.mem_of_getElem? (l := tables_1) (i := 359) (by decide +kernel))) (by decide +kernel)
theorem fl_X7_170 : Fl RX7 170 10 3 := ⟨RX10, TX10, rfl, Nat.le_of_ble_eq_true rfl, Nat.le_of_ble_eq_true rfl, uw_10, fk_X7_170⟩
theorem fk_X7_173 : Cond.fieldLink RX7 173 (TX10 4).1 (TX10 4).2.1 (TX10 4).2.2.1 ∈ wU := wU_mem (List.mem_append_right _ (List.mem_of_getElem? (l := tables_1) (i := 362) (by decide +kernel))) (by decide +kernel)
theorem fl_X7_173 : Fl RX7 173 10 4 := ⟨RX10, TX10, rfl, Nat.le_of_ble_eq_true rfl, Nat.le_of_ble_eq_true rfl, uw_10, fk_X7_173⟩
theorem fk_X7_176 : Cond.fieldLink RX7 176 (TX10 12).1 (TX10 12).2.1 (TX10 12).2.2.1 ∈ wU := wU_mem (List.mem_append_right _ (List.mem_of_getElem? (l := tables_1) (i := 384) (by decide +kernel))) (by decide +kernel)
theorem fl_X7_176 : Fl RX7 176 10 12 := ⟨RX10, TX10, rfl, Nat.le_of_ble_eq_true rfl, Nat.le_of_ble_eq_true rfl, uw_10, fk_X7_176⟩
theorem fk_X7_180 : Cond.fieldLink RX7 180 (TX10 9).1 (TX10 9).2.1 (TX10 9).2.2.1 ∈ wU := wU_mem (List.mem_append_right _ (List.mem_of_getElem? (l := tables_1) (i := 375) (by decide +kernel))) (by decide +kernel)
theorem fl_X7_180 : Fl RX7 180 10 9 := ⟨RX10, TX10, rfl, Nat.le_of_ble_eq_true rfl, Nat.le_of_ble_eq_true rfl, uw_10, fk_X7_180⟩
theorem fk_X7_183 : Cond.fieldLink RX7 183 (TX10 13).1 (TX10 13).2.1 (TX10 13).2.2.1 ∈ wU := wU_mem (List.mem_append_right _ (List.mem_of_getElem? (l := tables_1) (i := 386) (by decide +kernel))) (by decide +kernel)
theorem fl_X7_183 : Fl RX7 183 10 13 := ⟨RX10, TX10, rfl, Nat.le_of_ble_eq_true rfl, Nat.le_of_ble_eq_true rfl, uw_10, fk_X7_183⟩
theorem fk_X7_187 : Cond.fieldLink RX7 187 (TX10 10).1 (TX10 10).2.1 (TX10 10).2.2.1 ∈ wU := wU_mem (List.mem_append_right _ (List.mem_of_getElem? (l := tables_1) (i := 379) (by decide +kernel))) (by decide +kernel)
theorem fl_X7_187 : Fl RX7 187 10 10 := ⟨RX10, TX10, rfl, Nat.le_of_ble_eq_true rfl, Nat.le_of_ble_eq_true rfl, uw_10, fk_X7_187⟩
theorem fk_X7_196 : Cond.fieldLink RX7 196 (TX10 1).1 (TX10 1).2.1 (TX10 1).2.2.1 ∈ wU := wU_mem (List.mem_append_right _ (List.mem_of_getElem? (l := tables_1) (i := 354) (by decide +kernel))) (by decide +kernel)
theorem fl_X7_196 : Fl RX7 196 10 1 := ⟨RX10, TX10, rfl, Nat.le_of_ble_eq_true rfl, Nat.le_of_ble_eq_true rfl, uw_10, fk_X7_196⟩
theorem fk_X8_9 : Cond.fieldLink RX8 9 (TX8 0).1 (TX8 0).2.1 (TX8 0).2.2.1 ∈ wU := wU_mem (List.mem_append_right _ (List.mem_of_getElem? (l := tables_1) (i := 36) (by decide +kernel))) (by decide +kernel)
theorem fl_X8_9 : Fl RX8 9 8 0 := ⟨RX8, TX8, rfl, Nat.le_of_ble_eq_true rfl, Nat.le_of_ble_eq_true rfl, uw_8, fk_X8_9⟩
theorem fk_X8_15 : Cond.fieldLink RX8 15 (TX8 1).1 (TX8 1).2.1 (TX8 1).2.2.1 ∈ wU := wU_mem (List.mem_append_right _ (List.mem_of_getElem? (l := tables_1) (i := 38) (by decide +kernel))) (by decide +kernel)
theorem fl_X8_15 : Fl RX8 15 8 1 := ⟨RX8, TX8, rfl, Nat.le_of_ble_eq_true rfl, Nat.le_of_ble_eq_true rfl, uw_8, fk_X8_15⟩
theorem fk_X8_25 : Cond.fieldLink RX8 25 (TX8 2).1 (TX8 2).2.1 (TX8 2).2.2.1 ∈ wU := wU_mem (List.mem_append_right _ (List.mem_of_getElem? (l := tables_1) (i := 39) (by decide +kernel))) (by decide +kernel)
theorem fl_X8_25 : Fl RX8 25 8 2 := ⟨RX8, TX8, rfl, Nat.le_of_ble_eq_true rfl, Nat.le_of_ble_eq_true rfl, uw_8, fk_X8_25⟩
theorem fk_X8_28 : Cond.fieldLink RX8 28 (TX8 3).1 (TX8 3).2.1 (TX8 3).2.2.1 ∈ wU := wU_mem (List.mem_append_right _ (List.mem_of_getElem? (l := tables_1) (i := 40) (by decide +kernel))) (by decide +kernel)
theorem fl_X8_28 : Fl RX8 28 8 3 := ⟨RX8, TX8, rfl, Nat.le_of_ble_eq_true rfl, Nat.le_of_ble_eq_true rfl, uw_8, fk_X8_28⟩
theorem fk_X8_34 : Cond.fieldLink RX8 34 (TX8 5).1 (TX8 5).2.1 (TX8 5).2.2.1 ∈ wU := wU_mem (List.mem_append_right _ (List.mem_of_getElem? (l := tables_1) (i := 44) (by decide +kernel))) (by decide +kernel)
theorem fl_X8_34 : Fl RX8 34 8 5 := ⟨RX8, TX8, rfl, Nat.le_of_ble_eq_true rfl, Nat.le_of_ble_eq_true rfl, uw_8, fk_X8_34⟩
theorem fk_X8_37 : Cond.fieldLink RX8 37 (TX8 6).1 (TX8 6).2.1 (TX8 6).2.2.1 ∈ wU := wU_mem (List.mem_append_right _ (List.mem_of_getElem? (l := tables_1) (i := 47) (by decide +kernel))) (by decide +kernel)
theorem fl_X8_37 : Fl RX8 37 8 6 := ⟨RX8, TX8, rfl, Nat.le_of_ble_eq_true rfl, Nat.le_of_ble_eq_true rfl, uw_8, fk_X8_37⟩
theorem fk_X8_40 : Cond.fieldLink RX8 40 (TX8 4).1 (TX8 4).2.1 (TX8 4).2.2.1 ∈ wU := wU_mem (List.mem_append_right _ (List.mem_of_getElem? (l := tables_1) (i := 42) (by decide +kernel))) (by decide +kernel)
theorem fl_X8_40 : Fl RX8 40 8 4 := ⟨RX8, TX8, rfl, Nat.le_of_ble_eq_true rfl, Nat.le_of_ble_eq_true rfl, uw_8, fk_X8_40⟩
theorem fk_X9_11 : Cond.fieldLink RX9 11 (TX9 0).1 (TX9 0).2.1 (TX9 0).2.2.1 ∈ wU := wU_mem (List.mem_append_right _ (List.mem_of_getElem? (l := tables_1) (i := 198) (by decide +kernel))) (by decide +kernel)
theorem fl_X9_11 : Fl RX9 11 9 0 := ⟨RX9, TX9, rfl, Nat.le_of_ble_eq_true rfl, Nat.le_of_ble_eq_true rfl, uw_9, fk_X9_11⟩
theorem fk_X9_18 : Cond.fieldLink RX9 18 (TX10 5).1 (TX10 5).2.1 (TX10 5).2.2.1 ∈ wU := wU_mem (List.mem_append_right _ (List.mem_of_getElem? (l := tables_1) (i := 363) (by decide +kernel))) (by decide +kernel)
theorem fl_X9_18 : Fl RX9 18 10 5 := ⟨RX10, TX10, rfl, Nat.le_of_ble_eq_true rfl, Nat.le_of_ble_eq_true rfl, uw_10, fk_X9_18⟩
theorem fk_X9_24 : Cond.fieldLink RX9 24 (TX9 1).1 (TX9 1).2.1 (TX9 1).2.2.1 ∈ wU := wU_mem (List.mem_append_right _ (List.mem_of_getElem? (l := tables_1) (i := 204) (by decide +kernel))) (by decide +kernel)
theorem fl_X9_24 : Fl RX9 24 9 1 := ⟨RX9, TX9, rfl, Nat.le_of_ble_eq_true rfl, Nat.le_of_ble_eq_true rfl, uw_9, fk_X9_24⟩
theorem fk_X9_25 : Cond.fieldLink RX9 25 (TX10 0).1 (TX10 0).2.1 (TX10 0).2.2.1 ∈ wU := wU_mem (List.mem_append_right _ (List.mem_of_getElem? (l := tables_1) (i := 349) (by decide +kernel))) (by decide +kernel)
theorem fl_X9_25 : Fl RX9 25 10 0 := ⟨RX10, TX10, rfl, Nat.le_of_ble_eq_true rfl, Nat.le_of_ble_eq_true rfl, uw_10, fk_X9_25⟩
theorem fk_X9_30 : Cond.fieldLink RX9 30 (TX9 2).1 (TX9 2).2.1 (TX9 2).2.2.1 ∈ wU := wU_mem (List.mem_append_right _ (List.mem_of_getElem? (l := tables_1) (i := 207) (by decide +kernel))) (by decide +kernel)
theorem fl_X9_30 : Fl RX9 30 9 2 := ⟨RX9, TX9, rfl, Nat.le_of_ble_eq_true rfl, Nat.le_of_ble_eq_true rfl, uw_9, fk_X9_30⟩
theorem fk_X9_33 : Cond.fieldLink RX9 33 (TX10 10).1 (TX10 10).2.1 (TX10 10).2.2.1 ∈ wU := wU_mem (List.mem_append_right _ (List.mem_of_getElem? (l := tables_1) (i := 378) (by decide +kernel))) (by decide +kernel)
theorem fl_X9_33 : Fl RX9 33 10 10 := ⟨RX10, TX10, rfl, Nat.le_of_ble_eq_true rfl, Nat.le_of_ble_eq_true rfl, uw_10, fk_X9_33⟩
theorem fk_X9_36 : Cond.fieldLink RX9 36 (TX9 3).1 (TX9 3).2.1 (TX9 3).2.2.1 ∈ wU := wU_mem (List.mem_append_right _ (List.mem_of_getElem? (l := tables_1) (i := 209) (by decide +kernel))) (by decide +kernel)
theorem fl_X9_36 : Fl RX9 36 9 3 := ⟨RX9, TX9, rfl, Nat.le_of_ble_eq_true rfl, Nat.le_of_ble_eq_true rfl, uw_9, fk_X9_36⟩
theorem fk_X9_39 : Cond.fieldLink RX9 39 (TX9 4).1 (TX9 4).2.1 (TX9 4).2.2.1 ∈ wU := wU_mem (List.mem_append_right _ (List.mem_of_getElem? (l := tables_1) (i := 210) (by decide +kernel))) (by decide +kernel)
theorem fl_X9_39 : Fl RX9 39 9 4 := ⟨RX9, TX9, rfl, Nat.le_of_ble_eq_true rfl, Nat.le_of_ble_eq_true rfl, uw_9, fk_X9_39⟩
theorem fk_X9_54 : Cond.fieldLink RX9 54 (TX10 1).1 (TX10 1).2.1 (TX10 1).2.2.1 ∈ wU := wU_mem (List.mem_append_right _ (List.mem_of_getElem? (l := tables_1) (i := 352) (by decide +kernel))) (by decide +kernel)
theorem fl_X9_54 : Fl RX9 54 10 1 := ⟨RX10, TX10, rfl, Nat.le_of_ble_eq_true rfl, Nat.le_of_ble_eq_true rfl, uw_10, fk_X9_54⟩
theorem fk_X10_11 : Cond.fieldLink RX10 11 (TX10 0).1 (TX10 0).2.1 (TX10 0).2.2.1 ∈ wU := wU_mem (List.mem_append_right _ (List.mem_of_getElem? (l := tables_1) (i := 348) (by decide +kernel))) (by decide +kernel)
theorem fl_X10_11 : Fl RX10 11 10 0 := ⟨RX10, TX10, rfl, Nat.le_of_ble_eq_true rfl, Nat.le_of_ble_eq_true rfl, uw_10, fk_X10_11⟩
theorem fk_X10_20 : Cond.fieldLink RX10 20 (TX10 1).1 (TX10 1).2.1 (TX10 1).2.2.1 ∈ wU := wU_mem (List.mem_append_right _ (List.mem_of_getElem? (l := tables_1) (i := 351) (by decide +kernel))) (by decide +kernel)
theorem fl_X10_20 : Fl RX10 20 10 1 := ⟨RX10, TX10, rfl, Nat.le_of_ble_eq_true rfl, Nat.le_of_ble_eq_true rfl, uw_10, fk_X10_20⟩
theorem fk_X10_24 : Cond.fieldLink RX10 24 (TX10 2).1 (TX10 2).2.1 (TX10 2).2.2.1 ∈ wU := wU_mem (List.mem_append_right _ (List.mem_of_getElem? (l := tables_1) (i := 355) (by decide +kernel))) (by decide +kernel)
theorem fl_X10_24 : Fl RX10 24 10 2 := ⟨RX10, TX10, rfl, Nat.le_of_ble_eq_true rfl, Nat.le_of_ble_eq_true rfl, uw_10, fk_X10_24⟩
theorem fk_X10_38 : Cond.fieldLink RX10 38 (TX10 5).1 (TX10 5).2.1 (TX10 5).2.2.1 ∈ wU := wU_mem (List.mem_append_right _ (List.mem_of_getElem? (l := tables_1) (i := 364) (by decide +kernel))) (by decide +kernel)
theorem fl_X10_38 : Fl RX10 38 10 5 := ⟨RX10, TX10, rfl, Nat.le_of_ble_eq_true rfl, Nat.le_of_ble_eq_true rfl, uw_10, fk_X10_38⟩
theorem fk_X10_42 : Cond.fieldLink RX10 42 (TX10 6).1 (TX10 6).2.1 (TX10 6).2.2.1 ∈ wU := wU_mem (List.mem_append_right _ (List.mem_of_getElem? (l := tables_1) (i := 366) (by decide +kernel))) (by decide +kernel)
theorem fl_X10_42 : Fl RX10 42 10 6 := ⟨RX10, TX10, rfl, Nat.le_of_ble_eq_true rfl, Nat.le_of_ble_eq_true rfl, uw_10, fk_X10_42⟩
theorem fk_X10_45 : Cond.fieldLink RX10 45 (TX10 7).1 (TX10 7).2.1 (TX10 7).2.2.1 ∈ wU := wU_mem (List.mem_append_right _ (List.mem_of_getElem? (l := tables_1) (i := 368) (by decide +kernel))) (by decide +kernel)
theorem fl_X10_45 : Fl RX10 45 10 7 := ⟨RX10, TX10, rfl, Nat.le_of_ble_eq_true rfl, Nat.le_of_ble_eq_true rfl, uw_10, fk_X10_45⟩
theorem fk_X10_48 : Cond.fieldLink RX10 48 (TX10 8).1 (TX10 8).2.1 (TX10 8).2.2.1 ∈ wU := wU_mem (List.mem_append_right _ (List.mem_of_getElem? (l := tables_1) (i := 371) (by decide +kernel))) (by decide +kernel)
theorem fl_X10_48 : Fl RX10 48 10 8 := ⟨RX10, TX10, rfl, Nat.le_of_ble_eq_true rfl, Nat.le_of_ble_eq_true rfl, uw_10, fk_X10_48⟩
theorem fk_X10_51 : Cond.fieldLink RX10 51 (TX10 9).1 (TX10 9).2.1 (TX10 9).2.2.1 ∈ wU := wU_mem (List.mem_append_right _ (List.mem_of_getElem? (l := tables_1) (i := 374) (by decide +kernel))) (by decide +kernel)
theorem fl_X10_51 : Fl RX10 51 10 9 := ⟨RX10, TX10, rfl, Nat.le_of_ble_eq_true rfl, Nat.le_of_ble_eq_true rfl, uw_10, fk_X10_51⟩
theorem fk_X10_54 : Cond.fieldLink RX10 54 (TX10 10).1 (TX10 10).2.1 (TX10 10).2.2.1 ∈ wU := wU_mem (List.mem_append_right _ (List.mem_of_getElem? (l := tables_1) (i := 377) (by decide +kernel))) (by decide +kernel)
theorem fl_X10_54 : Fl RX10 54 10 10 := ⟨RX10, TX10, rfl, Nat.le_of_ble_eq_true rfl, Nat.le_of_ble_eq_true rfl, uw_10, fk_X10_54⟩
theorem fk_X10_57 : Cond.fieldLink RX10 57 (TX10 11).1 (TX10 11).2.1 (TX10 11).2.2.1 ∈ wU := wU_mem (List.mem_append_right _ (List.mem_of_getElem? (l := tables_1) (i := 380) (by decide +kernel))) (by decide +kernel)
theorem fl_X10_57 : Fl RX10 57 10 11 := ⟨RX10, TX10, rfl, Nat.le_of_ble_eq_true rfl, Nat.le_of_ble_eq_true rfl, uw_10, fk_X10_57⟩
theorem fk_X10_60 : Cond.fieldLink RX10 60 (TX10 12).1 (TX10 12).2.1 (TX10 12).2.2.1 ∈ wU := wU_mem (List.mem_append_right _ (List.mem_of_getElem? (l := tables_1) (i := 383) (by decide +kernel))) (by decide +kernel)
theorem fl_X10_60 : Fl RX10 60 10 12 := ⟨RX10, TX10, rfl, Nat.le_of_ble_eq_true rfl, Nat.le_of_ble_eq_true rfl, uw_10, fk_X10_60⟩
theorem fk_X10_64 : Cond.fieldLink RX10 64 (TX10 13).1 (TX10 13).2.1 (TX10 13).2.2.1 ∈ wU := wU_mem (List.mem_append_right _ (List.mem_of_getElem? (l := tables_1) (i := 385) (by decide +kernel))) (by decide +kernel)
theorem fl_X10_64 : Fl RX10 64 10 13 := ⟨RX10, TX10, rfl, Nat.le_of_ble_eq_true rfl, Nat.le_of_ble_eq_true rfl, uw_10, fk_X10_64⟩
theorem fk_X10_67 : Cond.fieldLink RX10 67 (TX0 1).1 (TX0 1).2.1 (TX0 1).2.2.1 ∈ wU := wU_mem (List.mem_append_right _ (List.mem_of_getElem? (l := tables_1) (i := 141) (by decide +kernel))) (by decide +kernel)
theorem fl_X10_67 : Fl RX10 67 0 1 := ⟨RX0, TX0, rfl, Nat.le_of_ble_eq_true rfl, Nat.le_of_ble_eq_true rfl, uw_0, fk_X10_67⟩
theorem fk_X12_7 : Cond.fieldLink RX12 7 (TX12 0).1 (TX12 0).2.1 (TX12 0).2.2.1 ∈ wU := wU_mem (List.mem_append_right _ (List.mem_of_getElem? (l := tables_1) (i := 1247) (by decide +kernel))) (by decide +kernel)
theorem fl_X12_7 : Fl RX12 7 12 0 := ⟨RX12, TX12, rfl, Nat.le_of_ble_eq_true rfl, Nat.le_of_ble_eq_true rfl, uw_12, fk_X12_7⟩
theorem fk_X12_13 : Cond.fieldLink RX12 13 (TX12 3).1 (TX12 3).2.1 (TX12 3).2.2.1 ∈ wU := wU_mem (List.mem_append_right _ (List.mem_of_getElem? (l := tables_1) (i := 1250) (by decide +kernel))) (by decide +kernel)
theorem fl_X12_13 : Fl RX12 13 12 3 := ⟨RX12, TX12, rfl, Nat.le_of_ble_eq_true rfl, Nat.le_of_ble_eq_true rfl, uw_12, fk_X12_13⟩
theorem fk_X12_16 : Cond.fieldLink RX12 16 (TX12 5).1 (TX12 5).2.1 (TX12 5).2.2.1 ∈ wU := wU_mem (List.mem_append_right _ (List.mem_of_getElem? (l := tables_1) (i := 1252) (by decide +kernel))) (by decide +kernel)
theorem fl_X12_16 : Fl RX12 16 12 5 := ⟨RX12, TX12, rfl, Nat.le_of_ble_eq_true rfl, Nat.le_of_ble_eq_true rfl, uw_12, fk_X12_16⟩
theorem fk_X12_20 : Cond.fieldLink RX12 20 (TX12 21).1 (TX12 21).2.1 (TX12 21).2.2.1 ∈ wU := wU_mem (List.mem_append_right _ (List.mem_of_getElem? (l := tables_1) (i := 1268) (by decide +kernel))) (by decide +kernel)
theorem fl_X12_20 : Fl RX12 20 12 21 := ⟨RX12, TX12, rfl, Nat.le_of_ble_eq_true rfl, Nat.le_of_ble_eq_true rfl, uw_12, fk_X12_20⟩
theorem fk_X12_24 : Cond.fieldLink RX12 24 (TX12 22).1 (TX12 22).2.1 (TX12 22).2.2.1 ∈ wU := wU_mem (List.mem_append_right _ (List.mem_of_getElem? (l := tables_1) (i := 1269) (by decide +kernel))) (by decide +kernel)
theorem fl_X12_24 : Fl RX12 24 12 22 := ⟨RX12, TX12, rfl, Nat.le_of_ble_eq_true rfl, Nat.le_of_ble_eq_true rfl, uw_12, fk_X12_24⟩
theorem fk_X12_27 : Cond.fieldLink RX12 27 (TX12 23).1 (TX12 23).2.1 (TX12 23).2.2.1 ∈ wU := wU_mem (List.mem_append_right _ (List.mem_of_getElem? (l := tables_1) (i := 1270) (by decide +kernel))) (by decide +kernel)
theorem fl_X12_27 : Fl RX12 27 12 23 := ⟨RX12, TX12, rfl, Nat.le_of_ble_eq_true rfl, Nat.le_of_ble_eq_true rfl, uw_12, fk_X12_27⟩
theorem fk_X12_30 : Cond.fieldLink RX12 30 (TX12 24).1 (TX12 24).2.1 (TX12 24).2.2.1 ∈ wU := wU_mem (List.mem_append_right _ (List.mem_of_getElem? (l := tables_1) (i := 1271) (by decide +kernel))) (by decide +kernel)
theorem fl_X12_30 : Fl RX12 30 12 24 := ⟨RX12, TX12, rfl, Nat.le_of_ble_eq_true rfl, Nat.le_of_ble_eq_true rfl, uw_12, fk_X12_30⟩
theorem fk_X12_33 : Cond.fieldLink RX12 33 (TX12 25).1 (TX12 25).2.1 (TX12 25).2.2.1 ∈ wU := wU_mem (List.mem_append_right _ (List.mem_of_getElem? (l := tables_1) (i := 1272) (by decide +kernel))) (by decide +kernel)
theorem fl_X12_33 : Fl RX12 33 12 25 := ⟨RX12, TX12, rfl, Nat.le_of_ble_eq_true rfl, Nat.le_of_ble_eq_true rfl, uw_12, fk_X12_33⟩
theorem fk_X12_36 : Cond.fieldLink RX12 36 (TX12 26).1 (TX12 26).2.1 (TX12 26).2.2.1 ∈ wU := wU_mem (List.mem_append_right _ (List.mem_of_getElem? (l := tables_1) (i := 1273) (by decide +kernel))) (by decide +kernel)
theorem fl_X12_36 : Fl RX12 36 12 26 := ⟨RX12, TX12, rfl, Nat.le_of_ble_eq_true rfl, Nat.le_of_ble_eq_true rfl, uw_12, fk_X12_36⟩
theorem fk_X12_39 : Cond.fieldLink RX12 39 (TX12 27).1 (TX12 27).2.1 (TX12 27).2.2.1 ∈ wU := wU_mem (List.mem_append_right _ (List.mem_of_getElem? (l := tables_1) (i := 1274) (by decide +kernel))) (by decide +kernel)
theorem fl_X12_39 : Fl RX12 39 12 27 := ⟨RX12, TX12, rfl, Nat.le_of_ble_eq_true rfl, Nat.le_of_ble_eq_true rfl, uw_12, fk_X12_39⟩
theorem fk_X12_42 : Cond.fieldLink RX12 42 (TX12 28).1 (TX12 28).2.1 (TX12 28).2.2.1 ∈ wU := wU_mem (List.mem_append_right _ (List.mem_of_getElem? (l := tables_1) (i := 1275) (by decide +kernel))) (by decide +kernel)
theorem fl_X12_42 : Fl RX12 42 12 28 := ⟨RX12, TX12, rfl, Nat.le_of_ble_eq_true rfl, Nat.le_of_ble_eq_true rfl, uw_12, fk_X12_42⟩
theorem fk_X12_45 : Cond.fieldLink RX12 45 (TX12 29).1 (TX12 29).2.1 (TX12 29).2.2.1 ∈ wU := wU_mem (List.mem_append_right _ (List.mem_of_getElem? (l := tables_1) (i := 1276) (by decide +kernel))) (by decide +kernel)
theorem fl_X12_45 : Fl RX12 45 12 29 := ⟨RX12, TX12, rfl, Nat.le_of_ble_eq_true rfl, Nat.le_of_ble_eq_true rfl, uw_12, fk_X12_45⟩
theorem fk_X12_48 : Cond.fieldLink RX12 48 (TX12 30).1 (TX12 30).2.1 (TX12 30).2.2.1 ∈ wU := wU_mem (List.mem_append_right _ (List.mem_of_getElem? (l := tables_1) (i := 1277) (by decide +kernel))) (by decide +kernel)
theorem fl_X12_48 : Fl RX12 48 12 30 := ⟨RX12, TX12, rfl, Nat.le_of_ble_eq_true rfl, Nat.le_of_ble_eq_true rfl, uw_12, fk_X12_48⟩
theorem fk_X12_51 : Cond.fieldLink RX12 51 (TX12 31).1 (TX12 31).2.1 (TX12 31).2.2.1 ∈ wU := wU_mem (List.mem_append_right _ (List.mem_of_getElem? (l := tables_1) (i := 1278) (by decide +kernel))) (by decide +kernel)
theorem fl_X12_51 : Fl RX12 51 12 31 := ⟨RX12, TX12, rfl, Nat.le_of_ble_eq_true rfl, Nat.le_of_ble_eq_true rfl, uw_12, fk_X12_51⟩
theorem fk_X12_54 : Cond.fieldLink RX12 54 (TX12 32).1 (TX12 32).2.1 (TX12 32).2.2.1 ∈ wU := wU_mem (List.mem_append_right _ (List.mem_of_getElem? (l := tables_1) (i := 1279) (by decide +kernel))) (by decide +kernel)
theorem fl_X12_54 : Fl RX12 54 12 32 := ⟨RX12, TX12, rfl, Nat.le_of_ble_eq_true rfl, Nat.le_of_ble_eq_true rfl, uw_12, fk_X12_54⟩
theorem fk_X12_57 : Cond.fieldLink RX12 57 (TX12 33).1 (TX12 33).2.1 (TX12 33).2.2.1 ∈ wU := wU_mem (List.mem_append_right _ (List.mem_of_getElem? (l := tables_1) (i := 1280) (by decide +kernel))) (by decide +kernel)
theorem fl_X12_57 : Fl RX12 57 12 33 := ⟨RX12, TX12, rfl, Nat.le_of_ble_eq_true rfl, Nat.le_of_ble_eq_true rfl, uw_12, fk_X12_57⟩
theorem fk_X12_60 : Cond.fieldLink RX12 60 (TX12 34).1 (TX12 34).2.1 (TX12 34).2.2.1 ∈ wU := wU_mem (List.mem_append_right _ (List.mem_of_getElem? (l := tables_1) (i := 1281) (by decide +kernel))) (by decide +kernel)
theorem fl_X12_60 : Fl RX12 60 12 34 := ⟨RX12, TX12, rfl, Nat.le_of_ble_eq_true rfl, Nat.le_of_ble_eq_true rfl, uw_12, fk_X12_60⟩
theorem fk_X12_63 : Cond.fieldLink RX12 63 (TX12 35).1 (TX12 35).2.1 (TX12 35).2.2.1 ∈ wU := wU_mem (List.mem_append_right _ (List.mem_of_getElem? (l := tables_1) (i := 1282) (by decide +kernel))) (by decide +kernel)
theorem fl_X12_63 : Fl RX12 63 12 35 := ⟨RX12, TX12, rfl, Nat.le_of_ble_eq_true rfl, Nat.le_of_ble_eq_true rfl, uw_12, fk_X12_63⟩
theorem fk_X12_66 : Cond.fieldLink RX12 66 (TX12 36).1 (TX12 36).2.1 (TX12 36).2.2.1 ∈ wU := wU_mem (List.mem_append_right _ (List.mem_of_getElem? (l := tables_1) (i := 1283) (by decide +kernel))) (by decide +kernel)
theorem fl_X12_66 : Fl RX12 66 12 36 := ⟨RX12, TX12, rfl, Nat.le_of_ble_eq_true rfl, Nat.le_of_ble_eq_true rfl, uw_12, fk_X12_66⟩
theorem fk_X12_69 : Cond.fieldLink RX12 69 (TX12 37).1 (TX12 37).2.1 (TX12 37).2.2.1 ∈ wU := wU_mem (List.mem_append_right _ (List.mem_of_getElem? (l := tables_1) (i := 1284) (by decide +kernel))) (by decide +kernel)
theorem fl_X12_69 : Fl RX12 69 12 37 := ⟨RX12, TX12, rfl, Nat.le_of_ble_eq_true rfl, Nat.le_of_ble_eq_true rfl, uw_12, fk_X12_69⟩
theorem fk_X12_72 : Cond.fieldLink RX12 72 (TX12 38).1 (TX12 38).2.1 (TX12 38).2.2.1 ∈ wU := wU_mem (List.mem_append_right _ (List.mem_of_getElem? (l := tables_1) (i := 1285) (by decide +kernel))) (by decide +kernel)
theorem fl_X12_72 : Fl RX12 72 12 38 := ⟨RX12, TX12, rfl, Nat.le_of_ble_eq_true rfl, Nat.le_of_ble_eq_true rfl, uw_12, fk_X12_72⟩
theorem fk_X12_75 : Cond.fieldLink RX12 75 (TX12 39).1 (TX12 39).2.1 (TX12 39).2.2.1 ∈ wU := wU_mem (List.mem_append_right _ (List.mem_of_getElem? (l := tables_1) (i := 1286) (by decide +kernel))) (by decide +kernel)
theorem fl_X12_75 : Fl RX12 75 12 39 := ⟨RX12, TX12, rfl, Nat.le_of_ble_eq_true rfl, Nat.le_of_ble_eq_true rfl, uw_12, fk_X12_75⟩
theorem fk_X12_78 : Cond.fieldLink RX12 78 (TX12 46).1 (TX12 46).2.1 (TX12 46).2.2.1 ∈ wU := wU_mem (List.mem_append_right _ (List.mem_of_getElem? (l := tables_1) (i := 1293) (by decide +kernel))) (by decide +kernel)
theorem fl_X12_78 : Fl RX12 78 12 46 := ⟨RX12, TX12, rfl, Nat.le_of_ble_eq_true rfl, Nat.le_of_ble_eq_true rfl, uw_12, fk_X12_78⟩
theorem fk_X12_82 : Cond.fieldLink RX12 82 (TX12 47).1 (TX12 47).2.1 (TX12 47).2.2.1 ∈ wU := wU_mem (List.mem_append_right _ (List.mem_of_getElem? (l := tables_1) (i := 1294) (by decide +kernel))) (by decide +kernel)
theorem fl_X12_82 : Fl RX12 82 12 47 := ⟨RX12, TX12, rfl, Nat.le_of_ble_eq_true rfl, Nat.le_of_ble_eq_true rfl, uw_12, fk_X12_82⟩
theorem fk_X12_85 : Cond.fieldLink RX12 85 (TX12 49).1 (TX12 49).2.1 (TX12 49).2.2.1 ∈ wU := wU_mem (List.mem_append_right _ (List.mem_of_getElem? (l := tables_1) (i := 1296) (by decide +kernel))) (by decide +kernel)
theorem fl_X12_85 : Fl RX12 85 12 49 := ⟨RX12, TX12, rfl, Nat.le_of_ble_eq_true rfl, Nat.le_of_ble_eq_true rfl, uw_12, fk_X12_85⟩
theorem fk_X12_88 : Cond.fieldLink RX12 88 (TX12 50).1 (TX12 50).2.1 (TX12 50).2.2.1 ∈ wU := wU_mem (List.mem_append_right _ (List.mem_of_getElem? (l := tables_1) (i := 1297) (by decide +kernel))) (by decide +kernel)
theorem fl_X12_88 : Fl RX12 88 12 50 := ⟨RX12, TX12, rfl, Nat.le_of_ble_eq_true rfl, Nat.le_of_ble_eq_true rfl, uw_12, fk_X12_88⟩
theorem fk_X12_91 : Cond.fieldLink RX12 91 (TX12 51).1 (TX12 51).2.1 (TX12 51).2.2.1 ∈ wU := wU_mem (List.mem_append_right _ (List.mem_of_getElem? (l := tables_1) (i := 1298) (by decide +kernel))) (by decide +kernel)
theorem fl_X12_91 : Fl RX12 91 12 51 := ⟨RX12, TX12, rfl, Nat.le_of_ble_eq_true rfl, Nat.le_of_ble_eq_true rfl, uw_12, fk_X12_91⟩
theorem fk_X12_94 : Cond.fieldLink RX12 94 (TX12 52).1 (TX12 52).2.1 (TX12 52).2.2.1 ∈ wU := wU_mem (List.mem_append_right _ (List.mem_of_getElem? (l := tables_1) (i := 1299) (by decide +kernel))) (by decide +kernel)
theorem fl_X12_94 : Fl RX12 94 12 52 := ⟨RX12, TX12, rfl, Nat.le_of_ble_eq_true rfl, Nat.le_of_ble_eq_true rfl, uw_12, fk_X12_94⟩
theorem fk_X12_97 : Cond.fieldLink RX12 97 (TX12 53).1 (TX12 53).2.1 (TX12 53).2.2.1 ∈ wU := wU_mem (List.mem_append_right _ (List.mem_of_getElem? (l := tables_1) (i := 1300) (by decide +kernel))) (by decide +kernel)
theorem fl_X12_97 : Fl RX12 97 12 53 := ⟨RX12, TX12, rfl, Nat.le_of_ble_eq_true rfl, Nat.le_of_ble_eq_true rfl, uw_12, fk_X12_97⟩
theorem fk_X12_100 : Cond.fieldLink RX12 100 (TX12 54).1 (TX12 54).2.1 (TX12 54).2.2.1 ∈ wU := wU_mem (List.mem_append_right _ (List.mem_of_getElem? (l := tables_1) (i := 1301) (by decide +kernel))) (by decide +kernel)
theorem fl_X12_100 : Fl RX12 100 12 54 := ⟨RX12, TX12, rfl, Nat.le_of_ble_eq_true rfl, Nat.le_of_ble_eq_true rfl, uw_12, fk_X12_100⟩
theorem fk_X12_103 : Cond.fieldLink RX12 103 (TX12 55).1 (TX12 55).2.1 (TX12 55).2.2.1 ∈ wU := wU_mem (List.mem_append_right _ (List.mem_of_getElem? (l := tables_1) (i := 1302) (by decide +kernel))) (by decide +kernel)
theorem fl_X12_103 : Fl RX12 103 12 55 := ⟨RX12, TX12, rfl, Nat.le_of_ble_eq_true rfl, Nat.le_of_ble_eq_true rfl, uw_12, fk_X12_103⟩
theorem fk_X12_106 : Cond.fieldLink RX12 106 (TX12 56).1 (TX12 56).2.1 (TX12 56).2.2.1 ∈ wU := wU_mem (List.mem_append_right _ (List.mem_of_getElem? (l := tables_1) (i := 1303) (by decide +kernel))) (by decide +kernel)
theorem fl_X12_106 : Fl RX12 106 12 56 := ⟨RX12, TX12, rfl, Nat.le_of_ble_eq_true rfl, Nat.le_of_ble_eq_true rfl, uw_12, fk_X12_106⟩
theorem fk_X12_109 : Cond.fieldLink RX12 109 (TX12 63).1 (TX12 63).2.1 (TX12 63).2.2.1 ∈ wU := wU_mem (List.mem_append_right _ (List.mem_of_getElem? (l := tables_1) (i := 1310) (by decide +kernel))) (by decide +kernel)
theorem fl_X12_109 : Fl RX12 109 12 63 := ⟨RX12, TX12, rfl, Nat.le_of_ble_eq_true rfl, Nat.le_of_ble_eq_true rfl, uw_12, fk_X12_109⟩
theorem fk_X12_112 : Cond.fieldLink RX12 112 (TX12 64).1 (TX12 64).2.1 (TX12 64).2.2.1 ∈ wU := wU_mem (List.mem_append_right _ (List.mem_of_getElem? (l := tables_1) (i := 1311) (by decide +kernel))) (by decide +kernel)
theorem fl_X12_112 : Fl RX12 112 12 64 := ⟨RX12, TX12, rfl, Nat.le_of_ble_eq_true rfl, Nat.le_of_ble_eq_true rfl, uw_12, fk_X12_112⟩
theorem fk_X12_115 : Cond.fieldLink RX12 115 (TX12 66).1 (TX12 66).2.1 (TX12 66).2.2.1 ∈ wU := wU_mem (List.mem_append_right _ (List.mem_of_getElem? (l := tables_1) (i := 1313) (by decide +kernel))) (by decide +kernel)
theorem fl_X12_115 : Fl RX12 115 12 66 := ⟨RX12, TX12, rfl, Nat.le_of_ble_eq_true rfl, Nat.le_of_ble_eq_true rfl, uw_12, fk_X12_115⟩
theorem fk_X12_118 : Cond.fieldLink RX12 118 (TX12 67).1 (TX12 67).2.1 (TX12 67).2.2.1 ∈ wU := wU_mem (List.mem_append_right _ (List.mem_of_getElem? (l := tables_1) (i := 1314) (by decide +kernel))) (by decide +kernel)
theorem fl_X12_118 : Fl RX12 118 12 67 := ⟨RX12, TX12, rfl, Nat.le_of_ble_eq_true rfl, Nat.le_of_ble_eq_true rfl, uw_12, fk_X12_118⟩
theorem fk_X12_121 : Cond.fieldLink RX12 121 (TX12 68).1 (TX12 68).2.1 (TX12 68).2.2.1 ∈ wU := wU_mem (List.mem_append_right _ (List.mem_of_getElem? (l := tables_1) (i := 1315) (by decide +kernel))) (by decide +kernel)
theorem fl_X12_121 : Fl RX12 121 12 68 := ⟨RX12, TX12, rfl, Nat.le_of_ble_eq_true rfl, Nat.le_of_ble_eq_true rfl, uw_12, fk_X12_121⟩
theorem fk_X12_124 : Cond.fieldLink RX12 124 (TX12 70).1 (TX12 70).2.1 (TX12 70).2.2.1 ∈ wU := wU_mem (List.mem_append_right _ (List.mem_of_getElem? (l := tables_1) (i := 1317) (by decide +kernel))) (by decide +kernel)
theorem fl_X12_124 : Fl RX12 124 12 70 := ⟨RX12, TX12, rfl, Nat.le_of_ble_eq_true rfl, Nat.le_of_ble_eq_true rfl, uw_12, fk_X12_124⟩
theorem fk_X12_127 : Cond.fieldLink RX12 127 (TX12 72).1 (TX12 72).2.1 (TX12 72).2.2.1 ∈ wU := wU_mem (List.mem_append_right _ (List.mem_of_getElem? (l := tables_1) (i := 1319) (by decide +kernel))) (by decide +kernel)
theorem fl_X12_127 : Fl RX12 127 12 72 := ⟨RX12, TX12, rfl, Nat.le_of_ble_eq_true rfl, Nat.le_of_ble_eq_true rfl, uw_12, fk_X12_127⟩
theorem fk_X12_130 : Cond.fieldLink RX12 130 (TX12 73).1 (TX12 73).2.1 (TX12 73).2.2.1 ∈ wU := wU_mem (List.mem_append_right _ (List.mem_of_getElem? (l := tables_1) (i := 1320) (by decide +kernel))) (by decide +kernel)
theorem fl_X12_130 : Fl RX12 130 12 73 := ⟨RX12, TX12, rfl, Nat.le_of_ble_eq_true rfl, Nat.le_of_ble_eq_true rfl, uw_12, fk_X12_130⟩
theorem fk_X12_139 : Cond.fieldLink RX12 139 (TX12 2).1 (TX12 2).2.1 (TX12 2).2.2.1 ∈ wU := wU_mem (List.mem_append_right _ (List.mem_of_getElem? (l := tables_1) (i := 1249) (by decide +kernel))) (by decide +kernel)
theorem fl_X12_139 : Fl RX12 139 12 2 := ⟨RX12, TX12, rfl, Nat.le_of_ble_eq_true rfl, Nat.le_of_ble_eq_true rfl, uw_12, fk_X12_139⟩
theorem fk_X12_142 : Cond.fieldLink RX12 142 (TX12 1).1 (TX12 1).2.1 (TX12 1).2.2.1 ∈ wU := wU_mem (List.mem_append_right _ (List.mem_of_getElem? (l := tables_1) (i := 1248) (by decide +kernel))) (by decide +kernel)
theorem fl_X12_142 : Fl RX12 142 12 1 := ⟨RX12, TX12, rfl, Nat.le_of_ble_eq_true rfl, Nat.le_of_ble_eq_true rfl, uw_12, fk_X12_142⟩
theorem fk_X12_145 : Cond.fieldLink RX12 145 (TX12 4).1 (TX12 4).2.1 (TX12 4).2.2.1 ∈ wU := wU_mem (List.mem_append_right _ (List.mem_of_getElem? (l := tables_1) (i := 1251) (by decide +kernel))) (by decide +kernel)
theorem fl_X12_145 : Fl RX12 145 12 4 := ⟨RX12, TX12, rfl, Nat.le_of_ble_eq_true rfl, Nat.le_of_ble_eq_true rfl, uw_12, fk_X12_145⟩
theorem fk_X12_148 : Cond.fieldLink RX12 148 (TX12 10).1 (TX12 10).2.1 (TX12 10).2.2.1 ∈ wU := wU_mem (List.mem_append_right _ (List.mem_of_getElem? (l := tables_1) (i := 1257) (by decide +kernel))) (by decide +kernel)
theorem fl_X12_148 : Fl RX12 148 12 10 := ⟨RX12, TX12, rfl, Nat.le_of_ble_eq_true rfl, Nat.le_of_ble_eq_true rfl, uw_12, fk_X12_148⟩
theorem fk_X12_151 : Cond.fieldLink RX12 151 (TX12 6).1 (TX12 6).2.1 (TX12 6).2.2.1 ∈ wU := wU_mem (List.mem_append_right _ (List.mem_of_getElem? (l := tables_1) (i := 1253) (by decide +kernel))) (by decide +kernel)
theorem fl_X12_151 : Fl RX12 151 12 6 := ⟨RX12, TX12, rfl, Nat.le_of_ble_eq_true rfl, Nat.le_of_ble_eq_true rfl, uw_12, fk_X12_151⟩
theorem fk_X12_154 : Cond.fieldLink RX12 154 (TX12 7).1 (TX12 7).2.1 (TX12 7).2.2.1 ∈ wU := wU_mem (List.mem_append_right _ (List.mem_of_getElem? (l := tables_1) (i := 1254) (by decide +kernel))) (by decide +kernel)
theorem fl_X12_154 : Fl RX12 154 12 7 := ⟨RX12, TX12, rfl, Nat.le_of_ble_eq_true rfl, Nat.le_of_ble_eq_true rfl, uw_12, fk_X12_154⟩
theorem fk_X12_157 : Cond.fieldLink RX12 157 (TX12 8).1 (TX12 8).2.1 (TX12 8).2.2.1 ∈ wU := wU_mem (List.mem_append_right _ (List.mem_of_getElem? (l := tables_1) (i := 1255) (by decide +kernel))) (by decide +kernel)
theorem fl_X12_157 : Fl RX12 157 12 8 := ⟨RX12, TX12, rfl, Nat.le_of_ble_eq_true rfl, Nat.le_of_ble_eq_true rfl, uw_12, fk_X12_157⟩
theorem fk_X12_168 : Cond.fieldLink RX12 168 (TX12 9).1 (TX12 9).2.1 (TX12 9).2.2.1 ∈ wU := wU_mem (List.mem_append_right _ (List.mem_of_getElem? (l := tables_1) (i := 1256) (by decide +kernel))) (by decide +kernel)
theorem fl_X12_168 : Fl RX12 168 12 9 := ⟨RX12, TX12, rfl, Nat.le_of_ble_eq_true rfl, Nat.le_of_ble_eq_true rfl, uw_12, fk_X12_168⟩
theorem fk_X12_188 : Cond.fieldLink RX12 188 (TX12 11).1 (TX12 11).2.1 (TX12 11).2.2.1 ∈ wU := wU_mem (List.mem_append_right _ (List.mem_of_getElem? (l := tables_1) (i := 1258) (by decide +kernel))) (by decide +kernel)
theorem fl_X12_188 : Fl RX12 188 12 11 := ⟨RX12, TX12, rfl, Nat.le_of_ble_eq_true rfl, Nat.le_of_ble_eq_true rfl, uw_12, fk_X12_188⟩
theorem fk_X12_201 : Cond.fieldLink RX12 201 (TX12 16).1 (TX12 16).2.1 (TX12 16).2.2.1 ∈ wU := wU_mem (List.mem_append_right _ (List.mem_of_getElem? (l := tables_1) (i := 1263) (by decide +kernel))) (by decide +kernel)
theorem fl_X12_201 : Fl RX12 201 12 16 := ⟨RX12, TX12, rfl, Nat.le_of_ble_eq_true rfl, Nat.le_of_ble_eq_true rfl, uw_12, fk_X12_201⟩
theorem fk_X12_204 : Cond.fieldLink RX12 204 (TX12 17).1 (TX12 17).2.1 (TX12 17).2.2.1 ∈ wU := wU_mem (List.mem_append_right _ (List.mem_of_getElem? (l := tables_1) (i := 1264) (by decide +kernel))) (by decide +kernel)
theorem fl_X12_204 : Fl RX12 204 12 17 := ⟨RX12, TX12, rfl, Nat.le_of_ble_eq_true rfl, Nat.le_of_ble_eq_true rfl, uw_12, fk_X12_204⟩
theorem fk_X12_207 : Cond.fieldLink RX12 207 (TX12 18).1 (TX12 18).2.1 (TX12 18).2.2.1 ∈ wU := wU_mem (List.mem_append_right _ (List.mem_of_getElem? (l := tables_1) (i := 1265) (by decide +kernel))) (by decide +kernel)
theorem fl_X12_207 : Fl RX12 207 12 18 := ⟨RX12, TX12, rfl, Nat.le_of_ble_eq_true rfl, Nat.le_of_ble_eq_true rfl, uw_12, fk_X12_207⟩
theorem fk_X12_210 : Cond.fieldLink RX12 210 (TX12 19).1 (TX12 19).2.1 (TX12 19).2.2.1 ∈ wU := wU_mem (List.mem_append_right _ (List.mem_of_getElem? (l := tables_1) (i := 1266) (by decide +kernel))) (by decide +kernel)
theorem fl_X12_210 : Fl RX12 210 12 19 := ⟨RX12, TX12, rfl, Nat.le_of_ble_eq_true rfl, Nat.le_of_ble_eq_true rfl, uw_12, fk_X12_210⟩
theorem fk_X12_213 : Cond.fieldLink RX12 213 (TX12 20).1 (TX12 20).2.1 (TX12 20).2.2.1 ∈ wU := wU_mem (List.mem_append_right _ (List.mem_of_getElem? (l := tables_1) (i := 1267) (by decide +kernel))) (by decide +kernel)
theorem fl_X12_213 : Fl RX12 213 12 20 := ⟨RX12, TX12, rfl, Nat.le_of_ble_eq_true rfl, Nat.le_of_ble_eq_true rfl, uw_12, fk_X12_213⟩
theorem fk_X12_216 : Cond.fieldLink RX12 216 (TX12 43).1 (TX12 43).2.1 (TX12 43).2.2.1 ∈ wU := wU_mem (List.mem_append_right _ (List.mem_of_getElem? (l := tables_1) (i := 1290) (by decide +kernel))) (by decide +kernel)
theorem fl_X12_216 : Fl RX12 216 12 43 := ⟨RX12, TX12, rfl, Nat.le_of_ble_eq_true rfl, Nat.le_of_ble_eq_true rfl, uw_12, fk_X12_216⟩
theorem fk_X12_219 : Cond.fieldLink RX12 219 (TX12 12).1 (TX12 12).2.1 (TX12 12).2.2.1 ∈ wU := wU_mem (List.mem_append_right _ (List.mem_of_getElem? (l := tables_1) (i := 1259) (by decide +kernel))) (by decide +kernel)
theorem fl_X12_219 : Fl RX12 219 12 12 := ⟨RX12, TX12, rfl, Nat.le_of_ble_eq_true rfl, Nat.le_of_ble_eq_true rfl, uw_12, fk_X12_219⟩
theorem fk_X12_222 : Cond.fieldLink RX12 222 (TX12 13).1 (TX12 13).2.1 (TX12 13).2.2.1 ∈ wU := wU_mem (List.mem_append_right _ (List.mem_of_getElem? (l := tables_1) (i := 1260) (by decide +kernel))) (by decide +kernel)
theorem fl_X12_222 : Fl RX12 222 12 13 := ⟨RX12, TX12, rfl, Nat.le_of_ble_eq_true rfl, Nat.le_of_ble_eq_true rfl, uw_12, fk_X12_222⟩
theorem fk_X12_225 : Cond.fieldLink RX12 225 (TX12 14).1 (TX12 14).2.1 (TX12 14).2.2.1 ∈ wU := wU_mem (List.mem_append_right _ (List.mem_of_getElem? (l := tables_1) (i := 1261) (by decide +kernel))) (by decide +kernel)
theorem fl_X12_225 : Fl RX12 225 12 14 := ⟨RX12, TX12, rfl, Nat.le_of_ble_eq_true rfl, Nat.le_of_ble_eq_true rfl, uw_12, fk_X12_225⟩
theorem fk_X12_228 : Cond.fieldLink RX12 228 (TX12 15).1 (TX12 15).2.1 (TX12 15).2.2.1 ∈ wU := wU_mem (List.mem_append_right _ (List.mem_of_getElem? (l := tables_1) (i := 1262) (by decide +kernel))) (by decide +kernel)
theorem fl_X12_228 : Fl RX12 228 12 15 := ⟨RX12, TX12, rfl, Nat.le_of_ble_eq_true rfl, Nat.le_of_ble_eq_true rfl, uw_12, fk_X12_228⟩
theorem fk_X12_274 : Cond.fieldLink RX12 274 (TX12 41).1 (TX12 41).2.1 (TX12 41).2.2.1 ∈ wU := wU_mem (List.mem_append_right _ (List.mem_of_getElem? (l := tables_1) (i := 1288) (by decide +kernel))) (by decide +kernel)
theorem fl_X12_274 : Fl RX12 274 12 41 := ⟨RX12, TX12, rfl, Nat.le_of_ble_eq_true rfl, Nat.le_of_ble_eq_true rfl, uw_12, fk_X12_274⟩
theorem fk_X12_277 : Cond.fieldLink RX12 277 (TX12 40).1 (TX12 40).2.1 (TX12 40).2.2.1 ∈ wU := wU_mem (List.mem_append_right _ (List.mem_of_getElem? (l := tables_1) (i := 1287) (by decide +kernel))) (by decide +kernel)
theorem fl_X12_277 : Fl RX12 277 12 40 := ⟨RX12, TX12, rfl, Nat.le_of_ble_eq_true rfl, Nat.le_of_ble_eq_true rfl, uw_12, fk_X12_277⟩
theorem fk_X12_292 : Cond.fieldLink RX12 292 (TX12 42).1 (TX12 42).2.1 (TX12 42).2.2.1 ∈ wU := wU_mem (List.mem_append_right _ (List.mem_of_getElem? (l := tables_1) (i := 1289) (by decide +kernel))) (by decide +kernel)
theorem fl_X12_292 : Fl RX12 292 12 42 := ⟨RX12, TX12, rfl, Nat.le_of_ble_eq_true rfl, Nat.le_of_ble_eq_true rfl, uw_12, fk_X12_292⟩
theorem fk_X12_299 : Cond.fieldLink RX12 299 (TX12 45).1 (TX12 45).2.1 (TX12 45).2.2.1 ∈ wU := wU_mem (List.mem_append_right _ (List.mem_of_getElem? (l := tables_1) (i := 1292) (by decide +kernel))) (by decide +kernel)
theorem fl_X12_299 : Fl RX12 299 12 45 := ⟨RX12, TX12, rfl, Nat.le_of_ble_eq_true rfl, Nat.le_of_ble_eq_true rfl, uw_12, fk_X12_299⟩
theorem fk_X12_312 : Cond.fieldLink RX12 312 (TX12 44).1 (TX12 44).2.1 (TX12 44).2.2.1 ∈ wU := wU_mem (List.mem_append_right _ (List.mem_of_getElem? (l := tables_1) (i := 1291) (by decide +kernel))) (by decide +kernel)
theorem fl_X12_312 : Fl RX12 312 12 44 := ⟨RX12, TX12, rfl, Nat.le_of_ble_eq_true rfl, Nat.le_of_ble_eq_true rfl, uw_12, fk_X12_312⟩
theorem fk_X12_324 : Cond.fieldLink RX12 324 (TX12 48).1 (TX12 48).2.1 (TX12 48).2.2.1 ∈ wU := wU_mem (List.mem_append_right _ (List.mem_of_getElem? (l := tables_1) (i := 1295) (by decide +kernel))) (by decide +kernel)
theorem fl_X12_324 : Fl RX12 324 12 48 := ⟨RX12, TX12, rfl, Nat.le_of_ble_eq_true rfl, Nat.le_of_ble_eq_true rfl, uw_12, fk_X12_324⟩
theorem fk_X12_343 : Cond.fieldLink RX12 343 (TX12 57).1 (TX12 57).2.1 (TX12 57).2.2.1 ∈ wU := wU_mem (List.mem_append_right _ (List.mem_of_getElem? (l := tables_1) (i := 1304) (by decide +kernel))) (by decide +kernel)
theorem fl_X12_343 : Fl RX12 343 12 57 := ⟨RX12, TX12, rfl, Nat.le_of_ble_eq_true rfl, Nat.le_of_ble_eq_true rfl, uw_12, fk_X12_343⟩
theorem fk_X12_350 : Cond.fieldLink RX12 350 (TX12 65).1 (TX12 65).2.1 (TX12 65).2.2.1 ∈ wU := wU_mem (List.mem_append_right _ (List.mem_of_getElem? (l := tables_1) (i := 1312) (by decide +kernel))) (by decide +kernel)
theorem fl_X12_350 : Fl RX12 350 12 65 := ⟨RX12, TX12, rfl, Nat.le_of_ble_eq_true rfl, Nat.le_of_ble_eq_true rfl, uw_12, fk_X12_350⟩
theorem fk_X12_353 : Cond.fieldLink RX12 353 (TX12 69).1 (TX12 69).2.1 (TX12 69).2.2.1 ∈ wU := wU_mem (List.mem_append_right _ (List.mem_of_getElem? (l := tables_1) (i := 1316) (by decide +kernel))) (by decide +kernel)
theorem fl_X12_353 : Fl RX12 353 12 69 := ⟨RX12, TX12, rfl, Nat.le_of_ble_eq_true rfl, Nat.le_of_ble_eq_true rfl, uw_12, fk_X12_353⟩
theorem fk_X12_356 : Cond.fieldLink RX12 356 (TX12 71).1 (TX12 71).2.1 (TX12 71).2.2.1 ∈ wU := wU_mem (List.mem_append_right _ (List.mem_of_getElem? (l := tables_1) (i := 1318) (by decide +kernel))) (by decide +kernel)
theorem fl_X12_356 : Fl RX12 356 12 71 := ⟨RX12, TX12, rfl, Nat.le_of_ble_eq_true rfl, Nat.le_of_ble_eq_true rfl, uw_12, fk_X12_356⟩
theorem fk_X12_359 : Cond.fieldLink RX12 359 (TX12 58).1 (TX12 58).2.1 (TX12 58).2.2.1 ∈ wU := wU_mem (List.mem_append_right _ (List.mem_of_getElem? (l := tables_1) (i := 1305) (by decide +kernel))) (by decide +kernel)
theorem fl_X12_359 : Fl RX12 359 12 58 := ⟨RX12, TX12, rfl, Nat.le_of_ble_eq_true rfl, Nat.le_of_ble_eq_true rfl, uw_12, fk_X12_359⟩
theorem fk_X12_362 : Cond.fieldLink RX12 362 (TX12 59).1 (TX12 59).2.1 (TX12 59).2.2.1 ∈ wU := wU_mem (List.mem_append_right _ (List.mem_of_getElem? (l := tables_1) (i := 1306) (by decide +kernel))) (by decide +kernel)
theorem fl_X12_362 : Fl RX12 362 12 59 := ⟨RX12, TX12, rfl, Nat.le_of_ble_eq_true rfl, Nat.le_of_ble_eq_true rfl, uw_12, fk_X12_362⟩
theorem fk_X12_365 : Cond.fieldLink RX12 365 (TX12 60).1 (TX12 60).2.1 (TX12 60).2.2.1 ∈ wU := wU_mem (List.mem_append_right _ (List.mem_of_getElem? (l := tables_1) (i := 1307) (by decide +kernel))) (by decide +kernel)
theorem fl_X12_365 : Fl RX12 365 12 60 := ⟨RX12, TX12, rfl, Nat.le_of_ble_eq_true rfl, Nat.le_of_ble_eq_true rfl, uw_12, fk_X12_365⟩
theorem fk_X12_368 : Cond.fieldLink RX12 368 (TX12 61).1 (TX12 61).2.1 (TX12 61).2.2.1 ∈ wU := wU_mem (List.mem_append_right _ (List.mem_of_getElem? (l := tables_1) (i := 1308) (by decide +kernel))) (by decide +kernel)
theorem fl_X12_368 : Fl RX12 368 12 61 := ⟨RX12, TX12, rfl, Nat.le_of_ble_eq_true rfl, Nat.le_of_ble_eq_true rfl, uw_12, fk_X12_368⟩
theorem fk_X12_371 : Cond.fieldLink RX12 371 (TX12 62).1 (TX12 62).2.1 (TX12 62).2.2.1 ∈ wU := wU_mem (List.mem_append_right _ (List.mem_of_getElem? (l := tables_1) (i := 1309) (by decide +kernel))) (by decide +kernel)
theorem fl_X12_371 : Fl RX12 371 12 62 := ⟨RX12, TX12, rfl, Nat.le_of_ble_eq_true rfl, Nat.le_of_ble_eq_true rfl, uw_12, fk_X12_371⟩
theorem fk_X12_516 : Cond.fieldLink RX12 516 (TX12 74).1 (TX12 74).2.1 (TX12 74).2.2.1 ∈ wU := wU_mem (List.mem_append_right _ (List.mem_of_getElem? (l := tables_1) (i := 1321) (by decide +kernel))) (by decide +kernel)
theorem fl_X12_516 : Fl RX12 516 12 74 := ⟨RX12, TX12, rfl, Nat.le_of_ble_eq_true rfl, Nat.le_of_ble_eq_true rfl, uw_12, fk_X12_516⟩
theorem fp_X11_82 : Fp RX11 82 11 11 (.object "LaughDrum$Tale") := ⟨RX11, TX11, tyX11, rfl, Nat.le_of_ble_eq_true rfl, Nat.le_of_ble_eq_true rfl, uw_11, fk_X11_82, tyX11_ok, nmX11, rfl, by decide +kernel⟩
theorem fp_X11_86 : Fp RX11 86 11 12 (.object "LaughDrum$Tale") := ⟨RX11, TX11, tyX11, rfl, Nat.le_of_ble_eq_true rfl, Nat.le_of_ble_eq_true rfl, uw_11, fk_X11_86, tyX11_ok, nmX11, rfl, by decide +kernel⟩
theorem fp_X11_89 : Fp RX11 89 11 13 .boolean := ⟨RX11, TX11, tyX11, rfl, Nat.le_of_ble_eq_true rfl, Nat.le_of_ble_eq_true rfl, uw_11, fk_X11_89, tyX11_ok, nmX11, rfl, by decide +kernel⟩
theorem fp_X11_93 : Fp RX11 93 8 1 .int := ⟨RX8, TX8, tyX8, rfl, Nat.le_of_ble_eq_true rfl, Nat.le_of_ble_eq_true rfl, uw_8, fk_X11_93, tyX8_ok, nmX8, rfl, by decide +kernel⟩
theorem fp_X11_144 : Fp RX11 144 0 5 .int := ⟨RX0, TX0, tyX0, rfl, Nat.le_of_ble_eq_true rfl, Nat.le_of_ble_eq_true rfl, uw_0, fk_X11_144, tyX0_ok, nmX0, rfl, by decide +kernel⟩
theorem fp_X11_159 : Fp RX11 159 0 10 .boolean := ⟨RX0, TX0, tyX0, rfl, Nat.le_of_ble_eq_true rfl, Nat.le_of_ble_eq_true rfl, uw_0, fk_X11_159, tyX0_ok, nmX0, rfl, by decide +kernel⟩
theorem fp_X11_162 : Fp RX11 162 0 9 .int := ⟨RX0, TX0, tyX0, rfl, Nat.le_of_ble_eq_true rfl, Nat.le_of_ble_eq_true rfl, uw_0, fk_X11_162, tyX0_ok, nmX0, rfl, by decide +kernel⟩
theorem fp_X11_322 : Fp RX11 322 3 6 .int := ⟨RX3, TX3, tyX3, rfl, Nat.le_of_ble_eq_true rfl, Nat.le_of_ble_eq_true rfl, uw_3, fk_X11_322, tyX3_ok, nmX3, rfl, by decide +kernel⟩
theorem fp_X0_21 : Fp RX0 21 0 1 .int := ⟨RX0, TX0, tyX0, rfl, Nat.le_of_ble_eq_true rfl, Nat.le_of_ble_eq_true rfl, uw_0, fk_X0_21, tyX0_ok, nmX0, rfl, by decide +kernel⟩
theorem fp_X0_25 : Fp RX0 25 0 2 .int := ⟨RX0, TX0, tyX0, rfl, Nat.le_of_ble_eq_true rfl, Nat.le_of_ble_eq_true rfl, uw_0, fk_X0_25, tyX0_ok, nmX0, rfl, by decide +kernel⟩
theorem fp_X0_28 : Fp RX0 28 0 3 .int := ⟨RX0, TX0, tyX0, rfl, Nat.le_of_ble_eq_true rfl, Nat.le_of_ble_eq_true rfl, uw_0, fk_X0_28, tyX0_ok, nmX0, rfl, by decide +kernel⟩
theorem fp_X0_31 : Fp RX0 31 0 4 .int := ⟨RX0, TX0, tyX0, rfl, Nat.le_of_ble_eq_true rfl, Nat.le_of_ble_eq_true rfl, uw_0, fk_X0_31, tyX0_ok, nmX0, rfl, by decide +kernel⟩
theorem fp_X0_34 : Fp RX0 34 0 5 .int := ⟨RX0, TX0, tyX0, rfl, Nat.le_of_ble_eq_true rfl, Nat.le_of_ble_eq_true rfl, uw_0, fk_X0_34, tyX0_ok, nmX0, rfl, by decide +kernel⟩
theorem fp_X0_37 : Fp RX0 37 0 6 .int := ⟨RX0, TX0, tyX0, rfl, Nat.le_of_ble_eq_true rfl, Nat.le_of_ble_eq_true rfl, uw_0, fk_X0_37, tyX0_ok, nmX0, rfl, by decide +kernel⟩
theorem fp_X0_40 : Fp RX0 40 0 7 .int := ⟨RX0, TX0, tyX0, rfl, Nat.le_of_ble_eq_true rfl, Nat.le_of_ble_eq_true rfl, uw_0, fk_X0_40, tyX0_ok, nmX0, rfl, by decide +kernel⟩
theorem fp_X0_43 : Fp RX0 43 0 8 .int := ⟨RX0, TX0, tyX0, rfl, Nat.le_of_ble_eq_true rfl, Nat.le_of_ble_eq_true rfl, uw_0, fk_X0_43, tyX0_ok, nmX0, rfl, by decide +kernel⟩
theorem fp_X0_46 : Fp RX0 46 0 9 .int := ⟨RX0, TX0, tyX0, rfl, Nat.le_of_ble_eq_true rfl, Nat.le_of_ble_eq_true rfl, uw_0, fk_X0_46, tyX0_ok, nmX0, rfl, by decide +kernel⟩
theorem fp_X0_49 : Fp RX0 49 0 10 .boolean := ⟨RX0, TX0, tyX0, rfl, Nat.le_of_ble_eq_true rfl, Nat.le_of_ble_eq_true rfl, uw_0, fk_X0_49, tyX0_ok, nmX0, rfl, by decide +kernel⟩
theorem fp_X1_25 : Fp RX1 25 1 4 .int := ⟨RX1, TX1, tyX1, rfl, Nat.le_of_ble_eq_true rfl, Nat.le_of_ble_eq_true rfl, uw_1, fk_X1_25, tyX1_ok, nmX1, rfl, by decide +kernel⟩
theorem fp_X1_32 : Fp RX1 32 0 5 .int := ⟨RX0, TX0, tyX0, rfl, Nat.le_of_ble_eq_true rfl, Nat.le_of_ble_eq_true rfl, uw_0, fk_X1_32, tyX0_ok, nmX0, rfl, by decide +kernel⟩
theorem fp_X1_37 : Fp RX1 37 0 9 .int := ⟨RX0, TX0, tyX0, rfl, Nat.le_of_ble_eq_true rfl, Nat.le_of_ble_eq_true rfl, uw_0, fk_X1_37, tyX0_ok, nmX0, rfl, by decide +kernel⟩
theorem fp_X1_39 : Fp RX1 39 0 10 .boolean := ⟨RX0, TX0, tyX0, rfl, Nat.le_of_ble_eq_true rfl, Nat.le_of_ble_eq_true rfl, uw_0, fk_X1_39, tyX0_ok, nmX0, rfl, by decide +kernel⟩
theorem fp_X3_28 : Fp RX3 28 3 6 .int := ⟨RX3, TX3, tyX3, rfl, Nat.le_of_ble_eq_true rfl, Nat.le_of_ble_eq_true rfl, uw_3, fk_X3_28, tyX3_ok, nmX3, rfl, by decide +kernel⟩
theorem fp_X3_32 : Fp RX3 32 3 5 .int := ⟨RX3, TX3, tyX3, rfl, Nat.le_of_ble_eq_true rfl, Nat.le_of_ble_eq_true rfl, uw_3, fk_X3_32, tyX3_ok, nmX3, rfl, by decide +kernel⟩
theorem fp_X4_19 : Fp RX4 19 4 2 (.object "LaughDrum$Laws") := ⟨RX4, TX4, tyX4, rfl, Nat.le_of_ble_eq_true rfl, Nat.le_of_ble_eq_true rfl, uw_4, fk_X4_19, tyX4_ok, nmX4, rfl, by decide +kernel⟩
theorem fp_X4_23 : Fp RX4 23 4 3 .int := ⟨RX4, TX4, tyX4, rfl, Nat.le_of_ble_eq_true rfl, Nat.le_of_ble_eq_true rfl, uw_4, fk_X4_23, tyX4_ok, nmX4, rfl, by decide +kernel⟩
theorem fp_X4_32 : Fp RX4 32 4 4 .int := ⟨RX4, TX4, tyX4, rfl, Nat.le_of_ble_eq_true rfl, Nat.le_of_ble_eq_true rfl, uw_4, fk_X4_32, tyX4_ok, nmX4, rfl, by decide +kernel⟩
theorem fp_X4_33 : Fp RX4 33 4 5 .int := ⟨RX4, TX4, tyX4, rfl, Nat.le_of_ble_eq_true rfl, Nat.le_of_ble_eq_true rfl, uw_4, fk_X4_33, tyX4_ok, nmX4, rfl, by decide +kernel⟩
theorem fp_X4_36 : Fp RX4 36 4 6 .int := ⟨RX4, TX4, tyX4, rfl, Nat.le_of_ble_eq_true rfl, Nat.le_of_ble_eq_true rfl, uw_4, fk_X4_36, tyX4_ok, nmX4, rfl, by decide +kernel⟩
theorem fp_X4_39 : Fp RX4 39 4 7 .boolean := ⟨RX4, TX4, tyX4, rfl, Nat.le_of_ble_eq_true rfl, Nat.le_of_ble_eq_true rfl, uw_4, fk_X4_39, tyX4_ok, nmX4, rfl, by decide +kernel⟩
theorem fp_X4_43 : Fp RX4 43 4 8 .boolean := ⟨RX4, TX4, tyX4, rfl, Nat.le_of_ble_eq_true rfl, Nat.le_of_ble_eq_true rfl, uw_4, fk_X4_43, tyX4_ok, nmX4, rfl, by decide +kernel⟩
theorem fp_X5_28 : Fp RX5 28 5 5 .int := ⟨RX5, TX5, tyX5, rfl, Nat.le_of_ble_eq_true rfl, Nat.le_of_ble_eq_true rfl, uw_5, fk_X5_28, tyX5_ok, nmX5, rfl, by decide +kernel⟩
theorem fp_X6_21 : Fp RX6 21 6 3 .int := ⟨RX6, TX6, tyX6, rfl, Nat.le_of_ble_eq_true rfl, Nat.le_of_ble_eq_true rfl, uw_6, fk_X6_21, tyX6_ok, nmX6, rfl, by decide +kernel⟩
theorem fp_X7_9 : Fp RX7 9 7 3 .int := ⟨RX7, TX7, tyX7, rfl, Nat.le_of_ble_eq_true rfl, Nat.le_of_ble_eq_true rfl, uw_7, fk_X7_9, tyX7_ok, nmX7, rfl, by decide +kernel⟩
theorem fp_X7_15 : Fp RX7 15 7 4 .int := ⟨RX7, TX7, tyX7, rfl, Nat.le_of_ble_eq_true rfl, Nat.le_of_ble_eq_true rfl, uw_7, fk_X7_15, tyX7_ok, nmX7, rfl, by decide +kernel⟩
theorem fp_X7_31 : Fp RX7 31 7 2 (.object "LaughDrum$Tale") := ⟨RX7, TX7, tyX7, rfl, Nat.le_of_ble_eq_true rfl, Nat.le_of_ble_eq_true rfl, uw_7, fk_X7_31, tyX7_ok, nmX7, rfl, by decide +kernel⟩
theorem fp_X7_52 : Fp RX7 52 10 11 .int := ⟨RX10, TX10, tyX10, rfl, Nat.le_of_ble_eq_true rfl, Nat.le_of_ble_eq_true rfl, uw_10, fk_X7_52, tyX10_ok, nmX10, rfl, by decide +kernel⟩
theorem fp_X7_99 : Fp RX7 99 10 5 .int := ⟨RX10, TX10, tyX10, rfl, Nat.le_of_ble_eq_true rfl, Nat.le_of_ble_eq_true rfl, uw_10, fk_X7_99, tyX10_ok, nmX10, rfl, by decide +kernel⟩
theorem fp_X7_114 : Fp RX7 114 0 1 .int := ⟨RX0, TX0, tyX0, rfl, Nat.le_of_ble_eq_true rfl, Nat.le_of_ble_eq_true rfl, uw_0, fk_X7_114, tyX0_ok, nmX0, rfl, by decide +kernel⟩
theorem fp_X7_123 : Fp RX7 123 0 5 .int := ⟨RX0, TX0, tyX0, rfl, Nat.le_of_ble_eq_true rfl, Nat.le_of_ble_eq_true rfl, uw_0, fk_X7_123, tyX0_ok, nmX0, rfl, by decide +kernel⟩
theorem fp_X7_126 : Fp RX7 126 0 2 .int := ⟨RX0, TX0, tyX0, rfl, Nat.le_of_ble_eq_true rfl, Nat.le_of_ble_eq_true rfl, uw_0, fk_X7_126, tyX0_ok, nmX0, rfl, by decide +kernel⟩
theorem fp_X7_129 : Fp RX7 129 0 3 .int := ⟨RX0, TX0, tyX0, rfl, Nat.le_of_ble_eq_true rfl, Nat.le_of_ble_eq_true rfl, uw_0, fk_X7_129, tyX0_ok, nmX0, rfl, by decide +kernel⟩
theorem fp_X7_136 : Fp RX7 136 0 9 .int := ⟨RX0, TX0, tyX0, rfl, Nat.le_of_ble_eq_true rfl, Nat.le_of_ble_eq_true rfl, uw_0, fk_X7_136, tyX0_ok, nmX0, rfl, by decide +kernel⟩
theorem fp_X7_139 : Fp RX7 139 0 4 .int := ⟨RX0, TX0, tyX0, rfl, Nat.le_of_ble_eq_true rfl, Nat.le_of_ble_eq_true rfl, uw_0, fk_X7_139, tyX0_ok, nmX0, rfl, by decide +kernel⟩
theorem fp_X7_142 : Fp RX7 142 10 6 .int := ⟨RX10, TX10, tyX10, rfl, Nat.le_of_ble_eq_true rfl, Nat.le_of_ble_eq_true rfl, uw_10, fk_X7_142, tyX10_ok, nmX10, rfl, by decide +kernel⟩
theorem fp_X7_155 : Fp RX7 155 10 7 .int := ⟨RX10, TX10, tyX10, rfl, Nat.le_of_ble_eq_true rfl, Nat.le_of_ble_eq_true rfl, uw_10, fk_X7_155, tyX10_ok, nmX10, rfl, by decide +kernel⟩
theorem fp_X7_161 : Fp RX7 161 10 8 .int := ⟨RX10, TX10, tyX10, rfl, Nat.le_of_ble_eq_true rfl, Nat.le_of_ble_eq_true rfl, uw_10, fk_X7_161, tyX10_ok, nmX10, rfl, by decide +kernel⟩
theorem fp_X7_176 : Fp RX7 176 10 12 .boolean := ⟨RX10, TX10, tyX10, rfl, Nat.le_of_ble_eq_true rfl, Nat.le_of_ble_eq_true rfl, uw_10, fk_X7_176, tyX10_ok, nmX10, rfl, by decide +kernel⟩
theorem fp_X7_180 : Fp RX7 180 10 9 .int := ⟨RX10, TX10, tyX10, rfl, Nat.le_of_ble_eq_true rfl, Nat.le_of_ble_eq_true rfl, uw_10, fk_X7_180, tyX10_ok, nmX10, rfl, by decide +kernel⟩
theorem fp_X7_183 : Fp RX7 183 10 13 .boolean := ⟨RX10, TX10, tyX10, rfl, Nat.le_of_ble_eq_true rfl, Nat.le_of_ble_eq_true rfl, uw_10, fk_X7_183, tyX10_ok, nmX10, rfl, by decide +kernel⟩
theorem fp_X7_187 : Fp RX7 187 10 10 .int := ⟨RX10, TX10, tyX10, rfl, Nat.le_of_ble_eq_true rfl, Nat.le_of_ble_eq_true rfl, uw_10, fk_X7_187, tyX10_ok, nmX10, rfl, by decide +kernel⟩
theorem fp_X8_15 : Fp RX8 15 8 1 .int := ⟨RX8, TX8, tyX8, rfl, Nat.le_of_ble_eq_true rfl, Nat.le_of_ble_eq_true rfl, uw_8, fk_X8_15, tyX8_ok, nmX8, rfl, by decide +kernel⟩
theorem fp_X8_25 : Fp RX8 25 8 2 .int := ⟨RX8, TX8, tyX8, rfl, Nat.le_of_ble_eq_true rfl, Nat.le_of_ble_eq_true rfl, uw_8, fk_X8_25, tyX8_ok, nmX8, rfl, by decide +kernel⟩
theorem fp_X8_28 : Fp RX8 28 8 3 .int := ⟨RX8, TX8, tyX8, rfl, Nat.le_of_ble_eq_true rfl, Nat.le_of_ble_eq_true rfl, uw_8, fk_X8_28, tyX8_ok, nmX8, rfl, by decide +kernel⟩
theorem fp_X8_34 : Fp RX8 34 8 5 .int := ⟨RX8, TX8, tyX8, rfl, Nat.le_of_ble_eq_true rfl, Nat.le_of_ble_eq_true rfl, uw_8, fk_X8_34, tyX8_ok, nmX8, rfl, by decide +kernel⟩
theorem fp_X8_37 : Fp RX8 37 8 6 .int := ⟨RX8, TX8, tyX8, rfl, Nat.le_of_ble_eq_true rfl, Nat.le_of_ble_eq_true rfl, uw_8, fk_X8_37, tyX8_ok, nmX8, rfl, by decide +kernel⟩
theorem fp_X8_40 : Fp RX8 40 8 4 .int := ⟨RX8, TX8, tyX8, rfl, Nat.le_of_ble_eq_true rfl, Nat.le_of_ble_eq_true rfl, uw_8, fk_X8_40, tyX8_ok, nmX8, rfl, by decide +kernel⟩
theorem fp_X9_24 : Fp RX9 24 9 1 .int := ⟨RX9, TX9, tyX9, rfl, Nat.le_of_ble_eq_true rfl, Nat.le_of_ble_eq_true rfl, uw_9, fk_X9_24, tyX9_ok, nmX9, rfl, by decide +kernel⟩
theorem fp_X9_30 : Fp RX9 30 9 2 .int := ⟨RX9, TX9, tyX9, rfl, Nat.le_of_ble_eq_true rfl, Nat.le_of_ble_eq_true rfl, uw_9, fk_X9_30, tyX9_ok, nmX9, rfl, by decide +kernel⟩
theorem fp_X9_36 : Fp RX9 36 9 3 .int := ⟨RX9, TX9, tyX9, rfl, Nat.le_of_ble_eq_true rfl, Nat.le_of_ble_eq_true rfl, uw_9, fk_X9_36, tyX9_ok, nmX9, rfl, by decide +kernel⟩
theorem fp_X9_39 : Fp RX9 39 9 4 .int := ⟨RX9, TX9, tyX9, rfl, Nat.le_of_ble_eq_true rfl, Nat.le_of_ble_eq_true rfl, uw_9, fk_X9_39, tyX9_ok, nmX9, rfl, by decide +kernel⟩
theorem fp_X10_38 : Fp RX10 38 10 5 .int := ⟨RX10, TX10, tyX10, rfl, Nat.le_of_ble_eq_true rfl, Nat.le_of_ble_eq_true rfl, uw_10, fk_X10_38, tyX10_ok, nmX10, rfl, by decide +kernel⟩
theorem fp_X10_42 : Fp RX10 42 10 6 .int := ⟨RX10, TX10, tyX10, rfl, Nat.le_of_ble_eq_true rfl, Nat.le_of_ble_eq_true rfl, uw_10, fk_X10_42, tyX10_ok, nmX10, rfl, by decide +kernel⟩
theorem fp_X10_45 : Fp RX10 45 10 7 .int := ⟨RX10, TX10, tyX10, rfl, Nat.le_of_ble_eq_true rfl, Nat.le_of_ble_eq_true rfl, uw_10, fk_X10_45, tyX10_ok, nmX10, rfl, by decide +kernel⟩
theorem fp_X10_48 : Fp RX10 48 10 8 .int := ⟨RX10, TX10, tyX10, rfl, Nat.le_of_ble_eq_true rfl, Nat.le_of_ble_eq_true rfl, uw_10, fk_X10_48, tyX10_ok, nmX10, rfl, by decide +kernel⟩
theorem fp_X10_51 : Fp RX10 51 10 9 .int := ⟨RX10, TX10, tyX10, rfl, Nat.le_of_ble_eq_true rfl, Nat.le_of_ble_eq_true rfl, uw_10, fk_X10_51, tyX10_ok, nmX10, rfl, by decide +kernel⟩
theorem fp_X10_54 : Fp RX10 54 10 10 .int := ⟨RX10, TX10, tyX10, rfl, Nat.le_of_ble_eq_true rfl, Nat.le_of_ble_eq_true rfl, uw_10, fk_X10_54, tyX10_ok, nmX10, rfl, by decide +kernel⟩
theorem fp_X10_57 : Fp RX10 57 10 11 .int := ⟨RX10, TX10, tyX10, rfl, Nat.le_of_ble_eq_true rfl, Nat.le_of_ble_eq_true rfl, uw_10, fk_X10_57, tyX10_ok, nmX10, rfl, by decide +kernel⟩
theorem fp_X10_60 : Fp RX10 60 10 12 .boolean := ⟨RX10, TX10, tyX10, rfl, Nat.le_of_ble_eq_true rfl, Nat.le_of_ble_eq_true rfl, uw_10, fk_X10_60, tyX10_ok, nmX10, rfl, by decide +kernel⟩
theorem fp_X10_64 : Fp RX10 64 10 13 .boolean := ⟨RX10, TX10, tyX10, rfl, Nat.le_of_ble_eq_true rfl, Nat.le_of_ble_eq_true rfl, uw_10, fk_X10_64, tyX10_ok, nmX10, rfl, by decide +kernel⟩
theorem fp_X12_16 : Fp RX12 16 12 5 .int := ⟨RX12, TX12, tyX12, rfl, Nat.le_of_ble_eq_true rfl, Nat.le_of_ble_eq_true rfl, uw_12, fk_X12_16, tyX12_ok, nmX12, rfl, by decide +kernel⟩
theorem fp_X12_115 : Fp RX12 115 12 66 .int := ⟨RX12, TX12, tyX12, rfl, Nat.le_of_ble_eq_true rfl, Nat.le_of_ble_eq_true rfl, uw_12, fk_X12_115, tyX12_ok, nmX12, rfl, by decide +kernel⟩
theorem fp_X12_139 : Fp RX12 139 12 2 .int := ⟨RX12, TX12, tyX12, rfl, Nat.le_of_ble_eq_true rfl, Nat.le_of_ble_eq_true rfl, uw_12, fk_X12_139, tyX12_ok, nmX12, rfl, by decide +kernel⟩
theorem fp_X12_142 : Fp RX12 142 12 1 .int := ⟨RX12, TX12, tyX12, rfl, Nat.le_of_ble_eq_true rfl, Nat.le_of_ble_eq_true rfl, uw_12, fk_X12_142, tyX12_ok, nmX12, rfl, by decide +kernel⟩
theorem fp_X12_145 : Fp RX12 145 12 4 .int := ⟨RX12, TX12, tyX12, rfl, Nat.le_of_ble_eq_true rfl, Nat.le_of_ble_eq_true rfl, uw_12, fk_X12_145, tyX12_ok, nmX12, rfl, by decide +kernel⟩
theorem fp_X12_148 : Fp RX12 148 12 10 .int := ⟨RX12, TX12, tyX12, rfl, Nat.le_of_ble_eq_true rfl, Nat.le_of_ble_eq_true rfl, uw_12, fk_X12_148, tyX12_ok, nmX12, rfl, by decide +kernel⟩
theorem fp_X12_151 : Fp RX12 151 12 6 .int := ⟨RX12, TX12, tyX12, rfl, Nat.le_of_ble_eq_true rfl, Nat.le_of_ble_eq_true rfl, uw_12, fk_X12_151, tyX12_ok, nmX12, rfl, by decide +kernel⟩
theorem fp_X12_154 : Fp RX12 154 12 7 .int := ⟨RX12, TX12, tyX12, rfl, Nat.le_of_ble_eq_true rfl, Nat.le_of_ble_eq_true rfl, uw_12, fk_X12_154, tyX12_ok, nmX12, rfl, by decide +kernel⟩
theorem fp_X12_157 : Fp RX12 157 12 8 .int := ⟨RX12, TX12, tyX12, rfl, Nat.le_of_ble_eq_true rfl, Nat.le_of_ble_eq_true rfl, uw_12, fk_X12_157, tyX12_ok, nmX12, rfl, by decide +kernel⟩
theorem fp_X12_168 : Fp RX12 168 12 9 .int := ⟨RX12, TX12, tyX12, rfl, Nat.le_of_ble_eq_true rfl, Nat.le_of_ble_eq_true rfl, uw_12, fk_X12_168, tyX12_ok, nmX12, rfl, by decide +kernel⟩
theorem fp_X12_188 : Fp RX12 188 12 11 .int := ⟨RX12, TX12, tyX12, rfl, Nat.le_of_ble_eq_true rfl, Nat.le_of_ble_eq_true rfl, uw_12, fk_X12_188, tyX12_ok, nmX12, rfl, by decide +kernel⟩
theorem fp_X12_201 : Fp RX12 201 12 16 .int := ⟨RX12, TX12, tyX12, rfl, Nat.le_of_ble_eq_true rfl, Nat.le_of_ble_eq_true rfl, uw_12, fk_X12_201, tyX12_ok, nmX12, rfl, by decide +kernel⟩
theorem fp_X12_204 : Fp RX12 204 12 17 .int := ⟨RX12, TX12, tyX12, rfl, Nat.le_of_ble_eq_true rfl, Nat.le_of_ble_eq_true rfl, uw_12, fk_X12_204, tyX12_ok, nmX12, rfl, by decide +kernel⟩
theorem fp_X12_207 : Fp RX12 207 12 18 .int := ⟨RX12, TX12, tyX12, rfl, Nat.le_of_ble_eq_true rfl, Nat.le_of_ble_eq_true rfl, uw_12, fk_X12_207, tyX12_ok, nmX12, rfl, by decide +kernel⟩
theorem fp_X12_210 : Fp RX12 210 12 19 .int := ⟨RX12, TX12, tyX12, rfl, Nat.le_of_ble_eq_true rfl, Nat.le_of_ble_eq_true rfl, uw_12, fk_X12_210, tyX12_ok, nmX12, rfl, by decide +kernel⟩
theorem fp_X12_213 : Fp RX12 213 12 20 .int := ⟨RX12, TX12, tyX12, rfl, Nat.le_of_ble_eq_true rfl, Nat.le_of_ble_eq_true rfl, uw_12, fk_X12_213, tyX12_ok, nmX12, rfl, by decide +kernel⟩
theorem fp_X12_216 : Fp RX12 216 12 43 .int := ⟨RX12, TX12, tyX12, rfl, Nat.le_of_ble_eq_true rfl, Nat.le_of_ble_eq_true rfl, uw_12, fk_X12_216, tyX12_ok, nmX12, rfl, by decide +kernel⟩
theorem fp_X12_219 : Fp RX12 219 12 12 .int := ⟨RX12, TX12, tyX12, rfl, Nat.le_of_ble_eq_true rfl, Nat.le_of_ble_eq_true rfl, uw_12, fk_X12_219, tyX12_ok, nmX12, rfl, by decide +kernel⟩
theorem fp_X12_222 : Fp RX12 222 12 13 .int := ⟨RX12, TX12, tyX12, rfl, Nat.le_of_ble_eq_true rfl, Nat.le_of_ble_eq_true rfl, uw_12, fk_X12_222, tyX12_ok, nmX12, rfl, by decide +kernel⟩
theorem fp_X12_225 : Fp RX12 225 12 14 .int := ⟨RX12, TX12, tyX12, rfl, Nat.le_of_ble_eq_true rfl, Nat.le_of_ble_eq_true rfl, uw_12, fk_X12_225, tyX12_ok, nmX12, rfl, by decide +kernel⟩
theorem fp_X12_228 : Fp RX12 228 12 15 .int := ⟨RX12, TX12, tyX12, rfl, Nat.le_of_ble_eq_true rfl, Nat.le_of_ble_eq_true rfl, uw_12, fk_X12_228, tyX12_ok, nmX12, rfl, by decide +kernel⟩
theorem fp_X12_274 : Fp RX12 274 12 41 .int := ⟨RX12, TX12, tyX12, rfl, Nat.le_of_ble_eq_true rfl, Nat.le_of_ble_eq_true rfl, uw_12, fk_X12_274, tyX12_ok, nmX12, rfl, by decide +kernel⟩
theorem fp_X12_277 : Fp RX12 277 12 40 .int := ⟨RX12, TX12, tyX12, rfl, Nat.le_of_ble_eq_true rfl, Nat.le_of_ble_eq_true rfl, uw_12, fk_X12_277, tyX12_ok, nmX12, rfl, by decide +kernel⟩
theorem fp_X12_292 : Fp RX12 292 12 42 .int := ⟨RX12, TX12, tyX12, rfl, Nat.le_of_ble_eq_true rfl, Nat.le_of_ble_eq_true rfl, uw_12, fk_X12_292, tyX12_ok, nmX12, rfl, by decide +kernel⟩
theorem fp_X12_299 : Fp RX12 299 12 45 .boolean := ⟨RX12, TX12, tyX12, rfl, Nat.le_of_ble_eq_true rfl, Nat.le_of_ble_eq_true rfl, uw_12, fk_X12_299, tyX12_ok, nmX12, rfl, by decide +kernel⟩
theorem fp_X12_312 : Fp RX12 312 12 44 .boolean := ⟨RX12, TX12, tyX12, rfl, Nat.le_of_ble_eq_true rfl, Nat.le_of_ble_eq_true rfl, uw_12, fk_X12_312, tyX12_ok, nmX12, rfl, by decide +kernel⟩
theorem fp_X12_324 : Fp RX12 324 12 48 .boolean := ⟨RX12, TX12, tyX12, rfl, Nat.le_of_ble_eq_true rfl, Nat.le_of_ble_eq_true rfl, uw_12, fk_X12_324, tyX12_ok, nmX12, rfl, by decide +kernel⟩
theorem fp_X12_343 : Fp RX12 343 12 57 .long := ⟨RX12, TX12, tyX12, rfl, Nat.le_of_ble_eq_true rfl, Nat.le_of_ble_eq_true rfl, uw_12, fk_X12_343, tyX12_ok, nmX12, rfl, by decide +kernel⟩
theorem fp_X12_350 : Fp RX12 350 12 65 .int := ⟨RX12, TX12, tyX12, rfl, Nat.le_of_ble_eq_true rfl, Nat.le_of_ble_eq_true rfl, uw_12, fk_X12_350, tyX12_ok, nmX12, rfl, by decide +kernel⟩
theorem fp_X12_353 : Fp RX12 353 12 69 .int := ⟨RX12, TX12, tyX12, rfl, Nat.le_of_ble_eq_true rfl, Nat.le_of_ble_eq_true rfl, uw_12, fk_X12_353, tyX12_ok, nmX12, rfl, by decide +kernel⟩
theorem fp_X12_356 : Fp RX12 356 12 71 .boolean := ⟨RX12, TX12, tyX12, rfl, Nat.le_of_ble_eq_true rfl, Nat.le_of_ble_eq_true rfl, uw_12, fk_X12_356, tyX12_ok, nmX12, rfl, by decide +kernel⟩
theorem fp_X12_359 : Fp RX12 359 12 58 .boolean := ⟨RX12, TX12, tyX12, rfl, Nat.le_of_ble_eq_true rfl, Nat.le_of_ble_eq_true rfl, uw_12, fk_X12_359, tyX12_ok, nmX12, rfl, by decide +kernel⟩
theorem fp_X12_362 : Fp RX12 362 12 59 .boolean := ⟨RX12, TX12, tyX12, rfl, Nat.le_of_ble_eq_true rfl, Nat.le_of_ble_eq_true rfl, uw_12, fk_X12_362, tyX12_ok, nmX12, rfl, by decide +kernel⟩
theorem fp_X12_365 : Fp RX12 365 12 60 .boolean := ⟨RX12, TX12, tyX12, rfl, Nat.le_of_ble_eq_true rfl, Nat.le_of_ble_eq_true rfl, uw_12, fk_X12_365, tyX12_ok, nmX12, rfl, by decide +kernel⟩
theorem fp_X12_368 : Fp RX12 368 12 61 .boolean := ⟨RX12, TX12, tyX12, rfl, Nat.le_of_ble_eq_true rfl, Nat.le_of_ble_eq_true rfl, uw_12, fk_X12_368, tyX12_ok, nmX12, rfl, by decide +kernel⟩
theorem fp_X12_371 : Fp RX12 371 12 62 .int := ⟨RX12, TX12, tyX12, rfl, Nat.le_of_ble_eq_true rfl, Nat.le_of_ble_eq_true rfl, uw_12, fk_X12_371, tyX12_ok, nmX12, rfl, by decide +kernel⟩
theorem fp_X12_516 : Fp RX12 516 12 74 .long := ⟨RX12, TX12, tyX12, rfl, Nat.le_of_ble_eq_true rfl, Nat.le_of_ble_eq_true rfl, uw_12, fk_X12_516, tyX12_ok, nmX12, rfl, by decide +kernel⟩
theorem ml_X11_97 : Cond.methodLink RX11 97 yX8_put ∈ wU := wU_mem (List.mem_append_right _ (List.mem_of_getElem? (l := tables_1) (i := 463) (by decide +kernel))) (by decide +kernel)
theorem ml_X11_101 : Cond.methodLink RX11 101 yX7_readAll ∈ wU := wU_mem (List.mem_append_right _ (List.mem_of_getElem? (l := tables_1) (i := 471) (by decide +kernel))) (by decide +kernel)
theorem ml_X11_108 : Cond.methodLink RX11 108 yX9_setOut ∈ wU := wU_mem (List.mem_append_right _ (List.mem_of_getElem? (l := tables_1) (i := 659) (by decide +kernel))) (by decide +kernel)
theorem ml_X11_112 : Cond.methodLink RX11 112 yX3_clear ∈ wU := wU_mem (List.mem_append_right _ (List.mem_of_getElem? (l := tables_1) (i := 670) (by decide +kernel))) (by decide +kernel)
theorem ml_X11_115 : Cond.methodLink RX11 115 yX1_clear ∈ wU := wU_mem (List.mem_append_right _ (List.mem_of_getElem? (l := tables_1) (i := 674) (by decide +kernel))) (by decide +kernel)
theorem ml_X11_122 : Cond.methodLink RX11 122 yX10_boxNamed ∈ wU := wU_mem (List.mem_append_right _ (List.mem_of_getElem? (l := tables_1) (i := 686) (by decide +kernel))) (by decide +kernel)
theorem ml_X11_126 : Cond.methodLink RX11 126 yX10_guestNamed ∈ wU := wU_mem (List.mem_append_right _ (List.mem_of_getElem? (l := tables_1) (i := 687) (by decide +kernel))) (by decide +kernel)
theorem ml_X11_129 : Cond.methodLink RX11 129 yX11_isBox ∈ wU := wU_mem (List.mem_append_right _ (List.mem_of_getElem? (l := tables_1) (i := 692) (by decide +kernel))) (by decide +kernel)
theorem ml_X11_170 : Cond.methodLink RX11 170 yX11_isWithin ∈ wU := wU_mem (List.mem_append_right _ (List.mem_of_getElem? (l := tables_1) (i := 696) (by decide +kernel))) (by decide +kernel)
theorem ml_X11_177 : Cond.methodLink RX11 177 yX0_heardNow ∈ wU := wU_mem (List.mem_append_right _ (List.mem_of_getElem? (l := tables_1) (i := 703) (by decide +kernel))) (by decide +kernel)
theorem ml_X11_189 : Cond.methodLink RX11 189 yX0_isKinOf ∈ wU := wU_mem (List.mem_append_right _ (List.mem_of_getElem? (l := tables_1) (i := 721) (by decide +kernel))) (by decide +kernel)
theorem ml_X11_201 : Cond.methodLink RX11 201 yX5_worth ∈ wU := wU_mem (List.mem_append_right _ (List.mem_of_getElem? (l := tables_1) (i := 727) (by decide +kernel))) (by decide +kernel)
theorem ml_X11_207 : Cond.methodLink RX11 207 yX1_note ∈ wU := wU_mem (List.mem_append_right _ (List.mem_of_getElem? (l := tables_1) (i := 756) (by decide +kernel))) (by decide +kernel)
theorem ml_X11_217 : Cond.methodLink RX11 217 yX0_misses ∈ wU := wU_mem (List.mem_append_right _ (List.mem_of_getElem? (l := tables_1) (i := 773) (by decide +kernel))) (by decide +kernel)
theorem ml_X11_220 : Cond.methodLink RX11 220 yX9_goOneYear ∈ wU := wU_mem (List.mem_append_right _ (List.mem_of_getElem? (l := tables_1) (i := 778) (by decide +kernel))) (by decide +kernel)
theorem ml_X11_223 : Cond.methodLink RX11 223 yX0_copyOf ∈ wU := wU_mem (List.mem_append_right _ (List.mem_of_getElem? (l := tables_1) (i := 836) (by decide +kernel))) (by decide +kernel)
theorem ml_X11_227 : Cond.methodLink RX11 227 yX11_goOnTrial ∈ wU := wU_mem (List.mem_append_right _ (List.mem_of_getElem? (l := tables_1) (i := 837) (by decide +kernel))) (by decide +kernel)
theorem ml_X11_231 : Cond.methodLink RX11 231 yX2_listen ∈ wU := wU_mem (List.mem_append_right _ (List.mem_of_getElem? (l := tables_1) (i := 850) (by decide +kernel))) (by decide +kernel)
theorem ml_X11_235 : Cond.methodLink RX11 235 yX2_alikeBy ∈ wU := wU_mem (List.mem_append_right _ (List.mem_of_getElem? (l := tables_1) (i := 855) (by decide +kernel))) (by decide +kernel)
theorem ml_X11_239 : Cond.methodLink RX11 239 yX11_boxesThatFit ∈ wU := wU_mem (List.mem_append_right _ (List.mem_of_getElem? (l := tables_1) (i := 875) (by decide +kernel))) (by decide +kernel)
theorem ml_X11_243 : Cond.methodLink RX11 243 yX11_kinThatHear ∈ wU := wU_mem (List.mem_append_right _ (List.mem_of_getElem? (l := tables_1) (i := 896) (by decide +kernel))) (by decide +kernel)
theorem ml_X11_246 : Cond.methodLink RX11 246 yX11_areBoxes ∈ wU := wU_mem (List.mem_append_right _ (List.mem_of_getElem? (l := tables_1) (i := 905) (by decide +kernel))) (by decide +kernel)
theorem ml_X11_249 : Cond.methodLink RX11 249 yX6_shortest ∈ wU := wU_mem (List.mem_append_right _ (List.mem_of_getElem? (l := tables_1) (i := 909) (by decide +kernel))) (by decide +kernel)
theorem ml_X11_259 : Cond.methodLink RX11 259 yX2_firstMinute ∈ wU := wU_mem (List.mem_append_right _ (List.mem_of_getElem? (l := tables_1) (i := 937) (by decide +kernel))) (by decide +kernel)
theorem ml_X11_266 : Cond.methodLink RX11 266 yX11_nearestTo ∈ wU := wU_mem (List.mem_append_right _ (List.mem_of_getElem? (l := tables_1) (i := 945) (by decide +kernel))) (by decide +kernel)
theorem ml_X11_269 : Cond.methodLink RX11 269 yX11_fewestUnlike ∈ wU := wU_mem (List.mem_append_right _ (List.mem_of_getElem? (l := tables_1) (i := 949) (by decide +kernel))) (by decide +kernel)
theorem ml_X11_272 : Cond.methodLink RX11 272 yX11_stepsOfKin ∈ wU := wU_mem (List.mem_append_right _ (List.mem_of_getElem? (l := tables_1) (i := 957) (by decide +kernel))) (by decide +kernel)
theorem ml_X11_275 : Cond.methodLink RX11 275 yX0_isLetGo ∈ wU := wU_mem (List.mem_append_right _ (List.mem_of_getElem? (l := tables_1) (i := 969) (by decide +kernel))) (by decide +kernel)
theorem ml_X11_279 : Cond.methodLink RX11 279 yX11_isDampAsItGoes ∈ wU := wU_mem (List.mem_append_right _ (List.mem_of_getElem? (l := tables_1) (i := 841) (by decide +kernel))) (by decide +kernel)
theorem ml_X11_282 : Cond.methodLink RX11 282 yX0_goOneYear ∈ wU := wU_mem (List.mem_append_right _ (List.mem_of_getElem? (l := tables_1) (i := 845) (by decide +kernel))) (by decide +kernel)
theorem ml_X11_285 : Cond.methodLink RX11 285 yX11_weighTurns ∈ wU := wU_mem (List.mem_append_right _ (List.mem_of_getElem? (l := tables_1) (i := 974) (by decide +kernel))) (by decide +kernel)
theorem ml_X11_289 : Cond.methodLink RX11 289 yX11_windBest ∈ wU := wU_mem (List.mem_append_right _ (List.mem_of_getElem? (l := tables_1) (i := 982) (by decide +kernel))) (by decide +kernel)
theorem ml_X11_292 : Cond.methodLink RX11 292 yX11_laughterOnTrial ∈ wU := wU_mem (List.mem_append_right _ (List.mem_of_getElem? (l := tables_1) (i := 978) (by decide +kernel))) (by decide +kernel)
theorem ml_X11_296 : Cond.methodLink RX11 296 yX11_guestsWho ∈ wU := wU_mem (List.mem_append_right _ (List.mem_of_getElem? (l := tables_1) (i := 990) (by decide +kernel))) (by decide +kernel)
theorem ml_X11_299 : Cond.methodLink RX11 299 yX11_laughterOfThisYear ∈ wU := wU_mem (List.mem_append_right _ (List.mem_of_getElem? (l := tables_1) (i := 998) (by decide +kernel))) (by decide +kernel)
theorem ml_X11_302 : Cond.methodLink RX11 302 yX11_isRest ∈ wU := wU_mem (List.mem_append_right _ (List.mem_of_getElem? (l := tables_1) (i := 1002) (by decide +kernel))) (by decide +kernel)
theorem ml_X11_305 : Cond.methodLink RX11 305 yX2_mostSame ∈ wU := wU_mem (List.mem_append_right _ (List.mem_of_getElem? (l := tables_1) (i := 1016) (by decide +kernel))) (by decide +kernel)
theorem ml_X11_308 : Cond.methodLink RX11 308 yX6_longest ∈ wU := wU_mem (List.mem_append_right _ (List.mem_of_getElem? (l := tables_1) (i := 1029) (by decide +kernel))) (by decide +kernel)
theorem ml_X11_311 : Cond.methodLink RX11 311 yX2_longestRun ∈ wU := wU_mem (List.mem_append_right _ (List.mem_of_getElem? (l := tables_1) (i := 1041) (by decide +kernel))) (by decide +kernel)
theorem ml_X11_314 : Cond.methodLink RX11 314 yX3_add ∈ wU := wU_mem (List.mem_append_right _ (List.mem_of_getElem? (l := tables_1) (i := 1061) (by decide +kernel))) (by decide +kernel)
theorem ml_X11_319 : Cond.methodLink RX11 319 yX3_addStrike ∈ wU := wU_mem (List.mem_append_right _ (List.mem_of_getElem? (l := tables_1) (i := 1069) (by decide +kernel))) (by decide +kernel)
theorem ml_X11_325 : Cond.methodLink RX11 325 yX3_sift ∈ wU := wU_mem (List.mem_append_right _ (List.mem_of_getElem? (l := tables_1) (i := 879) (by decide +kernel))) (by decide +kernel)
theorem ml_X11_328 : Cond.methodLink RX11 328 yX3_fit ∈ wU := wU_mem (List.mem_append_right _ (List.mem_of_getElem? (l := tables_1) (i := 887) (by decide +kernel))) (by decide +kernel)
theorem ml_X11_332 : Cond.methodLink RX11 332 yX11_drawOnTrial ∈ wU := wU_mem (List.mem_append_right _ (List.mem_of_getElem? (l := tables_1) (i := 1086) (by decide +kernel))) (by decide +kernel)
theorem ml_X11_335 : Cond.methodLink RX11 335 yX11_changeTrial ∈ wU := wU_mem (List.mem_append_right _ (List.mem_of_getElem? (l := tables_1) (i := 1097) (by decide +kernel))) (by decide +kernel)
theorem ml_X11_339 : Cond.methodLink RX11 339 yX1_takeLatest ∈ wU := wU_mem (List.mem_append_right _ (List.mem_of_getElem? (l := tables_1) (i := 1105) (by decide +kernel))) (by decide +kernel)
theorem ml_X11_342 : Cond.methodLink RX11 342 yX9_copyOf ∈ wU := wU_mem (List.mem_append_right _ (List.mem_of_getElem? (l := tables_1) (i := 1113) (by decide +kernel))) (by decide +kernel)
theorem ml_X11_350 : Cond.methodLink RX11 350 yX11_sumOfBoxes ∈ wU := wU_mem (List.mem_append_right _ (List.mem_of_getElem? (l := tables_1) (i := 1125) (by decide +kernel))) (by decide +kernel)
theorem ml_X11_356 : Cond.methodLink RX11 356 yX3_firstKnown ∈ wU := wU_mem (List.mem_append_right _ (List.mem_of_getElem? (l := tables_1) (i := 1130) (by decide +kernel))) (by decide +kernel)
theorem ml_X11_359 : Cond.methodLink RX11 359 yJ6_bitCount_0f7a4 ∈ wU := wU_mem (List.mem_append_right _ (List.mem_of_getElem? (l := tables_1) (i := 1129) (by decide +kernel))) (by decide +kernel)
theorem ml_X11_367 : Cond.methodLink RX11 367 yX10_isDrawn ∈ wU := wU_mem (List.mem_append_right _ (List.mem_of_getElem? (l := tables_1) (i := 1090) (by decide +kernel))) (by decide +kernel)
theorem ml_X11_370 : Cond.methodLink RX11 370 yX9_nextNumber ∈ wU := wU_mem (List.mem_append_right _ (List.mem_of_getElem? (l := tables_1) (i := 1091) (by decide +kernel))) (by decide +kernel)
theorem ml_X11_373 : Cond.methodLink RX11 373 yX10_isDampBy ∈ wU := wU_mem (List.mem_append_right _ (List.mem_of_getElem? (l := tables_1) (i := 1092) (by decide +kernel))) (by decide +kernel)
theorem ml_X11_376 : Cond.methodLink RX11 376 yX2_at ∈ wU := wU_mem (List.mem_append_right _ (List.mem_of_getElem? (l := tables_1) (i := 900) (by decide +kernel))) (by decide +kernel)
theorem ml_X11_382 : Cond.methodLink RX11 382 yX11_keyIsWorth ∈ wU := wU_mem (List.mem_append_right _ (List.mem_of_getElem? (l := tables_1) (i := 1005) (by decide +kernel))) (by decide +kernel)
theorem ml_X0_53 : Cond.methodLink RX0 53 yX0_heardWith ∈ wU := wU_mem (List.mem_append_right _ (List.mem_of_getElem? (l := tables_1) (i := 707) (by decide +kernel))) (by decide +kernel)
theorem ml_X0_57 : Cond.methodLink RX0 57 yX0_misses ∈ wU := wU_mem (List.mem_append_right _ (List.mem_of_getElem? (l := tables_1) (i := 711) (by decide +kernel))) (by decide +kernel)
theorem ml_X0_66 : Cond.methodLink RX0 66 yX0_isLetGo ∈ wU := wU_mem (List.mem_append_right _ (List.mem_of_getElem? (l := tables_1) (i := 802) (by decide +kernel))) (by decide +kernel)
theorem ml_X0_70 : Cond.methodLink RX0 70 yX0_letGo ∈ wU := wU_mem (List.mem_append_right _ (List.mem_of_getElem? (l := tables_1) (i := 806) (by decide +kernel))) (by decide +kernel)
theorem ml_X0_74 : Cond.methodLink RX0 74 yX0_growFalse ∈ wU := wU_mem (List.mem_append_right _ (List.mem_of_getElem? (l := tables_1) (i := 828) (by decide +kernel))) (by decide +kernel)
theorem ml_X0_78 : Cond.methodLink RX0 78 yX5_worth ∈ wU := wU_mem (List.mem_append_right _ (List.mem_of_getElem? (l := tables_1) (i := 810) (by decide +kernel))) (by decide +kernel)
theorem ml_X0_86 : Cond.methodLink RX0 86 yX0_placesHeard ∈ wU := wU_mem (List.mem_append_right _ (List.mem_of_getElem? (l := tables_1) (i := 812) (by decide +kernel))) (by decide +kernel)
theorem ml_X0_90 : Cond.methodLink RX0 90 yX0_hold ∈ wU := wU_mem (List.mem_append_right _ (List.mem_of_getElem? (l := tables_1) (i := 816) (by decide +kernel))) (by decide +kernel)
theorem ml_X1_29 : Cond.methodLink RX1 29 yX1_dropEarliest ∈ wU := wU_mem (List.mem_append_right _ (List.mem_of_getElem? (l := tables_1) (i := 760) (by decide +kernel))) (by decide +kernel)
theorem ml_X2_25 : Cond.methodLink RX2 25 yX0_heardNow ∈ wU := wU_mem (List.mem_append_right _ (List.mem_of_getElem? (l := tables_1) (i := 854) (by decide +kernel))) (by decide +kernel)
theorem ml_X2_31 : Cond.methodLink RX2 31 yX2_at ∈ wU := wU_mem (List.mem_append_right _ (List.mem_of_getElem? (l := tables_1) (i := 863) (by decide +kernel))) (by decide +kernel)
theorem ml_X2_35 : Cond.methodLink RX2 35 yX2_sameAbove ∈ wU := wU_mem (List.mem_append_right _ (List.mem_of_getElem? (l := tables_1) (i := 859) (by decide +kernel))) (by decide +kernel)
theorem ml_X3_35 : Cond.methodLink RX3 35 yX3_add ∈ wU := wU_mem (List.mem_append_right _ (List.mem_of_getElem? (l := tables_1) (i := 1073) (by decide +kernel))) (by decide +kernel)
theorem ml_X3_39 : Cond.methodLink RX3 39 yX3_firstKnown ∈ wU := wU_mem (List.mem_append_right _ (List.mem_of_getElem? (l := tables_1) (i := 883) (by decide +kernel))) (by decide +kernel)
theorem ml_X3_43 : Cond.methodLink RX3 43 yX0_heardWith ∈ wU := wU_mem (List.mem_append_right _ (List.mem_of_getElem? (l := tables_1) (i := 891) (by decide +kernel))) (by decide +kernel)
theorem ml_X4_46 : Cond.methodLink RX4 46 yX8_isSign ∈ wU := wU_mem (List.mem_append_right _ (List.mem_of_getElem? (l := tables_1) (i := 614) (by decide +kernel))) (by decide +kernel)
theorem ml_X4_52 : Cond.methodLink RX4 52 yX4_putAbove ∈ wU := wU_mem (List.mem_append_right _ (List.mem_of_getElem? (l := tables_1) (i := 618) (by decide +kernel))) (by decide +kernel)
theorem ml_X4_62 : Cond.methodLink RX4 62 yX4_takeOperand ∈ wU := wU_mem (List.mem_append_right _ (List.mem_of_getElem? (l := tables_1) (i := 629) (by decide +kernel))) (by decide +kernel)
theorem ml_X4_66 : Cond.methodLink RX4 66 yX4_takeJoint ∈ wU := wU_mem (List.mem_append_right _ (List.mem_of_getElem? (l := tables_1) (i := 647) (by decide +kernel))) (by decide +kernel)
theorem ml_X4_69 : Cond.methodLink RX4 69 yX8_next ∈ wU := wU_mem (List.mem_append_right _ (List.mem_of_getElem? (l := tables_1) (i := 657) (by decide +kernel))) (by decide +kernel)
theorem ml_X4_72 : Cond.methodLink RX4 72 yX4_takeOpen ∈ wU := wU_mem (List.mem_append_right _ (List.mem_of_getElem? (l := tables_1) (i := 633) (by decide +kernel))) (by decide +kernel)
theorem ml_X4_76 : Cond.methodLink RX4 76 yX8_isWord ∈ wU := wU_mem (List.mem_append_right _ (List.mem_of_getElem? (l := tables_1) (i := 642) (by decide +kernel))) (by decide +kernel)
theorem ml_X4_79 : Cond.methodLink RX4 79 yX4_operandKind ∈ wU := wU_mem (List.mem_append_right _ (List.mem_of_getElem? (l := tables_1) (i := 643) (by decide +kernel))) (by decide +kernel)
theorem ml_X4_85 : Cond.methodLink RX4 85 yX4_await ∈ wU := wU_mem (List.mem_append_right _ (List.mem_of_getElem? (l := tables_1) (i := 637) (by decide +kernel))) (by decide +kernel)
theorem ml_X4_88 : Cond.methodLink RX4 88 yX5_put ∈ wU := wU_mem (List.mem_append_right _ (List.mem_of_getElem? (l := tables_1) (i := 625) (by decide +kernel))) (by decide +kernel)
theorem ml_X4_92 : Cond.methodLink RX4 92 yX4_jointKind ∈ wU := wU_mem (List.mem_append_right _ (List.mem_of_getElem? (l := tables_1) (i := 651) (by decide +kernel))) (by decide +kernel)
theorem ml_X4_95 : Cond.methodLink RX4 95 yX4_rank ∈ wU := wU_mem (List.mem_append_right _ (List.mem_of_getElem? (l := tables_1) (i := 622) (by decide +kernel))) (by decide +kernel)
theorem ml_X5_32 : Cond.methodLink RX5 32 yX5_nameOf ∈ wU := wU_mem (List.mem_append_right _ (List.mem_of_getElem? (l := tables_1) (i := 731) (by decide +kernel))) (by decide +kernel)
theorem ml_X5_36 : Cond.methodLink RX5 36 yX5_truth ∈ wU := wU_mem (List.mem_append_right _ (List.mem_of_getElem? (l := tables_1) (i := 740) (by decide +kernel))) (by decide +kernel)
theorem ml_X5_40 : Cond.methodLink RX5 40 yX5_sign ∈ wU := wU_mem (List.mem_append_right _ (List.mem_of_getElem? (l := tables_1) (i := 743) (by decide +kernel))) (by decide +kernel)
theorem ml_X5_67 : Cond.methodLink RX5 67 yJ6_bitCount_0f7a4 ∈ wU := wU_mem (List.mem_append_right _ (List.mem_of_getElem? (l := tables_1) (i := 734) (by decide +kernel))) (by decide +kernel)
theorem ml_X5_76 : Cond.methodLink RX5 76 yX5_product ∈ wU := wU_mem (List.mem_append_right _ (List.mem_of_getElem? (l := tables_1) (i := 746) (by decide +kernel))) (by decide +kernel)
theorem ml_X6_25 : Cond.methodLink RX6 25 yX2_overlap ∈ wU := wU_mem (List.mem_append_right _ (List.mem_of_getElem? (l := tables_1) (i := 913) (by decide +kernel))) (by decide +kernel)
theorem ml_X6_31 : Cond.methodLink RX6 31 yX6_shortestFrom ∈ wU := wU_mem (List.mem_append_right _ (List.mem_of_getElem? (l := tables_1) (i := 917) (by decide +kernel))) (by decide +kernel)
theorem ml_X6_34 : Cond.methodLink RX6 34 yX6_shortestOf ∈ wU := wU_mem (List.mem_append_right _ (List.mem_of_getElem? (l := tables_1) (i := 921) (by decide +kernel))) (by decide +kernel)
theorem ml_X6_37 : Cond.methodLink RX6 37 yX6_shortestNext ∈ wU := wU_mem (List.mem_append_right _ (List.mem_of_getElem? (l := tables_1) (i := 925) (by decide +kernel))) (by decide +kernel)
theorem ml_X6_40 : Cond.methodLink RX6 40 yX6_lengthBy ∈ wU := wU_mem (List.mem_append_right _ (List.mem_of_getElem? (l := tables_1) (i := 929) (by decide +kernel))) (by decide +kernel)
theorem ml_X6_58 : Cond.methodLink RX6 58 yX6_longestNext ∈ wU := wU_mem (List.mem_append_right _ (List.mem_of_getElem? (l := tables_1) (i := 1033) (by decide +kernel))) (by decide +kernel)
theorem ml_X7_35 : Cond.methodLink RX7 35 yX10_clear ∈ wU := wU_mem (List.mem_append_right _ (List.mem_of_getElem? (l := tables_1) (i := 475) (by decide +kernel))) (by decide +kernel)
theorem ml_X7_40 : Cond.methodLink RX7 40 yX8_begin ∈ wU := wU_mem (List.mem_append_right _ (List.mem_of_getElem? (l := tables_1) (i := 483) (by decide +kernel))) (by decide +kernel)
theorem ml_X7_49 : Cond.methodLink RX7 49 yX7_readLine ∈ wU := wU_mem (List.mem_append_right _ (List.mem_of_getElem? (l := tables_1) (i := 516) (by decide +kernel))) (by decide +kernel)
theorem ml_X7_58 : Cond.methodLink RX7 58 yX7_fail ∈ wU := wU_mem (List.mem_append_right _ (List.mem_of_getElem? (l := tables_1) (i := 528) (by decide +kernel))) (by decide +kernel)
theorem ml_X7_61 : Cond.methodLink RX7 61 yX8_next ∈ wU := wU_mem (List.mem_append_right _ (List.mem_of_getElem? (l := tables_1) (i := 536) (by decide +kernel))) (by decide +kernel)
theorem ml_X7_67 : Cond.methodLink RX7 67 yX7_readBox ∈ wU := wU_mem (List.mem_append_right _ (List.mem_of_getElem? (l := tables_1) (i := 520) (by decide +kernel))) (by decide +kernel)
theorem ml_X7_70 : Cond.methodLink RX7 70 yX7_readTooth ∈ wU := wU_mem (List.mem_append_right _ (List.mem_of_getElem? (l := tables_1) (i := 558) (by decide +kernel))) (by decide +kernel)
theorem ml_X7_73 : Cond.methodLink RX7 73 yX7_readKin ∈ wU := wU_mem (List.mem_append_right _ (List.mem_of_getElem? (l := tables_1) (i := 570) (by decide +kernel))) (by decide +kernel)
theorem ml_X7_76 : Cond.methodLink RX7 76 yX7_readGuest ∈ wU := wU_mem (List.mem_append_right _ (List.mem_of_getElem? (l := tables_1) (i := 578) (by decide +kernel))) (by decide +kernel)
theorem ml_X7_79 : Cond.methodLink RX7 79 yX7_readDamp ∈ wU := wU_mem (List.mem_append_right _ (List.mem_of_getElem? (l := tables_1) (i := 586) (by decide +kernel))) (by decide +kernel)
theorem ml_X7_82 : Cond.methodLink RX7 82 yX7_readSeed ∈ wU := wU_mem (List.mem_append_right _ (List.mem_of_getElem? (l := tables_1) (i := 590) (by decide +kernel))) (by decide +kernel)
theorem ml_X7_85 : Cond.methodLink RX7 85 yX7_readLaw ∈ wU := wU_mem (List.mem_append_right _ (List.mem_of_getElem? (l := tables_1) (i := 595) (by decide +kernel))) (by decide +kernel)
theorem ml_X7_88 : Cond.methodLink RX7 88 yX8_isSign ∈ wU := wU_mem (List.mem_append_right _ (List.mem_of_getElem? (l := tables_1) (i := 658) (by decide +kernel))) (by decide +kernel)
theorem ml_X7_92 : Cond.methodLink RX7 92 yX7_check ∈ wU := wU_mem (List.mem_append_right _ (List.mem_of_getElem? (l := tables_1) (i := 524) (by decide +kernel))) (by decide +kernel)
theorem ml_X7_96 : Cond.methodLink RX7 96 yX7_step ∈ wU := wU_mem (List.mem_append_right _ (List.mem_of_getElem? (l := tables_1) (i := 532) (by decide +kernel))) (by decide +kernel)
theorem ml_X7_102 : Cond.methodLink RX7 102 yX7_takeName ∈ wU := wU_mem (List.mem_append_right _ (List.mem_of_getElem? (l := tables_1) (i := 537) (by decide +kernel))) (by decide +kernel)
theorem ml_X7_106 : Cond.methodLink RX7 106 yX10_boxNamed ∈ wU := wU_mem (List.mem_append_right _ (List.mem_of_getElem? (l := tables_1) (i := 546) (by decide +kernel))) (by decide +kernel)
theorem ml_X7_119 : Cond.methodLink RX7 119 yX7_takeNumber ∈ wU := wU_mem (List.mem_append_right _ (List.mem_of_getElem? (l := tables_1) (i := 550) (by decide +kernel))) (by decide +kernel)
theorem ml_X7_145 : Cond.methodLink RX7 145 yX7_takeBox ∈ wU := wU_mem (List.mem_append_right _ (List.mem_of_getElem? (l := tables_1) (i := 562) (by decide +kernel))) (by decide +kernel)
theorem ml_X7_148 : Cond.methodLink RX7 148 yX7_checkNumber ∈ wU := wU_mem (List.mem_append_right _ (List.mem_of_getElem? (l := tables_1) (i := 554) (by decide +kernel))) (by decide +kernel)
theorem ml_X7_152 : Cond.methodLink RX7 152 yX0_misses ∈ wU := wU_mem (List.mem_append_right _ (List.mem_of_getElem? (l := tables_1) (i := 566) (by decide +kernel))) (by decide +kernel)
theorem ml_X7_158 : Cond.methodLink RX7 158 yX0_isKinOf ∈ wU := wU_mem (List.mem_append_right _ (List.mem_of_getElem? (l := tables_1) (i := 574) (by decide +kernel))) (by decide +kernel)
theorem ml_X7_164 : Cond.methodLink RX7 164 yX10_guestNamed ∈ wU := wU_mem (List.mem_append_right _ (List.mem_of_getElem? (l := tables_1) (i := 582) (by decide +kernel))) (by decide +kernel)
theorem ml_X7_191 : Cond.methodLink RX7 191 yX8_isWord ∈ wU := wU_mem (List.mem_append_right _ (List.mem_of_getElem? (l := tables_1) (i := 600) (by decide +kernel))) (by decide +kernel)
theorem ml_X7_200 : Cond.methodLink RX7 200 yX5_isTold ∈ wU := wU_mem (List.mem_append_right _ (List.mem_of_getElem? (l := tables_1) (i := 606) (by decide +kernel))) (by decide +kernel)
theorem ml_X7_205 : Cond.methodLink RX7 205 yX4_readInto ∈ wU := wU_mem (List.mem_append_right _ (List.mem_of_getElem? (l := tables_1) (i := 610) (by decide +kernel))) (by decide +kernel)
theorem ml_X7_209 : Cond.methodLink RX7 209 yX7_isOfLanguage ∈ wU := wU_mem (List.mem_append_right _ (List.mem_of_getElem? (l := tables_1) (i := 541) (by decide +kernel))) (by decide +kernel)
theorem ml_X8_31 : Cond.methodLink RX8 31 yX8_next ∈ wU := wU_mem (List.mem_append_right _ (List.mem_of_getElem? (l := tables_1) (i := 490) (by decide +kernel))) (by decide +kernel)
theorem ml_X8_43 : Cond.methodLink RX8 43 yX8_isLetter ∈ wU := wU_mem (List.mem_append_right _ (List.mem_of_getElem? (l := tables_1) (i := 494) (by decide +kernel))) (by decide +kernel)
theorem ml_X8_47 : Cond.methodLink RX8 47 yX8_takeWord ∈ wU := wU_mem (List.mem_append_right _ (List.mem_of_getElem? (l := tables_1) (i := 497) (by decide +kernel))) (by decide +kernel)
theorem ml_X8_50 : Cond.methodLink RX8 50 yX8_isDigit ∈ wU := wU_mem (List.mem_append_right _ (List.mem_of_getElem? (l := tables_1) (i := 501) (by decide +kernel))) (by decide +kernel)
theorem ml_X8_53 : Cond.methodLink RX8 53 yX8_takeDigits ∈ wU := wU_mem (List.mem_append_right _ (List.mem_of_getElem? (l := tables_1) (i := 504) (by decide +kernel))) (by decide +kernel)
theorem ml_X8_56 : Cond.methodLink RX8 56 yX8_takeSign ∈ wU := wU_mem (List.mem_append_right _ (List.mem_of_getElem? (l := tables_1) (i := 509) (by decide +kernel))) (by decide +kernel)
theorem ml_X8_60 : Cond.methodLink RX8 60 yX8_signOf ∈ wU := wU_mem (List.mem_append_right _ (List.mem_of_getElem? (l := tables_1) (i := 513) (by decide +kernel))) (by decide +kernel)
theorem ml_X9_26 : Cond.methodLink RX9 26 yX0_copyOf ∈ wU := wU_mem (List.mem_append_right _ (List.mem_of_getElem? (l := tables_1) (i := 663) (by decide +kernel))) (by decide +kernel)
theorem ml_X9_42 : Cond.methodLink RX9 42 yX10_isDrawn ∈ wU := wU_mem (List.mem_append_right _ (List.mem_of_getElem? (l := tables_1) (i := 782) (by decide +kernel))) (by decide +kernel)
theorem ml_X9_46 : Cond.methodLink RX9 46 yX9_nextNumber ∈ wU := wU_mem (List.mem_append_right _ (List.mem_of_getElem? (l := tables_1) (i := 786) (by decide +kernel))) (by decide +kernel)
theorem ml_X9_50 : Cond.methodLink RX9 50 yX10_isDampBy ∈ wU := wU_mem (List.mem_append_right _ (List.mem_of_getElem? (l := tables_1) (i := 792) (by decide +kernel))) (by decide +kernel)
theorem ml_X9_58 : Cond.methodLink RX9 58 yX0_goOneYear ∈ wU := wU_mem (List.mem_append_right _ (List.mem_of_getElem? (l := tables_1) (i := 798) (by decide +kernel))) (by decide +kernel)
theorem ml_X10_35 : Cond.methodLink RX10 35 yX5_clear ∈ wU := wU_mem (List.mem_append_right _ (List.mem_of_getElem? (l := tables_1) (i := 479) (by decide +kernel))) (by decide +kernel)
theorem ml_X10_70 : Cond.methodLink RX10 70 yX10_isDrawn ∈ wU := wU_mem (List.mem_append_right _ (List.mem_of_getElem? (l := tables_1) (i := 796) (by decide +kernel))) (by decide +kernel)
theorem ml_X12_133 : Cond.methodLink RX12 133 yX12_plain ∈ wU := wU_mem (List.mem_append_right _ (List.mem_of_getElem? (l := tables_1) (i := 1228) (by decide +kernel))) (by decide +kernel)
theorem ml_X12_136 : Cond.methodLink RX12 136 yX12_keepText ∈ wU := wU_mem (List.mem_append_right _ (List.mem_of_getElem? (l := tables_1) (i := 1232) (by decide +kernel))) (by decide +kernel)
theorem ml_X12_160 : Cond.methodLink RX12 160 yX12_isSmall ∈ wU := wU_mem (List.mem_append_right _ (List.mem_of_getElem? (l := tables_1) (i := 1489) (by decide +kernel))) (by decide +kernel)
theorem ml_X12_164 : Cond.methodLink RX12 164 yX12_wordAt ∈ wU := wU_mem (List.mem_append_right _ (List.mem_of_getElem? (l := tables_1) (i := 1493) (by decide +kernel))) (by decide +kernel)
theorem ml_X12_171 : Cond.methodLink RX12 171 yX12_packed ∈ wU := wU_mem (List.mem_append_right _ (List.mem_of_getElem? (l := tables_1) (i := 1497) (by decide +kernel))) (by decide +kernel)
theorem ml_X12_174 : Cond.methodLink RX12 174 yX12_isDigit ∈ wU := wU_mem (List.mem_append_right _ (List.mem_of_getElem? (l := tables_1) (i := 1501) (by decide +kernel))) (by decide +kernel)
theorem ml_X12_178 : Cond.methodLink RX12 178 yX12_signToken ∈ wU := wU_mem (List.mem_append_right _ (List.mem_of_getElem? (l := tables_1) (i := 1506) (by decide +kernel))) (by decide +kernel)
theorem ml_X12_181 : Cond.methodLink RX12 181 yX12_wrong ∈ wU := wU_mem (List.mem_append_right _ (List.mem_of_getElem? (l := tables_1) (i := 1514) (by decide +kernel))) (by decide +kernel)
theorem ml_X12_184 : Cond.methodLink RX12 184 yX12_isIn ∈ wU := wU_mem (List.mem_append_right _ (List.mem_of_getElem? (l := tables_1) (i := 1533) (by decide +kernel))) (by decide +kernel)
theorem ml_X12_191 : Cond.methodLink RX12 191 yX12_token ∈ wU := wU_mem (List.mem_append_right _ (List.mem_of_getElem? (l := tables_1) (i := 1485) (by decide +kernel))) (by decide +kernel)
theorem ml_X12_194 : Cond.methodLink RX12 194 yX12_isSign ∈ wU := wU_mem (List.mem_append_right _ (List.mem_of_getElem? (l := tables_1) (i := 1563) (by decide +kernel))) (by decide +kernel)
theorem ml_X12_197 : Cond.methodLink RX12 197 yX12_number ∈ wU := wU_mem (List.mem_append_right _ (List.mem_of_getElem? (l := tables_1) (i := 1529) (by decide +kernel))) (by decide +kernel)
theorem ml_X12_231 : Cond.methodLink RX12 231 yX12_copies ∈ wU := wU_mem (List.mem_append_right _ (List.mem_of_getElem? (l := tables_1) (i := 1236) (by decide +kernel))) (by decide +kernel)
theorem ml_X12_235 : Cond.methodLink RX12 235 yX12_begin ∈ wU := wU_mem (List.mem_append_right _ (List.mem_of_getElem? (l := tables_1) (i := 1239) (by decide +kernel))) (by decide +kernel)
theorem ml_X12_238 : Cond.methodLink RX12 238 yX12_seek ∈ wU := wU_mem (List.mem_append_right _ (List.mem_of_getElem? (l := tables_1) (i := 1526) (by decide +kernel))) (by decide +kernel)
theorem ml_X12_242 : Cond.methodLink RX12 242 yX12_newName ∈ wU := wU_mem (List.mem_append_right _ (List.mem_of_getElem? (l := tables_1) (i := 1522) (by decide +kernel))) (by decide +kernel)
theorem ml_X12_246 : Cond.methodLink RX12 246 yX12_boxThere ∈ wU := wU_mem (List.mem_append_right _ (List.mem_of_getElem? (l := tables_1) (i := 1540) (by decide +kernel))) (by decide +kernel)
theorem ml_X12_250 : Cond.methodLink RX12 250 yX12_isOf ∈ wU := wU_mem (List.mem_append_right _ (List.mem_of_getElem? (l := tables_1) (i := 1544) (by decide +kernel))) (by decide +kernel)
theorem ml_X12_253 : Cond.methodLink RX12 253 yX12_boxLine ∈ wU := wU_mem (List.mem_append_right _ (List.mem_of_getElem? (l := tables_1) (i := 1518) (by decide +kernel))) (by decide +kernel)
theorem ml_X12_256 : Cond.methodLink RX12 256 yX12_toothLine ∈ wU := wU_mem (List.mem_append_right _ (List.mem_of_getElem? (l := tables_1) (i := 1536) (by decide +kernel))) (by decide +kernel)
theorem ml_X12_259 : Cond.methodLink RX12 259 yX12_kinLine ∈ wU := wU_mem (List.mem_append_right _ (List.mem_of_getElem? (l := tables_1) (i := 1547) (by decide +kernel))) (by decide +kernel)
theorem ml_X12_262 : Cond.methodLink RX12 262 yX12_guestLine ∈ wU := wU_mem (List.mem_append_right _ (List.mem_of_getElem? (l := tables_1) (i := 1551) (by decide +kernel))) (by decide +kernel)
theorem ml_X12_265 : Cond.methodLink RX12 265 yX12_onceLine ∈ wU := wU_mem (List.mem_append_right _ (List.mem_of_getElem? (l := tables_1) (i := 1555) (by decide +kernel))) (by decide +kernel)
theorem ml_X12_268 : Cond.methodLink RX12 268 yX12_sumRead ∈ wU := wU_mem (List.mem_append_right _ (List.mem_of_getElem? (l := tables_1) (i := 1559) (by decide +kernel))) (by decide +kernel)
theorem ml_X12_271 : Cond.methodLink RX12 271 yX12_lineRead ∈ wU := wU_mem (List.mem_append_right _ (List.mem_of_getElem? (l := tables_1) (i := 1510) (by decide +kernel))) (by decide +kernel)
theorem ml_X12_280 : Cond.methodLink RX12 280 yX12_rank ∈ wU := wU_mem (List.mem_append_right _ (List.mem_of_getElem? (l := tables_1) (i := 1599) (by decide +kernel))) (by decide +kernel)
theorem ml_X12_284 : Cond.methodLink RX12 284 yX12_dropHeld ∈ wU := wU_mem (List.mem_append_right _ (List.mem_of_getElem? (l := tables_1) (i := 1602) (by decide +kernel))) (by decide +kernel)
theorem ml_X12_288 : Cond.methodLink RX12 288 yX12_grown ∈ wU := wU_mem (List.mem_append_right _ (List.mem_of_getElem? (l := tables_1) (i := 1587) (by decide +kernel))) (by decide +kernel)
theorem ml_X12_295 : Cond.methodLink RX12 295 yX12_waitsFor ∈ wU := wU_mem (List.mem_append_right _ (List.mem_of_getElem? (l := tables_1) (i := 1571) (by decide +kernel))) (by decide +kernel)
theorem ml_X12_303 : Cond.methodLink RX12 303 yX12_isKey ∈ wU := wU_mem (List.mem_append_right _ (List.mem_of_getElem? (l := tables_1) (i := 1575) (by decide +kernel))) (by decide +kernel)
theorem ml_X12_306 : Cond.methodLink RX12 306 yX12_isCounted ∈ wU := wU_mem (List.mem_append_right _ (List.mem_of_getElem? (l := tables_1) (i := 1579) (by decide +kernel))) (by decide +kernel)
theorem ml_X12_309 : Cond.methodLink RX12 309 yX12_nameMet ∈ wU := wU_mem (List.mem_append_right _ (List.mem_of_getElem? (l := tables_1) (i := 1583) (by decide +kernel))) (by decide +kernel)
theorem ml_X12_315 : Cond.methodLink RX12 315 yX12_bind ∈ wU := wU_mem (List.mem_append_right _ (List.mem_of_getElem? (l := tables_1) (i := 1595) (by decide +kernel))) (by decide +kernel)
theorem ml_X12_318 : Cond.methodLink RX12 318 yX12_leafRead ∈ wU := wU_mem (List.mem_append_right _ (List.mem_of_getElem? (l := tables_1) (i := 1567) (by decide +kernel))) (by decide +kernel)
theorem ml_X12_321 : Cond.methodLink RX12 321 yX12_signs ∈ wU := wU_mem (List.mem_append_right _ (List.mem_of_getElem? (l := tables_1) (i := 1591) (by decide +kernel))) (by decide +kernel)
theorem ml_X12_331 : Cond.methodLink RX12 331 yX12_bounded ∈ wU := wU_mem (List.mem_append_right _ (List.mem_of_getElem? (l := tables_1) (i := 1684) (by decide +kernel))) (by decide +kernel)
theorem ml_X12_335 : Cond.methodLink RX12 335 yX12_times ∈ wU := wU_mem (List.mem_append_right _ (List.mem_of_getElem? (l := tables_1) (i := 1690) (by decide +kernel))) (by decide +kernel)
theorem ml_X12_339 : Cond.methodLink RX12 339 yX12_compares ∈ wU := wU_mem (List.mem_append_right _ (List.mem_of_getElem? (l := tables_1) (i := 1694) (by decide +kernel))) (by decide +kernel)
theorem ml_X12_347 : Cond.methodLink RX12 347 yX12_plainTried ∈ wU := wU_mem (List.mem_append_right _ (List.mem_of_getElem? (l := tables_1) (i := 1243) (by decide +kernel))) (by decide +kernel)
theorem ml_X12_374 : Cond.methodLink RX12 374 yX12_lacksOf ∈ wU := wU_mem (List.mem_append_right _ (List.mem_of_getElem? (l := tables_1) (i := 1641) (by decide +kernel))) (by decide +kernel)
theorem ml_X12_377 : Cond.methodLink RX12 377 yX12_heardBy ∈ wU := wU_mem (List.mem_append_right _ (List.mem_of_getElem? (l := tables_1) (i := 1645) (by decide +kernel))) (by decide +kernel)
theorem ml_X12_381 : Cond.methodLink RX12 381 yX12_heardIn ∈ wU := wU_mem (List.mem_append_right _ (List.mem_of_getElem? (l := tables_1) (i := 1637) (by decide +kernel))) (by decide +kernel)
theorem ml_X12_384 : Cond.methodLink RX12 384 yX12_pinsOf ∈ wU := wU_mem (List.mem_append_right _ (List.mem_of_getElem? (l := tables_1) (i := 1669) (by decide +kernel))) (by decide +kernel)
theorem ml_X12_387 : Cond.methodLink RX12 387 yX12_manyOf ∈ wU := wU_mem (List.mem_append_right _ (List.mem_of_getElem? (l := tables_1) (i := 1673) (by decide +kernel))) (by decide +kernel)
theorem ml_X12_390 : Cond.methodLink RX12 390 yX12_valueOf ∈ wU := wU_mem (List.mem_append_right _ (List.mem_of_getElem? (l := tables_1) (i := 1680) (by decide +kernel))) (by decide +kernel)
theorem ml_X12_394 : Cond.methodLink RX12 394 yX12_lawOf ∈ wU := wU_mem (List.mem_append_right _ (List.mem_of_getElem? (l := tables_1) (i := 1676) (by decide +kernel))) (by decide +kernel)
theorem ml_X12_397 : Cond.methodLink RX12 397 yX12_layNames ∈ wU := wU_mem (List.mem_append_right _ (List.mem_of_getElem? (l := tables_1) (i := 1665) (by decide +kernel))) (by decide +kernel)
theorem ml_X12_401 : Cond.methodLink RX12 401 yX12_heardMany ∈ wU := wU_mem (List.mem_append_right _ (List.mem_of_getElem? (l := tables_1) (i := 1740) (by decide +kernel))) (by decide +kernel)
theorem ml_X12_404 : Cond.methodLink RX12 404 yX12_boundLaw ∈ wU := wU_mem (List.mem_append_right _ (List.mem_of_getElem? (l := tables_1) (i := 1744) (by decide +kernel))) (by decide +kernel)
theorem ml_X12_415 : Cond.methodLink RX12 415 yX12_number1 ∈ wU := wU_mem (List.mem_append_right _ (List.mem_of_getElem? (l := tables_1) (i := 1752) (by decide +kernel))) (by decide +kernel)
theorem ml_X12_418 : Cond.methodLink RX12 418 yX12_charmOf ∈ wU := wU_mem (List.mem_append_right _ (List.mem_of_getElem? (l := tables_1) (i := 1736) (by decide +kernel))) (by decide +kernel)
theorem ml_X12_421 : Cond.methodLink RX12 421 yX12_goes ∈ wU := wU_mem (List.mem_append_right _ (List.mem_of_getElem? (l := tables_1) (i := 1728) (by decide +kernel))) (by decide +kernel)
theorem ml_X12_424 : Cond.methodLink RX12 424 yX12_letGo ∈ wU := wU_mem (List.mem_append_right _ (List.mem_of_getElem? (l := tables_1) (i := 1732) (by decide +kernel))) (by decide +kernel)
theorem ml_X12_427 : Cond.methodLink RX12 427 yX12_isDamp ∈ wU := wU_mem (List.mem_append_right _ (List.mem_of_getElem? (l := tables_1) (i := 1748) (by decide +kernel))) (by decide +kernel)
theorem ml_X12_430 : Cond.methodLink RX12 430 yX12_yearGoes ∈ wU := wU_mem (List.mem_append_right _ (List.mem_of_getElem? (l := tables_1) (i := 1724) (by decide +kernel))) (by decide +kernel)
theorem ml_X12_433 : Cond.methodLink RX12 433 yX12_isBox ∈ wU := wU_mem (List.mem_append_right _ (List.mem_of_getElem? (l := tables_1) (i := 1618) (by decide +kernel))) (by decide +kernel)
theorem ml_X12_436 : Cond.methodLink RX12 436 yX12_fails ∈ wU := wU_mem (List.mem_append_right _ (List.mem_of_getElem? (l := tables_1) (i := 1622) (by decide +kernel))) (by decide +kernel)
theorem ml_X12_439 : Cond.methodLink RX12 439 yX12_isPlace ∈ wU := wU_mem (List.mem_append_right _ (List.mem_of_getElem? (l := tables_1) (i := 1630) (by decide +kernel))) (by decide +kernel)
theorem ml_X12_442 : Cond.methodLink RX12 442 yX12_isGuest ∈ wU := wU_mem (List.mem_append_right _ (List.mem_of_getElem? (l := tables_1) (i := 1652) (by decide +kernel))) (by decide +kernel)
theorem ml_X12_447 : Cond.methodLink RX12 447 yX12_remember ∈ wU := wU_mem (List.mem_append_right _ (List.mem_of_getElem? (l := tables_1) (i := 1701) (by decide +kernel))) (by decide +kernel)
theorem ml_X12_450 : Cond.methodLink RX12 450 yX12_isTooth ∈ wU := wU_mem (List.mem_append_right _ (List.mem_of_getElem? (l := tables_1) (i := 1717) (by decide +kernel))) (by decide +kernel)
theorem ml_X12_453 : Cond.methodLink RX12 453 yX12_layTried ∈ wU := wU_mem (List.mem_append_right _ (List.mem_of_getElem? (l := tables_1) (i := 1764) (by decide +kernel))) (by decide +kernel)
theorem ml_X12_456 : Cond.methodLink RX12 456 yX12_goMany ∈ wU := wU_mem (List.mem_append_right _ (List.mem_of_getElem? (l := tables_1) (i := 1768) (by decide +kernel))) (by decide +kernel)
theorem ml_X12_459 : Cond.methodLink RX12 459 yX12_alikeBy ∈ wU := wU_mem (List.mem_append_right _ (List.mem_of_getElem? (l := tables_1) (i := 1776) (by decide +kernel))) (by decide +kernel)
theorem ml_X12_462 : Cond.methodLink RX12 462 yX12_powerOf ∈ wU := wU_mem (List.mem_append_right _ (List.mem_of_getElem? (l := tables_1) (i := 1796) (by decide +kernel))) (by decide +kernel)
theorem ml_X12_465 : Cond.methodLink RX12 465 yX12_overlap ∈ wU := wU_mem (List.mem_append_right _ (List.mem_of_getElem? (l := tables_1) (i := 1792) (by decide +kernel))) (by decide +kernel)
theorem ml_X12_468 : Cond.methodLink RX12 468 yX12_rowLong ∈ wU := wU_mem (List.mem_append_right _ (List.mem_of_getElem? (l := tables_1) (i := 1799) (by decide +kernel))) (by decide +kernel)
theorem ml_X12_471 : Cond.methodLink RX12 471 yX12_farOf ∈ wU := wU_mem (List.mem_append_right _ (List.mem_of_getElem? (l := tables_1) (i := 1815) (by decide +kernel))) (by decide +kernel)
theorem ml_X12_474 : Cond.methodLink RX12 474 yX12_isLine ∈ wU := wU_mem (List.mem_append_right _ (List.mem_of_getElem? (l := tables_1) (i := 1827) (by decide +kernel))) (by decide +kernel)
theorem ml_X12_477 : Cond.methodLink RX12 477 yX12_winds ∈ wU := wU_mem (List.mem_append_right _ (List.mem_of_getElem? (l := tables_1) (i := 1859) (by decide +kernel))) (by decide +kernel)
theorem ml_X12_480 : Cond.methodLink RX12 480 yX12_laughsAll ∈ wU := wU_mem (List.mem_append_right _ (List.mem_of_getElem? (l := tables_1) (i := 1863) (by decide +kernel))) (by decide +kernel)
theorem ml_X12_483 : Cond.methodLink RX12 483 yX12_hasBy ∈ wU := wU_mem (List.mem_append_right _ (List.mem_of_getElem? (l := tables_1) (i := 1882) (by decide +kernel))) (by decide +kernel)
theorem ml_X12_486 : Cond.methodLink RX12 486 yX12_laughsNow ∈ wU := wU_mem (List.mem_append_right _ (List.mem_of_getElem? (l := tables_1) (i := 1875) (by decide +kernel))) (by decide +kernel)
theorem ml_X12_489 : Cond.methodLink RX12 489 yX12_restAt ∈ wU := wU_mem (List.mem_append_right _ (List.mem_of_getElem? (l := tables_1) (i := 1879) (by decide +kernel))) (by decide +kernel)
theorem ml_X12_492 : Cond.methodLink RX12 492 yX12_noted ∈ wU := wU_mem (List.mem_append_right _ (List.mem_of_getElem? (l := tables_1) (i := 1893) (by decide +kernel))) (by decide +kernel)
theorem ml_X12_495 : Cond.methodLink RX12 495 yX12_knownBy ∈ wU := wU_mem (List.mem_append_right _ (List.mem_of_getElem? (l := tables_1) (i := 1913) (by decide +kernel))) (by decide +kernel)
theorem ml_X12_498 : Cond.methodLink RX12 498 yX12_layCounts ∈ wU := wU_mem (List.mem_append_right _ (List.mem_of_getElem? (l := tables_1) (i := 1909) (by decide +kernel))) (by decide +kernel)
theorem ml_X12_501 : Cond.methodLink RX12 501 yX12_fits ∈ wU := wU_mem (List.mem_append_right _ (List.mem_of_getElem? (l := tables_1) (i := 1917) (by decide +kernel))) (by decide +kernel)
theorem ml_X12_504 : Cond.methodLink RX12 504 yX12_whose ∈ wU := wU_mem (List.mem_append_right _ (List.mem_of_getElem? (l := tables_1) (i := 1925) (by decide +kernel))) (by decide +kernel)
theorem ml_X12_507 : Cond.methodLink RX12 507 yX12_worstAt ∈ wU := wU_mem (List.mem_append_right _ (List.mem_of_getElem? (l := tables_1) (i := 1926) (by decide +kernel))) (by decide +kernel)
theorem ml_X12_510 : Cond.methodLink RX12 510 yX12_put ∈ wU := wU_mem (List.mem_append_right _ (List.mem_of_getElem? (l := tables_1) (i := 1705) (by decide +kernel))) (by decide +kernel)
theorem ml_X12_513 : Cond.methodLink RX12 513 yX12_take ∈ wU := wU_mem (List.mem_append_right _ (List.mem_of_getElem? (l := tables_1) (i := 1946) (by decide +kernel))) (by decide +kernel)
theorem in_X11 : Cond.initialized RX11 ∈ wU := wU_mem (List.mem_append_right _ (List.mem_of_getElem? (l := tables_1) (i := 1) (by decide +kernel))) (by decide +kernel)
theorem cd_f11_areBoxes : Cond.code yX11_areBoxes cX11_areBoxes 2 (some .boolean) ∈ wU := wU_mem (List.mem_append_right _ (List.mem_of_getElem? (l := tables_1) (i := 908) (by decide +kernel))) (by decide +kernel)
theorem im_f11_areBoxes : Cond.instanceMethod yX11_areBoxes ∈ wU := wU_mem (List.mem_append_right _ (List.mem_of_getElem? (l := tables_1) (i := 907) (by decide +kernel))) (by decide +kernel)
theorem se_f11_areBoxes : Cond.selects RX11 yX11_areBoxes yX11_areBoxes ∈ wU := wU_mem (List.mem_append_left _ (List.mem_of_getElem? (l := k2_sels lw_privs) (i := 5) (by decide +kernel))) (by decide +kernel)
theorem yv_f11_areBoxes : Yv yX11_areBoxes RX11 11 cX11_areBoxes 2 (some .boolean) 1 := ⟨im_f11_areBoxes, se_f11_areBoxes, in_X11, cd_f11_areBoxes, by decide +kernel, Nat.le_of_ble_eq_true rfl, _, rfl, rfl⟩
theorem cd_f11_boxesThatFit : Cond.code yX11_boxesThatFit cX11_boxesThatFit 3 (some .int) ∈ wU := wU_mem (List.mem_append_right _ (List.mem_of_getElem? (l := tables_1) (i := 878) (by decide +kernel))) (by decide +kernel)
theorem im_f11_boxesThatFit : Cond.instanceMethod yX11_boxesThatFit ∈ wU := wU_mem (List.mem_append_right _ (List.mem_of_getElem? (l := tables_1) (i := 877) (by decide +kernel))) (by decide +kernel)
theorem se_f11_boxesThatFit : Cond.selects RX11 yX11_boxesThatFit yX11_boxesThatFit ∈ wU := wU_mem (List.mem_append_left _ (List.mem_of_getElem? (l := k2_sels lw_privs) (i := 3) (by decide +kernel))) (by decide +kernel)
theorem yv_f11_boxesThatFit : Yv yX11_boxesThatFit RX11 11 cX11_boxesThatFit 3 (some .int) 0 := ⟨im_f11_boxesThatFit, se_f11_boxesThatFit, in_X11, cd_f11_boxesThatFit, by decide +kernel, Nat.le_of_ble_eq_true rfl, _, rfl, rfl⟩
theorem cd_f11_changeTrial : Cond.code yX11_changeTrial cX11_changeTrial 2 none ∈ wU := wU_mem (List.mem_append_right _ (List.mem_of_getElem? (l := tables_1) (i := 1100) (by decide +kernel))) (by decide +kernel)
theorem im_f11_changeTrial : Cond.instanceMethod yX11_changeTrial ∈ wU := wU_mem (List.mem_append_right _ (List.mem_of_getElem? (l := tables_1) (i := 1099) (by decide +kernel))) (by decide +kernel)
theorem se_f11_changeTrial : Cond.selects RX11 yX11_changeTrial yX11_changeTrial ∈ wU := wU_mem (List.mem_append_left _ (List.mem_of_getElem? (l := k2_sels lw_privs) (i := 15) (by decide +kernel))) (by decide +kernel)
theorem yv_f11_changeTrial : Yv yX11_changeTrial RX11 11 cX11_changeTrial 2 none 1 := ⟨im_f11_changeTrial, se_f11_changeTrial, in_X11, cd_f11_changeTrial, by decide +kernel, Nat.le_of_ble_eq_true rfl, _, rfl, rfl⟩
theorem cd_f11_drawOnTrial : Cond.code yX11_drawOnTrial cX11_drawOnTrial 5 (some .int) ∈ wU := wU_mem (List.mem_append_right _ (List.mem_of_getElem? (l := tables_1) (i := 1089) (by decide +kernel))) (by decide +kernel)
theorem im_f11_drawOnTrial : Cond.instanceMethod yX11_drawOnTrial ∈ wU := wU_mem (List.mem_append_right _ (List.mem_of_getElem? (l := tables_1) (i := 1088) (by decide +kernel))) (by decide +kernel)
theorem se_f11_drawOnTrial : Cond.selects RX11 yX11_drawOnTrial yX11_drawOnTrial ∈ wU := wU_mem (List.mem_append_left _ (List.mem_of_getElem? (l := k2_sels lw_privs) (i := 14) (by decide +kernel))) (by decide +kernel)
theorem yv_f11_drawOnTrial : Yv yX11_drawOnTrial RX11 11 cX11_drawOnTrial 5 (some .int) 2 := ⟨im_f11_drawOnTrial, se_f11_drawOnTrial, in_X11, cd_f11_drawOnTrial, by decide +kernel, Nat.le_of_ble_eq_true rfl, _, rfl, rfl⟩
theorem cd_f11_fewestUnlike : Cond.code yX11_fewestUnlike cX11_fewestUnlike 5 (some .int) ∈ wU := wU_mem (List.mem_append_right _ (List.mem_of_getElem? (l := tables_1) (i := 952) (by decide +kernel))) (by decide +kernel)
theorem im_f11_fewestUnlike : Cond.instanceMethod yX11_fewestUnlike ∈ wU := wU_mem (List.mem_append_right _ (List.mem_of_getElem? (l := tables_1) (i := 951) (by decide +kernel))) (by decide +kernel)
theorem se_f11_fewestUnlike : Cond.selects RX11 yX11_fewestUnlike yX11_fewestUnlike ∈ wU := wU_mem (List.mem_append_left _ (List.mem_of_getElem? (l := k2_sels lw_privs) (i := 7) (by decide +kernel))) (by decide +kernel)
theorem yv_f11_fewestUnlike : Yv yX11_fewestUnlike RX11 11 cX11_fewestUnlike 5 (some .int) 2 := ⟨im_f11_fewestUnlike, se_f11_fewestUnlike, in_X11, cd_f11_fewestUnlike, by decide +kernel, Nat.le_of_ble_eq_true rfl, _, rfl, rfl⟩
theorem cd_f11_goOnTrial : Cond.code yX11_goOnTrial cX11_goOnTrial 4 none ∈ wU := wU_mem (List.mem_append_right _ (List.mem_of_getElem? (l := tables_1) (i := 840) (by decide +kernel))) (by decide +kernel)
theorem im_f11_goOnTrial : Cond.instanceMethod yX11_goOnTrial ∈ wU := wU_mem (List.mem_append_right _ (List.mem_of_getElem? (l := tables_1) (i := 839) (by decide +kernel))) (by decide +kernel)
theorem se_f11_goOnTrial : Cond.selects RX11 yX11_goOnTrial yX11_goOnTrial ∈ wU := wU_mem (List.mem_append_left _ (List.mem_of_getElem? (l := k2_sels lw_privs) (i := 1) (by decide +kernel))) (by decide +kernel)
theorem yv_f11_goOnTrial : Yv yX11_goOnTrial RX11 11 cX11_goOnTrial 4 none 2 := ⟨im_f11_goOnTrial, se_f11_goOnTrial, in_X11, cd_f11_goOnTrial, by decide +kernel, Nat.le_of_ble_eq_true rfl, _, rfl, rfl⟩
theorem cd_f11_guestsWho : Cond.code yX11_guestsWho cX11_guestsWho 5 (some .int) ∈ wU := wU_mem (List.mem_append_right _ (List.mem_of_getElem? (l := tables_1) (i := 993) (by decide +kernel))) (by decide +kernel)
theorem im_f11_guestsWho : Cond.instanceMethod yX11_guestsWho ∈ wU := wU_mem (List.mem_append_right _ (List.mem_of_getElem? (l := tables_1) (i := 992) (by decide +kernel))) (by decide +kernel)
theorem se_f11_guestsWho : Cond.selects RX11 yX11_guestsWho yX11_guestsWho ∈ wU := wU_mem (List.mem_append_left _ (List.mem_of_getElem? (l := k2_sels lw_privs) (i := 12) (by decide +kernel))) (by decide +kernel)
theorem yv_f11_guestsWho : Yv yX11_guestsWho RX11 11 cX11_guestsWho 5 (some .int) 2 := ⟨im_f11_guestsWho, se_f11_guestsWho, in_X11, cd_f11_guestsWho, by decide +kernel, Nat.le_of_ble_eq_true rfl, _, rfl, rfl⟩
theorem cd_f11_isBox : Cond.code yX11_isBox cX11_isBox 2 (some .boolean) ∈ wU := wU_mem (List.mem_append_right _ (List.mem_of_getElem? (l := tables_1) (i := 695) (by decide +kernel))) (by decide +kernel)
theorem im_f11_isBox : Cond.instanceMethod yX11_isBox ∈ wU := wU_mem (List.mem_append_right _ (List.mem_of_getElem? (l := tables_1) (i := 694) (by decide +kernel))) (by decide +kernel)
theorem se_f11_isBox : Cond.selects RX11 yX11_isBox yX11_isBox ∈ wU := wU_mem (List.mem_append_left _ (List.mem_of_getElem? (l := k2_sels lw_privs) (i := 0) (by decide +kernel))) (by decide +kernel)
theorem yv_f11_isBox : Yv yX11_isBox RX11 11 cX11_isBox 2 (some .boolean) 1 := ⟨im_f11_isBox, se_f11_isBox, in_X11, cd_f11_isBox, by decide +kernel, Nat.le_of_ble_eq_true rfl, _, rfl, rfl⟩
theorem cd_f11_isDampAsItGoes : Cond.code yX11_isDampAsItGoes cX11_isDampAsItGoes 1 (some .boolean) ∈ wU := wU_mem (List.mem_append_right _ (List.mem_of_getElem? (l := tables_1) (i := 844) (by decide +kernel))) (by decide +kernel)
theorem im_f11_isDampAsItGoes : Cond.instanceMethod yX11_isDampAsItGoes ∈ wU := wU_mem (List.mem_append_right _ (List.mem_of_getElem? (l := tables_1) (i := 843) (by decide +kernel))) (by decide +kernel)
theorem se_f11_isDampAsItGoes : Cond.selects RX11 yX11_isDampAsItGoes yX11_isDampAsItGoes ∈ wU := wU_mem (List.mem_append_left _ (List.mem_of_getElem? (l := k2_sels lw_privs) (i := 2) (by decide +kernel))) (by decide +kernel)
theorem yv_f11_isDampAsItGoes : Yv yX11_isDampAsItGoes RX11 11 cX11_isDampAsItGoes 1 (some .boolean) 0 := ⟨im_f11_isDampAsItGoes, se_f11_isDampAsItGoes, in_X11, cd_f11_isDampAsItGoes, by decide +kernel, Nat.le_of_ble_eq_true rfl, _, rfl, rfl⟩
theorem cd_f11_isRest : Cond.code yX11_isRest cX11_isRest 4 (some .boolean) ∈ wU := wU_mem (List.mem_append_right _ (List.mem_of_getElem? (l := tables_1) (i := 1004) (by decide +kernel))) (by decide +kernel)
theorem st_f11_isRest : Cond.static yX11_isRest ∈ wU := wU_mem (List.mem_append_right _ (List.mem_of_getElem? (l := tables_1) (i := 1003) (by decide +kernel))) (by decide +kernel)
theorem ys_f11_isRest : Ys yX11_isRest cX11_isRest 4 (some .boolean) 3 := ⟨st_f11_isRest, in_X11, cd_f11_isRest, by decide +kernel⟩
theorem cd_f11_isWithin : Cond.code yX11_isWithin cX11_isWithin 3 (some .boolean) ∈ wU := wU_mem (List.mem_append_right _ (List.mem_of_getElem? (l := tables_1) (i := 698) (by decide +kernel))) (by decide +kernel)
theorem st_f11_isWithin : Cond.static yX11_isWithin ∈ wU := wU_mem (List.mem_append_right _ (List.mem_of_getElem? (l := tables_1) (i := 697) (by decide +kernel))) (by decide +kernel)
theorem ys_f11_isWithin : Ys yX11_isWithin cX11_isWithin 3 (some .boolean) 3 := ⟨st_f11_isWithin, in_X11, cd_f11_isWithin, by decide +kernel⟩
theorem cd_f11_keyIsWorth : Cond.code yX11_keyIsWorth cX11_keyIsWorth 3 (some .int) ∈ wU := wU_mem (List.mem_append_right _ (List.mem_of_getElem? (l := tables_1) (i := 1007) (by decide +kernel))) (by decide +kernel)
theorem st_f11_keyIsWorth : Cond.static yX11_keyIsWorth ∈ wU := wU_mem (List.mem_append_right _ (List.mem_of_getElem? (l := tables_1) (i := 1006) (by decide +kernel))) (by decide +kernel)
theorem ys_f11_keyIsWorth : Ys yX11_keyIsWorth cX11_keyIsWorth 3 (some .int) 3 := ⟨st_f11_keyIsWorth, in_X11, cd_f11_keyIsWorth, by decide +kernel⟩
theorem cd_f11_kinThatHear : Cond.code yX11_kinThatHear cX11_kinThatHear 7 (some .int) ∈ wU := wU_mem (List.mem_append_right _ (List.mem_of_getElem? (l := tables_1) (i := 899) (by decide +kernel))) (by decide +kernel)
theorem im_f11_kinThatHear : Cond.instanceMethod yX11_kinThatHear ∈ wU := wU_mem (List.mem_append_right _ (List.mem_of_getElem? (l := tables_1) (i := 898) (by decide +kernel))) (by decide +kernel)
theorem se_f11_kinThatHear : Cond.selects RX11 yX11_kinThatHear yX11_kinThatHear ∈ wU := wU_mem (List.mem_append_left _ (List.mem_of_getElem? (l := k2_sels lw_privs) (i := 4) (by decide +kernel))) (by decide +kernel)
theorem yv_f11_kinThatHear : Yv yX11_kinThatHear RX11 11 cX11_kinThatHear 7 (some .int) 3 := ⟨im_f11_kinThatHear, se_f11_kinThatHear, in_X11, cd_f11_kinThatHear, by decide +kernel, Nat.le_of_ble_eq_true rfl, _, rfl, rfl⟩
theorem cd_f11_laughterOfThisYear : Cond.code yX11_laughterOfThisYear cX11_laughterOfThisYear 2 (some .int) ∈ wU := wU_mem (List.mem_append_right _ (List.mem_of_getElem? (l := tables_1) (i := 1001) (by decide +kernel))) (by decide +kernel)
theorem im_f11_laughterOfThisYear : Cond.instanceMethod yX11_laughterOfThisYear ∈ wU := wU_mem (List.mem_append_right _ (List.mem_of_getElem? (l := tables_1) (i := 1000) (by decide +kernel))) (by decide +kernel)
theorem se_f11_laughterOfThisYear : Cond.selects RX11 yX11_laughterOfThisYear yX11_laughterOfThisYear ∈ wU := wU_mem (List.mem_append_left _ (List.mem_of_getElem? (l := k2_sels lw_privs) (i := 13) (by decide +kernel))) (by decide +kernel)
theorem yv_f11_laughterOfThisYear : Yv yX11_laughterOfThisYear RX11 11 cX11_laughterOfThisYear 2 (some .int) 1 := ⟨im_f11_laughterOfThisYear, se_f11_laughterOfThisYear, in_X11, cd_f11_laughterOfThisYear, by decide +kernel, Nat.le_of_ble_eq_true rfl, _, rfl, rfl⟩
theorem cd_f11_laughterOnTrial : Cond.code yX11_laughterOnTrial cX11_laughterOnTrial 5 (some .int) ∈ wU := wU_mem (List.mem_append_right _ (List.mem_of_getElem? (l := tables_1) (i := 981) (by decide +kernel))) (by decide +kernel)
theorem im_f11_laughterOnTrial : Cond.instanceMethod yX11_laughterOnTrial ∈ wU := wU_mem (List.mem_append_right _ (List.mem_of_getElem? (l := tables_1) (i := 980) (by decide +kernel))) (by decide +kernel)
theorem se_f11_laughterOnTrial : Cond.selects RX11 yX11_laughterOnTrial yX11_laughterOnTrial ∈ wU := wU_mem (List.mem_append_left _ (List.mem_of_getElem? (l := k2_sels lw_privs) (i := 10) (by decide +kernel))) (by decide +kernel)
theorem yv_f11_laughterOnTrial : Yv yX11_laughterOnTrial RX11 11 cX11_laughterOnTrial 5 (some .int) 2 := ⟨im_f11_laughterOnTrial, se_f11_laughterOnTrial, in_X11, cd_f11_laughterOnTrial, by decide +kernel, Nat.le_of_ble_eq_true rfl, _, rfl, rfl⟩
theorem cd_f11_nearestTo : Cond.code yX11_nearestTo cX11_nearestTo 4 (some .int) ∈ wU := wU_mem (List.mem_append_right _ (List.mem_of_getElem? (l := tables_1) (i := 948) (by decide +kernel))) (by decide +kernel)
theorem im_f11_nearestTo : Cond.instanceMethod yX11_nearestTo ∈ wU := wU_mem (List.mem_append_right _ (List.mem_of_getElem? (l := tables_1) (i := 947) (by decide +kernel))) (by decide +kernel)
theorem se_f11_nearestTo : Cond.selects RX11 yX11_nearestTo yX11_nearestTo ∈ wU := wU_mem (List.mem_append_left _ (List.mem_of_getElem? (l := k2_sels lw_privs) (i := 6) (by decide +kernel))) (by decide +kernel)
theorem yv_f11_nearestTo : Yv yX11_nearestTo RX11 11 cX11_nearestTo 4 (some .int) 1 := ⟨im_f11_nearestTo, se_f11_nearestTo, in_X11, cd_f11_nearestTo, by decide +kernel, Nat.le_of_ble_eq_true rfl, _, rfl, rfl⟩
theorem cd_f11_stepsOfKin : Cond.code yX11_stepsOfKin cX11_stepsOfKin 7 (some .int) ∈ wU := wU_mem (List.mem_append_right _ (List.mem_of_getElem? (l := tables_1) (i := 960) (by decide +kernel))) (by decide +kernel)
theorem im_f11_stepsOfKin : Cond.instanceMethod yX11_stepsOfKin ∈ wU := wU_mem (List.mem_append_right _ (List.mem_of_getElem? (l := tables_1) (i := 959) (by decide +kernel))) (by decide +kernel)
theorem se_f11_stepsOfKin : Cond.selects RX11 yX11_stepsOfKin yX11_stepsOfKin ∈ wU := wU_mem (List.mem_append_left _ (List.mem_of_getElem? (l := k2_sels lw_privs) (i := 8) (by decide +kernel))) (by decide +kernel)
theorem yv_f11_stepsOfKin : Yv yX11_stepsOfKin RX11 11 cX11_stepsOfKin 7 (some .int) 2 := ⟨im_f11_stepsOfKin, se_f11_stepsOfKin, in_X11, cd_f11_stepsOfKin, by decide +kernel, Nat.le_of_ble_eq_true rfl, _, rfl, rfl⟩
theorem cd_f11_sumOfBoxes : Cond.code yX11_sumOfBoxes cX11_sumOfBoxes 5 (some .int) ∈ wU := wU_mem (List.mem_append_right _ (List.mem_of_getElem? (l := tables_1) (i := 1128) (by decide +kernel))) (by decide +kernel)
theorem im_f11_sumOfBoxes : Cond.instanceMethod yX11_sumOfBoxes ∈ wU := wU_mem (List.mem_append_right _ (List.mem_of_getElem? (l := tables_1) (i := 1127) (by decide +kernel))) (by decide +kernel)
theorem se_f11_sumOfBoxes : Cond.selects RX11 yX11_sumOfBoxes yX11_sumOfBoxes ∈ wU := wU_mem (List.mem_append_left _ (List.mem_of_getElem? (l := k2_sels lw_privs) (i := 16) (by decide +kernel))) (by decide +kernel)
theorem yv_f11_sumOfBoxes : Yv yX11_sumOfBoxes RX11 11 cX11_sumOfBoxes 5 (some .int) 1 := ⟨im_f11_sumOfBoxes, se_f11_sumOfBoxes, in_X11, cd_f11_sumOfBoxes, by decide +kernel, Nat.le_of_ble_eq_true rfl, _, rfl, rfl⟩
theorem cd_f11_weighTurns : Cond.code yX11_weighTurns cX11_weighTurns 6 none ∈ wU := wU_mem (List.mem_append_right _ (List.mem_of_getElem? (l := tables_1) (i := 977) (by decide +kernel))) (by decide +kernel)
theorem im_f11_weighTurns : Cond.instanceMethod yX11_weighTurns ∈ wU := wU_mem (List.mem_append_right _ (List.mem_of_getElem? (l := tables_1) (i := 976) (by decide +kernel))) (by decide +kernel)
theorem se_f11_weighTurns : Cond.selects RX11 yX11_weighTurns yX11_weighTurns ∈ wU := wU_mem (List.mem_append_left _ (List.mem_of_getElem? (l := k2_sels lw_privs) (i := 9) (by decide +kernel))) (by decide +kernel)
theorem yv_f11_weighTurns : Yv yX11_weighTurns RX11 11 cX11_weighTurns 6 none 2 := ⟨im_f11_weighTurns, se_f11_weighTurns, in_X11, cd_f11_weighTurns, by decide +kernel, Nat.le_of_ble_eq_true rfl, _, rfl, rfl⟩
theorem cd_f11_windBest : Cond.code yX11_windBest cX11_windBest 7 (some .int) ∈ wU := wU_mem (List.mem_append_right _ (List.mem_of_getElem? (l := tables_1) (i := 985) (by decide +kernel))) (by decide +kernel)
theorem im_f11_windBest : Cond.instanceMethod yX11_windBest ∈ wU := wU_mem (List.mem_append_right _ (List.mem_of_getElem? (l := tables_1) (i := 984) (by decide +kernel))) (by decide +kernel)
theorem se_f11_windBest : Cond.selects RX11 yX11_windBest yX11_windBest ∈ wU := wU_mem (List.mem_append_left _ (List.mem_of_getElem? (l := k2_sels lw_privs) (i := 11) (by decide +kernel))) (by decide +kernel)
theorem yv_f11_windBest : Yv yX11_windBest RX11 11 cX11_windBest 7 (some .int) 1 := ⟨im_f11_windBest, se_f11_windBest, in_X11, cd_f11_windBest, by decide +kernel, Nat.le_of_ble_eq_true rfl, _, rfl, rfl⟩
theorem in_X0 : Cond.initialized RX0 ∈ wU := wU_mem (List.mem_append_right _ (List.mem_of_getElem? (l := tables_1) (i := 6) (by decide +kernel))) (by decide +kernel)
theorem cd_f0_copyOf : Cond.code yX0_copyOf cX0_copyOf 2 none ∈ wU := wU_mem (List.mem_append_right _ (List.mem_of_getElem? (l := tables_1) (i := 666) (by decide +kernel))) (by decide +kernel)
theorem im_f0_copyOf : Cond.instanceMethod yX0_copyOf ∈ wU := wU_mem (List.mem_append_right _ (List.mem_of_getElem? (l := tables_1) (i := 664) (by decide +kernel))) (by decide +kernel)
theorem se_f0_copyOf : Cond.selects RX0 yX0_copyOf yX0_copyOf ∈ wU := wU_mem (List.mem_append_right _ (List.mem_of_getElem? (l := tables_1) (i := 665) (by decide +kernel))) (by decide +kernel)
theorem yv_f0_copyOf : Yv yX0_copyOf RX0 0 cX0_copyOf 2 none 1 := ⟨im_f0_copyOf, se_f0_copyOf, in_X0, cd_f0_copyOf, by decide +kernel, Nat.le_of_ble_eq_true rfl, _, rfl, rfl⟩
theorem cd_f0_goOneYear : Cond.code yX0_goOneYear cX0_goOneYear 5 none ∈ wU := wU_mem (List.mem_append_right _ (List.mem_of_getElem? (l := tables_1) (i := 801) (by decide +kernel))) (by decide +kernel)
theorem im_f0_goOneYear : Cond.instanceMethod yX0_goOneYear ∈ wU := wU_mem (List.mem_append_right _ (List.mem_of_getElem? (l := tables_1) (i := 799) (by decide +kernel))) (by decide +kernel)
theorem se_f0_goOneYear : Cond.selects RX0 yX0_goOneYear yX0_goOneYear ∈ wU := wU_mem (List.mem_append_right _ (List.mem_of_getElem? (l := tables_1) (i := 800) (by decide +kernel))) (by decide +kernel)
theorem yv_f0_goOneYear : Yv yX0_goOneYear RX0 0 cX0_goOneYear 5 none 4 := ⟨im_f0_goOneYear, se_f0_goOneYear, in_X0, cd_f0_goOneYear, by decide +kernel, Nat.le_of_ble_eq_true rfl, _, rfl, rfl⟩
theorem cd_f0_growFalse : Cond.code yX0_growFalse cX0_growFalse 5 none ∈ wU := wU_mem (List.mem_append_right _ (List.mem_of_getElem? (l := tables_1) (i := 831) (by decide +kernel))) (by decide +kernel)
theorem im_f0_growFalse : Cond.instanceMethod yX0_growFalse ∈ wU := wU_mem (List.mem_append_right _ (List.mem_of_getElem? (l := tables_1) (i := 829) (by decide +kernel))) (by decide +kernel)
theorem se_f0_growFalse : Cond.selects RX0 yX0_growFalse yX0_growFalse ∈ wU := wU_mem (List.mem_append_right _ (List.mem_of_getElem? (l := tables_1) (i := 830) (by decide +kernel))) (by decide +kernel)
theorem yv_f0_growFalse : Yv yX0_growFalse RX0 0 cX0_growFalse 5 none 2 := ⟨im_f0_growFalse, se_f0_growFalse, in_X0, cd_f0_growFalse, by decide +kernel, Nat.le_of_ble_eq_true rfl, _, rfl, rfl⟩
theorem cd_f0_heardNow : Cond.code yX0_heardNow cX0_heardNow 2 (some .int) ∈ wU := wU_mem (List.mem_append_right _ (List.mem_of_getElem? (l := tables_1) (i := 706) (by decide +kernel))) (by decide +kernel)
theorem im_f0_heardNow : Cond.instanceMethod yX0_heardNow ∈ wU := wU_mem (List.mem_append_right _ (List.mem_of_getElem? (l := tables_1) (i := 704) (by decide +kernel))) (by decide +kernel)
theorem se_f0_heardNow : Cond.selects RX0 yX0_heardNow yX0_heardNow ∈ wU := wU_mem (List.mem_append_right _ (List.mem_of_getElem? (l := tables_1) (i := 705) (by decide +kernel))) (by decide +kernel)
theorem yv_f0_heardNow : Yv yX0_heardNow RX0 0 cX0_heardNow 2 (some .int) 1 := ⟨im_f0_heardNow, se_f0_heardNow, in_X0, cd_f0_heardNow, by decide +kernel, Nat.le_of_ble_eq_true rfl, _, rfl, rfl⟩
theorem cd_f0_heardWith : Cond.code yX0_heardWith cX0_heardWith 4 (some .int) ∈ wU := wU_mem (List.mem_append_right _ (List.mem_of_getElem? (l := tables_1) (i := 710) (by decide +kernel))) (by decide +kernel)
theorem im_f0_heardWith : Cond.instanceMethod yX0_heardWith ∈ wU := wU_mem (List.mem_append_right _ (List.mem_of_getElem? (l := tables_1) (i := 708) (by decide +kernel))) (by decide +kernel)
theorem se_f0_heardWith : Cond.selects RX0 yX0_heardWith yX0_heardWith ∈ wU := wU_mem (List.mem_append_right _ (List.mem_of_getElem? (l := tables_1) (i := 709) (by decide +kernel))) (by decide +kernel)
theorem yv_f0_heardWith : Yv yX0_heardWith RX0 0 cX0_heardWith 4 (some .int) 2 := ⟨im_f0_heardWith, se_f0_heardWith, in_X0, cd_f0_heardWith, by decide +kernel, Nat.le_of_ble_eq_true rfl, _, rfl, rfl⟩
theorem cd_f0_hold : Cond.code yX0_hold cX0_hold 3 (some .int) ∈ wU := wU_mem (List.mem_append_right _ (List.mem_of_getElem? (l := tables_1) (i := 818) (by decide +kernel))) (by decide +kernel)
theorem st_f0_hold : Cond.static yX0_hold ∈ wU := wU_mem (List.mem_append_right _ (List.mem_of_getElem? (l := tables_1) (i := 817) (by decide +kernel))) (by decide +kernel)
theorem ys_f0_hold : Ys yX0_hold cX0_hold 3 (some .int) 2 := ⟨st_f0_hold, in_X0, cd_f0_hold, by decide +kernel⟩
theorem cd_f0_isKinOf : Cond.code yX0_isKinOf cX0_isKinOf 2 (some .boolean) ∈ wU := wU_mem (List.mem_append_right _ (List.mem_of_getElem? (l := tables_1) (i := 577) (by decide +kernel))) (by decide +kernel)
theorem im_f0_isKinOf : Cond.instanceMethod yX0_isKinOf ∈ wU := wU_mem (List.mem_append_right _ (List.mem_of_getElem? (l := tables_1) (i := 575) (by decide +kernel))) (by decide +kernel)
theorem se_f0_isKinOf : Cond.selects RX0 yX0_isKinOf yX0_isKinOf ∈ wU := wU_mem (List.mem_append_right _ (List.mem_of_getElem? (l := tables_1) (i := 576) (by decide +kernel))) (by decide +kernel)
theorem yv_f0_isKinOf : Yv yX0_isKinOf RX0 0 cX0_isKinOf 2 (some .boolean) 1 := ⟨im_f0_isKinOf, se_f0_isKinOf, in_X0, cd_f0_isKinOf, by decide +kernel, Nat.le_of_ble_eq_true rfl, _, rfl, rfl⟩
theorem cd_f0_isLetGo : Cond.code yX0_isLetGo cX0_isLetGo 1 (some .boolean) ∈ wU := wU_mem (List.mem_append_right _ (List.mem_of_getElem? (l := tables_1) (i := 805) (by decide +kernel))) (by decide +kernel)
theorem im_f0_isLetGo : Cond.instanceMethod yX0_isLetGo ∈ wU := wU_mem (List.mem_append_right _ (List.mem_of_getElem? (l := tables_1) (i := 803) (by decide +kernel))) (by decide +kernel)
theorem se_f0_isLetGo : Cond.selects RX0 yX0_isLetGo yX0_isLetGo ∈ wU := wU_mem (List.mem_append_right _ (List.mem_of_getElem? (l := tables_1) (i := 804) (by decide +kernel))) (by decide +kernel)
theorem yv_f0_isLetGo : Yv yX0_isLetGo RX0 0 cX0_isLetGo 1 (some .boolean) 0 := ⟨im_f0_isLetGo, se_f0_isLetGo, in_X0, cd_f0_isLetGo, by decide +kernel, Nat.le_of_ble_eq_true rfl, _, rfl, rfl⟩
theorem cd_f0_letGo : Cond.code yX0_letGo cX0_letGo 6 none ∈ wU := wU_mem (List.mem_append_right _ (List.mem_of_getElem? (l := tables_1) (i := 809) (by decide +kernel))) (by decide +kernel)
theorem im_f0_letGo : Cond.instanceMethod yX0_letGo ∈ wU := wU_mem (List.mem_append_right _ (List.mem_of_getElem? (l := tables_1) (i := 807) (by decide +kernel))) (by decide +kernel)
theorem se_f0_letGo : Cond.selects RX0 yX0_letGo yX0_letGo ∈ wU := wU_mem (List.mem_append_right _ (List.mem_of_getElem? (l := tables_1) (i := 808) (by decide +kernel))) (by decide +kernel)
theorem yv_f0_letGo : Yv yX0_letGo RX0 0 cX0_letGo 6 none 3 := ⟨im_f0_letGo, se_f0_letGo, in_X0, cd_f0_letGo, by decide +kernel, Nat.le_of_ble_eq_true rfl, _, rfl, rfl⟩
theorem cd_f0_misses : Cond.code yX0_misses cX0_misses 2 (some .boolean) ∈ wU := wU_mem (List.mem_append_right _ (List.mem_of_getElem? (l := tables_1) (i := 569) (by decide +kernel))) (by decide +kernel)
theorem im_f0_misses : Cond.instanceMethod yX0_misses ∈ wU := wU_mem (List.mem_append_right _ (List.mem_of_getElem? (l := tables_1) (i := 567) (by decide +kernel))) (by decide +kernel)
theorem se_f0_misses : Cond.selects RX0 yX0_misses yX0_misses ∈ wU := wU_mem (List.mem_append_right _ (List.mem_of_getElem? (l := tables_1) (i := 568) (by decide +kernel))) (by decide +kernel)
theorem yv_f0_misses : Yv yX0_misses RX0 0 cX0_misses 2 (some .boolean) 1 := ⟨im_f0_misses, se_f0_misses, in_X0, cd_f0_misses, by decide +kernel, Nat.le_of_ble_eq_true rfl, _, rfl, rfl⟩
theorem cd_f0_placesHeard : Cond.code yX0_placesHeard cX0_placesHeard 3 (some .int) ∈ wU := wU_mem (List.mem_append_right _ (List.mem_of_getElem? (l := tables_1) (i := 815) (by decide +kernel))) (by decide +kernel)
theorem im_f0_placesHeard : Cond.instanceMethod yX0_placesHeard ∈ wU := wU_mem (List.mem_append_right _ (List.mem_of_getElem? (l := tables_1) (i := 813) (by decide +kernel))) (by decide +kernel)
theorem se_f0_placesHeard : Cond.selects RX0 yX0_placesHeard yX0_placesHeard ∈ wU := wU_mem (List.mem_append_right _ (List.mem_of_getElem? (l := tables_1) (i := 814) (by decide +kernel))) (by decide +kernel)
theorem yv_f0_placesHeard : Yv yX0_placesHeard RX0 0 cX0_placesHeard 3 (some .int) 0 := ⟨im_f0_placesHeard, se_f0_placesHeard, in_X0, cd_f0_placesHeard, by decide +kernel, Nat.le_of_ble_eq_true rfl, _, rfl, rfl⟩
theorem in_X1 : Cond.initialized RX1 ∈ wU := wU_mem (List.mem_append_right _ (List.mem_of_getElem? (l := tables_1) (i := 7) (by decide +kernel))) (by decide +kernel)
theorem cd_f1_clear : Cond.code yX1_clear cX1_clear 1 none ∈ wU := wU_mem (List.mem_append_right _ (List.mem_of_getElem? (l := tables_1) (i := 677) (by decide +kernel))) (by decide +kernel)
theorem im_f1_clear : Cond.instanceMethod yX1_clear ∈ wU := wU_mem (List.mem_append_right _ (List.mem_of_getElem? (l := tables_1) (i := 675) (by decide +kernel))) (by decide +kernel)
theorem se_f1_clear : Cond.selects RX1 yX1_clear yX1_clear ∈ wU := wU_mem (List.mem_append_right _ (List.mem_of_getElem? (l := tables_1) (i := 676) (by decide +kernel))) (by decide +kernel)
theorem yv_f1_clear : Yv yX1_clear RX1 1 cX1_clear 1 none 0 := ⟨im_f1_clear, se_f1_clear, in_X1, cd_f1_clear, by decide +kernel, Nat.le_of_ble_eq_true rfl, _, rfl, rfl⟩
theorem cd_f1_dropEarliest : Cond.code yX1_dropEarliest cX1_dropEarliest 2 none ∈ wU := wU_mem (List.mem_append_right _ (List.mem_of_getElem? (l := tables_1) (i := 763) (by decide +kernel))) (by decide +kernel)
theorem im_f1_dropEarliest : Cond.instanceMethod yX1_dropEarliest ∈ wU := wU_mem (List.mem_append_right _ (List.mem_of_getElem? (l := tables_1) (i := 761) (by decide +kernel))) (by decide +kernel)
theorem se_f1_dropEarliest : Cond.selects RX1 yX1_dropEarliest yX1_dropEarliest ∈ wU := wU_mem (List.mem_append_right _ (List.mem_of_getElem? (l := tables_1) (i := 762) (by decide +kernel))) (by decide +kernel)
theorem yv_f1_dropEarliest : Yv yX1_dropEarliest RX1 1 cX1_dropEarliest 2 none 0 := ⟨im_f1_dropEarliest, se_f1_dropEarliest, in_X1, cd_f1_dropEarliest, by decide +kernel, Nat.le_of_ble_eq_true rfl, _, rfl, rfl⟩
theorem cd_f1_note : Cond.code yX1_note cX1_note 3 none ∈ wU := wU_mem (List.mem_append_right _ (List.mem_of_getElem? (l := tables_1) (i := 759) (by decide +kernel))) (by decide +kernel)
theorem im_f1_note : Cond.instanceMethod yX1_note ∈ wU := wU_mem (List.mem_append_right _ (List.mem_of_getElem? (l := tables_1) (i := 757) (by decide +kernel))) (by decide +kernel)
theorem se_f1_note : Cond.selects RX1 yX1_note yX1_note ∈ wU := wU_mem (List.mem_append_right _ (List.mem_of_getElem? (l := tables_1) (i := 758) (by decide +kernel))) (by decide +kernel)
theorem yv_f1_note : Yv yX1_note RX1 1 cX1_note 3 none 2 := ⟨im_f1_note, se_f1_note, in_X1, cd_f1_note, by decide +kernel, Nat.le_of_ble_eq_true rfl, _, rfl, rfl⟩
theorem cd_f1_takeLatest : Cond.code yX1_takeLatest cX1_takeLatest 3 none ∈ wU := wU_mem (List.mem_append_right _ (List.mem_of_getElem? (l := tables_1) (i := 1108) (by decide +kernel))) (by decide +kernel)
theorem im_f1_takeLatest : Cond.instanceMethod yX1_takeLatest ∈ wU := wU_mem (List.mem_append_right _ (List.mem_of_getElem? (l := tables_1) (i := 1106) (by decide +kernel))) (by decide +kernel)
theorem se_f1_takeLatest : Cond.selects RX1 yX1_takeLatest yX1_takeLatest ∈ wU := wU_mem (List.mem_append_right _ (List.mem_of_getElem? (l := tables_1) (i := 1107) (by decide +kernel))) (by decide +kernel)
theorem yv_f1_takeLatest : Yv yX1_takeLatest RX1 1 cX1_takeLatest 3 none 1 := ⟨im_f1_takeLatest, se_f1_takeLatest, in_X1, cd_f1_takeLatest, by decide +kernel, Nat.le_of_ble_eq_true rfl, _, rfl, rfl⟩
theorem in_X2 : Cond.initialized RX2 ∈ wU := wU_mem (List.mem_append_right _ (List.mem_of_getElem? (l := tables_1) (i := 9) (by decide +kernel))) (by decide +kernel)
theorem cd_f2_alikeBy : Cond.code yX2_alikeBy cX2_alikeBy 6 (some .int) ∈ wU := wU_mem (List.mem_append_right _ (List.mem_of_getElem? (l := tables_1) (i := 858) (by decide +kernel))) (by decide +kernel)
theorem im_f2_alikeBy : Cond.instanceMethod yX2_alikeBy ∈ wU := wU_mem (List.mem_append_right _ (List.mem_of_getElem? (l := tables_1) (i := 856) (by decide +kernel))) (by decide +kernel)
theorem se_f2_alikeBy : Cond.selects RX2 yX2_alikeBy yX2_alikeBy ∈ wU := wU_mem (List.mem_append_right _ (List.mem_of_getElem? (l := tables_1) (i := 857) (by decide +kernel))) (by decide +kernel)
theorem yv_f2_alikeBy : Yv yX2_alikeBy RX2 2 cX2_alikeBy 6 (some .int) 3 := ⟨im_f2_alikeBy, se_f2_alikeBy, in_X2, cd_f2_alikeBy, by decide +kernel, Nat.le_of_ble_eq_true rfl, _, rfl, rfl⟩
theorem cd_f2_at : Cond.code yX2_at cX2_at 3 (some .int) ∈ wU := wU_mem (List.mem_append_right _ (List.mem_of_getElem? (l := tables_1) (i := 866) (by decide +kernel))) (by decide +kernel)
theorem im_f2_at : Cond.instanceMethod yX2_at ∈ wU := wU_mem (List.mem_append_right _ (List.mem_of_getElem? (l := tables_1) (i := 864) (by decide +kernel))) (by decide +kernel)
theorem se_f2_at : Cond.selects RX2 yX2_at yX2_at ∈ wU := wU_mem (List.mem_append_right _ (List.mem_of_getElem? (l := tables_1) (i := 865) (by decide +kernel))) (by decide +kernel)
theorem yv_f2_at : Yv yX2_at RX2 2 cX2_at 3 (some .int) 2 := ⟨im_f2_at, se_f2_at, in_X2, cd_f2_at, by decide +kernel, Nat.le_of_ble_eq_true rfl, _, rfl, rfl⟩
theorem cd_f2_firstMinute : Cond.code yX2_firstMinute cX2_firstMinute 6 (some .int) ∈ wU := wU_mem (List.mem_append_right _ (List.mem_of_getElem? (l := tables_1) (i := 940) (by decide +kernel))) (by decide +kernel)
theorem im_f2_firstMinute : Cond.instanceMethod yX2_firstMinute ∈ wU := wU_mem (List.mem_append_right _ (List.mem_of_getElem? (l := tables_1) (i := 938) (by decide +kernel))) (by decide +kernel)
theorem se_f2_firstMinute : Cond.selects RX2 yX2_firstMinute yX2_firstMinute ∈ wU := wU_mem (List.mem_append_right _ (List.mem_of_getElem? (l := tables_1) (i := 939) (by decide +kernel))) (by decide +kernel)
theorem yv_f2_firstMinute : Yv yX2_firstMinute RX2 2 cX2_firstMinute 6 (some .int) 4 := ⟨im_f2_firstMinute, se_f2_firstMinute, in_X2, cd_f2_firstMinute, by decide +kernel, Nat.le_of_ble_eq_true rfl, _, rfl, rfl⟩
theorem cd_f2_listen : Cond.code yX2_listen cX2_listen 4 none ∈ wU := wU_mem (List.mem_append_right _ (List.mem_of_getElem? (l := tables_1) (i := 853) (by decide +kernel))) (by decide +kernel)
theorem im_f2_listen : Cond.instanceMethod yX2_listen ∈ wU := wU_mem (List.mem_append_right _ (List.mem_of_getElem? (l := tables_1) (i := 851) (by decide +kernel))) (by decide +kernel)
theorem se_f2_listen : Cond.selects RX2 yX2_listen yX2_listen ∈ wU := wU_mem (List.mem_append_right _ (List.mem_of_getElem? (l := tables_1) (i := 852) (by decide +kernel))) (by decide +kernel)
theorem yv_f2_listen : Yv yX2_listen RX2 2 cX2_listen 4 none 1 := ⟨im_f2_listen, se_f2_listen, in_X2, cd_f2_listen, by decide +kernel, Nat.le_of_ble_eq_true rfl, _, rfl, rfl⟩
theorem cd_f2_longestRun : Cond.code yX2_longestRun cX2_longestRun 7 (some .int) ∈ wU := wU_mem (List.mem_append_right _ (List.mem_of_getElem? (l := tables_1) (i := 1044) (by decide +kernel))) (by decide +kernel)
theorem im_f2_longestRun : Cond.instanceMethod yX2_longestRun ∈ wU := wU_mem (List.mem_append_right _ (List.mem_of_getElem? (l := tables_1) (i := 1042) (by decide +kernel))) (by decide +kernel)
theorem se_f2_longestRun : Cond.selects RX2 yX2_longestRun yX2_longestRun ∈ wU := wU_mem (List.mem_append_right _ (List.mem_of_getElem? (l := tables_1) (i := 1043) (by decide +kernel))) (by decide +kernel)
theorem yv_f2_longestRun : Yv yX2_longestRun RX2 2 cX2_longestRun 7 (some .int) 2 := ⟨im_f2_longestRun, se_f2_longestRun, in_X2, cd_f2_longestRun, by decide +kernel, Nat.le_of_ble_eq_true rfl, _, rfl, rfl⟩
theorem cd_f2_mostSame : Cond.code yX2_mostSame cX2_mostSame 7 (some .int) ∈ wU := wU_mem (List.mem_append_right _ (List.mem_of_getElem? (l := tables_1) (i := 1019) (by decide +kernel))) (by decide +kernel)
theorem im_f2_mostSame : Cond.instanceMethod yX2_mostSame ∈ wU := wU_mem (List.mem_append_right _ (List.mem_of_getElem? (l := tables_1) (i := 1017) (by decide +kernel))) (by decide +kernel)
theorem se_f2_mostSame : Cond.selects RX2 yX2_mostSame yX2_mostSame ∈ wU := wU_mem (List.mem_append_right _ (List.mem_of_getElem? (l := tables_1) (i := 1018) (by decide +kernel))) (by decide +kernel)
theorem yv_f2_mostSame : Yv yX2_mostSame RX2 2 cX2_mostSame 7 (some .int) 2 := ⟨im_f2_mostSame, se_f2_mostSame, in_X2, cd_f2_mostSame, by decide +kernel, Nat.le_of_ble_eq_true rfl, _, rfl, rfl⟩
theorem cd_f2_overlap : Cond.code yX2_overlap cX2_overlap 5 (some .int) ∈ wU := wU_mem (List.mem_append_right _ (List.mem_of_getElem? (l := tables_1) (i := 916) (by decide +kernel))) (by decide +kernel)
theorem im_f2_overlap : Cond.instanceMethod yX2_overlap ∈ wU := wU_mem (List.mem_append_right _ (List.mem_of_getElem? (l := tables_1) (i := 914) (by decide +kernel))) (by decide +kernel)
theorem se_f2_overlap : Cond.selects RX2 yX2_overlap yX2_overlap ∈ wU := wU_mem (List.mem_append_right _ (List.mem_of_getElem? (l := tables_1) (i := 915) (by decide +kernel))) (by decide +kernel)
theorem yv_f2_overlap : Yv yX2_overlap RX2 2 cX2_overlap 5 (some .int) 2 := ⟨im_f2_overlap, se_f2_overlap, in_X2, cd_f2_overlap, by decide +kernel, Nat.le_of_ble_eq_true rfl, _, rfl, rfl⟩
theorem cd_f2_sameAbove : Cond.code yX2_sameAbove cX2_sameAbove 5 (some .boolean) ∈ wU := wU_mem (List.mem_append_right _ (List.mem_of_getElem? (l := tables_1) (i := 862) (by decide +kernel))) (by decide +kernel)
theorem im_f2_sameAbove : Cond.instanceMethod yX2_sameAbove ∈ wU := wU_mem (List.mem_append_right _ (List.mem_of_getElem? (l := tables_1) (i := 860) (by decide +kernel))) (by decide +kernel)
theorem se_f2_sameAbove : Cond.selects RX2 yX2_sameAbove yX2_sameAbove ∈ wU := wU_mem (List.mem_append_right _ (List.mem_of_getElem? (l := tables_1) (i := 861) (by decide +kernel))) (by decide +kernel)
theorem yv_f2_sameAbove : Yv yX2_sameAbove RX2 2 cX2_sameAbove 5 (some .boolean) 4 := ⟨im_f2_sameAbove, se_f2_sameAbove, in_X2, cd_f2_sameAbove, by decide +kernel, Nat.le_of_ble_eq_true rfl, _, rfl, rfl⟩
theorem in_X3 : Cond.initialized RX3 ∈ wU := wU_mem (List.mem_append_right _ (List.mem_of_getElem? (l := tables_1) (i := 8) (by decide +kernel))) (by decide +kernel)
theorem cd_f3_add : Cond.code yX3_add cX3_add 4 (some .int) ∈ wU := wU_mem (List.mem_append_right _ (List.mem_of_getElem? (l := tables_1) (i := 1064) (by decide +kernel))) (by decide +kernel)
theorem im_f3_add : Cond.instanceMethod yX3_add ∈ wU := wU_mem (List.mem_append_right _ (List.mem_of_getElem? (l := tables_1) (i := 1062) (by decide +kernel))) (by decide +kernel)
theorem se_f3_add : Cond.selects RX3 yX3_add yX3_add ∈ wU := wU_mem (List.mem_append_right _ (List.mem_of_getElem? (l := tables_1) (i := 1063) (by decide +kernel))) (by decide +kernel)
theorem yv_f3_add : Yv yX3_add RX3 3 cX3_add 4 (some .int) 3 := ⟨im_f3_add, se_f3_add, in_X3, cd_f3_add, by decide +kernel, Nat.le_of_ble_eq_true rfl, _, rfl, rfl⟩
theorem cd_f3_addStrike : Cond.code yX3_addStrike cX3_addStrike 3 (some .int) ∈ wU := wU_mem (List.mem_append_right _ (List.mem_of_getElem? (l := tables_1) (i := 1072) (by decide +kernel))) (by decide +kernel)
theorem im_f3_addStrike : Cond.instanceMethod yX3_addStrike ∈ wU := wU_mem (List.mem_append_right _ (List.mem_of_getElem? (l := tables_1) (i := 1070) (by decide +kernel))) (by decide +kernel)
theorem se_f3_addStrike : Cond.selects RX3 yX3_addStrike yX3_addStrike ∈ wU := wU_mem (List.mem_append_right _ (List.mem_of_getElem? (l := tables_1) (i := 1071) (by decide +kernel))) (by decide +kernel)
theorem yv_f3_addStrike : Yv yX3_addStrike RX3 3 cX3_addStrike 3 (some .int) 1 := ⟨im_f3_addStrike, se_f3_addStrike, in_X3, cd_f3_addStrike, by decide +kernel, Nat.le_of_ble_eq_true rfl, _, rfl, rfl⟩
theorem cd_f3_clear : Cond.code yX3_clear cX3_clear 1 none ∈ wU := wU_mem (List.mem_append_right _ (List.mem_of_getElem? (l := tables_1) (i := 673) (by decide +kernel))) (by decide +kernel)
theorem im_f3_clear : Cond.instanceMethod yX3_clear ∈ wU := wU_mem (List.mem_append_right _ (List.mem_of_getElem? (l := tables_1) (i := 671) (by decide +kernel))) (by decide +kernel)
theorem se_f3_clear : Cond.selects RX3 yX3_clear yX3_clear ∈ wU := wU_mem (List.mem_append_right _ (List.mem_of_getElem? (l := tables_1) (i := 672) (by decide +kernel))) (by decide +kernel)
theorem yv_f3_clear : Yv yX3_clear RX3 3 cX3_clear 1 none 0 := ⟨im_f3_clear, se_f3_clear, in_X3, cd_f3_clear, by decide +kernel, Nat.le_of_ble_eq_true rfl, _, rfl, rfl⟩
theorem cd_f3_firstKnown : Cond.code yX3_firstKnown cX3_firstKnown 1 (some .int) ∈ wU := wU_mem (List.mem_append_right _ (List.mem_of_getElem? (l := tables_1) (i := 886) (by decide +kernel))) (by decide +kernel)
theorem im_f3_firstKnown : Cond.instanceMethod yX3_firstKnown ∈ wU := wU_mem (List.mem_append_right _ (List.mem_of_getElem? (l := tables_1) (i := 884) (by decide +kernel))) (by decide +kernel)
theorem se_f3_firstKnown : Cond.selects RX3 yX3_firstKnown yX3_firstKnown ∈ wU := wU_mem (List.mem_append_right _ (List.mem_of_getElem? (l := tables_1) (i := 885) (by decide +kernel))) (by decide +kernel)
theorem yv_f3_firstKnown : Yv yX3_firstKnown RX3 3 cX3_firstKnown 1 (some .int) 0 := ⟨im_f3_firstKnown, se_f3_firstKnown, in_X3, cd_f3_firstKnown, by decide +kernel, Nat.le_of_ble_eq_true rfl, _, rfl, rfl⟩
theorem cd_f3_fit : Cond.code yX3_fit cX3_fit 4 (some .boolean) ∈ wU := wU_mem (List.mem_append_right _ (List.mem_of_getElem? (l := tables_1) (i := 890) (by decide +kernel))) (by decide +kernel)
theorem im_f3_fit : Cond.instanceMethod yX3_fit ∈ wU := wU_mem (List.mem_append_right _ (List.mem_of_getElem? (l := tables_1) (i := 888) (by decide +kernel))) (by decide +kernel)
theorem se_f3_fit : Cond.selects RX3 yX3_fit yX3_fit ∈ wU := wU_mem (List.mem_append_right _ (List.mem_of_getElem? (l := tables_1) (i := 889) (by decide +kernel))) (by decide +kernel)
theorem yv_f3_fit : Yv yX3_fit RX3 3 cX3_fit 4 (some .boolean) 2 := ⟨im_f3_fit, se_f3_fit, in_X3, cd_f3_fit, by decide +kernel, Nat.le_of_ble_eq_true rfl, _, rfl, rfl⟩
theorem cd_f3_sift : Cond.code yX3_sift cX3_sift 2 none ∈ wU := wU_mem (List.mem_append_right _ (List.mem_of_getElem? (l := tables_1) (i := 882) (by decide +kernel))) (by decide +kernel)
theorem im_f3_sift : Cond.instanceMethod yX3_sift ∈ wU := wU_mem (List.mem_append_right _ (List.mem_of_getElem? (l := tables_1) (i := 880) (by decide +kernel))) (by decide +kernel)
theorem se_f3_sift : Cond.selects RX3 yX3_sift yX3_sift ∈ wU := wU_mem (List.mem_append_right _ (List.mem_of_getElem? (l := tables_1) (i := 881) (by decide +kernel))) (by decide +kernel)
theorem yv_f3_sift : Yv yX3_sift RX3 3 cX3_sift 2 none 0 := ⟨im_f3_sift, se_f3_sift, in_X3, cd_f3_sift, by decide +kernel, Nat.le_of_ble_eq_true rfl, _, rfl, rfl⟩
theorem in_X4 : Cond.initialized RX4 ∈ wU := wU_mem (List.mem_append_right _ (List.mem_of_getElem? (l := tables_1) (i := 4) (by decide +kernel))) (by decide +kernel)
theorem cd_f4_await : Cond.code yX4_await cX4_await 2 none ∈ wU := wU_mem (List.mem_append_right _ (List.mem_of_getElem? (l := tables_1) (i := 640) (by decide +kernel))) (by decide +kernel)
theorem im_f4_await : Cond.instanceMethod yX4_await ∈ wU := wU_mem (List.mem_append_right _ (List.mem_of_getElem? (l := tables_1) (i := 638) (by decide +kernel))) (by decide +kernel)
theorem se_f4_await : Cond.selects RX4 yX4_await yX4_await ∈ wU := wU_mem (List.mem_append_right _ (List.mem_of_getElem? (l := tables_1) (i := 639) (by decide +kernel))) (by decide +kernel)
theorem yv_f4_await : Yv yX4_await RX4 4 cX4_await 2 none 1 := ⟨im_f4_await, se_f4_await, in_X4, cd_f4_await, by decide +kernel, Nat.le_of_ble_eq_true rfl, _, rfl, rfl⟩
theorem cd_f4_jointKind : Cond.code yX4_jointKind cX4_jointKind 1 (some .int) ∈ wU := wU_mem (List.mem_append_right _ (List.mem_of_getElem? (l := tables_1) (i := 654) (by decide +kernel))) (by decide +kernel)
theorem im_f4_jointKind : Cond.instanceMethod yX4_jointKind ∈ wU := wU_mem (List.mem_append_right _ (List.mem_of_getElem? (l := tables_1) (i := 652) (by decide +kernel))) (by decide +kernel)
theorem se_f4_jointKind : Cond.selects RX4 yX4_jointKind yX4_jointKind ∈ wU := wU_mem (List.mem_append_right _ (List.mem_of_getElem? (l := tables_1) (i := 653) (by decide +kernel))) (by decide +kernel)
theorem yv_f4_jointKind : Yv yX4_jointKind RX4 4 cX4_jointKind 1 (some .int) 0 := ⟨im_f4_jointKind, se_f4_jointKind, in_X4, cd_f4_jointKind, by decide +kernel, Nat.le_of_ble_eq_true rfl, _, rfl, rfl⟩
theorem cd_f4_operandKind : Cond.code yX4_operandKind cX4_operandKind 1 (some .int) ∈ wU := wU_mem (List.mem_append_right _ (List.mem_of_getElem? (l := tables_1) (i := 646) (by decide +kernel))) (by decide +kernel)
theorem im_f4_operandKind : Cond.instanceMethod yX4_operandKind ∈ wU := wU_mem (List.mem_append_right _ (List.mem_of_getElem? (l := tables_1) (i := 644) (by decide +kernel))) (by decide +kernel)
theorem se_f4_operandKind : Cond.selects RX4 yX4_operandKind yX4_operandKind ∈ wU := wU_mem (List.mem_append_right _ (List.mem_of_getElem? (l := tables_1) (i := 645) (by decide +kernel))) (by decide +kernel)
theorem yv_f4_operandKind : Yv yX4_operandKind RX4 4 cX4_operandKind 1 (some .int) 0 := ⟨im_f4_operandKind, se_f4_operandKind, in_X4, cd_f4_operandKind, by decide +kernel, Nat.le_of_ble_eq_true rfl, _, rfl, rfl⟩
theorem cd_f4_putAbove : Cond.code yX4_putAbove cX4_putAbove 2 none ∈ wU := wU_mem (List.mem_append_right _ (List.mem_of_getElem? (l := tables_1) (i := 621) (by decide +kernel))) (by decide +kernel)
theorem im_f4_putAbove : Cond.instanceMethod yX4_putAbove ∈ wU := wU_mem (List.mem_append_right _ (List.mem_of_getElem? (l := tables_1) (i := 619) (by decide +kernel))) (by decide +kernel)
theorem se_f4_putAbove : Cond.selects RX4 yX4_putAbove yX4_putAbove ∈ wU := wU_mem (List.mem_append_right _ (List.mem_of_getElem? (l := tables_1) (i := 620) (by decide +kernel))) (by decide +kernel)
theorem yv_f4_putAbove : Yv yX4_putAbove RX4 4 cX4_putAbove 2 none 1 := ⟨im_f4_putAbove, se_f4_putAbove, in_X4, cd_f4_putAbove, by decide +kernel, Nat.le_of_ble_eq_true rfl, _, rfl, rfl⟩
theorem cd_f4_rank : Cond.code yX4_rank cX4_rank 1 (some .int) ∈ wU := wU_mem (List.mem_append_right _ (List.mem_of_getElem? (l := tables_1) (i := 624) (by decide +kernel))) (by decide +kernel)
theorem st_f4_rank : Cond.static yX4_rank ∈ wU := wU_mem (List.mem_append_right _ (List.mem_of_getElem? (l := tables_1) (i := 623) (by decide +kernel))) (by decide +kernel)
theorem ys_f4_rank : Ys yX4_rank cX4_rank 1 (some .int) 1 := ⟨st_f4_rank, in_X4, cd_f4_rank, by decide +kernel⟩
theorem cd_f4_readInto : Cond.code yX4_readInto cX4_readInto 6 (some .int) ∈ wU := wU_mem (List.mem_append_right _ (List.mem_of_getElem? (l := tables_1) (i := 613) (by decide +kernel))) (by decide +kernel)
theorem im_f4_readInto : Cond.instanceMethod yX4_readInto ∈ wU := wU_mem (List.mem_append_right _ (List.mem_of_getElem? (l := tables_1) (i := 611) (by decide +kernel))) (by decide +kernel)
theorem se_f4_readInto : Cond.selects RX4 yX4_readInto yX4_readInto ∈ wU := wU_mem (List.mem_append_right _ (List.mem_of_getElem? (l := tables_1) (i := 612) (by decide +kernel))) (by decide +kernel)
theorem yv_f4_readInto : Yv yX4_readInto RX4 4 cX4_readInto 6 (some .int) 2 := ⟨im_f4_readInto, se_f4_readInto, in_X4, cd_f4_readInto, by decide +kernel, Nat.le_of_ble_eq_true rfl, _, rfl, rfl⟩
theorem cd_f4_takeJoint : Cond.code yX4_takeJoint cX4_takeJoint 3 (some .int) ∈ wU := wU_mem (List.mem_append_right _ (List.mem_of_getElem? (l := tables_1) (i := 650) (by decide +kernel))) (by decide +kernel)
theorem im_f4_takeJoint : Cond.instanceMethod yX4_takeJoint ∈ wU := wU_mem (List.mem_append_right _ (List.mem_of_getElem? (l := tables_1) (i := 648) (by decide +kernel))) (by decide +kernel)
theorem se_f4_takeJoint : Cond.selects RX4 yX4_takeJoint yX4_takeJoint ∈ wU := wU_mem (List.mem_append_right _ (List.mem_of_getElem? (l := tables_1) (i := 649) (by decide +kernel))) (by decide +kernel)
theorem yv_f4_takeJoint : Yv yX4_takeJoint RX4 4 cX4_takeJoint 3 (some .int) 0 := ⟨im_f4_takeJoint, se_f4_takeJoint, in_X4, cd_f4_takeJoint, by decide +kernel, Nat.le_of_ble_eq_true rfl, _, rfl, rfl⟩
theorem cd_f4_takeOpen : Cond.code yX4_takeOpen cX4_takeOpen 1 (some .int) ∈ wU := wU_mem (List.mem_append_right _ (List.mem_of_getElem? (l := tables_1) (i := 636) (by decide +kernel))) (by decide +kernel)
theorem im_f4_takeOpen : Cond.instanceMethod yX4_takeOpen ∈ wU := wU_mem (List.mem_append_right _ (List.mem_of_getElem? (l := tables_1) (i := 634) (by decide +kernel))) (by decide +kernel)
theorem se_f4_takeOpen : Cond.selects RX4 yX4_takeOpen yX4_takeOpen ∈ wU := wU_mem (List.mem_append_right _ (List.mem_of_getElem? (l := tables_1) (i := 635) (by decide +kernel))) (by decide +kernel)
theorem yv_f4_takeOpen : Yv yX4_takeOpen RX4 4 cX4_takeOpen 1 (some .int) 0 := ⟨im_f4_takeOpen, se_f4_takeOpen, in_X4, cd_f4_takeOpen, by decide +kernel, Nat.le_of_ble_eq_true rfl, _, rfl, rfl⟩
theorem cd_f4_takeOperand : Cond.code yX4_takeOperand cX4_takeOperand 3 (some .int) ∈ wU := wU_mem (List.mem_append_right _ (List.mem_of_getElem? (l := tables_1) (i := 632) (by decide +kernel))) (by decide +kernel)
theorem im_f4_takeOperand : Cond.instanceMethod yX4_takeOperand ∈ wU := wU_mem (List.mem_append_right _ (List.mem_of_getElem? (l := tables_1) (i := 630) (by decide +kernel))) (by decide +kernel)
theorem se_f4_takeOperand : Cond.selects RX4 yX4_takeOperand yX4_takeOperand ∈ wU := wU_mem (List.mem_append_right _ (List.mem_of_getElem? (l := tables_1) (i := 631) (by decide +kernel))) (by decide +kernel)
theorem yv_f4_takeOperand : Yv yX4_takeOperand RX4 4 cX4_takeOperand 3 (some .int) 0 := ⟨im_f4_takeOperand, se_f4_takeOperand, in_X4, cd_f4_takeOperand, by decide +kernel, Nat.le_of_ble_eq_true rfl, _, rfl, rfl⟩
theorem in_X5 : Cond.initialized RX5 ∈ wU := wU_mem (List.mem_append_right _ (List.mem_of_getElem? (l := tables_1) (i := 12) (by decide +kernel))) (by decide +kernel)
theorem cd_f5_clear : Cond.code yX5_clear cX5_clear 2 none ∈ wU := wU_mem (List.mem_append_right _ (List.mem_of_getElem? (l := tables_1) (i := 482) (by decide +kernel))) (by decide +kernel)
theorem im_f5_clear : Cond.instanceMethod yX5_clear ∈ wU := wU_mem (List.mem_append_right _ (List.mem_of_getElem? (l := tables_1) (i := 480) (by decide +kernel))) (by decide +kernel)
theorem se_f5_clear : Cond.selects RX5 yX5_clear yX5_clear ∈ wU := wU_mem (List.mem_append_right _ (List.mem_of_getElem? (l := tables_1) (i := 481) (by decide +kernel))) (by decide +kernel)
theorem yv_f5_clear : Yv yX5_clear RX5 5 cX5_clear 2 none 0 := ⟨im_f5_clear, se_f5_clear, in_X5, cd_f5_clear, by decide +kernel, Nat.le_of_ble_eq_true rfl, _, rfl, rfl⟩
theorem cd_f5_isTold : Cond.code yX5_isTold cX5_isTold 2 (some .boolean) ∈ wU := wU_mem (List.mem_append_right _ (List.mem_of_getElem? (l := tables_1) (i := 609) (by decide +kernel))) (by decide +kernel)
theorem im_f5_isTold : Cond.instanceMethod yX5_isTold ∈ wU := wU_mem (List.mem_append_right _ (List.mem_of_getElem? (l := tables_1) (i := 607) (by decide +kernel))) (by decide +kernel)
theorem se_f5_isTold : Cond.selects RX5 yX5_isTold yX5_isTold ∈ wU := wU_mem (List.mem_append_right _ (List.mem_of_getElem? (l := tables_1) (i := 608) (by decide +kernel))) (by decide +kernel)
theorem yv_f5_isTold : Yv yX5_isTold RX5 5 cX5_isTold 2 (some .boolean) 1 := ⟨im_f5_isTold, se_f5_isTold, in_X5, cd_f5_isTold, by decide +kernel, Nat.le_of_ble_eq_true rfl, _, rfl, rfl⟩
theorem cd_f5_nameOf : Cond.code yX5_nameOf cX5_nameOf 3 (some .long) ∈ wU := wU_mem (List.mem_append_right _ (List.mem_of_getElem? (l := tables_1) (i := 733) (by decide +kernel))) (by decide +kernel)
theorem st_f5_nameOf : Cond.static yX5_nameOf ∈ wU := wU_mem (List.mem_append_right _ (List.mem_of_getElem? (l := tables_1) (i := 732) (by decide +kernel))) (by decide +kernel)
theorem ys_f5_nameOf : Ys yX5_nameOf cX5_nameOf 3 (some .long) 3 := ⟨st_f5_nameOf, in_X5, cd_f5_nameOf, by decide +kernel⟩
theorem cd_f5_product : Cond.code yX5_product cX5_product 4 (some .long) ∈ wU := wU_mem (List.mem_append_right _ (List.mem_of_getElem? (l := tables_1) (i := 748) (by decide +kernel))) (by decide +kernel)
theorem st_f5_product : Cond.static yX5_product ∈ wU := wU_mem (List.mem_append_right _ (List.mem_of_getElem? (l := tables_1) (i := 747) (by decide +kernel))) (by decide +kernel)
theorem ys_f5_product : Ys yX5_product cX5_product 4 (some .long) 2 := ⟨st_f5_product, in_X5, cd_f5_product, by decide +kernel⟩
theorem cd_f5_put : Cond.code yX5_put cX5_put 3 none ∈ wU := wU_mem (List.mem_append_right _ (List.mem_of_getElem? (l := tables_1) (i := 628) (by decide +kernel))) (by decide +kernel)
theorem im_f5_put : Cond.instanceMethod yX5_put ∈ wU := wU_mem (List.mem_append_right _ (List.mem_of_getElem? (l := tables_1) (i := 626) (by decide +kernel))) (by decide +kernel)
theorem se_f5_put : Cond.selects RX5 yX5_put yX5_put ∈ wU := wU_mem (List.mem_append_right _ (List.mem_of_getElem? (l := tables_1) (i := 627) (by decide +kernel))) (by decide +kernel)
theorem yv_f5_put : Yv yX5_put RX5 5 cX5_put 3 none 2 := ⟨im_f5_put, se_f5_put, in_X5, cd_f5_put, by decide +kernel, Nat.le_of_ble_eq_true rfl, _, rfl, rfl⟩
theorem cd_f5_sign : Cond.code yX5_sign cX5_sign 5 (some .long) ∈ wU := wU_mem (List.mem_append_right _ (List.mem_of_getElem? (l := tables_1) (i := 745) (by decide +kernel))) (by decide +kernel)
theorem st_f5_sign : Cond.static yX5_sign ∈ wU := wU_mem (List.mem_append_right _ (List.mem_of_getElem? (l := tables_1) (i := 744) (by decide +kernel))) (by decide +kernel)
theorem ys_f5_sign : Ys yX5_sign cX5_sign 5 (some .long) 3 := ⟨st_f5_sign, in_X5, cd_f5_sign, by decide +kernel⟩
theorem cd_f5_truth : Cond.code yX5_truth cX5_truth 1 (some .long) ∈ wU := wU_mem (List.mem_append_right _ (List.mem_of_getElem? (l := tables_1) (i := 742) (by decide +kernel))) (by decide +kernel)
theorem st_f5_truth : Cond.static yX5_truth ∈ wU := wU_mem (List.mem_append_right _ (List.mem_of_getElem? (l := tables_1) (i := 741) (by decide +kernel))) (by decide +kernel)
theorem ys_f5_truth : Ys yX5_truth cX5_truth 1 (some .long) 1 := ⟨st_f5_truth, in_X5, cd_f5_truth, by decide +kernel⟩
theorem cd_f5_worth : Cond.code yX5_worth cX5_worth 9 (some .long) ∈ wU := wU_mem (List.mem_append_right _ (List.mem_of_getElem? (l := tables_1) (i := 730) (by decide +kernel))) (by decide +kernel)
theorem im_f5_worth : Cond.instanceMethod yX5_worth ∈ wU := wU_mem (List.mem_append_right _ (List.mem_of_getElem? (l := tables_1) (i := 728) (by decide +kernel))) (by decide +kernel)
theorem se_f5_worth : Cond.selects RX5 yX5_worth yX5_worth ∈ wU := wU_mem (List.mem_append_right _ (List.mem_of_getElem? (l := tables_1) (i := 729) (by decide +kernel))) (by decide +kernel)
theorem yv_f5_worth : Yv yX5_worth RX5 5 cX5_worth 9 (some .long) 3 := ⟨im_f5_worth, se_f5_worth, in_X5, cd_f5_worth, by decide +kernel, Nat.le_of_ble_eq_true rfl, _, rfl, rfl⟩
theorem in_X6 : Cond.initialized RX6 ∈ wU := wU_mem (List.mem_append_right _ (List.mem_of_getElem? (l := tables_1) (i := 10) (by decide +kernel))) (by decide +kernel)
theorem cd_f6_lengthBy : Cond.code yX6_lengthBy cX6_lengthBy 4 (some .int) ∈ wU := wU_mem (List.mem_append_right _ (List.mem_of_getElem? (l := tables_1) (i := 932) (by decide +kernel))) (by decide +kernel)
theorem im_f6_lengthBy : Cond.instanceMethod yX6_lengthBy ∈ wU := wU_mem (List.mem_append_right _ (List.mem_of_getElem? (l := tables_1) (i := 930) (by decide +kernel))) (by decide +kernel)
theorem se_f6_lengthBy : Cond.selects RX6 yX6_lengthBy yX6_lengthBy ∈ wU := wU_mem (List.mem_append_right _ (List.mem_of_getElem? (l := tables_1) (i := 931) (by decide +kernel))) (by decide +kernel)
theorem yv_f6_lengthBy : Yv yX6_lengthBy RX6 6 cX6_lengthBy 4 (some .int) 3 := ⟨im_f6_lengthBy, se_f6_lengthBy, in_X6, cd_f6_lengthBy, by decide +kernel, Nat.le_of_ble_eq_true rfl, _, rfl, rfl⟩
theorem cd_f6_longest : Cond.code yX6_longest cX6_longest 7 none ∈ wU := wU_mem (List.mem_append_right _ (List.mem_of_getElem? (l := tables_1) (i := 1032) (by decide +kernel))) (by decide +kernel)
theorem im_f6_longest : Cond.instanceMethod yX6_longest ∈ wU := wU_mem (List.mem_append_right _ (List.mem_of_getElem? (l := tables_1) (i := 1030) (by decide +kernel))) (by decide +kernel)
theorem se_f6_longest : Cond.selects RX6 yX6_longest yX6_longest ∈ wU := wU_mem (List.mem_append_right _ (List.mem_of_getElem? (l := tables_1) (i := 1031) (by decide +kernel))) (by decide +kernel)
theorem yv_f6_longest : Yv yX6_longest RX6 6 cX6_longest 7 none 1 := ⟨im_f6_longest, se_f6_longest, in_X6, cd_f6_longest, by decide +kernel, Nat.le_of_ble_eq_true rfl, _, rfl, rfl⟩
theorem cd_f6_longestNext : Cond.code yX6_longestNext cX6_longestNext 5 (some .int) ∈ wU := wU_mem (List.mem_append_right _ (List.mem_of_getElem? (l := tables_1) (i := 1036) (by decide +kernel))) (by decide +kernel)
theorem im_f6_longestNext : Cond.instanceMethod yX6_longestNext ∈ wU := wU_mem (List.mem_append_right _ (List.mem_of_getElem? (l := tables_1) (i := 1034) (by decide +kernel))) (by decide +kernel)
theorem se_f6_longestNext : Cond.selects RX6 yX6_longestNext yX6_longestNext ∈ wU := wU_mem (List.mem_append_right _ (List.mem_of_getElem? (l := tables_1) (i := 1035) (by decide +kernel))) (by decide +kernel)
theorem yv_f6_longestNext : Yv yX6_longestNext RX6 6 cX6_longestNext 5 (some .int) 2 := ⟨im_f6_longestNext, se_f6_longestNext, in_X6, cd_f6_longestNext, by decide +kernel, Nat.le_of_ble_eq_true rfl, _, rfl, rfl⟩
theorem cd_f6_shortest : Cond.code yX6_shortest cX6_shortest 7 (some .int) ∈ wU := wU_mem (List.mem_append_right _ (List.mem_of_getElem? (l := tables_1) (i := 912) (by decide +kernel))) (by decide +kernel)
theorem im_f6_shortest : Cond.instanceMethod yX6_shortest ∈ wU := wU_mem (List.mem_append_right _ (List.mem_of_getElem? (l := tables_1) (i := 910) (by decide +kernel))) (by decide +kernel)
theorem se_f6_shortest : Cond.selects RX6 yX6_shortest yX6_shortest ∈ wU := wU_mem (List.mem_append_right _ (List.mem_of_getElem? (l := tables_1) (i := 911) (by decide +kernel))) (by decide +kernel)
theorem yv_f6_shortest : Yv yX6_shortest RX6 6 cX6_shortest 7 (some .int) 2 := ⟨im_f6_shortest, se_f6_shortest, in_X6, cd_f6_shortest, by decide +kernel, Nat.le_of_ble_eq_true rfl, _, rfl, rfl⟩
theorem cd_f6_shortestFrom : Cond.code yX6_shortestFrom cX6_shortestFrom 3 (some .int) ∈ wU := wU_mem (List.mem_append_right _ (List.mem_of_getElem? (l := tables_1) (i := 920) (by decide +kernel))) (by decide +kernel)
theorem im_f6_shortestFrom : Cond.instanceMethod yX6_shortestFrom ∈ wU := wU_mem (List.mem_append_right _ (List.mem_of_getElem? (l := tables_1) (i := 918) (by decide +kernel))) (by decide +kernel)
theorem se_f6_shortestFrom : Cond.selects RX6 yX6_shortestFrom yX6_shortestFrom ∈ wU := wU_mem (List.mem_append_right _ (List.mem_of_getElem? (l := tables_1) (i := 919) (by decide +kernel))) (by decide +kernel)
theorem yv_f6_shortestFrom : Yv yX6_shortestFrom RX6 6 cX6_shortestFrom 3 (some .int) 2 := ⟨im_f6_shortestFrom, se_f6_shortestFrom, in_X6, cd_f6_shortestFrom, by decide +kernel, Nat.le_of_ble_eq_true rfl, _, rfl, rfl⟩
theorem cd_f6_shortestNext : Cond.code yX6_shortestNext cX6_shortestNext 5 (some .int) ∈ wU := wU_mem (List.mem_append_right _ (List.mem_of_getElem? (l := tables_1) (i := 928) (by decide +kernel))) (by decide +kernel)
theorem im_f6_shortestNext : Cond.instanceMethod yX6_shortestNext ∈ wU := wU_mem (List.mem_append_right _ (List.mem_of_getElem? (l := tables_1) (i := 926) (by decide +kernel))) (by decide +kernel)
theorem se_f6_shortestNext : Cond.selects RX6 yX6_shortestNext yX6_shortestNext ∈ wU := wU_mem (List.mem_append_right _ (List.mem_of_getElem? (l := tables_1) (i := 927) (by decide +kernel))) (by decide +kernel)
theorem yv_f6_shortestNext : Yv yX6_shortestNext RX6 6 cX6_shortestNext 5 (some .int) 2 := ⟨im_f6_shortestNext, se_f6_shortestNext, in_X6, cd_f6_shortestNext, by decide +kernel, Nat.le_of_ble_eq_true rfl, _, rfl, rfl⟩
theorem cd_f6_shortestOf : Cond.code yX6_shortestOf cX6_shortestOf 4 (some .int) ∈ wU := wU_mem (List.mem_append_right _ (List.mem_of_getElem? (l := tables_1) (i := 924) (by decide +kernel))) (by decide +kernel)
theorem im_f6_shortestOf : Cond.instanceMethod yX6_shortestOf ∈ wU := wU_mem (List.mem_append_right _ (List.mem_of_getElem? (l := tables_1) (i := 922) (by decide +kernel))) (by decide +kernel)
theorem se_f6_shortestOf : Cond.selects RX6 yX6_shortestOf yX6_shortestOf ∈ wU := wU_mem (List.mem_append_right _ (List.mem_of_getElem? (l := tables_1) (i := 923) (by decide +kernel))) (by decide +kernel)
theorem yv_f6_shortestOf : Yv yX6_shortestOf RX6 6 cX6_shortestOf 4 (some .int) 2 := ⟨im_f6_shortestOf, se_f6_shortestOf, in_X6, cd_f6_shortestOf, by decide +kernel, Nat.le_of_ble_eq_true rfl, _, rfl, rfl⟩
theorem in_X7 : Cond.initialized RX7 ∈ wU := wU_mem (List.mem_append_right _ (List.mem_of_getElem? (l := tables_1) (i := 3) (by decide +kernel))) (by decide +kernel)
theorem cd_f7_check : Cond.code yX7_check cX7_check 3 none ∈ wU := wU_mem (List.mem_append_right _ (List.mem_of_getElem? (l := tables_1) (i := 527) (by decide +kernel))) (by decide +kernel)
theorem im_f7_check : Cond.instanceMethod yX7_check ∈ wU := wU_mem (List.mem_append_right _ (List.mem_of_getElem? (l := tables_1) (i := 525) (by decide +kernel))) (by decide +kernel)
theorem se_f7_check : Cond.selects RX7 yX7_check yX7_check ∈ wU := wU_mem (List.mem_append_right _ (List.mem_of_getElem? (l := tables_1) (i := 526) (by decide +kernel))) (by decide +kernel)
theorem yv_f7_check : Yv yX7_check RX7 7 cX7_check 3 none 2 := ⟨im_f7_check, se_f7_check, in_X7, cd_f7_check, by decide +kernel, Nat.le_of_ble_eq_true rfl, _, rfl, rfl⟩
theorem cd_f7_checkNumber : Cond.code yX7_checkNumber cX7_checkNumber 3 none ∈ wU := wU_mem (List.mem_append_right _ (List.mem_of_getElem? (l := tables_1) (i := 557) (by decide +kernel))) (by decide +kernel)
theorem im_f7_checkNumber : Cond.instanceMethod yX7_checkNumber ∈ wU := wU_mem (List.mem_append_right _ (List.mem_of_getElem? (l := tables_1) (i := 555) (by decide +kernel))) (by decide +kernel)
theorem se_f7_checkNumber : Cond.selects RX7 yX7_checkNumber yX7_checkNumber ∈ wU := wU_mem (List.mem_append_right _ (List.mem_of_getElem? (l := tables_1) (i := 556) (by decide +kernel))) (by decide +kernel)
theorem yv_f7_checkNumber : Yv yX7_checkNumber RX7 7 cX7_checkNumber 3 none 2 := ⟨im_f7_checkNumber, se_f7_checkNumber, in_X7, cd_f7_checkNumber, by decide +kernel, Nat.le_of_ble_eq_true rfl, _, rfl, rfl⟩
theorem cd_f7_fail : Cond.code yX7_fail cX7_fail 2 none ∈ wU := wU_mem (List.mem_append_right _ (List.mem_of_getElem? (l := tables_1) (i := 531) (by decide +kernel))) (by decide +kernel)
theorem im_f7_fail : Cond.instanceMethod yX7_fail ∈ wU := wU_mem (List.mem_append_right _ (List.mem_of_getElem? (l := tables_1) (i := 529) (by decide +kernel))) (by decide +kernel)
theorem se_f7_fail : Cond.selects RX7 yX7_fail yX7_fail ∈ wU := wU_mem (List.mem_append_right _ (List.mem_of_getElem? (l := tables_1) (i := 530) (by decide +kernel))) (by decide +kernel)
theorem yv_f7_fail : Yv yX7_fail RX7 7 cX7_fail 2 none 1 := ⟨im_f7_fail, se_f7_fail, in_X7, cd_f7_fail, by decide +kernel, Nat.le_of_ble_eq_true rfl, _, rfl, rfl⟩
theorem cd_f7_isOfLanguage : Cond.code yX7_isOfLanguage cX7_isOfLanguage 2 (some .boolean) ∈ wU := wU_mem (List.mem_append_right _ (List.mem_of_getElem? (l := tables_1) (i := 543) (by decide +kernel))) (by decide +kernel)
theorem st_f7_isOfLanguage : Cond.static yX7_isOfLanguage ∈ wU := wU_mem (List.mem_append_right _ (List.mem_of_getElem? (l := tables_1) (i := 542) (by decide +kernel))) (by decide +kernel)
theorem ys_f7_isOfLanguage : Ys yX7_isOfLanguage cX7_isOfLanguage 2 (some .boolean) 1 := ⟨st_f7_isOfLanguage, in_X7, cd_f7_isOfLanguage, by decide +kernel⟩
theorem cd_f7_readAll : Cond.code yX7_readAll cX7_readAll 4 none ∈ wU := wU_mem (List.mem_append_right _ (List.mem_of_getElem? (l := tables_1) (i := 474) (by decide +kernel))) (by decide +kernel)
theorem im_f7_readAll : Cond.instanceMethod yX7_readAll ∈ wU := wU_mem (List.mem_append_right _ (List.mem_of_getElem? (l := tables_1) (i := 472) (by decide +kernel))) (by decide +kernel)
theorem se_f7_readAll : Cond.selects RX7 yX7_readAll yX7_readAll ∈ wU := wU_mem (List.mem_append_right _ (List.mem_of_getElem? (l := tables_1) (i := 473) (by decide +kernel))) (by decide +kernel)
theorem yv_f7_readAll : Yv yX7_readAll RX7 7 cX7_readAll 4 none 2 := ⟨im_f7_readAll, se_f7_readAll, in_X7, cd_f7_readAll, by decide +kernel, Nat.le_of_ble_eq_true rfl, _, rfl, rfl⟩
theorem cd_f7_readBox : Cond.code yX7_readBox cX7_readBox 4 none ∈ wU := wU_mem (List.mem_append_right _ (List.mem_of_getElem? (l := tables_1) (i := 523) (by decide +kernel))) (by decide +kernel)
theorem im_f7_readBox : Cond.instanceMethod yX7_readBox ∈ wU := wU_mem (List.mem_append_right _ (List.mem_of_getElem? (l := tables_1) (i := 521) (by decide +kernel))) (by decide +kernel)
theorem se_f7_readBox : Cond.selects RX7 yX7_readBox yX7_readBox ∈ wU := wU_mem (List.mem_append_right _ (List.mem_of_getElem? (l := tables_1) (i := 522) (by decide +kernel))) (by decide +kernel)
theorem yv_f7_readBox : Yv yX7_readBox RX7 7 cX7_readBox 4 none 0 := ⟨im_f7_readBox, se_f7_readBox, in_X7, cd_f7_readBox, by decide +kernel, Nat.le_of_ble_eq_true rfl, _, rfl, rfl⟩
theorem cd_f7_readDamp : Cond.code yX7_readDamp cX7_readDamp 1 none ∈ wU := wU_mem (List.mem_append_right _ (List.mem_of_getElem? (l := tables_1) (i := 589) (by decide +kernel))) (by decide +kernel)
theorem im_f7_readDamp : Cond.instanceMethod yX7_readDamp ∈ wU := wU_mem (List.mem_append_right _ (List.mem_of_getElem? (l := tables_1) (i := 587) (by decide +kernel))) (by decide +kernel)
theorem se_f7_readDamp : Cond.selects RX7 yX7_readDamp yX7_readDamp ∈ wU := wU_mem (List.mem_append_right _ (List.mem_of_getElem? (l := tables_1) (i := 588) (by decide +kernel))) (by decide +kernel)
theorem yv_f7_readDamp : Yv yX7_readDamp RX7 7 cX7_readDamp 1 none 0 := ⟨im_f7_readDamp, se_f7_readDamp, in_X7, cd_f7_readDamp, by decide +kernel, Nat.le_of_ble_eq_true rfl, _, rfl, rfl⟩
theorem cd_f7_readGuest : Cond.code yX7_readGuest cX7_readGuest 4 none ∈ wU := wU_mem (List.mem_append_right _ (List.mem_of_getElem? (l := tables_1) (i := 581) (by decide +kernel))) (by decide +kernel)
theorem im_f7_readGuest : Cond.instanceMethod yX7_readGuest ∈ wU := wU_mem (List.mem_append_right _ (List.mem_of_getElem? (l := tables_1) (i := 579) (by decide +kernel))) (by decide +kernel)
theorem se_f7_readGuest : Cond.selects RX7 yX7_readGuest yX7_readGuest ∈ wU := wU_mem (List.mem_append_right _ (List.mem_of_getElem? (l := tables_1) (i := 580) (by decide +kernel))) (by decide +kernel)
theorem yv_f7_readGuest : Yv yX7_readGuest RX7 7 cX7_readGuest 4 none 0 := ⟨im_f7_readGuest, se_f7_readGuest, in_X7, cd_f7_readGuest, by decide +kernel, Nat.le_of_ble_eq_true rfl, _, rfl, rfl⟩
theorem cd_f7_readKin : Cond.code yX7_readKin cX7_readKin 3 none ∈ wU := wU_mem (List.mem_append_right _ (List.mem_of_getElem? (l := tables_1) (i := 573) (by decide +kernel))) (by decide +kernel)
theorem im_f7_readKin : Cond.instanceMethod yX7_readKin ∈ wU := wU_mem (List.mem_append_right _ (List.mem_of_getElem? (l := tables_1) (i := 571) (by decide +kernel))) (by decide +kernel)
theorem se_f7_readKin : Cond.selects RX7 yX7_readKin yX7_readKin ∈ wU := wU_mem (List.mem_append_right _ (List.mem_of_getElem? (l := tables_1) (i := 572) (by decide +kernel))) (by decide +kernel)
theorem yv_f7_readKin : Yv yX7_readKin RX7 7 cX7_readKin 3 none 0 := ⟨im_f7_readKin, se_f7_readKin, in_X7, cd_f7_readKin, by decide +kernel, Nat.le_of_ble_eq_true rfl, _, rfl, rfl⟩
theorem cd_f7_readLaw : Cond.code yX7_readLaw cX7_readLaw 3 none ∈ wU := wU_mem (List.mem_append_right _ (List.mem_of_getElem? (l := tables_1) (i := 598) (by decide +kernel))) (by decide +kernel)
theorem im_f7_readLaw : Cond.instanceMethod yX7_readLaw ∈ wU := wU_mem (List.mem_append_right _ (List.mem_of_getElem? (l := tables_1) (i := 596) (by decide +kernel))) (by decide +kernel)
theorem se_f7_readLaw : Cond.selects RX7 yX7_readLaw yX7_readLaw ∈ wU := wU_mem (List.mem_append_right _ (List.mem_of_getElem? (l := tables_1) (i := 597) (by decide +kernel))) (by decide +kernel)
theorem yv_f7_readLaw : Yv yX7_readLaw RX7 7 cX7_readLaw 3 none 0 := ⟨im_f7_readLaw, se_f7_readLaw, in_X7, cd_f7_readLaw, by decide +kernel, Nat.le_of_ble_eq_true rfl, _, rfl, rfl⟩
theorem cd_f7_readLine : Cond.code yX7_readLine cX7_readLine 1 none ∈ wU := wU_mem (List.mem_append_right _ (List.mem_of_getElem? (l := tables_1) (i := 519) (by decide +kernel))) (by decide +kernel)
theorem im_f7_readLine : Cond.instanceMethod yX7_readLine ∈ wU := wU_mem (List.mem_append_right _ (List.mem_of_getElem? (l := tables_1) (i := 517) (by decide +kernel))) (by decide +kernel)
theorem se_f7_readLine : Cond.selects RX7 yX7_readLine yX7_readLine ∈ wU := wU_mem (List.mem_append_right _ (List.mem_of_getElem? (l := tables_1) (i := 518) (by decide +kernel))) (by decide +kernel)
theorem yv_f7_readLine : Yv yX7_readLine RX7 7 cX7_readLine 1 none 0 := ⟨im_f7_readLine, se_f7_readLine, in_X7, cd_f7_readLine, by decide +kernel, Nat.le_of_ble_eq_true rfl, _, rfl, rfl⟩
theorem cd_f7_readSeed : Cond.code yX7_readSeed cX7_readSeed 1 none ∈ wU := wU_mem (List.mem_append_right _ (List.mem_of_getElem? (l := tables_1) (i := 593) (by decide +kernel))) (by decide +kernel)
theorem im_f7_readSeed : Cond.instanceMethod yX7_readSeed ∈ wU := wU_mem (List.mem_append_right _ (List.mem_of_getElem? (l := tables_1) (i := 591) (by decide +kernel))) (by decide +kernel)
theorem se_f7_readSeed : Cond.selects RX7 yX7_readSeed yX7_readSeed ∈ wU := wU_mem (List.mem_append_right _ (List.mem_of_getElem? (l := tables_1) (i := 592) (by decide +kernel))) (by decide +kernel)
theorem yv_f7_readSeed : Yv yX7_readSeed RX7 7 cX7_readSeed 1 none 0 := ⟨im_f7_readSeed, se_f7_readSeed, in_X7, cd_f7_readSeed, by decide +kernel, Nat.le_of_ble_eq_true rfl, _, rfl, rfl⟩
theorem cd_f7_readTooth : Cond.code yX7_readTooth cX7_readTooth 3 none ∈ wU := wU_mem (List.mem_append_right _ (List.mem_of_getElem? (l := tables_1) (i := 561) (by decide +kernel))) (by decide +kernel)
theorem im_f7_readTooth : Cond.instanceMethod yX7_readTooth ∈ wU := wU_mem (List.mem_append_right _ (List.mem_of_getElem? (l := tables_1) (i := 559) (by decide +kernel))) (by decide +kernel)
theorem se_f7_readTooth : Cond.selects RX7 yX7_readTooth yX7_readTooth ∈ wU := wU_mem (List.mem_append_right _ (List.mem_of_getElem? (l := tables_1) (i := 560) (by decide +kernel))) (by decide +kernel)
theorem yv_f7_readTooth : Yv yX7_readTooth RX7 7 cX7_readTooth 3 none 0 := ⟨im_f7_readTooth, se_f7_readTooth, in_X7, cd_f7_readTooth, by decide +kernel, Nat.le_of_ble_eq_true rfl, _, rfl, rfl⟩
theorem cd_f7_step : Cond.code yX7_step cX7_step 1 none ∈ wU := wU_mem (List.mem_append_right _ (List.mem_of_getElem? (l := tables_1) (i := 535) (by decide +kernel))) (by decide +kernel)
theorem im_f7_step : Cond.instanceMethod yX7_step ∈ wU := wU_mem (List.mem_append_right _ (List.mem_of_getElem? (l := tables_1) (i := 533) (by decide +kernel))) (by decide +kernel)
theorem se_f7_step : Cond.selects RX7 yX7_step yX7_step ∈ wU := wU_mem (List.mem_append_right _ (List.mem_of_getElem? (l := tables_1) (i := 534) (by decide +kernel))) (by decide +kernel)
theorem yv_f7_step : Yv yX7_step RX7 7 cX7_step 1 none 0 := ⟨im_f7_step, se_f7_step, in_X7, cd_f7_step, by decide +kernel, Nat.le_of_ble_eq_true rfl, _, rfl, rfl⟩
theorem cd_f7_takeBox : Cond.code yX7_takeBox cX7_takeBox 2 (some .int) ∈ wU := wU_mem (List.mem_append_right _ (List.mem_of_getElem? (l := tables_1) (i := 565) (by decide +kernel))) (by decide +kernel)
theorem im_f7_takeBox : Cond.instanceMethod yX7_takeBox ∈ wU := wU_mem (List.mem_append_right _ (List.mem_of_getElem? (l := tables_1) (i := 563) (by decide +kernel))) (by decide +kernel)
theorem se_f7_takeBox : Cond.selects RX7 yX7_takeBox yX7_takeBox ∈ wU := wU_mem (List.mem_append_right _ (List.mem_of_getElem? (l := tables_1) (i := 564) (by decide +kernel))) (by decide +kernel)
theorem yv_f7_takeBox : Yv yX7_takeBox RX7 7 cX7_takeBox 2 (some .int) 0 := ⟨im_f7_takeBox, se_f7_takeBox, in_X7, cd_f7_takeBox, by decide +kernel, Nat.le_of_ble_eq_true rfl, _, rfl, rfl⟩
theorem cd_f7_takeName : Cond.code yX7_takeName cX7_takeName 1 (some .int) ∈ wU := wU_mem (List.mem_append_right _ (List.mem_of_getElem? (l := tables_1) (i := 540) (by decide +kernel))) (by decide +kernel)
theorem im_f7_takeName : Cond.instanceMethod yX7_takeName ∈ wU := wU_mem (List.mem_append_right _ (List.mem_of_getElem? (l := tables_1) (i := 538) (by decide +kernel))) (by decide +kernel)
theorem se_f7_takeName : Cond.selects RX7 yX7_takeName yX7_takeName ∈ wU := wU_mem (List.mem_append_right _ (List.mem_of_getElem? (l := tables_1) (i := 539) (by decide +kernel))) (by decide +kernel)
theorem yv_f7_takeName : Yv yX7_takeName RX7 7 cX7_takeName 1 (some .int) 0 := ⟨im_f7_takeName, se_f7_takeName, in_X7, cd_f7_takeName, by decide +kernel, Nat.le_of_ble_eq_true rfl, _, rfl, rfl⟩
theorem cd_f7_takeNumber : Cond.code yX7_takeNumber cX7_takeNumber 4 (some .int) ∈ wU := wU_mem (List.mem_append_right _ (List.mem_of_getElem? (l := tables_1) (i := 553) (by decide +kernel))) (by decide +kernel)
theorem im_f7_takeNumber : Cond.instanceMethod yX7_takeNumber ∈ wU := wU_mem (List.mem_append_right _ (List.mem_of_getElem? (l := tables_1) (i := 551) (by decide +kernel))) (by decide +kernel)
theorem se_f7_takeNumber : Cond.selects RX7 yX7_takeNumber yX7_takeNumber ∈ wU := wU_mem (List.mem_append_right _ (List.mem_of_getElem? (l := tables_1) (i := 552) (by decide +kernel))) (by decide +kernel)
theorem yv_f7_takeNumber : Yv yX7_takeNumber RX7 7 cX7_takeNumber 4 (some .int) 2 := ⟨im_f7_takeNumber, se_f7_takeNumber, in_X7, cd_f7_takeNumber, by decide +kernel, Nat.le_of_ble_eq_true rfl, _, rfl, rfl⟩
theorem in_X8 : Cond.initialized RX8 ∈ wU := wU_mem (List.mem_append_right _ (List.mem_of_getElem? (l := tables_1) (i := 2) (by decide +kernel))) (by decide +kernel)
theorem cd_f8_begin : Cond.code yX8_begin cX8_begin 2 none ∈ wU := wU_mem (List.mem_append_right _ (List.mem_of_getElem? (l := tables_1) (i := 486) (by decide +kernel))) (by decide +kernel)
theorem im_f8_begin : Cond.instanceMethod yX8_begin ∈ wU := wU_mem (List.mem_append_right _ (List.mem_of_getElem? (l := tables_1) (i := 484) (by decide +kernel))) (by decide +kernel)
theorem se_f8_begin : Cond.selects RX8 yX8_begin yX8_begin ∈ wU := wU_mem (List.mem_append_right _ (List.mem_of_getElem? (l := tables_1) (i := 485) (by decide +kernel))) (by decide +kernel)
theorem yv_f8_begin : Yv yX8_begin RX8 8 cX8_begin 2 none 1 := ⟨im_f8_begin, se_f8_begin, in_X8, cd_f8_begin, by decide +kernel, Nat.le_of_ble_eq_true rfl, _, rfl, rfl⟩
theorem cd_f8_isDigit : Cond.code yX8_isDigit cX8_isDigit 1 (some .boolean) ∈ wU := wU_mem (List.mem_append_right _ (List.mem_of_getElem? (l := tables_1) (i := 503) (by decide +kernel))) (by decide +kernel)
theorem st_f8_isDigit : Cond.static yX8_isDigit ∈ wU := wU_mem (List.mem_append_right _ (List.mem_of_getElem? (l := tables_1) (i := 502) (by decide +kernel))) (by decide +kernel)
theorem ys_f8_isDigit : Ys yX8_isDigit cX8_isDigit 1 (some .boolean) 1 := ⟨st_f8_isDigit, in_X8, cd_f8_isDigit, by decide +kernel⟩
theorem cd_f8_isLetter : Cond.code yX8_isLetter cX8_isLetter 1 (some .boolean) ∈ wU := wU_mem (List.mem_append_right _ (List.mem_of_getElem? (l := tables_1) (i := 496) (by decide +kernel))) (by decide +kernel)
theorem st_f8_isLetter : Cond.static yX8_isLetter ∈ wU := wU_mem (List.mem_append_right _ (List.mem_of_getElem? (l := tables_1) (i := 495) (by decide +kernel))) (by decide +kernel)
theorem ys_f8_isLetter : Ys yX8_isLetter cX8_isLetter 1 (some .boolean) 1 := ⟨st_f8_isLetter, in_X8, cd_f8_isLetter, by decide +kernel⟩
theorem cd_f8_isSign : Cond.code yX8_isSign cX8_isSign 2 (some .boolean) ∈ wU := wU_mem (List.mem_append_right _ (List.mem_of_getElem? (l := tables_1) (i := 617) (by decide +kernel))) (by decide +kernel)
theorem im_f8_isSign : Cond.instanceMethod yX8_isSign ∈ wU := wU_mem (List.mem_append_right _ (List.mem_of_getElem? (l := tables_1) (i := 615) (by decide +kernel))) (by decide +kernel)
theorem se_f8_isSign : Cond.selects RX8 yX8_isSign yX8_isSign ∈ wU := wU_mem (List.mem_append_right _ (List.mem_of_getElem? (l := tables_1) (i := 616) (by decide +kernel))) (by decide +kernel)
theorem yv_f8_isSign : Yv yX8_isSign RX8 8 cX8_isSign 2 (some .boolean) 1 := ⟨im_f8_isSign, se_f8_isSign, in_X8, cd_f8_isSign, by decide +kernel, Nat.le_of_ble_eq_true rfl, _, rfl, rfl⟩
theorem cd_f8_isWord : Cond.code yX8_isWord cX8_isWord 2 (some .boolean) ∈ wU := wU_mem (List.mem_append_right _ (List.mem_of_getElem? (l := tables_1) (i := 603) (by decide +kernel))) (by decide +kernel)
theorem im_f8_isWord : Cond.instanceMethod yX8_isWord ∈ wU := wU_mem (List.mem_append_right _ (List.mem_of_getElem? (l := tables_1) (i := 601) (by decide +kernel))) (by decide +kernel)
theorem se_f8_isWord : Cond.selects RX8 yX8_isWord yX8_isWord ∈ wU := wU_mem (List.mem_append_right _ (List.mem_of_getElem? (l := tables_1) (i := 602) (by decide +kernel))) (by decide +kernel)
theorem yv_f8_isWord : Yv yX8_isWord RX8 8 cX8_isWord 2 (some .boolean) 1 := ⟨im_f8_isWord, se_f8_isWord, in_X8, cd_f8_isWord, by decide +kernel, Nat.le_of_ble_eq_true rfl, _, rfl, rfl⟩
theorem cd_f8_next : Cond.code yX8_next cX8_next 1 none ∈ wU := wU_mem (List.mem_append_right _ (List.mem_of_getElem? (l := tables_1) (i := 493) (by decide +kernel))) (by decide +kernel)
theorem im_f8_next : Cond.instanceMethod yX8_next ∈ wU := wU_mem (List.mem_append_right _ (List.mem_of_getElem? (l := tables_1) (i := 491) (by decide +kernel))) (by decide +kernel)
theorem se_f8_next : Cond.selects RX8 yX8_next yX8_next ∈ wU := wU_mem (List.mem_append_right _ (List.mem_of_getElem? (l := tables_1) (i := 492) (by decide +kernel))) (by decide +kernel)
theorem yv_f8_next : Yv yX8_next RX8 8 cX8_next 1 none 0 := ⟨im_f8_next, se_f8_next, in_X8, cd_f8_next, by decide +kernel, Nat.le_of_ble_eq_true rfl, _, rfl, rfl⟩
theorem cd_f8_put : Cond.code yX8_put cX8_put 3 none ∈ wU := wU_mem (List.mem_append_right _ (List.mem_of_getElem? (l := tables_1) (i := 466) (by decide +kernel))) (by decide +kernel)
theorem im_f8_put : Cond.instanceMethod yX8_put ∈ wU := wU_mem (List.mem_append_right _ (List.mem_of_getElem? (l := tables_1) (i := 464) (by decide +kernel))) (by decide +kernel)
theorem se_f8_put : Cond.selects RX8 yX8_put yX8_put ∈ wU := wU_mem (List.mem_append_right _ (List.mem_of_getElem? (l := tables_1) (i := 465) (by decide +kernel))) (by decide +kernel)
theorem yv_f8_put : Yv yX8_put RX8 8 cX8_put 3 none 1 := ⟨im_f8_put, se_f8_put, in_X8, cd_f8_put, by decide +kernel, Nat.le_of_ble_eq_true rfl, _, rfl, rfl⟩
theorem cd_f8_signOf : Cond.code yX8_signOf cX8_signOf 1 (some .int) ∈ wU := wU_mem (List.mem_append_right _ (List.mem_of_getElem? (l := tables_1) (i := 515) (by decide +kernel))) (by decide +kernel)
theorem st_f8_signOf : Cond.static yX8_signOf ∈ wU := wU_mem (List.mem_append_right _ (List.mem_of_getElem? (l := tables_1) (i := 514) (by decide +kernel))) (by decide +kernel)
theorem ys_f8_signOf : Ys yX8_signOf cX8_signOf 1 (some .int) 1 := ⟨st_f8_signOf, in_X8, cd_f8_signOf, by decide +kernel⟩
theorem cd_f8_takeDigits : Cond.code yX8_takeDigits cX8_takeDigits 1 none ∈ wU := wU_mem (List.mem_append_right _ (List.mem_of_getElem? (l := tables_1) (i := 507) (by decide +kernel))) (by decide +kernel)
theorem im_f8_takeDigits : Cond.instanceMethod yX8_takeDigits ∈ wU := wU_mem (List.mem_append_right _ (List.mem_of_getElem? (l := tables_1) (i := 505) (by decide +kernel))) (by decide +kernel)
theorem se_f8_takeDigits : Cond.selects RX8 yX8_takeDigits yX8_takeDigits ∈ wU := wU_mem (List.mem_append_right _ (List.mem_of_getElem? (l := tables_1) (i := 506) (by decide +kernel))) (by decide +kernel)
theorem yv_f8_takeDigits : Yv yX8_takeDigits RX8 8 cX8_takeDigits 1 none 0 := ⟨im_f8_takeDigits, se_f8_takeDigits, in_X8, cd_f8_takeDigits, by decide +kernel, Nat.le_of_ble_eq_true rfl, _, rfl, rfl⟩
theorem cd_f8_takeSign : Cond.code yX8_takeSign cX8_takeSign 3 none ∈ wU := wU_mem (List.mem_append_right _ (List.mem_of_getElem? (l := tables_1) (i := 512) (by decide +kernel))) (by decide +kernel)
theorem im_f8_takeSign : Cond.instanceMethod yX8_takeSign ∈ wU := wU_mem (List.mem_append_right _ (List.mem_of_getElem? (l := tables_1) (i := 510) (by decide +kernel))) (by decide +kernel)
theorem se_f8_takeSign : Cond.selects RX8 yX8_takeSign yX8_takeSign ∈ wU := wU_mem (List.mem_append_right _ (List.mem_of_getElem? (l := tables_1) (i := 511) (by decide +kernel))) (by decide +kernel)
theorem yv_f8_takeSign : Yv yX8_takeSign RX8 8 cX8_takeSign 3 none 0 := ⟨im_f8_takeSign, se_f8_takeSign, in_X8, cd_f8_takeSign, by decide +kernel, Nat.le_of_ble_eq_true rfl, _, rfl, rfl⟩
theorem cd_f8_takeWord : Cond.code yX8_takeWord cX8_takeWord 2 none ∈ wU := wU_mem (List.mem_append_right _ (List.mem_of_getElem? (l := tables_1) (i := 500) (by decide +kernel))) (by decide +kernel)
theorem im_f8_takeWord : Cond.instanceMethod yX8_takeWord ∈ wU := wU_mem (List.mem_append_right _ (List.mem_of_getElem? (l := tables_1) (i := 498) (by decide +kernel))) (by decide +kernel)
theorem se_f8_takeWord : Cond.selects RX8 yX8_takeWord yX8_takeWord ∈ wU := wU_mem (List.mem_append_right _ (List.mem_of_getElem? (l := tables_1) (i := 499) (by decide +kernel))) (by decide +kernel)
theorem yv_f8_takeWord : Yv yX8_takeWord RX8 8 cX8_takeWord 2 none 0 := ⟨im_f8_takeWord, se_f8_takeWord, in_X8, cd_f8_takeWord, by decide +kernel, Nat.le_of_ble_eq_true rfl, _, rfl, rfl⟩
theorem in_X9 : Cond.initialized RX9 ∈ wU := wU_mem (List.mem_append_right _ (List.mem_of_getElem? (l := tables_1) (i := 5) (by decide +kernel))) (by decide +kernel)
theorem cd_f9_copyOf : Cond.code yX9_copyOf cX9_copyOf 3 none ∈ wU := wU_mem (List.mem_append_right _ (List.mem_of_getElem? (l := tables_1) (i := 1116) (by decide +kernel))) (by decide +kernel)
theorem im_f9_copyOf : Cond.instanceMethod yX9_copyOf ∈ wU := wU_mem (List.mem_append_right _ (List.mem_of_getElem? (l := tables_1) (i := 1114) (by decide +kernel))) (by decide +kernel)
theorem se_f9_copyOf : Cond.selects RX9 yX9_copyOf yX9_copyOf ∈ wU := wU_mem (List.mem_append_right _ (List.mem_of_getElem? (l := tables_1) (i := 1115) (by decide +kernel))) (by decide +kernel)
theorem yv_f9_copyOf : Yv yX9_copyOf RX9 9 cX9_copyOf 3 none 1 := ⟨im_f9_copyOf, se_f9_copyOf, in_X9, cd_f9_copyOf, by decide +kernel, Nat.le_of_ble_eq_true rfl, _, rfl, rfl⟩
theorem cd_f9_goOneYear : Cond.code yX9_goOneYear cX9_goOneYear 4 none ∈ wU := wU_mem (List.mem_append_right _ (List.mem_of_getElem? (l := tables_1) (i := 781) (by decide +kernel))) (by decide +kernel)
theorem im_f9_goOneYear : Cond.instanceMethod yX9_goOneYear ∈ wU := wU_mem (List.mem_append_right _ (List.mem_of_getElem? (l := tables_1) (i := 779) (by decide +kernel))) (by decide +kernel)
theorem se_f9_goOneYear : Cond.selects RX9 yX9_goOneYear yX9_goOneYear ∈ wU := wU_mem (List.mem_append_right _ (List.mem_of_getElem? (l := tables_1) (i := 780) (by decide +kernel))) (by decide +kernel)
theorem yv_f9_goOneYear : Yv yX9_goOneYear RX9 9 cX9_goOneYear 4 none 1 := ⟨im_f9_goOneYear, se_f9_goOneYear, in_X9, cd_f9_goOneYear, by decide +kernel, Nat.le_of_ble_eq_true rfl, _, rfl, rfl⟩
theorem cd_f9_nextNumber : Cond.code yX9_nextNumber cX9_nextNumber 1 (some .int) ∈ wU := wU_mem (List.mem_append_right _ (List.mem_of_getElem? (l := tables_1) (i := 788) (by decide +kernel))) (by decide +kernel)
theorem st_f9_nextNumber : Cond.static yX9_nextNumber ∈ wU := wU_mem (List.mem_append_right _ (List.mem_of_getElem? (l := tables_1) (i := 787) (by decide +kernel))) (by decide +kernel)
theorem ys_f9_nextNumber : Ys yX9_nextNumber cX9_nextNumber 1 (some .int) 1 := ⟨st_f9_nextNumber, in_X9, cd_f9_nextNumber, by decide +kernel⟩
theorem cd_f9_setOut : Cond.code yX9_setOut cX9_setOut 3 none ∈ wU := wU_mem (List.mem_append_right _ (List.mem_of_getElem? (l := tables_1) (i := 662) (by decide +kernel))) (by decide +kernel)
theorem im_f9_setOut : Cond.instanceMethod yX9_setOut ∈ wU := wU_mem (List.mem_append_right _ (List.mem_of_getElem? (l := tables_1) (i := 660) (by decide +kernel))) (by decide +kernel)
theorem se_f9_setOut : Cond.selects RX9 yX9_setOut yX9_setOut ∈ wU := wU_mem (List.mem_append_right _ (List.mem_of_getElem? (l := tables_1) (i := 661) (by decide +kernel))) (by decide +kernel)
theorem yv_f9_setOut : Yv yX9_setOut RX9 9 cX9_setOut 3 none 1 := ⟨im_f9_setOut, se_f9_setOut, in_X9, cd_f9_setOut, by decide +kernel, Nat.le_of_ble_eq_true rfl, _, rfl, rfl⟩
theorem in_X10 : Cond.initialized RX10 ∈ wU := wU_mem (List.mem_append_right _ (List.mem_of_getElem? (l := tables_1) (i := 11) (by decide +kernel))) (by decide +kernel)
theorem cd_f10_boxNamed : Cond.code yX10_boxNamed cX10_boxNamed 3 (some .int) ∈ wU := wU_mem (List.mem_append_right _ (List.mem_of_getElem? (l := tables_1) (i := 549) (by decide +kernel))) (by decide +kernel)
theorem im_f10_boxNamed : Cond.instanceMethod yX10_boxNamed ∈ wU := wU_mem (List.mem_append_right _ (List.mem_of_getElem? (l := tables_1) (i := 547) (by decide +kernel))) (by decide +kernel)
theorem se_f10_boxNamed : Cond.selects RX10 yX10_boxNamed yX10_boxNamed ∈ wU := wU_mem (List.mem_append_right _ (List.mem_of_getElem? (l := tables_1) (i := 548) (by decide +kernel))) (by decide +kernel)
theorem yv_f10_boxNamed : Yv yX10_boxNamed RX10 10 cX10_boxNamed 3 (some .int) 1 := ⟨im_f10_boxNamed, se_f10_boxNamed, in_X10, cd_f10_boxNamed, by decide +kernel, Nat.le_of_ble_eq_true rfl, _, rfl, rfl⟩
theorem cd_f10_clear : Cond.code yX10_clear cX10_clear 1 none ∈ wU := wU_mem (List.mem_append_right _ (List.mem_of_getElem? (l := tables_1) (i := 478) (by decide +kernel))) (by decide +kernel)
theorem im_f10_clear : Cond.instanceMethod yX10_clear ∈ wU := wU_mem (List.mem_append_right _ (List.mem_of_getElem? (l := tables_1) (i := 476) (by decide +kernel))) (by decide +kernel)
theorem se_f10_clear : Cond.selects RX10 yX10_clear yX10_clear ∈ wU := wU_mem (List.mem_append_right _ (List.mem_of_getElem? (l := tables_1) (i := 477) (by decide +kernel))) (by decide +kernel)
theorem yv_f10_clear : Yv yX10_clear RX10 10 cX10_clear 1 none 0 := ⟨im_f10_clear, se_f10_clear, in_X10, cd_f10_clear, by decide +kernel, Nat.le_of_ble_eq_true rfl, _, rfl, rfl⟩
theorem cd_f10_guestNamed : Cond.code yX10_guestNamed cX10_guestNamed 3 (some .int) ∈ wU := wU_mem (List.mem_append_right _ (List.mem_of_getElem? (l := tables_1) (i := 585) (by decide +kernel))) (by decide +kernel)
theorem im_f10_guestNamed : Cond.instanceMethod yX10_guestNamed ∈ wU := wU_mem (List.mem_append_right _ (List.mem_of_getElem? (l := tables_1) (i := 583) (by decide +kernel))) (by decide +kernel)
theorem se_f10_guestNamed : Cond.selects RX10 yX10_guestNamed yX10_guestNamed ∈ wU := wU_mem (List.mem_append_right _ (List.mem_of_getElem? (l := tables_1) (i := 584) (by decide +kernel))) (by decide +kernel)
theorem yv_f10_guestNamed : Yv yX10_guestNamed RX10 10 cX10_guestNamed 3 (some .int) 1 := ⟨im_f10_guestNamed, se_f10_guestNamed, in_X10, cd_f10_guestNamed, by decide +kernel, Nat.le_of_ble_eq_true rfl, _, rfl, rfl⟩
theorem cd_f10_isDampBy : Cond.code yX10_isDampBy cX10_isDampBy 2 (some .boolean) ∈ wU := wU_mem (List.mem_append_right _ (List.mem_of_getElem? (l := tables_1) (i := 795) (by decide +kernel))) (by decide +kernel)
theorem im_f10_isDampBy : Cond.instanceMethod yX10_isDampBy ∈ wU := wU_mem (List.mem_append_right _ (List.mem_of_getElem? (l := tables_1) (i := 793) (by decide +kernel))) (by decide +kernel)
theorem se_f10_isDampBy : Cond.selects RX10 yX10_isDampBy yX10_isDampBy ∈ wU := wU_mem (List.mem_append_right _ (List.mem_of_getElem? (l := tables_1) (i := 794) (by decide +kernel))) (by decide +kernel)
theorem yv_f10_isDampBy : Yv yX10_isDampBy RX10 10 cX10_isDampBy 2 (some .boolean) 1 := ⟨im_f10_isDampBy, se_f10_isDampBy, in_X10, cd_f10_isDampBy, by decide +kernel, Nat.le_of_ble_eq_true rfl, _, rfl, rfl⟩
theorem cd_f10_isDrawn : Cond.code yX10_isDrawn cX10_isDrawn 1 (some .boolean) ∈ wU := wU_mem (List.mem_append_right _ (List.mem_of_getElem? (l := tables_1) (i := 785) (by decide +kernel))) (by decide +kernel)
theorem im_f10_isDrawn : Cond.instanceMethod yX10_isDrawn ∈ wU := wU_mem (List.mem_append_right _ (List.mem_of_getElem? (l := tables_1) (i := 783) (by decide +kernel))) (by decide +kernel)
theorem se_f10_isDrawn : Cond.selects RX10 yX10_isDrawn yX10_isDrawn ∈ wU := wU_mem (List.mem_append_right _ (List.mem_of_getElem? (l := tables_1) (i := 784) (by decide +kernel))) (by decide +kernel)
theorem yv_f10_isDrawn : Yv yX10_isDrawn RX10 10 cX10_isDrawn 1 (some .boolean) 0 := ⟨im_f10_isDrawn, se_f10_isDrawn, in_X10, cd_f10_isDrawn, by decide +kernel, Nat.le_of_ble_eq_true rfl, _, rfl, rfl⟩
theorem in_X12 : Cond.initialized RX12 ∈ wU := wU_mem (List.mem_append_right _ (List.mem_of_getElem? (l := tables_1) (i := 13) (by decide +kernel))) (by decide +kernel)
theorem cd_f12_alikeBy : Cond.code yX12_alikeBy cX12_alikeBy 7 (some .int) ∈ wU := wU_mem (List.mem_append_right _ (List.mem_of_getElem? (l := tables_1) (i := 1779) (by decide +kernel))) (by decide +kernel)
theorem im_f12_alikeBy : Cond.instanceMethod yX12_alikeBy ∈ wU := wU_mem (List.mem_append_right _ (List.mem_of_getElem? (l := tables_1) (i := 1778) (by decide +kernel))) (by decide +kernel)
theorem se_f12_alikeBy : Cond.selects RX12 yX12_alikeBy yX12_alikeBy ∈ wU := wU_mem (List.mem_append_left _ (List.mem_of_getElem? (l := k2_sels lw_privs) (i := 72) (by decide +kernel))) (by decide +kernel)
theorem yv_f12_alikeBy : Yv yX12_alikeBy RX12 12 cX12_alikeBy 7 (some .int) 3 := ⟨im_f12_alikeBy, se_f12_alikeBy, in_X12, cd_f12_alikeBy, by decide +kernel, Nat.le_of_ble_eq_true rfl, _, rfl, rfl⟩
theorem cd_f12_begin : Cond.code yX12_begin cX12_begin 2 none ∈ wU := wU_mem (List.mem_append_right _ (List.mem_of_getElem? (l := tables_1) (i := 1242) (by decide +kernel))) (by decide +kernel)
theorem im_f12_begin : Cond.instanceMethod yX12_begin ∈ wU := wU_mem (List.mem_append_right _ (List.mem_of_getElem? (l := tables_1) (i := 1241) (by decide +kernel))) (by decide +kernel)
theorem se_f12_begin : Cond.selects RX12 yX12_begin yX12_begin ∈ wU := wU_mem (List.mem_append_left _ (List.mem_of_getElem? (l := k2_sels lw_privs) (i := 20) (by decide +kernel))) (by decide +kernel)
theorem yv_f12_begin : Yv yX12_begin RX12 12 cX12_begin 2 none 0 := ⟨im_f12_begin, se_f12_begin, in_X12, cd_f12_begin, by decide +kernel, Nat.le_of_ble_eq_true rfl, _, rfl, rfl⟩
theorem cd_f12_bind : Cond.code yX12_bind cX12_bind 5 none ∈ wU := wU_mem (List.mem_append_right _ (List.mem_of_getElem? (l := tables_1) (i := 1598) (by decide +kernel))) (by decide +kernel)
theorem im_f12_bind : Cond.instanceMethod yX12_bind ∈ wU := wU_mem (List.mem_append_right _ (List.mem_of_getElem? (l := tables_1) (i := 1597) (by decide +kernel))) (by decide +kernel)
theorem se_f12_bind : Cond.selects RX12 yX12_bind yX12_bind ∈ wU := wU_mem (List.mem_append_left _ (List.mem_of_getElem? (l := k2_sels lw_privs) (i := 47) (by decide +kernel))) (by decide +kernel)
theorem yv_f12_bind : Yv yX12_bind RX12 12 cX12_bind 5 none 1 := ⟨im_f12_bind, se_f12_bind, in_X12, cd_f12_bind, by decide +kernel, Nat.le_of_ble_eq_true rfl, _, rfl, rfl⟩
theorem cd_f12_boundLaw : Cond.code yX12_boundLaw cX12_boundLaw 6 (some .int) ∈ wU := wU_mem (List.mem_append_right _ (List.mem_of_getElem? (l := tables_1) (i := 1747) (by decide +kernel))) (by decide +kernel)
theorem im_f12_boundLaw : Cond.instanceMethod yX12_boundLaw ∈ wU := wU_mem (List.mem_append_right _ (List.mem_of_getElem? (l := tables_1) (i := 1746) (by decide +kernel))) (by decide +kernel)
theorem se_f12_boundLaw : Cond.selects RX12 yX12_boundLaw yX12_boundLaw ∈ wU := wU_mem (List.mem_append_left _ (List.mem_of_getElem? (l := k2_sels lw_privs) (i := 67) (by decide +kernel))) (by decide +kernel)
theorem yv_f12_boundLaw : Yv yX12_boundLaw RX12 12 cX12_boundLaw 6 (some .int) 3 := ⟨im_f12_boundLaw, se_f12_boundLaw, in_X12, cd_f12_boundLaw, by decide +kernel, Nat.le_of_ble_eq_true rfl, _, rfl, rfl⟩
theorem cd_f12_bounded : Cond.code yX12_bounded cX12_bounded 3 (some .long) ∈ wU := wU_mem (List.mem_append_right _ (List.mem_of_getElem? (l := tables_1) (i := 1687) (by decide +kernel))) (by decide +kernel)
theorem im_f12_bounded : Cond.instanceMethod yX12_bounded ∈ wU := wU_mem (List.mem_append_right _ (List.mem_of_getElem? (l := tables_1) (i := 1686) (by decide +kernel))) (by decide +kernel)
theorem se_f12_bounded : Cond.selects RX12 yX12_bounded yX12_bounded ∈ wU := wU_mem (List.mem_append_left _ (List.mem_of_getElem? (l := k2_sels lw_privs) (i := 58) (by decide +kernel))) (by decide +kernel)
theorem yv_f12_bounded : Yv yX12_bounded RX12 12 cX12_bounded 3 (some .long) 1 := ⟨im_f12_bounded, se_f12_bounded, in_X12, cd_f12_bounded, by decide +kernel, Nat.le_of_ble_eq_true rfl, _, rfl, rfl⟩
theorem cd_f12_boxLine : Cond.code yX12_boxLine cX12_boxLine 2 (some .boolean) ∈ wU := wU_mem (List.mem_append_right _ (List.mem_of_getElem? (l := tables_1) (i := 1521) (by decide +kernel))) (by decide +kernel)
theorem im_f12_boxLine : Cond.instanceMethod yX12_boxLine ∈ wU := wU_mem (List.mem_append_right _ (List.mem_of_getElem? (l := tables_1) (i := 1520) (by decide +kernel))) (by decide +kernel)
theorem se_f12_boxLine : Cond.selects RX12 yX12_boxLine yX12_boxLine ∈ wU := wU_mem (List.mem_append_left _ (List.mem_of_getElem? (l := k2_sels lw_privs) (i := 30) (by decide +kernel))) (by decide +kernel)
theorem yv_f12_boxLine : Yv yX12_boxLine RX12 12 cX12_boxLine 2 (some .boolean) 0 := ⟨im_f12_boxLine, se_f12_boxLine, in_X12, cd_f12_boxLine, by decide +kernel, Nat.le_of_ble_eq_true rfl, _, rfl, rfl⟩
theorem cd_f12_boxThere : Cond.code yX12_boxThere cX12_boxThere 2 (some .boolean) ∈ wU := wU_mem (List.mem_append_right _ (List.mem_of_getElem? (l := tables_1) (i := 1543) (by decide +kernel))) (by decide +kernel)
theorem im_f12_boxThere : Cond.instanceMethod yX12_boxThere ∈ wU := wU_mem (List.mem_append_right _ (List.mem_of_getElem? (l := tables_1) (i := 1542) (by decide +kernel))) (by decide +kernel)
theorem se_f12_boxThere : Cond.selects RX12 yX12_boxThere yX12_boxThere ∈ wU := wU_mem (List.mem_append_left _ (List.mem_of_getElem? (l := k2_sels lw_privs) (i := 34) (by decide +kernel))) (by decide +kernel)
theorem yv_f12_boxThere : Yv yX12_boxThere RX12 12 cX12_boxThere 2 (some .boolean) 0 := ⟨im_f12_boxThere, se_f12_boxThere, in_X12, cd_f12_boxThere, by decide +kernel, Nat.le_of_ble_eq_true rfl, _, rfl, rfl⟩
theorem cd_f12_charmOf : Cond.code yX12_charmOf cX12_charmOf 3 (some .int) ∈ wU := wU_mem (List.mem_append_right _ (List.mem_of_getElem? (l := tables_1) (i := 1739) (by decide +kernel))) (by decide +kernel)
theorem im_f12_charmOf : Cond.instanceMethod yX12_charmOf ∈ wU := wU_mem (List.mem_append_right _ (List.mem_of_getElem? (l := tables_1) (i := 1738) (by decide +kernel))) (by decide +kernel)
theorem se_f12_charmOf : Cond.selects RX12 yX12_charmOf yX12_charmOf ∈ wU := wU_mem (List.mem_append_left _ (List.mem_of_getElem? (l := k2_sels lw_privs) (i := 65) (by decide +kernel))) (by decide +kernel)
theorem yv_f12_charmOf : Yv yX12_charmOf RX12 12 cX12_charmOf 3 (some .int) 2 := ⟨im_f12_charmOf, se_f12_charmOf, in_X12, cd_f12_charmOf, by decide +kernel, Nat.le_of_ble_eq_true rfl, _, rfl, rfl⟩
theorem cd_f12_compares : Cond.code yX12_compares cX12_compares 5 (some .boolean) ∈ wU := wU_mem (List.mem_append_right _ (List.mem_of_getElem? (l := tables_1) (i := 1696) (by decide +kernel))) (by decide +kernel)
theorem st_f12_compares : Cond.static yX12_compares ∈ wU := wU_mem (List.mem_append_right _ (List.mem_of_getElem? (l := tables_1) (i := 1695) (by decide +kernel))) (by decide +kernel)
theorem ys_f12_compares : Ys yX12_compares cX12_compares 5 (some .boolean) 3 := ⟨st_f12_compares, in_X12, cd_f12_compares, by decide +kernel⟩
theorem cd_f12_copies : Cond.code yX12_copies cX12_copies 3 none ∈ wU := wU_mem (List.mem_append_right _ (List.mem_of_getElem? (l := tables_1) (i := 1238) (by decide +kernel))) (by decide +kernel)
theorem st_f12_copies : Cond.static yX12_copies ∈ wU := wU_mem (List.mem_append_right _ (List.mem_of_getElem? (l := tables_1) (i := 1237) (by decide +kernel))) (by decide +kernel)
theorem ys_f12_copies : Ys yX12_copies cX12_copies 3 none 2 := ⟨st_f12_copies, in_X12, cd_f12_copies, by decide +kernel⟩
theorem cd_f12_dropHeld : Cond.code yX12_dropHeld cX12_dropHeld 1 (some .int) ∈ wU := wU_mem (List.mem_append_right _ (List.mem_of_getElem? (l := tables_1) (i := 1605) (by decide +kernel))) (by decide +kernel)
theorem im_f12_dropHeld : Cond.instanceMethod yX12_dropHeld ∈ wU := wU_mem (List.mem_append_right _ (List.mem_of_getElem? (l := tables_1) (i := 1604) (by decide +kernel))) (by decide +kernel)
theorem se_f12_dropHeld : Cond.selects RX12 yX12_dropHeld yX12_dropHeld ∈ wU := wU_mem (List.mem_append_left _ (List.mem_of_getElem? (l := k2_sels lw_privs) (i := 48) (by decide +kernel))) (by decide +kernel)
theorem yv_f12_dropHeld : Yv yX12_dropHeld RX12 12 cX12_dropHeld 1 (some .int) 0 := ⟨im_f12_dropHeld, se_f12_dropHeld, in_X12, cd_f12_dropHeld, by decide +kernel, Nat.le_of_ble_eq_true rfl, _, rfl, rfl⟩
theorem cd_f12_fails : Cond.code yX12_fails cX12_fails 2 (some .int) ∈ wU := wU_mem (List.mem_append_right _ (List.mem_of_getElem? (l := tables_1) (i := 1625) (by decide +kernel))) (by decide +kernel)
theorem im_f12_fails : Cond.instanceMethod yX12_fails ∈ wU := wU_mem (List.mem_append_right _ (List.mem_of_getElem? (l := tables_1) (i := 1624) (by decide +kernel))) (by decide +kernel)
theorem se_f12_fails : Cond.selects RX12 yX12_fails yX12_fails ∈ wU := wU_mem (List.mem_append_left _ (List.mem_of_getElem? (l := k2_sels lw_privs) (i := 50) (by decide +kernel))) (by decide +kernel)
theorem yv_f12_fails : Yv yX12_fails RX12 12 cX12_fails 2 (some .int) 1 := ⟨im_f12_fails, se_f12_fails, in_X12, cd_f12_fails, by decide +kernel, Nat.le_of_ble_eq_true rfl, _, rfl, rfl⟩
theorem cd_f12_farOf : Cond.code yX12_farOf cX12_farOf 7 (some .int) ∈ wU := wU_mem (List.mem_append_right _ (List.mem_of_getElem? (l := tables_1) (i := 1818) (by decide +kernel))) (by decide +kernel)
theorem im_f12_farOf : Cond.instanceMethod yX12_farOf ∈ wU := wU_mem (List.mem_append_right _ (List.mem_of_getElem? (l := tables_1) (i := 1817) (by decide +kernel))) (by decide +kernel)
theorem se_f12_farOf : Cond.selects RX12 yX12_farOf yX12_farOf ∈ wU := wU_mem (List.mem_append_left _ (List.mem_of_getElem? (l := k2_sels lw_privs) (i := 75) (by decide +kernel))) (by decide +kernel)
theorem yv_f12_farOf : Yv yX12_farOf RX12 12 cX12_farOf 7 (some .int) 2 := ⟨im_f12_farOf, se_f12_farOf, in_X12, cd_f12_farOf, by decide +kernel, Nat.le_of_ble_eq_true rfl, _, rfl, rfl⟩
theorem cd_f12_fits : Cond.code yX12_fits cX12_fits 5 (some .boolean) ∈ wU := wU_mem (List.mem_append_right _ (List.mem_of_getElem? (l := tables_1) (i := 1920) (by decide +kernel))) (by decide +kernel)
theorem im_f12_fits : Cond.instanceMethod yX12_fits ∈ wU := wU_mem (List.mem_append_right _ (List.mem_of_getElem? (l := tables_1) (i := 1919) (by decide +kernel))) (by decide +kernel)
theorem se_f12_fits : Cond.selects RX12 yX12_fits yX12_fits ∈ wU := wU_mem (List.mem_append_left _ (List.mem_of_getElem? (l := k2_sels lw_privs) (i := 83) (by decide +kernel))) (by decide +kernel)
theorem yv_f12_fits : Yv yX12_fits RX12 12 cX12_fits 5 (some .boolean) 2 := ⟨im_f12_fits, se_f12_fits, in_X12, cd_f12_fits, by decide +kernel, Nat.le_of_ble_eq_true rfl, _, rfl, rfl⟩
theorem cd_f12_goMany : Cond.code yX12_goMany cX12_goMany 3 none ∈ wU := wU_mem (List.mem_append_right _ (List.mem_of_getElem? (l := tables_1) (i := 1771) (by decide +kernel))) (by decide +kernel)
theorem im_f12_goMany : Cond.instanceMethod yX12_goMany ∈ wU := wU_mem (List.mem_append_right _ (List.mem_of_getElem? (l := tables_1) (i := 1770) (by decide +kernel))) (by decide +kernel)
theorem se_f12_goMany : Cond.selects RX12 yX12_goMany yX12_goMany ∈ wU := wU_mem (List.mem_append_left _ (List.mem_of_getElem? (l := k2_sels lw_privs) (i := 71) (by decide +kernel))) (by decide +kernel)
theorem yv_f12_goMany : Yv yX12_goMany RX12 12 cX12_goMany 3 none 1 := ⟨im_f12_goMany, se_f12_goMany, in_X12, cd_f12_goMany, by decide +kernel, Nat.le_of_ble_eq_true rfl, _, rfl, rfl⟩
theorem cd_f12_goes : Cond.code yX12_goes cX12_goes 3 (some .boolean) ∈ wU := wU_mem (List.mem_append_right _ (List.mem_of_getElem? (l := tables_1) (i := 1731) (by decide +kernel))) (by decide +kernel)
theorem im_f12_goes : Cond.instanceMethod yX12_goes ∈ wU := wU_mem (List.mem_append_right _ (List.mem_of_getElem? (l := tables_1) (i := 1730) (by decide +kernel))) (by decide +kernel)
theorem se_f12_goes : Cond.selects RX12 yX12_goes yX12_goes ∈ wU := wU_mem (List.mem_append_left _ (List.mem_of_getElem? (l := k2_sels lw_privs) (i := 63) (by decide +kernel))) (by decide +kernel)
theorem yv_f12_goes : Yv yX12_goes RX12 12 cX12_goes 3 (some .boolean) 2 := ⟨im_f12_goes, se_f12_goes, in_X12, cd_f12_goes, by decide +kernel, Nat.le_of_ble_eq_true rfl, _, rfl, rfl⟩
theorem cd_f12_grown : Cond.code yX12_grown cX12_grown 4 none ∈ wU := wU_mem (List.mem_append_right _ (List.mem_of_getElem? (l := tables_1) (i := 1590) (by decide +kernel))) (by decide +kernel)
theorem im_f12_grown : Cond.instanceMethod yX12_grown ∈ wU := wU_mem (List.mem_append_right _ (List.mem_of_getElem? (l := tables_1) (i := 1589) (by decide +kernel))) (by decide +kernel)
theorem se_f12_grown : Cond.selects RX12 yX12_grown yX12_grown ∈ wU := wU_mem (List.mem_append_left _ (List.mem_of_getElem? (l := k2_sels lw_privs) (i := 45) (by decide +kernel))) (by decide +kernel)
theorem yv_f12_grown : Yv yX12_grown RX12 12 cX12_grown 4 none 3 := ⟨im_f12_grown, se_f12_grown, in_X12, cd_f12_grown, by decide +kernel, Nat.le_of_ble_eq_true rfl, _, rfl, rfl⟩
theorem cd_f12_guestLine : Cond.code yX12_guestLine cX12_guestLine 2 (some .boolean) ∈ wU := wU_mem (List.mem_append_right _ (List.mem_of_getElem? (l := tables_1) (i := 1554) (by decide +kernel))) (by decide +kernel)
theorem im_f12_guestLine : Cond.instanceMethod yX12_guestLine ∈ wU := wU_mem (List.mem_append_right _ (List.mem_of_getElem? (l := tables_1) (i := 1553) (by decide +kernel))) (by decide +kernel)
theorem se_f12_guestLine : Cond.selects RX12 yX12_guestLine yX12_guestLine ∈ wU := wU_mem (List.mem_append_left _ (List.mem_of_getElem? (l := k2_sels lw_privs) (i := 36) (by decide +kernel))) (by decide +kernel)
theorem yv_f12_guestLine : Yv yX12_guestLine RX12 12 cX12_guestLine 2 (some .boolean) 0 := ⟨im_f12_guestLine, se_f12_guestLine, in_X12, cd_f12_guestLine, by decide +kernel, Nat.le_of_ble_eq_true rfl, _, rfl, rfl⟩
theorem cd_f12_hasBy : Cond.code yX12_hasBy cX12_hasBy 3 (some .int) ∈ wU := wU_mem (List.mem_append_right _ (List.mem_of_getElem? (l := tables_1) (i := 1884) (by decide +kernel))) (by decide +kernel)
theorem st_f12_hasBy : Cond.static yX12_hasBy ∈ wU := wU_mem (List.mem_append_right _ (List.mem_of_getElem? (l := tables_1) (i := 1883) (by decide +kernel))) (by decide +kernel)
theorem ys_f12_hasBy : Ys yX12_hasBy cX12_hasBy 3 (some .int) 3 := ⟨st_f12_hasBy, in_X12, cd_f12_hasBy, by decide +kernel⟩
theorem cd_f12_heardBy : Cond.code yX12_heardBy cX12_heardBy 4 (some .int) ∈ wU := wU_mem (List.mem_append_right _ (List.mem_of_getElem? (l := tables_1) (i := 1647) (by decide +kernel))) (by decide +kernel)
theorem st_f12_heardBy : Cond.static yX12_heardBy ∈ wU := wU_mem (List.mem_append_right _ (List.mem_of_getElem? (l := tables_1) (i := 1646) (by decide +kernel))) (by decide +kernel)
theorem ys_f12_heardBy : Ys yX12_heardBy cX12_heardBy 4 (some .int) 3 := ⟨st_f12_heardBy, in_X12, cd_f12_heardBy, by decide +kernel⟩
theorem cd_f12_heardIn : Cond.code yX12_heardIn cX12_heardIn 4 (some .int) ∈ wU := wU_mem (List.mem_append_right _ (List.mem_of_getElem? (l := tables_1) (i := 1640) (by decide +kernel))) (by decide +kernel)
theorem im_f12_heardIn : Cond.instanceMethod yX12_heardIn ∈ wU := wU_mem (List.mem_append_right _ (List.mem_of_getElem? (l := tables_1) (i := 1639) (by decide +kernel))) (by decide +kernel)
theorem se_f12_heardIn : Cond.selects RX12 yX12_heardIn yX12_heardIn ∈ wU := wU_mem (List.mem_append_left _ (List.mem_of_getElem? (l := k2_sels lw_privs) (i := 51) (by decide +kernel))) (by decide +kernel)
theorem yv_f12_heardIn : Yv yX12_heardIn RX12 12 cX12_heardIn 4 (some .int) 3 := ⟨im_f12_heardIn, se_f12_heardIn, in_X12, cd_f12_heardIn, by decide +kernel, Nat.le_of_ble_eq_true rfl, _, rfl, rfl⟩
theorem cd_f12_heardMany : Cond.code yX12_heardMany cX12_heardMany 5 (some .int) ∈ wU := wU_mem (List.mem_append_right _ (List.mem_of_getElem? (l := tables_1) (i := 1743) (by decide +kernel))) (by decide +kernel)
theorem im_f12_heardMany : Cond.instanceMethod yX12_heardMany ∈ wU := wU_mem (List.mem_append_right _ (List.mem_of_getElem? (l := tables_1) (i := 1742) (by decide +kernel))) (by decide +kernel)
theorem se_f12_heardMany : Cond.selects RX12 yX12_heardMany yX12_heardMany ∈ wU := wU_mem (List.mem_append_left _ (List.mem_of_getElem? (l := k2_sels lw_privs) (i := 66) (by decide +kernel))) (by decide +kernel)
theorem yv_f12_heardMany : Yv yX12_heardMany RX12 12 cX12_heardMany 5 (some .int) 2 := ⟨im_f12_heardMany, se_f12_heardMany, in_X12, cd_f12_heardMany, by decide +kernel, Nat.le_of_ble_eq_true rfl, _, rfl, rfl⟩
theorem cd_f12_isBox : Cond.code yX12_isBox cX12_isBox 2 (some .boolean) ∈ wU := wU_mem (List.mem_append_right _ (List.mem_of_getElem? (l := tables_1) (i := 1621) (by decide +kernel))) (by decide +kernel)
theorem im_f12_isBox : Cond.instanceMethod yX12_isBox ∈ wU := wU_mem (List.mem_append_right _ (List.mem_of_getElem? (l := tables_1) (i := 1620) (by decide +kernel))) (by decide +kernel)
theorem se_f12_isBox : Cond.selects RX12 yX12_isBox yX12_isBox ∈ wU := wU_mem (List.mem_append_left _ (List.mem_of_getElem? (l := k2_sels lw_privs) (i := 49) (by decide +kernel))) (by decide +kernel)
theorem yv_f12_isBox : Yv yX12_isBox RX12 12 cX12_isBox 2 (some .boolean) 1 := ⟨im_f12_isBox, se_f12_isBox, in_X12, cd_f12_isBox, by decide +kernel, Nat.le_of_ble_eq_true rfl, _, rfl, rfl⟩
theorem cd_f12_isCounted : Cond.code yX12_isCounted cX12_isCounted 1 (some .boolean) ∈ wU := wU_mem (List.mem_append_right _ (List.mem_of_getElem? (l := tables_1) (i := 1582) (by decide +kernel))) (by decide +kernel)
theorem im_f12_isCounted : Cond.instanceMethod yX12_isCounted ∈ wU := wU_mem (List.mem_append_right _ (List.mem_of_getElem? (l := tables_1) (i := 1581) (by decide +kernel))) (by decide +kernel)
theorem se_f12_isCounted : Cond.selects RX12 yX12_isCounted yX12_isCounted ∈ wU := wU_mem (List.mem_append_left _ (List.mem_of_getElem? (l := k2_sels lw_privs) (i := 43) (by decide +kernel))) (by decide +kernel)
theorem yv_f12_isCounted : Yv yX12_isCounted RX12 12 cX12_isCounted 1 (some .boolean) 0 := ⟨im_f12_isCounted, se_f12_isCounted, in_X12, cd_f12_isCounted, by decide +kernel, Nat.le_of_ble_eq_true rfl, _, rfl, rfl⟩
theorem cd_f12_isDamp : Cond.code yX12_isDamp cX12_isDamp 1 (some .boolean) ∈ wU := wU_mem (List.mem_append_right _ (List.mem_of_getElem? (l := tables_1) (i := 1751) (by decide +kernel))) (by decide +kernel)
theorem im_f12_isDamp : Cond.instanceMethod yX12_isDamp ∈ wU := wU_mem (List.mem_append_right _ (List.mem_of_getElem? (l := tables_1) (i := 1750) (by decide +kernel))) (by decide +kernel)
theorem se_f12_isDamp : Cond.selects RX12 yX12_isDamp yX12_isDamp ∈ wU := wU_mem (List.mem_append_left _ (List.mem_of_getElem? (l := k2_sels lw_privs) (i := 68) (by decide +kernel))) (by decide +kernel)
theorem yv_f12_isDamp : Yv yX12_isDamp RX12 12 cX12_isDamp 1 (some .boolean) 0 := ⟨im_f12_isDamp, se_f12_isDamp, in_X12, cd_f12_isDamp, by decide +kernel, Nat.le_of_ble_eq_true rfl, _, rfl, rfl⟩
theorem cd_f12_isDigit : Cond.code yX12_isDigit cX12_isDigit 2 (some .boolean) ∈ wU := wU_mem (List.mem_append_right _ (List.mem_of_getElem? (l := tables_1) (i := 1504) (by decide +kernel))) (by decide +kernel)
theorem im_f12_isDigit : Cond.instanceMethod yX12_isDigit ∈ wU := wU_mem (List.mem_append_right _ (List.mem_of_getElem? (l := tables_1) (i := 1503) (by decide +kernel))) (by decide +kernel)
theorem se_f12_isDigit : Cond.selects RX12 yX12_isDigit yX12_isDigit ∈ wU := wU_mem (List.mem_append_left _ (List.mem_of_getElem? (l := k2_sels lw_privs) (i := 26) (by decide +kernel))) (by decide +kernel)
theorem yv_f12_isDigit : Yv yX12_isDigit RX12 12 cX12_isDigit 2 (some .boolean) 1 := ⟨im_f12_isDigit, se_f12_isDigit, in_X12, cd_f12_isDigit, by decide +kernel, Nat.le_of_ble_eq_true rfl, _, rfl, rfl⟩
theorem cd_f12_isGuest : Cond.code yX12_isGuest cX12_isGuest 2 (some .boolean) ∈ wU := wU_mem (List.mem_append_right _ (List.mem_of_getElem? (l := tables_1) (i := 1655) (by decide +kernel))) (by decide +kernel)
theorem im_f12_isGuest : Cond.instanceMethod yX12_isGuest ∈ wU := wU_mem (List.mem_append_right _ (List.mem_of_getElem? (l := tables_1) (i := 1654) (by decide +kernel))) (by decide +kernel)
theorem se_f12_isGuest : Cond.selects RX12 yX12_isGuest yX12_isGuest ∈ wU := wU_mem (List.mem_append_left _ (List.mem_of_getElem? (l := k2_sels lw_privs) (i := 53) (by decide +kernel))) (by decide +kernel)
theorem yv_f12_isGuest : Yv yX12_isGuest RX12 12 cX12_isGuest 2 (some .boolean) 1 := ⟨im_f12_isGuest, se_f12_isGuest, in_X12, cd_f12_isGuest, by decide +kernel, Nat.le_of_ble_eq_true rfl, _, rfl, rfl⟩
theorem cd_f12_isIn : Cond.code yX12_isIn cX12_isIn 3 (some .boolean) ∈ wU := wU_mem (List.mem_append_right _ (List.mem_of_getElem? (l := tables_1) (i := 1535) (by decide +kernel))) (by decide +kernel)
theorem st_f12_isIn : Cond.static yX12_isIn ∈ wU := wU_mem (List.mem_append_right _ (List.mem_of_getElem? (l := tables_1) (i := 1534) (by decide +kernel))) (by decide +kernel)
theorem ys_f12_isIn : Ys yX12_isIn cX12_isIn 3 (some .boolean) 3 := ⟨st_f12_isIn, in_X12, cd_f12_isIn, by decide +kernel⟩
theorem cd_f12_isKey : Cond.code yX12_isKey cX12_isKey 2 (some .boolean) ∈ wU := wU_mem (List.mem_append_right _ (List.mem_of_getElem? (l := tables_1) (i := 1578) (by decide +kernel))) (by decide +kernel)
theorem im_f12_isKey : Cond.instanceMethod yX12_isKey ∈ wU := wU_mem (List.mem_append_right _ (List.mem_of_getElem? (l := tables_1) (i := 1577) (by decide +kernel))) (by decide +kernel)
theorem se_f12_isKey : Cond.selects RX12 yX12_isKey yX12_isKey ∈ wU := wU_mem (List.mem_append_left _ (List.mem_of_getElem? (l := k2_sels lw_privs) (i := 42) (by decide +kernel))) (by decide +kernel)
theorem yv_f12_isKey : Yv yX12_isKey RX12 12 cX12_isKey 2 (some .boolean) 1 := ⟨im_f12_isKey, se_f12_isKey, in_X12, cd_f12_isKey, by decide +kernel, Nat.le_of_ble_eq_true rfl, _, rfl, rfl⟩
theorem cd_f12_isLine : Cond.code yX12_isLine cX12_isLine 7 (some .boolean) ∈ wU := wU_mem (List.mem_append_right _ (List.mem_of_getElem? (l := tables_1) (i := 1830) (by decide +kernel))) (by decide +kernel)
theorem im_f12_isLine : Cond.instanceMethod yX12_isLine ∈ wU := wU_mem (List.mem_append_right _ (List.mem_of_getElem? (l := tables_1) (i := 1829) (by decide +kernel))) (by decide +kernel)
theorem se_f12_isLine : Cond.selects RX12 yX12_isLine yX12_isLine ∈ wU := wU_mem (List.mem_append_left _ (List.mem_of_getElem? (l := k2_sels lw_privs) (i := 76) (by decide +kernel))) (by decide +kernel)
theorem yv_f12_isLine : Yv yX12_isLine RX12 12 cX12_isLine 7 (some .boolean) 2 := ⟨im_f12_isLine, se_f12_isLine, in_X12, cd_f12_isLine, by decide +kernel, Nat.le_of_ble_eq_true rfl, _, rfl, rfl⟩
theorem cd_f12_isOf : Cond.code yX12_isOf cX12_isOf 2 (some .boolean) ∈ wU := wU_mem (List.mem_append_right _ (List.mem_of_getElem? (l := tables_1) (i := 1546) (by decide +kernel))) (by decide +kernel)
theorem st_f12_isOf : Cond.static yX12_isOf ∈ wU := wU_mem (List.mem_append_right _ (List.mem_of_getElem? (l := tables_1) (i := 1545) (by decide +kernel))) (by decide +kernel)
theorem ys_f12_isOf : Ys yX12_isOf cX12_isOf 2 (some .boolean) 2 := ⟨st_f12_isOf, in_X12, cd_f12_isOf, by decide +kernel⟩
theorem cd_f12_isPlace : Cond.code yX12_isPlace cX12_isPlace 1 (some .boolean) ∈ wU := wU_mem (List.mem_append_right _ (List.mem_of_getElem? (l := tables_1) (i := 1632) (by decide +kernel))) (by decide +kernel)
theorem st_f12_isPlace : Cond.static yX12_isPlace ∈ wU := wU_mem (List.mem_append_right _ (List.mem_of_getElem? (l := tables_1) (i := 1631) (by decide +kernel))) (by decide +kernel)
theorem ys_f12_isPlace : Ys yX12_isPlace cX12_isPlace 1 (some .boolean) 1 := ⟨st_f12_isPlace, in_X12, cd_f12_isPlace, by decide +kernel⟩
theorem cd_f12_isSign : Cond.code yX12_isSign cX12_isSign 2 (some .boolean) ∈ wU := wU_mem (List.mem_append_right _ (List.mem_of_getElem? (l := tables_1) (i := 1566) (by decide +kernel))) (by decide +kernel)
theorem im_f12_isSign : Cond.instanceMethod yX12_isSign ∈ wU := wU_mem (List.mem_append_right _ (List.mem_of_getElem? (l := tables_1) (i := 1565) (by decide +kernel))) (by decide +kernel)
theorem se_f12_isSign : Cond.selects RX12 yX12_isSign yX12_isSign ∈ wU := wU_mem (List.mem_append_left _ (List.mem_of_getElem? (l := k2_sels lw_privs) (i := 39) (by decide +kernel))) (by decide +kernel)
theorem yv_f12_isSign : Yv yX12_isSign RX12 12 cX12_isSign 2 (some .boolean) 1 := ⟨im_f12_isSign, se_f12_isSign, in_X12, cd_f12_isSign, by decide +kernel, Nat.le_of_ble_eq_true rfl, _, rfl, rfl⟩
theorem cd_f12_isSmall : Cond.code yX12_isSmall cX12_isSmall 2 (some .boolean) ∈ wU := wU_mem (List.mem_append_right _ (List.mem_of_getElem? (l := tables_1) (i := 1492) (by decide +kernel))) (by decide +kernel)
theorem im_f12_isSmall : Cond.instanceMethod yX12_isSmall ∈ wU := wU_mem (List.mem_append_right _ (List.mem_of_getElem? (l := tables_1) (i := 1491) (by decide +kernel))) (by decide +kernel)
theorem se_f12_isSmall : Cond.selects RX12 yX12_isSmall yX12_isSmall ∈ wU := wU_mem (List.mem_append_left _ (List.mem_of_getElem? (l := k2_sels lw_privs) (i := 23) (by decide +kernel))) (by decide +kernel)
theorem yv_f12_isSmall : Yv yX12_isSmall RX12 12 cX12_isSmall 2 (some .boolean) 1 := ⟨im_f12_isSmall, se_f12_isSmall, in_X12, cd_f12_isSmall, by decide +kernel, Nat.le_of_ble_eq_true rfl, _, rfl, rfl⟩
theorem cd_f12_isTooth : Cond.code yX12_isTooth cX12_isTooth 1 (some .boolean) ∈ wU := wU_mem (List.mem_append_right _ (List.mem_of_getElem? (l := tables_1) (i := 1719) (by decide +kernel))) (by decide +kernel)
theorem st_f12_isTooth : Cond.static yX12_isTooth ∈ wU := wU_mem (List.mem_append_right _ (List.mem_of_getElem? (l := tables_1) (i := 1718) (by decide +kernel))) (by decide +kernel)
theorem ys_f12_isTooth : Ys yX12_isTooth cX12_isTooth 1 (some .boolean) 1 := ⟨st_f12_isTooth, in_X12, cd_f12_isTooth, by decide +kernel⟩
theorem cd_f12_keepText : Cond.code yX12_keepText cX12_keepText 2 none ∈ wU := wU_mem (List.mem_append_right _ (List.mem_of_getElem? (l := tables_1) (i := 1235) (by decide +kernel))) (by decide +kernel)
theorem im_f12_keepText : Cond.instanceMethod yX12_keepText ∈ wU := wU_mem (List.mem_append_right _ (List.mem_of_getElem? (l := tables_1) (i := 1234) (by decide +kernel))) (by decide +kernel)
theorem se_f12_keepText : Cond.selects RX12 yX12_keepText yX12_keepText ∈ wU := wU_mem (List.mem_append_left _ (List.mem_of_getElem? (l := k2_sels lw_privs) (i := 19) (by decide +kernel))) (by decide +kernel)
theorem yv_f12_keepText : Yv yX12_keepText RX12 12 cX12_keepText 2 none 0 := ⟨im_f12_keepText, se_f12_keepText, in_X12, cd_f12_keepText, by decide +kernel, Nat.le_of_ble_eq_true rfl, _, rfl, rfl⟩
theorem cd_f12_kinLine : Cond.code yX12_kinLine cX12_kinLine 4 (some .boolean) ∈ wU := wU_mem (List.mem_append_right _ (List.mem_of_getElem? (l := tables_1) (i := 1550) (by decide +kernel))) (by decide +kernel)
theorem im_f12_kinLine : Cond.instanceMethod yX12_kinLine ∈ wU := wU_mem (List.mem_append_right _ (List.mem_of_getElem? (l := tables_1) (i := 1549) (by decide +kernel))) (by decide +kernel)
theorem se_f12_kinLine : Cond.selects RX12 yX12_kinLine yX12_kinLine ∈ wU := wU_mem (List.mem_append_left _ (List.mem_of_getElem? (l := k2_sels lw_privs) (i := 35) (by decide +kernel))) (by decide +kernel)
theorem yv_f12_kinLine : Yv yX12_kinLine RX12 12 cX12_kinLine 4 (some .boolean) 0 := ⟨im_f12_kinLine, se_f12_kinLine, in_X12, cd_f12_kinLine, by decide +kernel, Nat.le_of_ble_eq_true rfl, _, rfl, rfl⟩
theorem cd_f12_knownBy : Cond.code yX12_knownBy cX12_knownBy 1 (some .int) ∈ wU := wU_mem (List.mem_append_right _ (List.mem_of_getElem? (l := tables_1) (i := 1916) (by decide +kernel))) (by decide +kernel)
theorem im_f12_knownBy : Cond.instanceMethod yX12_knownBy ∈ wU := wU_mem (List.mem_append_right _ (List.mem_of_getElem? (l := tables_1) (i := 1915) (by decide +kernel))) (by decide +kernel)
theorem se_f12_knownBy : Cond.selects RX12 yX12_knownBy yX12_knownBy ∈ wU := wU_mem (List.mem_append_left _ (List.mem_of_getElem? (l := k2_sels lw_privs) (i := 82) (by decide +kernel))) (by decide +kernel)
theorem yv_f12_knownBy : Yv yX12_knownBy RX12 12 cX12_knownBy 1 (some .int) 0 := ⟨im_f12_knownBy, se_f12_knownBy, in_X12, cd_f12_knownBy, by decide +kernel, Nat.le_of_ble_eq_true rfl, _, rfl, rfl⟩
theorem cd_f12_lacksOf : Cond.code yX12_lacksOf cX12_lacksOf 3 (some .int) ∈ wU := wU_mem (List.mem_append_right _ (List.mem_of_getElem? (l := tables_1) (i := 1644) (by decide +kernel))) (by decide +kernel)
theorem im_f12_lacksOf : Cond.instanceMethod yX12_lacksOf ∈ wU := wU_mem (List.mem_append_right _ (List.mem_of_getElem? (l := tables_1) (i := 1643) (by decide +kernel))) (by decide +kernel)
theorem se_f12_lacksOf : Cond.selects RX12 yX12_lacksOf yX12_lacksOf ∈ wU := wU_mem (List.mem_append_left _ (List.mem_of_getElem? (l := k2_sels lw_privs) (i := 52) (by decide +kernel))) (by decide +kernel)
theorem yv_f12_lacksOf : Yv yX12_lacksOf RX12 12 cX12_lacksOf 3 (some .int) 2 := ⟨im_f12_lacksOf, se_f12_lacksOf, in_X12, cd_f12_lacksOf, by decide +kernel, Nat.le_of_ble_eq_true rfl, _, rfl, rfl⟩
theorem cd_f12_laughsAll : Cond.code yX12_laughsAll cX12_laughsAll 4 (some .int) ∈ wU := wU_mem (List.mem_append_right _ (List.mem_of_getElem? (l := tables_1) (i := 1866) (by decide +kernel))) (by decide +kernel)
theorem im_f12_laughsAll : Cond.instanceMethod yX12_laughsAll ∈ wU := wU_mem (List.mem_append_right _ (List.mem_of_getElem? (l := tables_1) (i := 1865) (by decide +kernel))) (by decide +kernel)
theorem se_f12_laughsAll : Cond.selects RX12 yX12_laughsAll yX12_laughsAll ∈ wU := wU_mem (List.mem_append_left _ (List.mem_of_getElem? (l := k2_sels lw_privs) (i := 78) (by decide +kernel))) (by decide +kernel)
theorem yv_f12_laughsAll : Yv yX12_laughsAll RX12 12 cX12_laughsAll 4 (some .int) 1 := ⟨im_f12_laughsAll, se_f12_laughsAll, in_X12, cd_f12_laughsAll, by decide +kernel, Nat.le_of_ble_eq_true rfl, _, rfl, rfl⟩
theorem cd_f12_laughsNow : Cond.code yX12_laughsNow cX12_laughsNow 2 (some .int) ∈ wU := wU_mem (List.mem_append_right _ (List.mem_of_getElem? (l := tables_1) (i := 1878) (by decide +kernel))) (by decide +kernel)
theorem im_f12_laughsNow : Cond.instanceMethod yX12_laughsNow ∈ wU := wU_mem (List.mem_append_right _ (List.mem_of_getElem? (l := tables_1) (i := 1877) (by decide +kernel))) (by decide +kernel)
theorem se_f12_laughsNow : Cond.selects RX12 yX12_laughsNow yX12_laughsNow ∈ wU := wU_mem (List.mem_append_left _ (List.mem_of_getElem? (l := k2_sels lw_privs) (i := 79) (by decide +kernel))) (by decide +kernel)
theorem yv_f12_laughsNow : Yv yX12_laughsNow RX12 12 cX12_laughsNow 2 (some .int) 1 := ⟨im_f12_laughsNow, se_f12_laughsNow, in_X12, cd_f12_laughsNow, by decide +kernel, Nat.le_of_ble_eq_true rfl, _, rfl, rfl⟩
theorem cd_f12_lawOf : Cond.code yX12_lawOf cX12_lawOf 3 (some .long) ∈ wU := wU_mem (List.mem_append_right _ (List.mem_of_getElem? (l := tables_1) (i := 1679) (by decide +kernel))) (by decide +kernel)
theorem im_f12_lawOf : Cond.instanceMethod yX12_lawOf ∈ wU := wU_mem (List.mem_append_right _ (List.mem_of_getElem? (l := tables_1) (i := 1678) (by decide +kernel))) (by decide +kernel)
theorem se_f12_lawOf : Cond.selects RX12 yX12_lawOf yX12_lawOf ∈ wU := wU_mem (List.mem_append_left _ (List.mem_of_getElem? (l := k2_sels lw_privs) (i := 56) (by decide +kernel))) (by decide +kernel)
theorem yv_f12_lawOf : Yv yX12_lawOf RX12 12 cX12_lawOf 3 (some .long) 1 := ⟨im_f12_lawOf, se_f12_lawOf, in_X12, cd_f12_lawOf, by decide +kernel, Nat.le_of_ble_eq_true rfl, _, rfl, rfl⟩
theorem cd_f12_layCounts : Cond.code yX12_layCounts cX12_layCounts 2 none ∈ wU := wU_mem (List.mem_append_right _ (List.mem_of_getElem? (l := tables_1) (i := 1912) (by decide +kernel))) (by decide +kernel)
theorem im_f12_layCounts : Cond.instanceMethod yX12_layCounts ∈ wU := wU_mem (List.mem_append_right _ (List.mem_of_getElem? (l := tables_1) (i := 1911) (by decide +kernel))) (by decide +kernel)
theorem se_f12_layCounts : Cond.selects RX12 yX12_layCounts yX12_layCounts ∈ wU := wU_mem (List.mem_append_left _ (List.mem_of_getElem? (l := k2_sels lw_privs) (i := 81) (by decide +kernel))) (by decide +kernel)
theorem yv_f12_layCounts : Yv yX12_layCounts RX12 12 cX12_layCounts 2 none 0 := ⟨im_f12_layCounts, se_f12_layCounts, in_X12, cd_f12_layCounts, by decide +kernel, Nat.le_of_ble_eq_true rfl, _, rfl, rfl⟩
theorem cd_f12_layNames : Cond.code yX12_layNames cX12_layNames 3 none ∈ wU := wU_mem (List.mem_append_right _ (List.mem_of_getElem? (l := tables_1) (i := 1668) (by decide +kernel))) (by decide +kernel)
theorem im_f12_layNames : Cond.instanceMethod yX12_layNames ∈ wU := wU_mem (List.mem_append_right _ (List.mem_of_getElem? (l := tables_1) (i := 1667) (by decide +kernel))) (by decide +kernel)
theorem se_f12_layNames : Cond.selects RX12 yX12_layNames yX12_layNames ∈ wU := wU_mem (List.mem_append_left _ (List.mem_of_getElem? (l := k2_sels lw_privs) (i := 54) (by decide +kernel))) (by decide +kernel)
theorem yv_f12_layNames : Yv yX12_layNames RX12 12 cX12_layNames 3 none 2 := ⟨im_f12_layNames, se_f12_layNames, in_X12, cd_f12_layNames, by decide +kernel, Nat.le_of_ble_eq_true rfl, _, rfl, rfl⟩
theorem cd_f12_layTried : Cond.code yX12_layTried cX12_layTried 2 none ∈ wU := wU_mem (List.mem_append_right _ (List.mem_of_getElem? (l := tables_1) (i := 1767) (by decide +kernel))) (by decide +kernel)
theorem im_f12_layTried : Cond.instanceMethod yX12_layTried ∈ wU := wU_mem (List.mem_append_right _ (List.mem_of_getElem? (l := tables_1) (i := 1766) (by decide +kernel))) (by decide +kernel)
theorem se_f12_layTried : Cond.selects RX12 yX12_layTried yX12_layTried ∈ wU := wU_mem (List.mem_append_left _ (List.mem_of_getElem? (l := k2_sels lw_privs) (i := 70) (by decide +kernel))) (by decide +kernel)
theorem yv_f12_layTried : Yv yX12_layTried RX12 12 cX12_layTried 2 none 0 := ⟨im_f12_layTried, se_f12_layTried, in_X12, cd_f12_layTried, by decide +kernel, Nat.le_of_ble_eq_true rfl, _, rfl, rfl⟩
theorem cd_f12_leafRead : Cond.code yX12_leafRead cX12_leafRead 2 (some .boolean) ∈ wU := wU_mem (List.mem_append_right _ (List.mem_of_getElem? (l := tables_1) (i := 1570) (by decide +kernel))) (by decide +kernel)
theorem im_f12_leafRead : Cond.instanceMethod yX12_leafRead ∈ wU := wU_mem (List.mem_append_right _ (List.mem_of_getElem? (l := tables_1) (i := 1569) (by decide +kernel))) (by decide +kernel)
theorem se_f12_leafRead : Cond.selects RX12 yX12_leafRead yX12_leafRead ∈ wU := wU_mem (List.mem_append_left _ (List.mem_of_getElem? (l := k2_sels lw_privs) (i := 40) (by decide +kernel))) (by decide +kernel)
theorem yv_f12_leafRead : Yv yX12_leafRead RX12 12 cX12_leafRead 2 (some .boolean) 0 := ⟨im_f12_leafRead, se_f12_leafRead, in_X12, cd_f12_leafRead, by decide +kernel, Nat.le_of_ble_eq_true rfl, _, rfl, rfl⟩
theorem cd_f12_letGo : Cond.code yX12_letGo cX12_letGo 6 none ∈ wU := wU_mem (List.mem_append_right _ (List.mem_of_getElem? (l := tables_1) (i := 1735) (by decide +kernel))) (by decide +kernel)
theorem im_f12_letGo : Cond.instanceMethod yX12_letGo ∈ wU := wU_mem (List.mem_append_right _ (List.mem_of_getElem? (l := tables_1) (i := 1734) (by decide +kernel))) (by decide +kernel)
theorem se_f12_letGo : Cond.selects RX12 yX12_letGo yX12_letGo ∈ wU := wU_mem (List.mem_append_left _ (List.mem_of_getElem? (l := k2_sels lw_privs) (i := 64) (by decide +kernel))) (by decide +kernel)
theorem yv_f12_letGo : Yv yX12_letGo RX12 12 cX12_letGo 6 none 2 := ⟨im_f12_letGo, se_f12_letGo, in_X12, cd_f12_letGo, by decide +kernel, Nat.le_of_ble_eq_true rfl, _, rfl, rfl⟩
theorem cd_f12_lineRead : Cond.code yX12_lineRead cX12_lineRead 3 (some .boolean) ∈ wU := wU_mem (List.mem_append_right _ (List.mem_of_getElem? (l := tables_1) (i := 1513) (by decide +kernel))) (by decide +kernel)
theorem im_f12_lineRead : Cond.instanceMethod yX12_lineRead ∈ wU := wU_mem (List.mem_append_right _ (List.mem_of_getElem? (l := tables_1) (i := 1512) (by decide +kernel))) (by decide +kernel)
theorem se_f12_lineRead : Cond.selects RX12 yX12_lineRead yX12_lineRead ∈ wU := wU_mem (List.mem_append_left _ (List.mem_of_getElem? (l := k2_sels lw_privs) (i := 28) (by decide +kernel))) (by decide +kernel)
theorem yv_f12_lineRead : Yv yX12_lineRead RX12 12 cX12_lineRead 3 (some .boolean) 0 := ⟨im_f12_lineRead, se_f12_lineRead, in_X12, cd_f12_lineRead, by decide +kernel, Nat.le_of_ble_eq_true rfl, _, rfl, rfl⟩
theorem cd_f12_manyOf : Cond.code yX12_manyOf cX12_manyOf 3 (some .int) ∈ wU := wU_mem (List.mem_append_right _ (List.mem_of_getElem? (l := tables_1) (i := 1675) (by decide +kernel))) (by decide +kernel)
theorem st_f12_manyOf : Cond.static yX12_manyOf ∈ wU := wU_mem (List.mem_append_right _ (List.mem_of_getElem? (l := tables_1) (i := 1674) (by decide +kernel))) (by decide +kernel)
theorem ys_f12_manyOf : Ys yX12_manyOf cX12_manyOf 3 (some .int) 1 := ⟨st_f12_manyOf, in_X12, cd_f12_manyOf, by decide +kernel⟩
theorem cd_f12_nameMet : Cond.code yX12_nameMet cX12_nameMet 1 (some .int) ∈ wU := wU_mem (List.mem_append_right _ (List.mem_of_getElem? (l := tables_1) (i := 1586) (by decide +kernel))) (by decide +kernel)
theorem im_f12_nameMet : Cond.instanceMethod yX12_nameMet ∈ wU := wU_mem (List.mem_append_right _ (List.mem_of_getElem? (l := tables_1) (i := 1585) (by decide +kernel))) (by decide +kernel)
theorem se_f12_nameMet : Cond.selects RX12 yX12_nameMet yX12_nameMet ∈ wU := wU_mem (List.mem_append_left _ (List.mem_of_getElem? (l := k2_sels lw_privs) (i := 44) (by decide +kernel))) (by decide +kernel)
theorem yv_f12_nameMet : Yv yX12_nameMet RX12 12 cX12_nameMet 1 (some .int) 0 := ⟨im_f12_nameMet, se_f12_nameMet, in_X12, cd_f12_nameMet, by decide +kernel, Nat.le_of_ble_eq_true rfl, _, rfl, rfl⟩
theorem cd_f12_newName : Cond.code yX12_newName cX12_newName 4 (some .boolean) ∈ wU := wU_mem (List.mem_append_right _ (List.mem_of_getElem? (l := tables_1) (i := 1525) (by decide +kernel))) (by decide +kernel)
theorem im_f12_newName : Cond.instanceMethod yX12_newName ∈ wU := wU_mem (List.mem_append_right _ (List.mem_of_getElem? (l := tables_1) (i := 1524) (by decide +kernel))) (by decide +kernel)
theorem se_f12_newName : Cond.selects RX12 yX12_newName yX12_newName ∈ wU := wU_mem (List.mem_append_left _ (List.mem_of_getElem? (l := k2_sels lw_privs) (i := 31) (by decide +kernel))) (by decide +kernel)
theorem yv_f12_newName : Yv yX12_newName RX12 12 cX12_newName 4 (some .boolean) 3 := ⟨im_f12_newName, se_f12_newName, in_X12, cd_f12_newName, by decide +kernel, Nat.le_of_ble_eq_true rfl, _, rfl, rfl⟩
theorem cd_f12_noted : Cond.code yX12_noted cX12_noted 4 (some .int) ∈ wU := wU_mem (List.mem_append_right _ (List.mem_of_getElem? (l := tables_1) (i := 1896) (by decide +kernel))) (by decide +kernel)
theorem im_f12_noted : Cond.instanceMethod yX12_noted ∈ wU := wU_mem (List.mem_append_right _ (List.mem_of_getElem? (l := tables_1) (i := 1895) (by decide +kernel))) (by decide +kernel)
theorem se_f12_noted : Cond.selects RX12 yX12_noted yX12_noted ∈ wU := wU_mem (List.mem_append_left _ (List.mem_of_getElem? (l := k2_sels lw_privs) (i := 80) (by decide +kernel))) (by decide +kernel)
theorem yv_f12_noted : Yv yX12_noted RX12 12 cX12_noted 4 (some .int) 3 := ⟨im_f12_noted, se_f12_noted, in_X12, cd_f12_noted, by decide +kernel, Nat.le_of_ble_eq_true rfl, _, rfl, rfl⟩
theorem cd_f12_number : Cond.code yX12_number cX12_number 3 (some .boolean) ∈ wU := wU_mem (List.mem_append_right _ (List.mem_of_getElem? (l := tables_1) (i := 1532) (by decide +kernel))) (by decide +kernel)
theorem im_f12_number : Cond.instanceMethod yX12_number ∈ wU := wU_mem (List.mem_append_right _ (List.mem_of_getElem? (l := tables_1) (i := 1531) (by decide +kernel))) (by decide +kernel)
theorem se_f12_number : Cond.selects RX12 yX12_number yX12_number ∈ wU := wU_mem (List.mem_append_left _ (List.mem_of_getElem? (l := k2_sels lw_privs) (i := 32) (by decide +kernel))) (by decide +kernel)
theorem yv_f12_number : Yv yX12_number RX12 12 cX12_number 3 (some .boolean) 2 := ⟨im_f12_number, se_f12_number, in_X12, cd_f12_number, by decide +kernel, Nat.le_of_ble_eq_true rfl, _, rfl, rfl⟩
theorem cd_f12_number1 : Cond.code yX12_number1 cX12_number1 2 (some .int) ∈ wU := wU_mem (List.mem_append_right _ (List.mem_of_getElem? (l := tables_1) (i := 1755) (by decide +kernel))) (by decide +kernel)
theorem im_f12_number1 : Cond.instanceMethod yX12_number1 ∈ wU := wU_mem (List.mem_append_right _ (List.mem_of_getElem? (l := tables_1) (i := 1754) (by decide +kernel))) (by decide +kernel)
theorem se_f12_number1 : Cond.selects RX12 yX12_number1 yX12_number1 ∈ wU := wU_mem (List.mem_append_left _ (List.mem_of_getElem? (l := k2_sels lw_privs) (i := 69) (by decide +kernel))) (by decide +kernel)
theorem yv_f12_number1 : Yv yX12_number1 RX12 12 cX12_number1 2 (some .int) 1 := ⟨im_f12_number1, se_f12_number1, in_X12, cd_f12_number1, by decide +kernel, Nat.le_of_ble_eq_true rfl, _, rfl, rfl⟩
theorem cd_f12_onceLine : Cond.code yX12_onceLine cX12_onceLine 3 (some .boolean) ∈ wU := wU_mem (List.mem_append_right _ (List.mem_of_getElem? (l := tables_1) (i := 1558) (by decide +kernel))) (by decide +kernel)
theorem im_f12_onceLine : Cond.instanceMethod yX12_onceLine ∈ wU := wU_mem (List.mem_append_right _ (List.mem_of_getElem? (l := tables_1) (i := 1557) (by decide +kernel))) (by decide +kernel)
theorem se_f12_onceLine : Cond.selects RX12 yX12_onceLine yX12_onceLine ∈ wU := wU_mem (List.mem_append_left _ (List.mem_of_getElem? (l := k2_sels lw_privs) (i := 37) (by decide +kernel))) (by decide +kernel)
theorem yv_f12_onceLine : Yv yX12_onceLine RX12 12 cX12_onceLine 3 (some .boolean) 2 := ⟨im_f12_onceLine, se_f12_onceLine, in_X12, cd_f12_onceLine, by decide +kernel, Nat.le_of_ble_eq_true rfl, _, rfl, rfl⟩
theorem cd_f12_overlap : Cond.code yX12_overlap cX12_overlap 6 (some .int) ∈ wU := wU_mem (List.mem_append_right _ (List.mem_of_getElem? (l := tables_1) (i := 1795) (by decide +kernel))) (by decide +kernel)
theorem im_f12_overlap : Cond.instanceMethod yX12_overlap ∈ wU := wU_mem (List.mem_append_right _ (List.mem_of_getElem? (l := tables_1) (i := 1794) (by decide +kernel))) (by decide +kernel)
theorem se_f12_overlap : Cond.selects RX12 yX12_overlap yX12_overlap ∈ wU := wU_mem (List.mem_append_left _ (List.mem_of_getElem? (l := k2_sels lw_privs) (i := 73) (by decide +kernel))) (by decide +kernel)
theorem yv_f12_overlap : Yv yX12_overlap RX12 12 cX12_overlap 6 (some .int) 2 := ⟨im_f12_overlap, se_f12_overlap, in_X12, cd_f12_overlap, by decide +kernel, Nat.le_of_ble_eq_true rfl, _, rfl, rfl⟩
theorem cd_f12_packed : Cond.code yX12_packed cX12_packed 5 (some .int) ∈ wU := wU_mem (List.mem_append_right _ (List.mem_of_getElem? (l := tables_1) (i := 1500) (by decide +kernel))) (by decide +kernel)
theorem im_f12_packed : Cond.instanceMethod yX12_packed ∈ wU := wU_mem (List.mem_append_right _ (List.mem_of_getElem? (l := tables_1) (i := 1499) (by decide +kernel))) (by decide +kernel)
theorem se_f12_packed : Cond.selects RX12 yX12_packed yX12_packed ∈ wU := wU_mem (List.mem_append_left _ (List.mem_of_getElem? (l := k2_sels lw_privs) (i := 25) (by decide +kernel))) (by decide +kernel)
theorem yv_f12_packed : Yv yX12_packed RX12 12 cX12_packed 5 (some .int) 2 := ⟨im_f12_packed, se_f12_packed, in_X12, cd_f12_packed, by decide +kernel, Nat.le_of_ble_eq_true rfl, _, rfl, rfl⟩
theorem cd_f12_pinsOf : Cond.code yX12_pinsOf cX12_pinsOf 4 (some .int) ∈ wU := wU_mem (List.mem_append_right _ (List.mem_of_getElem? (l := tables_1) (i := 1672) (by decide +kernel))) (by decide +kernel)
theorem im_f12_pinsOf : Cond.instanceMethod yX12_pinsOf ∈ wU := wU_mem (List.mem_append_right _ (List.mem_of_getElem? (l := tables_1) (i := 1671) (by decide +kernel))) (by decide +kernel)
theorem se_f12_pinsOf : Cond.selects RX12 yX12_pinsOf yX12_pinsOf ∈ wU := wU_mem (List.mem_append_left _ (List.mem_of_getElem? (l := k2_sels lw_privs) (i := 55) (by decide +kernel))) (by decide +kernel)
theorem yv_f12_pinsOf : Yv yX12_pinsOf RX12 12 cX12_pinsOf 4 (some .int) 1 := ⟨im_f12_pinsOf, se_f12_pinsOf, in_X12, cd_f12_pinsOf, by decide +kernel, Nat.le_of_ble_eq_true rfl, _, rfl, rfl⟩
theorem cd_f12_plain : Cond.code yX12_plain cX12_plain 2 none ∈ wU := wU_mem (List.mem_append_right _ (List.mem_of_getElem? (l := tables_1) (i := 1231) (by decide +kernel))) (by decide +kernel)
theorem im_f12_plain : Cond.instanceMethod yX12_plain ∈ wU := wU_mem (List.mem_append_right _ (List.mem_of_getElem? (l := tables_1) (i := 1230) (by decide +kernel))) (by decide +kernel)
theorem se_f12_plain : Cond.selects RX12 yX12_plain yX12_plain ∈ wU := wU_mem (List.mem_append_left _ (List.mem_of_getElem? (l := k2_sels lw_privs) (i := 18) (by decide +kernel))) (by decide +kernel)
theorem yv_f12_plain : Yv yX12_plain RX12 12 cX12_plain 2 none 0 := ⟨im_f12_plain, se_f12_plain, in_X12, cd_f12_plain, by decide +kernel, Nat.le_of_ble_eq_true rfl, _, rfl, rfl⟩
theorem cd_f12_plainTried : Cond.code yX12_plainTried cX12_plainTried 1 none ∈ wU := wU_mem (List.mem_append_right _ (List.mem_of_getElem? (l := tables_1) (i := 1246) (by decide +kernel))) (by decide +kernel)
theorem im_f12_plainTried : Cond.instanceMethod yX12_plainTried ∈ wU := wU_mem (List.mem_append_right _ (List.mem_of_getElem? (l := tables_1) (i := 1245) (by decide +kernel))) (by decide +kernel)
theorem se_f12_plainTried : Cond.selects RX12 yX12_plainTried yX12_plainTried ∈ wU := wU_mem (List.mem_append_left _ (List.mem_of_getElem? (l := k2_sels lw_privs) (i := 21) (by decide +kernel))) (by decide +kernel)
theorem yv_f12_plainTried : Yv yX12_plainTried RX12 12 cX12_plainTried 1 none 0 := ⟨im_f12_plainTried, se_f12_plainTried, in_X12, cd_f12_plainTried, by decide +kernel, Nat.le_of_ble_eq_true rfl, _, rfl, rfl⟩
theorem cd_f12_powerOf : Cond.code yX12_powerOf cX12_powerOf 4 (some .int) ∈ wU := wU_mem (List.mem_append_right _ (List.mem_of_getElem? (l := tables_1) (i := 1798) (by decide +kernel))) (by decide +kernel)
theorem st_f12_powerOf : Cond.static yX12_powerOf ∈ wU := wU_mem (List.mem_append_right _ (List.mem_of_getElem? (l := tables_1) (i := 1797) (by decide +kernel))) (by decide +kernel)
theorem ys_f12_powerOf : Ys yX12_powerOf cX12_powerOf 4 (some .int) 2 := ⟨st_f12_powerOf, in_X12, cd_f12_powerOf, by decide +kernel⟩
theorem cd_f12_put : Cond.code yX12_put cX12_put 4 none ∈ wU := wU_mem (List.mem_append_right _ (List.mem_of_getElem? (l := tables_1) (i := 1708) (by decide +kernel))) (by decide +kernel)
theorem im_f12_put : Cond.instanceMethod yX12_put ∈ wU := wU_mem (List.mem_append_right _ (List.mem_of_getElem? (l := tables_1) (i := 1707) (by decide +kernel))) (by decide +kernel)
theorem se_f12_put : Cond.selects RX12 yX12_put yX12_put ∈ wU := wU_mem (List.mem_append_left _ (List.mem_of_getElem? (l := k2_sels lw_privs) (i := 61) (by decide +kernel))) (by decide +kernel)
theorem yv_f12_put : Yv yX12_put RX12 12 cX12_put 4 none 2 := ⟨im_f12_put, se_f12_put, in_X12, cd_f12_put, by decide +kernel, Nat.le_of_ble_eq_true rfl, _, rfl, rfl⟩
theorem cd_f12_rank : Cond.code yX12_rank cX12_rank 1 (some .int) ∈ wU := wU_mem (List.mem_append_right _ (List.mem_of_getElem? (l := tables_1) (i := 1601) (by decide +kernel))) (by decide +kernel)
theorem st_f12_rank : Cond.static yX12_rank ∈ wU := wU_mem (List.mem_append_right _ (List.mem_of_getElem? (l := tables_1) (i := 1600) (by decide +kernel))) (by decide +kernel)
theorem ys_f12_rank : Ys yX12_rank cX12_rank 1 (some .int) 1 := ⟨st_f12_rank, in_X12, cd_f12_rank, by decide +kernel⟩
theorem cd_f12_remember : Cond.code yX12_remember cX12_remember 2 none ∈ wU := wU_mem (List.mem_append_right _ (List.mem_of_getElem? (l := tables_1) (i := 1704) (by decide +kernel))) (by decide +kernel)
theorem im_f12_remember : Cond.instanceMethod yX12_remember ∈ wU := wU_mem (List.mem_append_right _ (List.mem_of_getElem? (l := tables_1) (i := 1703) (by decide +kernel))) (by decide +kernel)
theorem se_f12_remember : Cond.selects RX12 yX12_remember yX12_remember ∈ wU := wU_mem (List.mem_append_left _ (List.mem_of_getElem? (l := k2_sels lw_privs) (i := 60) (by decide +kernel))) (by decide +kernel)
theorem yv_f12_remember : Yv yX12_remember RX12 12 cX12_remember 2 none 0 := ⟨im_f12_remember, se_f12_remember, in_X12, cd_f12_remember, by decide +kernel, Nat.le_of_ble_eq_true rfl, _, rfl, rfl⟩
theorem cd_f12_restAt : Cond.code yX12_restAt cX12_restAt 8 (some .int) ∈ wU := wU_mem (List.mem_append_right _ (List.mem_of_getElem? (l := tables_1) (i := 1881) (by decide +kernel))) (by decide +kernel)
theorem st_f12_restAt : Cond.static yX12_restAt ∈ wU := wU_mem (List.mem_append_right _ (List.mem_of_getElem? (l := tables_1) (i := 1880) (by decide +kernel))) (by decide +kernel)
theorem ys_f12_restAt : Ys yX12_restAt cX12_restAt 8 (some .int) 2 := ⟨st_f12_restAt, in_X12, cd_f12_restAt, by decide +kernel⟩
theorem cd_f12_rowLong : Cond.code yX12_rowLong cX12_rowLong 8 (some .int) ∈ wU := wU_mem (List.mem_append_right _ (List.mem_of_getElem? (l := tables_1) (i := 1802) (by decide +kernel))) (by decide +kernel)
theorem im_f12_rowLong : Cond.instanceMethod yX12_rowLong ∈ wU := wU_mem (List.mem_append_right _ (List.mem_of_getElem? (l := tables_1) (i := 1801) (by decide +kernel))) (by decide +kernel)
theorem se_f12_rowLong : Cond.selects RX12 yX12_rowLong yX12_rowLong ∈ wU := wU_mem (List.mem_append_left _ (List.mem_of_getElem? (l := k2_sels lw_privs) (i := 74) (by decide +kernel))) (by decide +kernel)
theorem yv_f12_rowLong : Yv yX12_rowLong RX12 12 cX12_rowLong 8 (some .int) 2 := ⟨im_f12_rowLong, se_f12_rowLong, in_X12, cd_f12_rowLong, by decide +kernel, Nat.le_of_ble_eq_true rfl, _, rfl, rfl⟩
theorem cd_f12_seek : Cond.code yX12_seek cX12_seek 5 (some .int) ∈ wU := wU_mem (List.mem_append_right _ (List.mem_of_getElem? (l := tables_1) (i := 1528) (by decide +kernel))) (by decide +kernel)
theorem st_f12_seek : Cond.static yX12_seek ∈ wU := wU_mem (List.mem_append_right _ (List.mem_of_getElem? (l := tables_1) (i := 1527) (by decide +kernel))) (by decide +kernel)
theorem ys_f12_seek : Ys yX12_seek cX12_seek 5 (some .int) 4 := ⟨st_f12_seek, in_X12, cd_f12_seek, by decide +kernel⟩
theorem cd_f12_signToken : Cond.code yX12_signToken cX12_signToken 4 none ∈ wU := wU_mem (List.mem_append_right _ (List.mem_of_getElem? (l := tables_1) (i := 1509) (by decide +kernel))) (by decide +kernel)
theorem im_f12_signToken : Cond.instanceMethod yX12_signToken ∈ wU := wU_mem (List.mem_append_right _ (List.mem_of_getElem? (l := tables_1) (i := 1508) (by decide +kernel))) (by decide +kernel)
theorem se_f12_signToken : Cond.selects RX12 yX12_signToken yX12_signToken ∈ wU := wU_mem (List.mem_append_left _ (List.mem_of_getElem? (l := k2_sels lw_privs) (i := 27) (by decide +kernel))) (by decide +kernel)
theorem yv_f12_signToken : Yv yX12_signToken RX12 12 cX12_signToken 4 none 0 := ⟨im_f12_signToken, se_f12_signToken, in_X12, cd_f12_signToken, by decide +kernel, Nat.le_of_ble_eq_true rfl, _, rfl, rfl⟩
theorem cd_f12_signs : Cond.code yX12_signs cX12_signs 2 (some .boolean) ∈ wU := wU_mem (List.mem_append_right _ (List.mem_of_getElem? (l := tables_1) (i := 1594) (by decide +kernel))) (by decide +kernel)
theorem im_f12_signs : Cond.instanceMethod yX12_signs ∈ wU := wU_mem (List.mem_append_right _ (List.mem_of_getElem? (l := tables_1) (i := 1593) (by decide +kernel))) (by decide +kernel)
theorem se_f12_signs : Cond.selects RX12 yX12_signs yX12_signs ∈ wU := wU_mem (List.mem_append_left _ (List.mem_of_getElem? (l := k2_sels lw_privs) (i := 46) (by decide +kernel))) (by decide +kernel)
theorem yv_f12_signs : Yv yX12_signs RX12 12 cX12_signs 2 (some .boolean) 0 := ⟨im_f12_signs, se_f12_signs, in_X12, cd_f12_signs, by decide +kernel, Nat.le_of_ble_eq_true rfl, _, rfl, rfl⟩
theorem cd_f12_sumRead : Cond.code yX12_sumRead cX12_sumRead 1 (some .boolean) ∈ wU := wU_mem (List.mem_append_right _ (List.mem_of_getElem? (l := tables_1) (i := 1562) (by decide +kernel))) (by decide +kernel)
theorem im_f12_sumRead : Cond.instanceMethod yX12_sumRead ∈ wU := wU_mem (List.mem_append_right _ (List.mem_of_getElem? (l := tables_1) (i := 1561) (by decide +kernel))) (by decide +kernel)
theorem se_f12_sumRead : Cond.selects RX12 yX12_sumRead yX12_sumRead ∈ wU := wU_mem (List.mem_append_left _ (List.mem_of_getElem? (l := k2_sels lw_privs) (i := 38) (by decide +kernel))) (by decide +kernel)
theorem yv_f12_sumRead : Yv yX12_sumRead RX12 12 cX12_sumRead 1 (some .boolean) 0 := ⟨im_f12_sumRead, se_f12_sumRead, in_X12, cd_f12_sumRead, by decide +kernel, Nat.le_of_ble_eq_true rfl, _, rfl, rfl⟩
theorem cd_f12_take : Cond.code yX12_take cX12_take 4 none ∈ wU := wU_mem (List.mem_append_right _ (List.mem_of_getElem? (l := tables_1) (i := 1949) (by decide +kernel))) (by decide +kernel)
theorem im_f12_take : Cond.instanceMethod yX12_take ∈ wU := wU_mem (List.mem_append_right _ (List.mem_of_getElem? (l := tables_1) (i := 1948) (by decide +kernel))) (by decide +kernel)
theorem se_f12_take : Cond.selects RX12 yX12_take yX12_take ∈ wU := wU_mem (List.mem_append_left _ (List.mem_of_getElem? (l := k2_sels lw_privs) (i := 85) (by decide +kernel))) (by decide +kernel)
theorem yv_f12_take : Yv yX12_take RX12 12 cX12_take 4 none 2 := ⟨im_f12_take, se_f12_take, in_X12, cd_f12_take, by decide +kernel, Nat.le_of_ble_eq_true rfl, _, rfl, rfl⟩
theorem cd_f12_times : Cond.code yX12_times cX12_times 6 (some .long) ∈ wU := wU_mem (List.mem_append_right _ (List.mem_of_getElem? (l := tables_1) (i := 1693) (by decide +kernel))) (by decide +kernel)
theorem im_f12_times : Cond.instanceMethod yX12_times ∈ wU := wU_mem (List.mem_append_right _ (List.mem_of_getElem? (l := tables_1) (i := 1692) (by decide +kernel))) (by decide +kernel)
theorem se_f12_times : Cond.selects RX12 yX12_times yX12_times ∈ wU := wU_mem (List.mem_append_left _ (List.mem_of_getElem? (l := k2_sels lw_privs) (i := 59) (by decide +kernel))) (by decide +kernel)
theorem yv_f12_times : Yv yX12_times RX12 12 cX12_times 6 (some .long) 2 := ⟨im_f12_times, se_f12_times, in_X12, cd_f12_times, by decide +kernel, Nat.le_of_ble_eq_true rfl, _, rfl, rfl⟩
theorem cd_f12_token : Cond.code yX12_token cX12_token 1 none ∈ wU := wU_mem (List.mem_append_right _ (List.mem_of_getElem? (l := tables_1) (i := 1488) (by decide +kernel))) (by decide +kernel)
theorem im_f12_token : Cond.instanceMethod yX12_token ∈ wU := wU_mem (List.mem_append_right _ (List.mem_of_getElem? (l := tables_1) (i := 1487) (by decide +kernel))) (by decide +kernel)
theorem se_f12_token : Cond.selects RX12 yX12_token yX12_token ∈ wU := wU_mem (List.mem_append_left _ (List.mem_of_getElem? (l := k2_sels lw_privs) (i := 22) (by decide +kernel))) (by decide +kernel)
theorem yv_f12_token : Yv yX12_token RX12 12 cX12_token 1 none 0 := ⟨im_f12_token, se_f12_token, in_X12, cd_f12_token, by decide +kernel, Nat.le_of_ble_eq_true rfl, _, rfl, rfl⟩
theorem cd_f12_toothLine : Cond.code yX12_toothLine cX12_toothLine 3 (some .boolean) ∈ wU := wU_mem (List.mem_append_right _ (List.mem_of_getElem? (l := tables_1) (i := 1539) (by decide +kernel))) (by decide +kernel)
theorem im_f12_toothLine : Cond.instanceMethod yX12_toothLine ∈ wU := wU_mem (List.mem_append_right _ (List.mem_of_getElem? (l := tables_1) (i := 1538) (by decide +kernel))) (by decide +kernel)
theorem se_f12_toothLine : Cond.selects RX12 yX12_toothLine yX12_toothLine ∈ wU := wU_mem (List.mem_append_left _ (List.mem_of_getElem? (l := k2_sels lw_privs) (i := 33) (by decide +kernel))) (by decide +kernel)
theorem yv_f12_toothLine : Yv yX12_toothLine RX12 12 cX12_toothLine 3 (some .boolean) 0 := ⟨im_f12_toothLine, se_f12_toothLine, in_X12, cd_f12_toothLine, by decide +kernel, Nat.le_of_ble_eq_true rfl, _, rfl, rfl⟩
theorem cd_f12_valueOf : Cond.code yX12_valueOf cX12_valueOf 6 (some .long) ∈ wU := wU_mem (List.mem_append_right _ (List.mem_of_getElem? (l := tables_1) (i := 1683) (by decide +kernel))) (by decide +kernel)
theorem im_f12_valueOf : Cond.instanceMethod yX12_valueOf ∈ wU := wU_mem (List.mem_append_right _ (List.mem_of_getElem? (l := tables_1) (i := 1682) (by decide +kernel))) (by decide +kernel)
theorem se_f12_valueOf : Cond.selects RX12 yX12_valueOf yX12_valueOf ∈ wU := wU_mem (List.mem_append_left _ (List.mem_of_getElem? (l := k2_sels lw_privs) (i := 57) (by decide +kernel))) (by decide +kernel)
theorem yv_f12_valueOf : Yv yX12_valueOf RX12 12 cX12_valueOf 6 (some .long) 1 := ⟨im_f12_valueOf, se_f12_valueOf, in_X12, cd_f12_valueOf, by decide +kernel, Nat.le_of_ble_eq_true rfl, _, rfl, rfl⟩
theorem cd_f12_waitsFor : Cond.code yX12_waitsFor cX12_waitsFor 2 none ∈ wU := wU_mem (List.mem_append_right _ (List.mem_of_getElem? (l := tables_1) (i := 1574) (by decide +kernel))) (by decide +kernel)
theorem im_f12_waitsFor : Cond.instanceMethod yX12_waitsFor ∈ wU := wU_mem (List.mem_append_right _ (List.mem_of_getElem? (l := tables_1) (i := 1573) (by decide +kernel))) (by decide +kernel)
theorem se_f12_waitsFor : Cond.selects RX12 yX12_waitsFor yX12_waitsFor ∈ wU := wU_mem (List.mem_append_left _ (List.mem_of_getElem? (l := k2_sels lw_privs) (i := 41) (by decide +kernel))) (by decide +kernel)
theorem yv_f12_waitsFor : Yv yX12_waitsFor RX12 12 cX12_waitsFor 2 none 1 := ⟨im_f12_waitsFor, se_f12_waitsFor, in_X12, cd_f12_waitsFor, by decide +kernel, Nat.le_of_ble_eq_true rfl, _, rfl, rfl⟩
theorem cd_f12_whose : Cond.code yX12_whose cX12_whose 3 (some .int) ∈ wU := wU_mem (List.mem_append_right _ (List.mem_of_getElem? (l := tables_1) (i := 1908) (by decide +kernel))) (by decide +kernel)
theorem im_f12_whose : Cond.instanceMethod yX12_whose ∈ wU := wU_mem (List.mem_append_right _ (List.mem_of_getElem? (l := tables_1) (i := 1906) (by decide +kernel))) (by decide +kernel)
theorem se_f12_whose : Cond.selects RX12 yX12_whose yX12_whose ∈ wU := wU_mem (List.mem_append_right _ (List.mem_of_getElem? (l := tables_1) (i := 1907) (by decide +kernel))) (by decide +kernel)
theorem yv_f12_whose : Yv yX12_whose RX12 12 cX12_whose 3 (some .int) 0 := ⟨im_f12_whose, se_f12_whose, in_X12, cd_f12_whose, by decide +kernel, Nat.le_of_ble_eq_true rfl, _, rfl, rfl⟩
theorem cd_f12_winds : Cond.code yX12_winds cX12_winds 3 none ∈ wU := wU_mem (List.mem_append_right _ (List.mem_of_getElem? (l := tables_1) (i := 1862) (by decide +kernel))) (by decide +kernel)
theorem im_f12_winds : Cond.instanceMethod yX12_winds ∈ wU := wU_mem (List.mem_append_right _ (List.mem_of_getElem? (l := tables_1) (i := 1861) (by decide +kernel))) (by decide +kernel)
theorem se_f12_winds : Cond.selects RX12 yX12_winds yX12_winds ∈ wU := wU_mem (List.mem_append_left _ (List.mem_of_getElem? (l := k2_sels lw_privs) (i := 77) (by decide +kernel))) (by decide +kernel)
theorem yv_f12_winds : Yv yX12_winds RX12 12 cX12_winds 3 none 2 := ⟨im_f12_winds, se_f12_winds, in_X12, cd_f12_winds, by decide +kernel, Nat.le_of_ble_eq_true rfl, _, rfl, rfl⟩
theorem cd_f12_wordAt : Cond.code yX12_wordAt cX12_wordAt 8 (some .int) ∈ wU := wU_mem (List.mem_append_right _ (List.mem_of_getElem? (l := tables_1) (i := 1496) (by decide +kernel))) (by decide +kernel)
theorem im_f12_wordAt : Cond.instanceMethod yX12_wordAt ∈ wU := wU_mem (List.mem_append_right _ (List.mem_of_getElem? (l := tables_1) (i := 1495) (by decide +kernel))) (by decide +kernel)
theorem se_f12_wordAt : Cond.selects RX12 yX12_wordAt yX12_wordAt ∈ wU := wU_mem (List.mem_append_left _ (List.mem_of_getElem? (l := k2_sels lw_privs) (i := 24) (by decide +kernel))) (by decide +kernel)
theorem yv_f12_wordAt : Yv yX12_wordAt RX12 12 cX12_wordAt 8 (some .int) 2 := ⟨im_f12_wordAt, se_f12_wordAt, in_X12, cd_f12_wordAt, by decide +kernel, Nat.le_of_ble_eq_true rfl, _, rfl, rfl⟩
theorem cd_f12_worstAt : Cond.code yX12_worstAt cX12_worstAt 7 (some .int) ∈ wU := wU_mem (List.mem_append_right _ (List.mem_of_getElem? (l := tables_1) (i := 1929) (by decide +kernel))) (by decide +kernel)
theorem im_f12_worstAt : Cond.instanceMethod yX12_worstAt ∈ wU := wU_mem (List.mem_append_right _ (List.mem_of_getElem? (l := tables_1) (i := 1928) (by decide +kernel))) (by decide +kernel)
theorem se_f12_worstAt : Cond.selects RX12 yX12_worstAt yX12_worstAt ∈ wU := wU_mem (List.mem_append_left _ (List.mem_of_getElem? (l := k2_sels lw_privs) (i := 84) (by decide +kernel))) (by decide +kernel)
theorem yv_f12_worstAt : Yv yX12_worstAt RX12 12 cX12_worstAt 7 (some .int) 2 := ⟨im_f12_worstAt, se_f12_worstAt, in_X12, cd_f12_worstAt, by decide +kernel, Nat.le_of_ble_eq_true rfl, _, rfl, rfl⟩
theorem cd_f12_wrong : Cond.code yX12_wrong cX12_wrong 2 (some .boolean) ∈ wU := wU_mem (List.mem_append_right _ (List.mem_of_getElem? (l := tables_1) (i := 1517) (by decide +kernel))) (by decide +kernel)
theorem im_f12_wrong : Cond.instanceMethod yX12_wrong ∈ wU := wU_mem (List.mem_append_right _ (List.mem_of_getElem? (l := tables_1) (i := 1516) (by decide +kernel))) (by decide +kernel)
theorem se_f12_wrong : Cond.selects RX12 yX12_wrong yX12_wrong ∈ wU := wU_mem (List.mem_append_left _ (List.mem_of_getElem? (l := k2_sels lw_privs) (i := 29) (by decide +kernel))) (by decide +kernel)
theorem yv_f12_wrong : Yv yX12_wrong RX12 12 cX12_wrong 2 (some .boolean) 1 := ⟨im_f12_wrong, se_f12_wrong, in_X12, cd_f12_wrong, by decide +kernel, Nat.le_of_ble_eq_true rfl, _, rfl, rfl⟩
theorem cd_f12_yearGoes : Cond.code yX12_yearGoes cX12_yearGoes 4 none ∈ wU := wU_mem (List.mem_append_right _ (List.mem_of_getElem? (l := tables_1) (i := 1727) (by decide +kernel))) (by decide +kernel)
theorem im_f12_yearGoes : Cond.instanceMethod yX12_yearGoes ∈ wU := wU_mem (List.mem_append_right _ (List.mem_of_getElem? (l := tables_1) (i := 1726) (by decide +kernel))) (by decide +kernel)
theorem se_f12_yearGoes : Cond.selects RX12 yX12_yearGoes yX12_yearGoes ∈ wU := wU_mem (List.mem_append_left _ (List.mem_of_getElem? (l := k2_sels lw_privs) (i := 62) (by decide +kernel))) (by decide +kernel)
theorem yv_f12_yearGoes : Yv yX12_yearGoes RX12 12 cX12_yearGoes 4 none 1 := ⟨im_f12_yearGoes, se_f12_yearGoes, in_X12, cd_f12_yearGoes, by decide +kernel, Nat.le_of_ble_eq_true rfl, _, rfl, rfl⟩
theorem in_J6 : Cond.initialized RJ6 ∈ wU := wU_mem (List.mem_append_right _ (List.mem_of_getElem? (l := tables_1) (i := 21) (by decide +kernel))) (by decide +kernel)
theorem cd_fJ_bitCount_0f7a4 : Cond.code yJ6_bitCount_0f7a4 cJ6_bitCount_0f7a4 1 (some .int) ∈ wU := wU_mem (List.mem_append_right _ (List.mem_of_getElem? (l := tables_1) (i := 736) (by decide +kernel))) (by decide +kernel)
theorem st_fJ_bitCount_0f7a4 : Cond.static yJ6_bitCount_0f7a4 ∈ wU := wU_mem (List.mem_append_right _ (List.mem_of_getElem? (l := tables_1) (i := 735) (by decide +kernel))) (by decide +kernel)
theorem ys_fJ_bitCount_0f7a4 : Ys yJ6_bitCount_0f7a4 cJ6_bitCount_0f7a4 1 (some .int) 1 := ⟨st_fJ_bitCount_0f7a4, in_J6, cd_fJ_bitCount_0f7a4, by decide +kernel⟩
theorem lang_212 : Cond.fieldLink RX7 212 "LaughDrum$Reader" "LANGUAGE" "[I" ∈ wU := wU_mem (List.mem_append_right _ (List.mem_of_getElem? (l := tables_1) (i := 544) (by decide +kernel))) (by decide +kernel)
theorem kc_X4_75 : Cond.constant RX4 75 486146048 ∈ wU := wU_mem (List.mem_append_right _ (List.mem_of_getElem? (l := tables_1) (i := 641) (by decide +kernel))) (by decide +kernel)
theorem kc_X4_102 : Cond.constant RX4 102 522190848 ∈ wU := wU_mem (List.mem_append_right _ (List.mem_of_getElem? (l := tables_1) (i := 655) (by decide +kernel))) (by decide +kernel)
theorem kc_X4_103 : Cond.constant RX4 103 48365568 ∈ wU := wU_mem (List.mem_append_right _ (List.mem_of_getElem? (l := tables_1) (i := 656) (by decide +kernel))) (by decide +kernel)
theorem kc_X7_186 : Cond.constant RX7 186 99999 ∈ wU := wU_mem (List.mem_append_right _ (List.mem_of_getElem? (l := tables_1) (i := 594) (by decide +kernel))) (by decide +kernel)
theorem kc_X7_190 : Cond.constant RX7 190 777046016 ∈ wU := wU_mem (List.mem_append_right _ (List.mem_of_getElem? (l := tables_1) (i := 599) (by decide +kernel))) (by decide +kernel)
theorem kc_X7_194 : Cond.constant RX7 194 653969408 ∈ wU := wU_mem (List.mem_append_right _ (List.mem_of_getElem? (l := tables_1) (i := 604) (by decide +kernel))) (by decide +kernel)
theorem kc_X7_195 : Cond.constant RX7 195 109103520 ∈ wU := wU_mem (List.mem_append_right _ (List.mem_of_getElem? (l := tables_1) (i := 605) (by decide +kernel))) (by decide +kernel)
theorem kc_X8_59 : Cond.constant RX8 59 100000 ∈ wU := wU_mem (List.mem_append_right _ (List.mem_of_getElem? (l := tables_1) (i := 508) (by decide +kernel))) (by decide +kernel)
theorem kc_X10_74 : Cond.constant RX10 74 65536 ∈ wU := wU_mem (List.mem_append_right _ (List.mem_of_getElem? (l := tables_1) (i := 797) (by decide +kernel))) (by decide +kernel)
theorem kc_X12_177 : Cond.constant RX12 177 99999 ∈ wU := wU_mem (List.mem_append_right _ (List.mem_of_getElem? (l := tables_1) (i := 1505) (by decide +kernel))) (by decide +kernel)
theorem kc_J6_265 : Cond.constant RJ6 265 1431655765 ∈ wU := wU_mem (List.mem_append_right _ (List.mem_of_getElem? (l := tables_1) (i := 737) (by decide +kernel))) (by decide +kernel)
theorem kc_J6_266 : Cond.constant RJ6 266 858993459 ∈ wU := wU_mem (List.mem_append_right _ (List.mem_of_getElem? (l := tables_1) (i := 738) (by decide +kernel))) (by decide +kernel)
theorem kc_J6_267 : Cond.constant RJ6 267 252645135 ∈ wU := wU_mem (List.mem_append_right _ (List.mem_of_getElem? (l := tables_1) (i := 739) (by decide +kernel))) (by decide +kernel)
theorem kl_X11_192 : Cond.constantLong RX11 192 (-9223372036854775808) ∈ wU := wU_mem (List.mem_append_right _ (List.mem_of_getElem? (l := tables_1) (i := 726) (by decide +kernel))) (by decide +kernel)
theorem kl_X0_84 : Cond.constantLong RX0 84 (-9223372036854775808) ∈ wU := wU_mem (List.mem_append_right _ (List.mem_of_getElem? (l := tables_1) (i := 811) (by decide +kernel))) (by decide +kernel)
theorem kl_X5_44 : Cond.constantLong RX5 44 1000000000000 ∈ wU := wU_mem (List.mem_append_right _ (List.mem_of_getElem? (l := tables_1) (i := 749) (by decide +kernel))) (by decide +kernel)
theorem kl_X5_46 : Cond.constantLong RX5 46 (-1000000000000) ∈ wU := wU_mem (List.mem_append_right _ (List.mem_of_getElem? (l := tables_1) (i := 751) (by decide +kernel))) (by decide +kernel)
theorem kl_X5_48 : Cond.constantLong RX5 48 (-9223372036854775808) ∈ wU := wU_mem (List.mem_append_right _ (List.mem_of_getElem? (l := tables_1) (i := 750) (by decide +kernel))) (by decide +kernel)
theorem kl_X9_62 : Cond.constantLong RX9 62 1103515245 ∈ wU := wU_mem (List.mem_append_right _ (List.mem_of_getElem? (l := tables_1) (i := 789) (by decide +kernel))) (by decide +kernel)
theorem kl_X9_64 : Cond.constantLong RX9 64 12345 ∈ wU := wU_mem (List.mem_append_right _ (List.mem_of_getElem? (l := tables_1) (i := 790) (by decide +kernel))) (by decide +kernel)
theorem kl_X9_66 : Cond.constantLong RX9 66 2147483647 ∈ wU := wU_mem (List.mem_append_right _ (List.mem_of_getElem? (l := tables_1) (i := 791) (by decide +kernel))) (by decide +kernel)
theorem kl_X12_327 : Cond.constantLong RX12 327 1000000000000 ∈ wU := wU_mem (List.mem_append_right _ (List.mem_of_getElem? (l := tables_1) (i := 1688) (by decide +kernel))) (by decide +kernel)
theorem kl_X12_329 : Cond.constantLong RX12 329 (-1000000000000) ∈ wU := wU_mem (List.mem_append_right _ (List.mem_of_getElem? (l := tables_1) (i := 1689) (by decide +kernel))) (by decide +kernel)
theorem kl_X12_407 : Cond.constantLong RX12 407 1103515245 ∈ wU := wU_mem (List.mem_append_right _ (List.mem_of_getElem? (l := tables_1) (i := 1756) (by decide +kernel))) (by decide +kernel)
theorem kl_X12_409 : Cond.constantLong RX12 409 12345 ∈ wU := wU_mem (List.mem_append_right _ (List.mem_of_getElem? (l := tables_1) (i := 1757) (by decide +kernel))) (by decide +kernel)
theorem kl_X12_411 : Cond.constantLong RX12 411 2147483647 ∈ wU := wU_mem (List.mem_append_right _ (List.mem_of_getElem? (l := tables_1) (i := 1758) (by decide +kernel))) (by decide +kernel)
theorem kl_X12_413 : Cond.constantLong RX12 413 65536 ∈ wU := wU_mem (List.mem_append_right _ (List.mem_of_getElem? (l := tables_1) (i := 1759) (by decide +kernel))) (by decide +kernel)
theorem kl_X12_445 : Cond.constantLong RX12 445 (-9223372036854775808) ∈ wU := wU_mem (List.mem_append_right _ (List.mem_of_getElem? (l := tables_1) (i := 1664) (by decide +kernel))) (by decide +kernel)
theorem mm_X11_211 : Cond.methodLink RX11 211 Lib.Math.min.name ∈ wU := wU_mem (List.mem_append_right _ (List.mem_of_getElem? (l := tables_1) (i := 764) (by decide +kernel))) (by decide +kernel)
theorem mi_math : Cond.initialized "java/lang/Math" ∈ wU := wU_mem (List.mem_append_right _ (List.mem_of_getElem? (l := tables_1) (i := 14) (by decide +kernel))) (by decide +kernel)
theorem ms_min : Cond.static Lib.Math.min.name ∈ wU := wU_mem (List.mem_append_right _ (List.mem_of_getElem? (l := tables_1) (i := 488) (by decide +kernel))) (by decide +kernel)
theorem mc_min : Cond.code Lib.Math.min.name Lib.Math.min.code 2 (some .int) ∈ wU := wU_mem (List.mem_append_right _ (List.mem_of_getElem? (l := tables_1) (i := 489) (by decide +kernel))) (by decide +kernel)
theorem mm_X0_15 : Cond.methodLink RX0 15 arraycopyName ∈ wU := wU_mem (List.mem_append_right _ (List.mem_of_getElem? (l := tables_1) (i := 667) (by decide +kernel))) (by decide +kernel)
theorem mn_copy : Cond.native arraycopyName ∈ wU := wU_mem (List.mem_append_right _ (List.mem_of_getElem? (l := tables_1) (i := 669) (by decide +kernel))) (by decide +kernel)
theorem ms_copy : Cond.static arraycopyName ∈ wU := wU_mem (List.mem_append_right _ (List.mem_of_getElem? (l := tables_1) (i := 668) (by decide +kernel))) (by decide +kernel)
theorem mi_sys : Cond.initialized "java/lang/System" ∈ wU := wU_mem (List.mem_append_right _ (List.mem_of_getElem? (l := tables_1) (i := 15) (by decide +kernel))) (by decide +kernel)
theorem mm_X0_61 : Cond.methodLink RX0 61 Lib.Math.min.name ∈ wU := wU_mem (List.mem_append_right _ (List.mem_of_getElem? (l := tables_1) (i := 712) (by decide +kernel))) (by decide +kernel)
theorem mm_X0_94 : Cond.methodLink RX0 94 Lib.Math.max.name ∈ wU := wU_mem (List.mem_append_right _ (List.mem_of_getElem? (l := tables_1) (i := 825) (by decide +kernel))) (by decide +kernel)
theorem ms_max : Cond.static Lib.Math.max.name ∈ wU := wU_mem (List.mem_append_right _ (List.mem_of_getElem? (l := tables_1) (i := 826) (by decide +kernel))) (by decide +kernel)
theorem mc_max : Cond.code Lib.Math.max.name Lib.Math.max.code 2 (some .int) ∈ wU := wU_mem (List.mem_append_right _ (List.mem_of_getElem? (l := tables_1) (i := 827) (by decide +kernel))) (by decide +kernel)
theorem mm_X0_97 : Cond.methodLink RX0 97 Lib.MathLoose.min_long.x ∈ wU := wU_mem (List.mem_append_right _ (List.mem_of_getElem? (l := tables_1) (i := 819) (by decide +kernel))) (by decide +kernel)
theorem ms_minL : Cond.static Lib.MathLoose.min_long.x ∈ wU := wU_mem (List.mem_append_right _ (List.mem_of_getElem? (l := tables_1) (i := 820) (by decide +kernel))) (by decide +kernel)
theorem mc_minL : Cond.code Lib.MathLoose.min_long.x Lib.MathLoose.min_long.code 4 (some .long) ∈ wU := wU_mem (List.mem_append_right _ (List.mem_of_getElem? (l := tables_1) (i := 821) (by decide +kernel))) (by decide +kernel)
theorem mm_X0_100 : Cond.methodLink RX0 100 Lib.MathLoose.max_long.x ∈ wU := wU_mem (List.mem_append_right _ (List.mem_of_getElem? (l := tables_1) (i := 822) (by decide +kernel))) (by decide +kernel)
theorem ms_maxL : Cond.static Lib.MathLoose.max_long.x ∈ wU := wU_mem (List.mem_append_right _ (List.mem_of_getElem? (l := tables_1) (i := 823) (by decide +kernel))) (by decide +kernel)
theorem mc_maxL : Cond.code Lib.MathLoose.max_long.x Lib.MathLoose.max_long.code 4 (some .long) ∈ wU := wU_mem (List.mem_append_right _ (List.mem_of_getElem? (l := tables_1) (i := 824) (by decide +kernel))) (by decide +kernel)
theorem mm_X2_39 : Cond.methodLink RX2 39 Lib.Math.max.name ∈ wU := wU_mem (List.mem_append_right _ (List.mem_of_getElem? (l := tables_1) (i := 1020) (by decide +kernel))) (by decide +kernel)
theorem mm_X8_19 : Cond.methodLink RX8 19 Lib.Math.min.name ∈ wU := wU_mem (List.mem_append_right _ (List.mem_of_getElem? (l := tables_1) (i := 487) (by decide +kernel))) (by decide +kernel)
theorem kfa_0_0 : ∀ p, p < 101 → kdC p = 0 → kdC (p + 1) = 14 := by decide +kernel
theorem kf_0_0 {p : Nat} (h : kdC p = 0) : kdC (p + 1) = 14 := kfa_0_0 p (hpC h rfl) h
theorem lfa_0_0 : ∀ p, p < 101 → kdC p = 0 → lnC (p + 1) = 8 := by decide +kernel
theorem lf_0_0 {p : Nat} (h : kdC p = 0) : lnC (p + 1) = 8 := lfa_0_0 p (hpC h rfl) h
theorem kfa_10_0 : ∀ p, p < 101 → kdC p = 10 → kdC (p + 1) = 17 := by decide +kernel
theorem kf_10_0 {p : Nat} (h : kdC p = 10) : kdC (p + 1) = 17 := kfa_10_0 p (hpC h rfl) h
theorem lfa_10_0 : ∀ p, p < 101 → kdC p = 10 → lnC (p + 1) = 6 := by decide +kernel
theorem lf_10_0 {p : Nat} (h : kdC p = 10) : lnC (p + 1) = 6 := lfa_10_0 p (hpC h rfl) h
theorem kfa_10_1 : ∀ p, p < 101 → kdC p = 10 → kdC (p + 14) = 5 := by decide +kernel
theorem kf_10_1 {p : Nat} (h : kdC p = 10) : kdC (p + 14) = 5 := kfa_10_1 p (hpC h rfl) h
theorem kfa_10_2 : ∀ p, p < 101 → kdC p = 10 → kdC (p + 20) = 14 := by decide +kernel
theorem kf_10_2 {p : Nat} (h : kdC p = 10) : kdC (p + 20) = 14 := kfa_10_2 p (hpC h rfl) h
theorem lfa_10_2 : ∀ p, p < 101 → kdC p = 10 → lnC (p + 20) = 5 := by decide +kernel
theorem lf_10_2 {p : Nat} (h : kdC p = 10) : lnC (p + 20) = 5 := lfa_10_2 p (hpC h rfl) h
theorem kfa_10_3 : ∀ p, p < 101 → kdC p = 10 → kdC (p + 21) = 14 := by decide +kernel
theorem kf_10_3 {p : Nat} (h : kdC p = 10) : kdC (p + 21) = 14 := kfa_10_3 p (hpC h rfl) h
theorem lfa_10_3 : ∀ p, p < 101 → kdC p = 10 → lnC (p + 21) = 5 := by decide +kernel
theorem lf_10_3 {p : Nat} (h : kdC p = 10) : lnC (p + 21) = 5 := lfa_10_3 p (hpC h rfl) h
theorem kfa_10_4 : ∀ p, p < 101 → kdC p = 10 → kdC (p + 22) = 14 := by decide +kernel
theorem kf_10_4 {p : Nat} (h : kdC p = 10) : kdC (p + 22) = 14 := kfa_10_4 p (hpC h rfl) h
theorem lfa_10_4 : ∀ p, p < 101 → kdC p = 10 → lnC (p + 22) = 5 := by decide +kernel
theorem lf_10_4 {p : Nat} (h : kdC p = 10) : lnC (p + 22) = 5 := lfa_10_4 p (hpC h rfl) h
theorem kfa_5_0 : ∀ p, p < 101 → kdC p = 5 → kdC (p + 1) = 14 := by decide +kernel
theorem kf_5_0 {p : Nat} (h : kdC p = 5) : kdC (p + 1) = 14 := kfa_5_0 p (hpC h rfl) h
theorem lfa_5_0 : ∀ p, p < 101 → kdC p = 5 → lnC (p + 1) = 64 := by decide +kernel
theorem lf_5_0 {p : Nat} (h : kdC p = 5) : lnC (p + 1) = 64 := lfa_5_0 p (hpC h rfl) h
theorem kfa_5_1 : ∀ p, p < 101 → kdC p = 5 → kdC (p + 2) = 14 := by decide +kernel
theorem kf_5_1 {p : Nat} (h : kdC p = 5) : kdC (p + 2) = 14 := kfa_5_1 p (hpC h rfl) h
theorem lfa_5_1 : ∀ p, p < 101 → kdC p = 5 → lnC (p + 2) = 64 := by decide +kernel
theorem lf_5_1 {p : Nat} (h : kdC p = 5) : lnC (p + 2) = 64 := lfa_5_1 p (hpC h rfl) h
theorem kfa_5_2 : ∀ p, p < 101 → kdC p = 5 → kdC (p + 3) = 14 := by decide +kernel
theorem kf_5_2 {p : Nat} (h : kdC p = 5) : kdC (p + 3) = 14 := kfa_5_2 p (hpC h rfl) h
theorem lfa_5_2 : ∀ p, p < 101 → kdC p = 5 → lnC (p + 3) = 3 := by decide +kernel
theorem lf_5_2 {p : Nat} (h : kdC p = 5) : lnC (p + 3) = 3 := lfa_5_2 p (hpC h rfl) h
theorem kfa_5_3 : ∀ p, p < 101 → kdC p = 5 → kdC (p + 4) = 14 := by decide +kernel
theorem kf_5_3 {p : Nat} (h : kdC p = 5) : kdC (p + 4) = 14 := kfa_5_3 p (hpC h rfl) h
theorem lfa_5_3 : ∀ p, p < 101 → kdC p = 5 → lnC (p + 4) = 3 := by decide +kernel
theorem lf_5_3 {p : Nat} (h : kdC p = 5) : lnC (p + 4) = 3 := lfa_5_3 p (hpC h rfl) h
theorem kfa_5_4 : ∀ p, p < 101 → kdC p = 5 → kdC (p + 5) = 15 := by decide +kernel
theorem kf_5_4 {p : Nat} (h : kdC p = 5) : kdC (p + 5) = 15 := kfa_5_4 p (hpC h rfl) h
theorem lfa_5_4 : ∀ p, p < 101 → kdC p = 5 → lnC (p + 5) = 64 := by decide +kernel
theorem lf_5_4 {p : Nat} (h : kdC p = 5) : lnC (p + 5) = 64 := lfa_5_4 p (hpC h rfl) h
theorem kfa_9_0 : ∀ p, p < 101 → kdC p = 9 → kdC (p + 1) = 17 := by decide +kernel
theorem kf_9_0 {p : Nat} (h : kdC p = 9) : kdC (p + 1) = 17 := kfa_9_0 p (hpC h rfl) h
theorem lfa_9_0 : ∀ p, p < 101 → kdC p = 9 → lnC (p + 1) = 6 := by decide +kernel
theorem lf_9_0 {p : Nat} (h : kdC p = 9) : lnC (p + 1) = 6 := lfa_9_0 p (hpC h rfl) h
