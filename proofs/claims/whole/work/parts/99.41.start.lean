theorem zi_11 : Cond.instantiable RX11 (nF 11) ∈ wU := wU_mem (List.mem_append_right _ (List.mem_append_left _ (List.mem_of_getElem? (l := tables_1_1) (i := 23) (by decide +kernel)))) (by decide +kernel)
theorem zi_12 : Cond.instantiable RX12 (nF 12) ∈ wU := wU_mem (List.mem_append_right _ (List.mem_append_right _ (List.mem_append_right _ (List.mem_append_right _ (List.mem_append_right _ (List.mem_append_right _ (List.mem_append_left _ (List.mem_of_getElem? (l := tables_1_6) (i := 23) (by decide +kernel))))))))) (by decide +kernel)
theorem zc_RL_8 : Cond.classLink RL 8 RX11 ∈ wU := wU_mem (List.mem_append_right _ (List.mem_append_left _ (List.mem_of_getElem? (l := tables_1_1) (i := 22) (by decide +kernel)))) (by decide +kernel)
theorem zc_RL_18 : Cond.classLink RL 18 RX12 ∈ wU := wU_mem (List.mem_append_right _ (List.mem_append_right _ (List.mem_append_right _ (List.mem_append_right _ (List.mem_append_right _ (List.mem_append_right _ (List.mem_append_left _ (List.mem_of_getElem? (l := tables_1_6) (i := 22) (by decide +kernel))))))))) (by decide +kernel)
theorem zl_17 : Cond.methodLink RL 17 yX11_init ∈ wU := wU_mem (List.mem_append_right _ (List.mem_append_left _ (List.mem_of_getElem? (l := tables_1_1) (i := 24) (by decide +kernel)))) (by decide +kernel)
theorem zl_20 : Cond.methodLink RL 20 yX12_init ∈ wU := wU_mem (List.mem_append_right _ (List.mem_append_right _ (List.mem_append_right _ (List.mem_append_right _ (List.mem_append_right _ (List.mem_append_right _ (List.mem_append_left _ (List.mem_of_getElem? (l := tables_1_6) (i := 24) (by decide +kernel))))))))) (by decide +kernel)
theorem tb_ao : Cond.arrayOver (.object "LaughDrum$Box") ∈ lw_tbl := List.mem_append_right _ (List.mem_append_left _ (List.mem_of_getElem? (l := tables_1_1) (i := 131) (by decide +kernel)))
theorem tb_ls : Cond.laysStatic "LaughDrum$Reader" "LANGUAGE" "[I" ∈ lw_tbl := List.mem_append_right _ (List.mem_append_right _ (List.mem_append_right _ (List.mem_append_left _ (List.mem_of_getElem? (l := tables_1_3) (i := 65) (by decide +kernel)))))
theorem tb_ir : Cond.initialized "LaughDrum$Reader" ∈ lw_tbl := List.mem_append_right _ (List.mem_append_left _ (List.mem_of_getElem? (l := tables_1_1) (i := 3) (by decide +kernel)))
theorem tb_s1 : Cond.stringRef RX11 135 "no such box" ∈ lw_tbl := List.mem_append_right _ (List.mem_append_right _ (List.mem_append_right _ (List.mem_append_right _ (List.mem_append_right _ (List.mem_append_left _ (List.mem_of_getElem? (l := tables_1_5) (i := 220) (by decide +kernel)))))))
theorem tb_s2 : Cond.stringRef RX11 167 "no such what" ∈ lw_tbl := List.mem_append_right _ (List.mem_append_right _ (List.mem_append_right _ (List.mem_append_right _ (List.mem_append_right _ (List.mem_append_right _ (List.mem_append_left _ (List.mem_of_getElem? (l := tables_1_6) (i := 15) (by decide +kernel))))))))
theorem tb_n0 : Cond.methodLinkNest RX11 11 yX8_init RX11 ∈ lw_tbl := List.mem_append_right _ (List.mem_append_left _ (List.mem_of_getElem? (l := tables_1_1) (i := 32) (by decide +kernel)))
theorem tb_n1 : Cond.methodLinkNest RX11 39 yX1_init RX11 ∈ lw_tbl := List.mem_append_right _ (List.mem_append_left _ (List.mem_of_getElem? (l := tables_1_1) (i := 225) (by decide +kernel)))
theorem tb_n2 : Cond.methodLinkNest RX11 46 yX3_init RX11 ∈ lw_tbl := List.mem_append_right _ (List.mem_append_right _ (List.mem_append_left _ (List.mem_of_getElem? (l := tables_1_2) (i := 9) (by decide +kernel))))
theorem tb_n3 : Cond.methodLinkNest RX11 53 yX2_init RX11 ∈ lw_tbl := List.mem_append_right _ (List.mem_append_right _ (List.mem_append_left _ (List.mem_of_getElem? (l := tables_1_2) (i := 39) (by decide +kernel))))
theorem tb_n4 : Cond.methodLinkNest RX11 60 yX6_init RX11 ∈ lw_tbl := List.mem_append_right _ (List.mem_append_right _ (List.mem_append_left _ (List.mem_of_getElem? (l := tables_1_2) (i := 49) (by decide +kernel))))
theorem tb_n5 : Cond.methodLinkNest RX11 67 yX0_init RX11 ∈ lw_tbl := List.mem_append_right _ (List.mem_append_right _ (List.mem_append_left _ (List.mem_of_getElem? (l := tables_1_2) (i := 69) (by decide +kernel))))
theorem tb_n6 : Cond.methodLinkNest RX9 17 yX0_init RX11 ∈ lw_tbl := List.mem_append_right _ (List.mem_append_left _ (List.mem_of_getElem? (l := tables_1_1) (i := 133) (by decide +kernel)))
theorem tb_n7 : Cond.methodLinkNest RX10 19 yX5_init RX11 ∈ lw_tbl := List.mem_append_right _ (List.mem_append_right _ (List.mem_append_left _ (List.mem_of_getElem? (l := tables_1_2) (i := 79) (by decide +kernel))))
theorem tb_n8 : Cond.methodLinkNest RX10 34 yX0_init RX11 ∈ lw_tbl := List.mem_append_right _ (List.mem_append_right _ (List.mem_append_left _ (List.mem_of_getElem? (l := tables_1_2) (i := 107) (by decide +kernel))))
/-! What the law's start gives. -/
section START
variable {args : Array Value} {s : State}
theorem st_cls (hts : ∀ w ∈ wU, w.before args s = true) : ∀ c : Nat, ∃ d : ClassId × (Nat → Nat), ∀ q, vwCl[c]? = some q → u_Kn s q.1 q.2.1 q.2.2 d.1 d.2
  | 0 => by
    obtain ⟨cC, iS, h⟩ := u_known (C := RX0) (T := TX0) (N := nF 0) (n := nF 0) hts uw_0 (hts _ zi_0)
    exact ⟨(cC, iS), fun q hq => by cases hq; exact h⟩
  | 1 => by
    obtain ⟨cC, iS, h⟩ := u_known (C := RX1) (T := TX1) (N := nF 1) (n := nF 1) hts uw_1 (hts _ zi_1)
    exact ⟨(cC, iS), fun q hq => by cases hq; exact h⟩
  | 2 => by
    obtain ⟨cC, iS, h⟩ := u_known (C := RX2) (T := TX2) (N := nF 2) (n := nF 2) hts uw_2 (hts _ zi_2)
    exact ⟨(cC, iS), fun q hq => by cases hq; exact h⟩
  | 3 => by
    obtain ⟨cC, iS, h⟩ := u_known (C := RX3) (T := TX3) (N := nF 3) (n := nF 3) hts uw_3 (hts _ zi_3)
    exact ⟨(cC, iS), fun q hq => by cases hq; exact h⟩
  | 4 => by
    obtain ⟨cC, iS, h⟩ := u_known (C := RX4) (T := TX4) (N := nF 4) (n := nF 4) hts uw_4 (hts _ zi_4)
    exact ⟨(cC, iS), fun q hq => by cases hq; exact h⟩
  | 5 => by
    obtain ⟨cC, iS, h⟩ := u_known (C := RX5) (T := TX5) (N := nF 5) (n := nF 5) hts uw_5 (hts _ zi_5)
    exact ⟨(cC, iS), fun q hq => by cases hq; exact h⟩
  | 6 => by
    obtain ⟨cC, iS, h⟩ := u_known (C := RX6) (T := TX6) (N := nF 6) (n := nF 6) hts uw_6 (hts _ zi_6)
    exact ⟨(cC, iS), fun q hq => by cases hq; exact h⟩
  | 7 => by
    obtain ⟨cC, iS, h⟩ := u_known (C := RX7) (T := TX7) (N := nF 7) (n := nF 7) hts uw_7 (hts _ zi_7)
    exact ⟨(cC, iS), fun q hq => by cases hq; exact h⟩
  | 8 => by
    obtain ⟨cC, iS, h⟩ := u_known (C := RX8) (T := TX8) (N := nF 8) (n := nF 8) hts uw_8 (hts _ zi_8)
    exact ⟨(cC, iS), fun q hq => by cases hq; exact h⟩
  | 9 => by
    obtain ⟨cC, iS, h⟩ := u_known (C := RX9) (T := TX9) (N := nF 9) (n := nF 9) hts uw_9 (hts _ zi_9)
    exact ⟨(cC, iS), fun q hq => by cases hq; exact h⟩
  | 10 => by
    obtain ⟨cC, iS, h⟩ := u_known (C := RX10) (T := TX10) (N := nF 10) (n := nF 10) hts uw_10 (hts _ zi_10)
    exact ⟨(cC, iS), fun q hq => by cases hq; exact h⟩
  | 11 => by
    obtain ⟨cC, iS, h⟩ := u_known (C := RX11) (T := TX11) (N := nF 11) (n := nF 11) hts uw_11 (hts _ zi_11)
    exact ⟨(cC, iS), fun q hq => by cases hq; exact h⟩
  | 12 => by
    obtain ⟨cC, iS, h⟩ := u_known (C := RX12) (T := TX12) (N := nF 12) (n := nF 12) hts uw_12 (hts _ zi_12)
    exact ⟨(cC, iS), fun q hq => by cases hq; exact h⟩
  | n + 13 => ⟨(0, fun _ => 0), fun q hq => by cases hq⟩
theorem st_arr {ty : FieldType} (h : (Cond.arrayClass ty).before args s = true) (hn : ∀ C, ty ≠ .object C) : ∃ cA, ArrOfT s cA ty ∧ va_RA s cA ty := by
  obtain ⟨cA, kA, comp, h1, h2, h3⟩ := Cond.arrayClass_spec h
  refine ⟨cA, fun N z => ⟨(fun k h => by cases h), kA, h2, comp, h3⟩, ?_⟩
  cases ty with
  | object C => exact absurd rfl (hn C)
  | _ => exact h1
theorem st_K (hts : ∀ w ∈ wU, w.before args s = true) (hao : (Cond.arrayOver (.object "LaughDrum$Box")).before args s = true) : ∃ (D : va_G) (cy : Nat → ClassId), va_K D vwCl (tysU cy) s := by
  obtain ⟨d, hd⟩ := Classical.axiomOfChoice (st_cls hts)
  obtain ⟨c0, h0⟩ := st_arr (hts _ za_byte) (fun C h => by cases h)
  obtain ⟨c1, h1⟩ := st_arr (hts _ za_int) (fun C h => by cases h)
  obtain ⟨c2, h2⟩ := st_arr (hts _ za_long) (fun C h => by cases h)
  obtain ⟨c3, h3⟩ := st_arr (hts _ za_boolean) (fun C h => by cases h)
  obtain ⟨comp, c4, k4, f1, f2, f3, f4, f5⟩ := Cond.arrayOver_spec hao
  refine ⟨(fun c => (d c).1, fun c => (d c).2), fun k => if k = 0 then c0 else if k = 1 then c1 else if k = 2 then c2 else if k = 3 then c3 else c4, fun c q hq => hd c q hq, fun k q hq => ?_⟩
  match k, hq with
  | 0, hq => cases hq; exact h0
  | 1, hq => cases hq; exact h1
  | 2, hq => cases hq; exact h2
  | 3, hq => cases hq; exact h3
  | 4, hq => cases hq; exact ⟨fun N z => ⟨(fun k h => by cases h), k4, f3, comp, f4⟩, k4, comp, f3, f4, f1, f5⟩
  | n + 5, hq => cases hq
theorem st_NW (hts : ∀ w ∈ lw_tbl, w.before args s = true) : NW s := by
  refine ⟨va_AO.of (hts _ tb_ao), fun q hq => ?_⟩
  simp only [nestL, List.mem_cons, List.not_mem_nil, or_false] at hq
  rcases hq with rfl | rfl | rfl | rfl | rfl | rfl | rfl | rfl | rfl
  · exact va_Nw.of rfl (hts _ tb_n0)
  · exact va_Nw.of rfl (hts _ tb_n1)
  · exact va_Nw.of rfl (hts _ tb_n2)
  · exact va_Nw.of rfl (hts _ tb_n3)
  · exact va_Nw.of rfl (hts _ tb_n4)
  · exact va_Nw.of rfl (hts _ tb_n5)
  · exact va_Nw.of rfl (hts _ tb_n6)
  · exact va_Nw.of rfl (hts _ tb_n7)
  · exact va_Nw.of rfl (hts _ tb_n8)
theorem st_Z {A : Nat → Prop} (hts : ∀ w ∈ lw_tbl, w.before args s = true) (hg : ∀ c ∈ flatC narrow_1, c.before args s = true) (hA : ∀ a : Nat, a < s.heap.size → ¬ A a) : Zs A s s.heap := by
  obtain ⟨t, ht, hT⟩ := va_Tof (A := A) (tm := .static "LaughDrum$Reader" "LANGUAGE" "[I") (ty := .int) (N := 20) (f := fun j => .int (langF j)) (by decide) (hg _ (List.mem_of_getElem? (i := 3) rfl)) (va_eqt (hg _ (List.mem_of_getElem? (i := 4) rfl))) (fun j hj => by
    refine va_eqt (hg _ (List.mem_of_getElem? (i := 5 + j) ?_))
    have hc : j = 0 ∨ j = 1 ∨ j = 2 ∨ j = 3 ∨ j = 4 ∨ j = 5 ∨ j = 6 ∨ j = 7 ∨ j = 8 ∨ j = 9 ∨ j = 10 ∨ j = 11 ∨ j = 12 ∨ j = 13 ∨ j = 14 ∨ j = 15 ∨ j = 16 ∨ j = 17 ∨ j = 18 ∨ j = 19 := by omega
    rcases hc with rfl | rfl | rfl | rfl | rfl | rfl | rfl | rfl | rfl | rfl | rfl | rfl | rfl | rfl | rfl | rfl | rfl | rfl | rfl | rfl <;> rfl) hA
  exact ⟨t, va_Zof (hts _ tb_ls) (hts _ tb_ir) ht hA, hT⟩
theorem st_not (hg : ∀ c ∈ flatC narrow_1, c.before args s = true) : ∀ k k', s.vm.findClass nNSE = some k → s.vm.findClass nIOB = some k' → s.vm.assignable k k' = false := by
  intro k k' h1 h2
  have h := hg (.not (.castable nNSE nIOB)) (List.mem_of_getElem? (i := 40) rfl)
  have hv := Cond.holds_not_iff.mp h
  simp only [Cond.value, h1, h2] at hv
  exact Option.some.inj hv
theorem st_str1 (hts : ∀ w ∈ lw_tbl, w.before args s = true) (hg : ∀ c ∈ flatC narrow_1, c.before args s = true) : ∃ q, vk_R RX11 135 "no such box" q s := by
  obtain ⟨a, c, cell, k, h1, -⟩ := Cond.exactly_spec (hg (.exactly (.string RX11 135) "java/lang/String") (List.mem_of_getElem? (i := 55) rfl))
  exact ⟨a, vk_R.of (hts _ tb_s1) h1⟩
theorem st_str2 (hts : ∀ w ∈ lw_tbl, w.before args s = true) (hg : ∀ c ∈ flatC narrow_1, c.before args s = true) : ∃ q, vk_R RX11 167 "no such what" q s := by
  obtain ⟨a, c, cell, k, h1, -⟩ := Cond.exactly_spec (hg (.exactly (.string RX11 167) "java/lang/String") (List.mem_of_getElem? (i := 70) rfl))
  exact ⟨a, vk_R.of (hts _ tb_s2) h1⟩
theorem st_ref (hg : ∀ c ∈ flatC narrow_1, c.before args s = true) : (Cond.isRef (.static Bundle.tN "UNASSIGNED_STACK" Bundle.steD)).before args s = true ∧ (Cond.isRef (.static Bundle.tN "SUPPRESSED_SENTINEL" Bundle.listD)).before args s = true := ⟨hg _ (List.mem_of_getElem? (i := 25) rfl), hg _ (List.mem_of_getElem? (i := 26) rfl)⟩
end START
